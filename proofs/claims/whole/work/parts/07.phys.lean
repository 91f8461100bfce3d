/-! what keeps all numbers finite: pressures between -1024 and 0, eases, gates, needs, readings in their ranges -/
def okP (p : UInt64) : Prop := dF p ∧ -((2 ^ 10 * U1 : Nat) : Int) ≤ dv p ∧ dv p ≤ 0
def okE (e : UInt64) : Prop := Bd 24 e ∧ 0 < dv e
def okG (g : UInt64) : Prop := Bd 0 g ∧ 0 ≤ dv g
def okN (n : UInt64) : Prop := Bd 10 n ∧ U1 ≤ 2 ^ 3 * dm n ∧ 0 ≤ dv n
def okS (x : UInt64) : Prop := Bd 10 x ∧ 0 ≤ dv x
def okQ (x : UInt64) : Prop := Bd 51 x ∧ 0 ≤ dv x
def okW (w : UInt64) : Prop := Bd 7 w ∧ U1 ≤ 2 ^ 3 * dm w ∧ 0 ≤ dv w
def okR (x : UInt64) : Prop := Bd 14 x ∧ 0 ≤ dv x
theorem okP.B {p : UInt64} (h : okP p) : Bd 10 p := Bd.of (by decide) h.1.nn h.2.1 (Int.le_trans h.2.2 (Int.natCast_nonneg _))
theorem d0_v : dv FP.dconst0 = 0 := by decide +kernel
theorem d0_F : dF FP.dconst0 := ⟨false, 0, _, FP.Core.val64_dconst0⟩
theorem d0_B (j : Nat) : Bd j FP.dconst0 := ⟨d0_F, by rw [show dm FP.dconst0 = 0 by decide +kernel]; exact Nat.zero_le _⟩
theorem okP_0 : okP FP.dconst0 := ⟨d0_F, by rw [d0_v]; have := Int.natCast_nonneg (2 ^ 10 * U1); omega, by rw [d0_v]; exact Int.le_refl _⟩
theorem okQ_0 : okQ FP.dconst0 := ⟨d0_B _, by rw [d0_v]; exact Int.le_refl _⟩
theorem okG_0 : okG FP.dconst0 := ⟨d0_B _, by rw [d0_v]; exact Int.le_refl _⟩
theorem okR_0 : okR FP.dconst0 := ⟨d0_B _, by rw [d0_v]; exact Int.le_refl _⟩
theorem d1_m : dm FP.dconst1 = U1 := by decide +kernel
theorem d1_v : 0 ≤ dv FP.dconst1 := by decide +kernel
theorem d1_F : dF FP.dconst1 := ⟨false, _, _, FP.Core.val64_dconst1⟩
theorem okG_1 : okG FP.dconst1 := ⟨⟨d1_F, by rw [d1_m]; omega⟩, d1_v⟩
theorem c8_B : Bd 3 4620693217682128896 ∧ 0 ≤ dv 4620693217682128896 := ⟨⟨dF_small (by decide +kernel) (by decide +kernel), by decide +kernel⟩, by decide +kernel⟩
theorem c1000_B : Bd 10 4652007308841189376 := ⟨dF_small (by decide +kernel) (by decide +kernel), by decide +kernel⟩
theorem c1001_B : Bd 10 4652016104934211584 := ⟨dF_small (by decide +kernel) (by decide +kernel), by decide +kernel⟩
theorem c2_F : dF 4611686018427387904 ∧ U1 ≤ 2 ^ 0 * dm 4611686018427387904 ∧ 0 < dv 4611686018427387904 := ⟨dF_small (by decide +kernel) (by decide +kernel), by decide +kernel, by decide +kernel⟩
theorem c9375_B : Bd 0 4606619468846596096 := ⟨dF_small (by decide +kernel) (by decide +kernel), by decide +kernel⟩
theorem ceps_N : dN 4517110426252607488 := by decide +kernel
/-! mg, nb, mx, na -/
theorem mg_B {j : Nat} {x : UInt64} (h : Bd j x) : Bd j (mg x) ∧ 0 ≤ dv (mg x) := by
  unfold mg
  by_cases c : 0 ≤ Op.cmpValue (FP.dcmp x FP.dconst0) .g
  · rw [if_pos c]
    have := (cv_ge h.F.nn d0_F.nn).mp c
    rw [d0_v] at this
    exact ⟨h, this⟩
  · rw [if_neg c]
    have : ¬ dv FP.dconst0 ≤ dv x := fun h2 => c ((cv_ge h.F.nn d0_F.nn).mpr h2)
    rw [d0_v] at this
    exact ⟨h.neg, by rw [dneg_v]; omega⟩
theorem nb_B {j : Nat} {x : UInt64} (h : Bd j x) : Bd j (nb x) ∧ 0 ≤ dv (nb x) := by
  unfold nb
  by_cases c : 0 ≤ Op.cmpValue (FP.dcmp x FP.dconst0) .g
  · rw [if_pos c]
    have := (cv_ge h.F.nn d0_F.nn).mp c
    rw [d0_v] at this
    exact ⟨h, this⟩
  · rw [if_neg c]
    exact ⟨d0_B _, by rw [d0_v]; exact Int.le_refl _⟩
theorem nb_le {x : UInt64} (h : dF x) {b : Int} (h0 : 0 ≤ b) (hb : dv x ≤ b) : dv (nb x) ≤ b := by
  unfold nb
  by_cases c : 0 ≤ Op.cmpValue (FP.dcmp x FP.dconst0) .g
  · rw [if_pos c]; exact hb
  · rw [if_neg c, d0_v]; exact h0
theorem na_P {x : UInt64} (h : dF x) (h1 : -((2 ^ 10 * U1 : Nat) : Int) ≤ dv x) : okP (na x) := by
  unfold na
  by_cases c : Op.cmpValue (FP.dcmp x FP.dconst0) .l ≤ 0
  · rw [if_pos c]
    have := (cv_le h.nn d0_F.nn).mp c
    rw [d0_v] at this
    exact ⟨h, h1, this⟩
  · rw [if_neg c]
    exact okP_0
/-! sums -/
theorem accF_B {a : UInt64} {p : Nat → Bool} {g : Nat → UInt64} {k : Nat} (ha : Bd k a) : ∀ {n : Nat}, k + n < 100 → (∀ i, i < n → p i = true → Bd k (g i)) → Bd (k + n) (accF a p g n)
  | 0, _, _ => ha
  | n + 1, hk, hg => by
    have ih := accF_B (p := p) (g := g) ha (n := n) (by omega) (fun i hi => hg i (by omega))
    cases hp : p n with
    | true =>
      rw [accF_yes hp]
      exact ih.add ((hg n (by omega) hp).mono (by omega)) (by omega)
    | false =>
      rw [accF_no hp]
      exact ih.mono (by omega)
theorem accF_ok {a : UInt64} {p : Nat → Bool} {g : Nat → UInt64} {k : Nat} (ha : Bd k a) {n i : Nat} (hk : k + n < 100) (hi : i < n) (hg : ∀ i, i < n → p i = true → Bd k (g i)) (hp : p i = true) : vf_n64 (FP.dadd (accF a p g i) (g i)) :=
  (dadd_nn (accF_B ha (n := i) (by omega) (fun q hq => hg q (by omega))).F (hg i hi hp).F).ok
/-- what stands: eases, needs, the fan -/
def PhF (h : Ph) : Prop := pD h ≤ 16 ∧ pM h ≤ 8 ∧ (∀ d, d < pD h → okE (pE h d) ∧ pA h d < 10 ∧ pB h d < 10) ∧ (∀ m, m < pM h → okN (pN h m) ∧ pJ h m < 10) ∧ okS (pS h) ∧ okS (pL h)
theorem oth_lt {h : Ph} (hF : PhF h) {j d : Nat} (hd : d < pD h) : oth h j d < 10 := by
  unfold oth
  split
  · exact (hF.2.2.1 d hd).2.2
  · exact (hF.2.2.1 d hd).2.1
theorem pul_g {h : Ph} (hF : PhF h) {P : Nat → UInt64} (hP : ∀ j, j < 10 → okP (P j)) {j d : Nat} (hd : d < pD h) : Bd 34 (FP.dmul (pE h d) (P (oth h j d))) := (hF.2.2.1 d hd).1.1.mul (hP _ (oth_lt hF hd)).B (by decide)
theorem flo_s {h : Ph} {P : Nat → UInt64} (hP : ∀ j, j < 10 → okP (P j)) {a b : Nat} (ha : a < 10) (hb : b < 10) : Bd 11 (FP.dsub (P a) (P b)) := (hP a ha).B.sub (hP b hb).B (by decide)
theorem flo_g {h : Ph} (hF : PhF h) {P : Nat → UInt64} (hP : ∀ j, j < 10 → okP (P j)) {a b d : Nat} (hd : d < pD h) (ha : a < 10) (hb : b < 10) : Bd 35 (FP.dmul (pE h d) (FP.dsub (P a) (P b))) := (hF.2.2.1 d hd).1.1.mul (flo_s (h := h) hP ha hb) (by decide)
theorem pulV_B {h : Ph} (hF : PhF h) {P : Nat → UInt64} (hP : ∀ j, j < 10 → okP (P j)) (j : Nat) : Bd 50 (pulV h P j) := (accF_B (d0_B 34) (n := pD h) (by have := hF.1; omega) (fun d hd _ => pul_g hF hP hd)).mono (by have := hF.1; omega)
theorem floV_B {h : Ph} (hF : PhF h) {P : Nat → UInt64} (hP : ∀ j, j < 10 → okP (P j)) {j : Nat} (hj : j < 10) : Bd 51 (floV h P j) := (accF_B (d0_B 35) (n := pD h) (by have := hF.1; omega) (fun d hd _ => flo_g hF hP hd (oth_lt hF hd) hj)).mono (by have := hF.1; omega)
theorem wgE_B {h : Ph} (hF : PhF h) (j : Nat) : Bd 40 (wgE h j) := (accF_B (d0_B 24) (n := pD h) (by have := hF.1; omega) (fun d hd _ => (hF.2.2.1 d hd).1.1)).mono (by have := hF.1; omega)
theorem gat_g {g : Nat → UInt64} {n m : Nat} (hg : ∀ m, m < n → okG (g m)) (hm : m < n) : Bd 3 (FP.dmul (g m) 4620693217682128896) := (hg m hm).1.mul c8_B.1 (by decide)
theorem wgt_B {h : Ph} (hF : PhF h) {g : Nat → UInt64} (hg : ∀ m, m < pM h → okG (g m)) (j : Nat) : Bd 48 (wgt h g j) := (accF_B (wgE_B hF j) (n := pM h) (by have := hF.2.1; omega) (fun m hm _ => (gat_g hg hm).mono (by decide))).mono (by have := hF.2.1; omega)
/-- a product with 2^10, exactly -/
theorem dmul_int {x y : UInt64} (hx : dF x) (hy : dF y) {n : Nat} (hn : n < 2 ^ 2097) (h : dm x * dm y = n * U1) : dm (FP.dmul x y) = fR n := by
  obtain ⟨s, c, q, e1, e2, e3⟩ := dmul_ex hx hy
  have e4 : FP.Core.inUnits c q (2 * FP.Core.b64.qmin) = n * U1 := by
    have h4 := congrArg Int.natAbs e3
    rw [FP.Core.natAbs_signed, Int.natAbs_mul, dv_abs, dv_abs, h] at h4
    exact h4
  have e5 : FP.Core.round FP.Core.b64 (.fin s c q) = FP.Core.roundRatio FP.Core.b64 s n 1 FP.Core.b64.qmin := by
    refine FP.Core.roundRatio_congr (by decide) (by decide) ?_
    unfold FP.Core.inUnits U1 at e4
    rw [fl_qmin] at e2 e4 ⊢
    rw [Nat.mul_one, Nat.mul_one]
    refine Nat.eq_of_mul_eq_mul_right (Nat.two_pow_pos 1074) ?_
    have g1 : (q - -1074).toNat + 1074 = (q - 2 * -1074).toNat + (-1074 - q).toNat := by omega
    rw [Nat.mul_assoc, ← Nat.pow_add, g1, Nat.pow_add, ← Nat.mul_assoc, e4]
    generalize (2 : Nat) ^ 1074 = z
    ac_rfl
  unfold dm
  rw [e1, e5]
  exact fR_spec hn
theorem dmul_1024 {e : UInt64} (he : Bd 24 e) : dm (FP.dmul e (pw 10)) = dm e * 2 ^ 10 := by
  have h1 : dm e * 2 ^ 10 ≤ 2 ^ 34 * U1 := by
    calc dm e * 2 ^ 10 ≤ 2 ^ 24 * U1 * 2 ^ 10 := Nat.mul_le_mul_right _ he.2
      _ = 2 ^ 34 * U1 := by rw [show (2 : Nat) ^ 34 = 2 ^ 24 * 2 ^ 10 by decide +kernel]; generalize U1 = u; ac_rfl
  have h2 : 2 ^ 34 * U1 < 2 ^ 2097 := Nat.lt_of_le_of_lt (Nat.mul_le_mul_right _ (Nat.pow_le_pow_right (by decide) (by decide))) U1_top97
  have h3 : dm e < 2 ^ 2097 := Nat.lt_of_le_of_lt he.2 (Nat.lt_of_le_of_lt (Nat.mul_le_mul_right _ (Nat.pow_le_pow_right (by decide) (by decide))) U1_top97)
  rw [dmul_int he.F (pw_F (by decide)) (n := dm e * 2 ^ 10) (Nat.lt_of_le_of_lt h1 h2) (by rw [pw_m (by decide)]; generalize U1 = u; ac_rfl), fR_scale, fR_self he.F h3]
theorem mul_P {e p : UInt64} (he : okE e) (hp : okP p) : dm (FP.dmul e p) ≤ dm e * 2 ^ 10 ∧ dv (FP.dmul e p) ≤ 0 := by
  have hB : Bd 34 (FP.dmul e p) := he.1.mul hp.B (by decide)
  have h1 : dv (FP.dmul e p) ≤ dv FP.dconst0 := by
    refine dmul_le he.1.F hp.1 d0_F.nn ?_
    rw [d0_v, Int.zero_mul]
    exact Int.mul_nonpos_of_nonneg_of_nonpos (Int.le_of_lt he.2) hp.2.2
  rw [d0_v] at h1
  have hV : dF (FP.dmul e (pw 10)) := (he.1.mul (k := 34) (Bd.mono (i := 10) (j := 10) ⟨pw_F (by decide), by rw [pw_m (by decide)]; exact Nat.le_refl _⟩ (by decide)) (by decide)).F
  have hV0 : 0 ≤ dv (FP.dmul e (pw 10)) := by
    rw [← d0_v]
    refine dmul_ge he.1.F (pw_F (by decide)) d0_F.nn ?_
    rw [d0_v, Int.zero_mul, pw_v (by decide)]
    exact Int.mul_nonneg (Int.le_of_lt he.2) (Int.natCast_nonneg _)
  have hVv : dv (FP.dmul e (pw 10)) = ((dm e * 2 ^ 10 : Nat) : Int) := by rw [dv_pos hV0, dmul_1024 he.1]
  have h2 : dv (FP.dneg (FP.dmul e (pw 10))) ≤ dv (FP.dmul e p) := by
    refine dmul_ge he.1.F hp.1 (dneg_F hV).nn ?_
    rw [dneg_v, hVv]
    have e1 : dv e = (dm e : Int) := dv_pos (Int.le_of_lt he.2)
    have e2 : -((2 ^ 10 * U1 : Nat) : Int) ≤ dv p := hp.2.1
    have e3 : (dm e : Int) * -((2 ^ 10 * U1 : Nat) : Int) ≤ (dm e : Int) * dv p := Int.mul_le_mul_of_nonneg_left e2 (Int.natCast_nonneg _)
    rw [e1]
    refine Int.le_trans (Int.le_of_eq ?_) e3
    have e4 : ((2 ^ 1074 : Nat) : Int) = (U1 : Int) := rfl
    rw [e4, Int.neg_mul, Int.mul_neg, ← Int.natCast_mul, ← Int.natCast_mul, Nat.mul_assoc]
  rw [dneg_v, hVv] at h2
  refine ⟨?_, h1⟩
  rw [← dv_abs]
  omega
/-- the sums of a joint, side by side -/
theorem pul_wg {h : Ph} (hF : PhF h) {P : Nat → UInt64} (hP : ∀ j, j < 10 → okP (P j)) (j : Nat) : ∀ n, n ≤ pD h →
    Bd (34 + n) (accF FP.dconst0 (atj h j) (fun d => FP.dmul (pE h d) (P (oth h j d))) n) ∧ dv (accF FP.dconst0 (atj h j) (fun d => FP.dmul (pE h d) (P (oth h j d))) n) ≤ 0 ∧
    Bd (24 + n) (accF FP.dconst0 (atj h j) (pE h) n) ∧ 0 ≤ dv (accF FP.dconst0 (atj h j) (pE h) n) ∧
    dm (accF FP.dconst0 (atj h j) (fun d => FP.dmul (pE h d) (P (oth h j d))) n) ≤ dm (accF FP.dconst0 (atj h j) (pE h) n) * 2 ^ 10 ∧
    (ctF (atj h j) n ≠ 0 → 0 < dm (accF FP.dconst0 (atj h j) (pE h) n))
  | 0, _ => ⟨d0_B _, Int.le_of_eq d0_v, d0_B _, Int.le_of_eq d0_v.symm, by show dm FP.dconst0 ≤ _; rw [show dm FP.dconst0 = 0 by decide +kernel]; exact Nat.zero_le _, fun h0 => absurd rfl h0⟩
  | n + 1, hn => by
    obtain ⟨a1, a2, a3, a4, a5, a6⟩ := pul_wg hF hP j n (by omega)
    have h16 := hF.1
    cases hp : atj h j n with
    | false =>
      rw [accF_no hp, accF_no hp, ctF_no hp]
      exact ⟨a1.mono (by omega), a2, a3.mono (by omega), a4, a5, a6⟩
    | true =>
      rw [accF_yes hp, accF_yes hp]
      have hE := (hF.2.2.1 n (by omega)).1
      have hO := hP _ (oth_lt hF (j := j) (d := n) (by omega))
      obtain ⟨m1, m2⟩ := mul_P hE hO
      have mB : Bd 34 (FP.dmul (pE h n) (P (oth h j n))) := hE.1.mul hO.B (by decide)
      have hE0 : 0 ≤ dv (pE h n) := Int.le_of_lt hE.2
      generalize accF FP.dconst0 (atj h j) (fun d => FP.dmul (pE h d) (P (oth h j d))) n = a at *
      generalize accF FP.dconst0 (atj h j) (pE h) n = b at *
      generalize FP.dmul (pE h n) (P (oth h j n)) = ep at m1 m2 mB ⊢
      have t1 : 2 ^ (34 + n) * U1 + 2 ^ 34 * U1 < 2 ^ 2097 := by
        refine Nat.lt_of_le_of_lt ?_ U1_top97
        rw [← Nat.add_mul]
        refine Nat.mul_le_mul_right _ ?_
        have : (2 : Nat) ^ (34 + n) ≤ 2 ^ 50 := Nat.pow_le_pow_right (by decide) (by omega)
        have e9 : (2 : Nat) ^ 50 + 2 ^ 34 ≤ 2 ^ 100 := by decide +kernel
        omega
      have t2 : 2 ^ (24 + n) * U1 + 2 ^ 24 * U1 < 2 ^ 2097 := by
        refine Nat.lt_of_le_of_lt ?_ U1_top97
        rw [← Nat.add_mul]
        refine Nat.mul_le_mul_right _ ?_
        have : (2 : Nat) ^ (24 + n) ≤ 2 ^ 40 := Nat.pow_le_pow_right (by decide) (by omega)
        have e9 : (2 : Nat) ^ 40 + 2 ^ 24 ≤ 2 ^ 100 := by decide +kernel
        omega
      have A1 := dadd_same a1.F mB.F (.inr ⟨a2, m2⟩) (Nat.lt_of_le_of_lt (Nat.add_le_add a1.2 mB.2) t1)
      have S1 := dadd_same a3.F hE.1.F (.inl ⟨a4, hE0⟩) (Nat.lt_of_le_of_lt (Nat.add_le_add a3.2 hE.1.2) t2)
      have A2 : dv (FP.dadd a ep) ≤ 0 := by
        rw [← d0_v]
        exact dadd_le a1.F mB.F d0_F.nn (by rw [d0_v]; omega)
      have S2 : dv (pE h n) ≤ dv (FP.dadd b (pE h n)) := dadd_ge a3.F hE.1.F hE.1.F.nn (by omega)
      refine ⟨a1.add (mB.mono (by omega)) (by omega), A2, a3.add (hE.1.mono (by omega)) (by omega), by omega, ?_, fun _ => ?_⟩
      · rw [A1, S1, ← fR_scale]
        refine fR_mono ?_
        rw [Nat.add_mul]
        exact Nat.add_le_add a5 m1
      · have := hE.2
        rw [← dv_abs]
        omega
theorem accF_up {a : UInt64} {p : Nat → Bool} {g : Nat → UInt64} {k : Nat} (ha : Bd k a) (ha0 : 0 ≤ dv a) : ∀ {n : Nat}, k + n < 100 → (∀ i, i < n → p i = true → Bd k (g i) ∧ 0 ≤ dv (g i)) → dv a ≤ dv (accF a p g n)
  | 0, _, _ => Int.le_refl _
  | n + 1, hk, hg => by
    have ih := accF_up ha ha0 (p := p) (g := g) (n := n) (by omega) (fun i hi => hg i (by omega))
    cases hp : p n with
    | true =>
      rw [accF_yes hp]
      have hB := accF_B ha (p := p) (g := g) (n := n) (by omega) (fun i hi hpi => (hg i (by omega) hpi).1)
      have g0 := hg n (by omega) hp
      exact Int.le_trans ih (dadd_ge hB.F g0.1.F hB.F.nn (by have := g0.2; omega))
    | false => rw [accF_no hp]; exact ih
theorem gat_0 {g : UInt64} (hg : okG g) : 0 ≤ dv (FP.dmul g 4620693217682128896) := by
  rw [← d0_v]
  refine dmul_ge hg.1.F c8_B.1.F d0_F.nn ?_
  rw [d0_v, Int.zero_mul]
  exact Int.mul_nonneg hg.2 c8_B.2
/-- a joint's new pressure -/
theorem newP {h : Ph} (hF : PhF h) {P g : Nat → UInt64} (hP : ∀ j, j < 10 → okP (P j)) (hg : ∀ m, m < pM h → okG (g m)) {j : Nat} (hj : hasD h j = true) : okP (FP.ddiv (pulV h P j) (wgt h g j)) ∧ 0 < dm (wgt h g j) ∧ 0 < dv (wgt h g j) := by
  obtain ⟨a1, a2, a3, a4, a5, a6⟩ := pul_wg hF hP j (pD h) (Nat.le_refl _)
  have hS : 0 < dm (wgE h j) := a6 (of_decide_eq_true hj)
  have hS0 : 0 ≤ dv (wgE h j) := a4
  have hW := wgt_B hF hg j
  have hup : dv (wgE h j) ≤ dv (wgt h g j) := accF_up (wgE_B hF j) hS0 (n := pM h) (by have := hF.2.1; omega) (fun m hm _ => ⟨(gat_g hg hm).mono (by decide), gat_0 (hg m hm)⟩)
  have hSd := dv_abs (wgE h j)
  have hWd := dv_abs (wgt h g j)
  have hW1 : dm (wgE h j) ≤ dm (wgt h g j) := by omega
  have hWp : 0 < dm (wgt h g j) := by omega
  have hWv : 0 < dv (wgt h g j) := by omega
  refine ⟨?_, hWp, hWv⟩
  have hA := pulV_B hF hP j
  have hd : dm (FP.ddiv (pulV h P j) (wgt h g j)) ≤ dm (pw 10) := by
    refine ddiv_mle hA.F hW.F hWp (pw_n (by decide)) ?_
    rw [pw_m (by decide)]
    calc dm (pulV h P j) * U1 ≤ dm (wgE h j) * 2 ^ 10 * U1 := Nat.mul_le_mul_right _ a5
      _ ≤ dm (wgt h g j) * 2 ^ 10 * U1 := Nat.mul_le_mul_right _ (Nat.mul_le_mul_right _ hW1)
      _ = 2 ^ 10 * U1 * dm (wgt h g j) := by generalize U1 = u; ac_rfl
  rw [pw_m (by decide)] at hd
  have hs := (ddiv_sg hA.F hW.F hWv).2 a2
  have hn := ddiv_nn hA.F hW.F hWp
  have h3 : -((2 ^ 10 * U1 : Nat) : Int) ≤ dv (FP.ddiv (pulV h P j) (wgt h g j)) := by
    rw [← dv_abs] at hd
    omega
  exact ⟨(Bd.of (by decide) hn h3 (Int.le_trans hs (Int.natCast_nonneg _))).F, h3, hs⟩
theorem hld_ok {h : Ph} (hF : PhF h) {fl : UInt64} (hq : okQ fl) : Bd 61 (FP.dmul (pL h) fl) ∧ Bd 62 (FP.dsub (pS h) (FP.dmul (pL h) fl)) ∧ Bd 63 (hldV h fl) ∧ okP (na (hldV h fl)) := by
  have hS := hF.2.2.2.2.1
  have hL := hF.2.2.2.2.2
  have b1 : Bd 61 (FP.dmul (pL h) fl) := hL.1.mul hq.1 (by decide)
  have p1 : 0 ≤ dv (FP.dmul (pL h) fl) := by
    rw [← d0_v]
    refine dmul_ge hL.1.F hq.1.F d0_F.nn ?_
    rw [d0_v, Int.zero_mul]
    exact Int.mul_nonneg hL.2 hq.2
  have b2 : Bd 62 (FP.dsub (pS h) (FP.dmul (pL h) fl)) := (hS.1.mono (by decide)).sub b1 (by decide)
  have p2 : dv (FP.dsub (pS h) (FP.dmul (pL h) fl)) ≤ dv (pS h) := dsub_le hS.1.F b1.F hS.1.F.nn (by omega)
  have b3 : Bd 63 (hldV h fl) := (d0_B 62).sub b2 (by decide)
  refine ⟨b1, b2, b3, na_P b3.F ?_⟩
  rw [← (dneg_pw (j := 10) (by decide)).1]
  refine dsub_ge d0_F b2.F (dneg_pw (by decide)).2 ?_
  rw [(dneg_pw (j := 10) (by decide)).1, d0_v]
  have := hS.1.hi
  omega
/-- a round keeps the pressures in their range -/
theorem stJ_ok {h : Ph} (hF : PhF h) {g : Nat → UInt64} (hg : ∀ m, m < pM h → okG (g m)) {s : (Nat → UInt64) × UInt64} {j : Nat} (hP : ∀ i, i < 10 → okP (s.1 i)) : ∀ i, i < 10 → okP ((stJ h g j s).1 i) := by
  intro i hi
  unfold stJ
  cases hj : hasD h j with
  | false => exact hP i hi
  | true =>
    show okP (vf_upd s.1 j _ i)
    unfold vf_upd
    by_cases e : i = j
    · rw [if_pos e]; exact (newP hF hP hg hj).1
    · rw [if_neg e]; exact hP i hi
theorem rdN_ok {h : Ph} (hF : PhF h) {g : Nat → UInt64} (hg : ∀ m, m < pM h → okG (g m)) {s : (Nat → UInt64) × UInt64} (hP : ∀ i, i < 10 → okP (s.1 i)) : ∀ n, ∀ i, i < 10 → okP ((rdN h g s n).1 i)
  | 0 => hP
  | n + 1 => stJ_ok hF hg (rdN_ok hF hg hP n)
theorem vf_at {α : Type} {f : Nat → α} {k : Nat} {x : α} : vf_upd f k x k = x := if_pos rfl
theorem vf_ne {α : Type} {f : Nat → α} {k j : Nat} {x : α} (h : j ≠ k) : vf_upd f k x j = f j := if_neg h
theorem upd_okP {P : Nat → UInt64} (hP : ∀ i, i < 10 → okP (P i)) {k : Nat} {x : UInt64} (hx : okP x) : ∀ i, i < 10 → okP (vf_upd P k x i) := by
  intro i hi
  unfold vf_upd
  split
  · exact hx
  · exact hP i hi
def SdF (s : (Nat → UInt64) × UInt64) : Prop := (∀ i, i < 10 → okP (s.1 i)) ∧ okQ s.2
theorem rdS_ok {h : Ph} (hF : PhF h) {g : Nat → UInt64} (hg : ∀ m, m < pM h → okG (g m)) {s : (Nat → UInt64) × UInt64} (hs : SdF s) : SdF (rdS h g s) := by
  have h1 : ∀ i, i < 10 → okP (rdP h g s i) := rdN_ok hF hg (s := (vf_upd s.1 0 (na (hldV h s.2)), FP.dconst0)) (upd_okP hs.1 (hld_ok hF hs.2).2.2.2) 9
  exact ⟨h1, nb_B (floV_B hF h1 (by decide))⟩
theorem itR_ok {h : Ph} (hF : PhF h) {g : Nat → UInt64} (hg : ∀ m, m < pM h → okG (g m)) {s : (Nat → UInt64) × UInt64} (hs : SdF s) : ∀ k, SdF (itR h g s k)
  | 0 => hs
  | k + 1 => rdS_ok hF hg (itR_ok hF hg hs k)
/-! draws and gates -/
theorem drV_B {h : Ph} (hF : PhF h) {P g : Nat → UInt64} (hP : ∀ j, j < 10 → okP (P j)) (hg : ∀ m, m < pM h → okG (g m)) {m : Nat} (hm : m < pM h) : Bd 11 (FP.dsub FP.dconst0 (P (pJ h m))) ∧ Bd 14 (FP.dmul (FP.dmul (g m) 4620693217682128896) (FP.dsub FP.dconst0 (P (pJ h m)))) ∧ Bd 14 (drV h P g m) ∧ 0 ≤ dv (drV h P g m) := by
  have b1 : Bd 11 (FP.dsub FP.dconst0 (P (pJ h m))) := (d0_B 10).sub (hP _ (hF.2.2.2.1 m hm).2).B (by decide)
  have b2 : Bd 14 (FP.dmul (FP.dmul (g m) 4620693217682128896) (FP.dsub FP.dconst0 (P (pJ h m)))) := (gat_g hg hm).mul b1 (by decide)
  refine ⟨b1, b2, ?_⟩
  unfold drV
  split
  · exact nb_B b2
  · exact ⟨d0_B _, Int.le_of_eq d0_v.symm⟩
theorem ovr_ok {h : Ph} (hF : PhF h) {P g : Nat → UInt64} (hP : ∀ j, j < 10 → okP (P j)) (hg : ∀ m, m < pM h → okG (g m)) {m : Nat} (hm : m < pM h) (ho : 0 < Op.cmpValue (FP.dcmp (drV h P g m) (pN h m)) .l) : Bd 10 (FP.dmul (g m) (pN h m)) ∧ okG (FP.ddiv (FP.dmul (g m) (pN h m)) (drV h P g m)) := by
  obtain ⟨-, -, d1, d2⟩ := drV_B hF hP hg hm
  have hN := (hF.2.2.2.1 m hm).1
  have hG := hg m hm
  have hlt := (cv_gt d1.F.nn hN.1.F.nn).mp ho
  have b1 : Bd 10 (FP.dmul (g m) (pN h m)) := hG.1.mul hN.1 (by decide)
  have p0 : 0 ≤ dv (FP.dmul (g m) (pN h m)) := by
    rw [← d0_v]
    refine dmul_ge hG.1.F hN.1.F d0_F.nn ?_
    rw [d0_v, Int.zero_mul]
    exact Int.mul_nonneg hG.2 hN.2.2
  have p1 : dv (FP.dmul (g m) (pN h m)) ≤ dv (pN h m) := by
    refine dmul_le hG.1.F hN.1.F hN.1.F.nn ?_
    rw [Int.mul_comm (dv (pN h m))]
    refine Int.mul_le_mul_of_nonneg_right ?_ hN.2.2
    have := hG.1.hi
    rw [Nat.pow_zero, Nat.one_mul] at this
    exact this
  have e1 := dv_abs (FP.dmul (g m) (pN h m))
  have e2 := dv_abs (pN h m)
  have e3 := dv_abs (drV h P g m)
  have hd : U1 ≤ 2 ^ 3 * dm (drV h P g m) := by
    have := hN.2.1
    omega
  have hdp : 0 < dm (drV h P g m) := by omega
  have hle : dm (FP.dmul (g m) (pN h m)) ≤ dm (drV h P g m) := by omega
  have hm2 : dm (FP.ddiv (FP.dmul (g m) (pN h m)) (drV h P g m)) ≤ dm FP.dconst1 := by
    refine ddiv_mle b1.F d1.F hdp d1_F.nn ?_
    rw [d1_m]
    show _ * U1 ≤ _
    rw [Nat.mul_comm U1]
    exact Nat.mul_le_mul_right _ hle
  rw [d1_m] at hm2
  have hB : Bd 13 (FP.ddiv (FP.dmul (g m) (pN h m)) (drV h P g m)) := b1.div (j := 3) d1.F hd (by decide)
  exact ⟨b1, ⟨hB.F, by rw [Nat.pow_zero, Nat.one_mul]; exact hm2⟩, (ddiv_sg b1.F d1.F (by omega)).1 p0⟩
theorem clG_ok {h : Ph} (hF : PhF h) {P g : Nat → UInt64} (hP : ∀ j, j < 10 → okP (P j)) (hg : ∀ m, m < pM h → okG (g m)) : ∀ n, n ≤ pM h → ∀ m, m < pM h → okG (clG h P g n m)
  | 0, _ => hg
  | n + 1, hn => by
    intro m hm
    have ih := clG_ok hF hP hg n (by omega)
    show okG ((if ovr h P g n then vf_upd (clG h P g n) n _ else clG h P g n) m)
    cases ho : ovr h P g n with
    | false => exact ih m hm
    | true =>
      show okG (vf_upd (clG h P g n) n _ m)
      unfold vf_upd
      split
      · unfold ovr at ho
        rw [Bool.and_eq_true] at ho
        exact (ovr_ok hF hP hg (by omega) (of_decide_eq_true ho.2)).2
      · exact ih m hm
/-- a gate that is not yet reached is as it was -/
theorem clG_at {h : Ph} {P g : Nat → UInt64} : ∀ n m, n ≤ m → clG h P g n m = g m
  | 0, _, _ => rfl
  | n + 1, m, hm => by
    show (if ovr h P g n then vf_upd (clG h P g n) n _ else clG h P g n) m = g m
    split
    · rw [vf_ne (by omega)]; exact clG_at n m (by omega)
    · exact clG_at n m (by omega)
/-! eases -/
theorem eas_ok {w l : UInt64} (hw : okW w) (hl : okW l) : Bd 14 (FP.dmul w w) ∧ Bd 21 (FP.dmul (FP.dmul w w) w) ∧ okE (eas w l) ∧ U1 ≤ 2 ^ 6 * dm (FP.dmul w w) ∧ 0 ≤ dv (FP.dmul w w) := by
  have b1 : Bd 14 (FP.dmul w w) := hw.1.mul hw.1 (by decide)
  have b2 : Bd 21 (FP.dmul (FP.dmul w w) w) := b1.mul hw.1 (by decide)
  have i3 : dv 4593671619917905920 = dv 4593671619917905920 ∧ 2 ^ 3 * dm 4593671619917905920 = U1 := ⟨rfl, by decide +kernel⟩
  have lowmul : ∀ {x y v : UInt64} (a b c : Nat), dF x → dF y → 0 ≤ dv x → 0 ≤ dv y → dN v → 0 ≤ dv v → U1 ≤ 2 ^ a * dm x → U1 ≤ 2 ^ b * dm y → a + b = c → 2 ^ c * dm v = U1 → dv v ≤ dv (FP.dmul x y) := by
    intro x y v a b c hx hy x0 y0 hv v0 h1 h2 hc h3
    subst hc
    refine dmul_ge hx hy hv ?_
    rw [dv_pos x0, dv_pos y0, dv_pos v0, ← Int.natCast_mul, ← Int.natCast_mul]
    refine Int.ofNat_le.mpr ?_
    show dm v * U1 ≤ _
    refine Nat.le_of_mul_le_mul_left ?_ (Nat.two_pow_pos (a + b))
    calc 2 ^ (a + b) * (dm v * U1) = U1 * U1 := by rw [← Nat.mul_assoc, h3]
      _ ≤ 2 ^ a * dm x * (2 ^ b * dm y) := Nat.mul_le_mul h1 h2
      _ = 2 ^ (a + b) * (dm x * dm y) := by rw [Nat.pow_add]; generalize U1 = u; ac_rfl
  have v6 : dN 4580160821035794432 ∧ 0 ≤ dv 4580160821035794432 ∧ 2 ^ 6 * dm 4580160821035794432 = U1 := by decide +kernel
  have v9 : dN 4566650022153682944 ∧ 0 ≤ dv 4566650022153682944 ∧ 2 ^ 9 * dm 4566650022153682944 = U1 := by decide +kernel
  have g1 := lowmul 3 3 6 hw.1.F hw.1.F hw.2.2 hw.2.2 v6.1 v6.2.1 hw.2.1 hw.2.1 rfl v6.2.2
  have p1 : 0 ≤ dv (FP.dmul w w) := Int.le_trans v6.2.1 g1
  have q1 : U1 ≤ 2 ^ 6 * dm (FP.dmul w w) := by
    have := dv_abs (FP.dmul w w); have := dv_abs 4580160821035794432; have := v6.2.2
    omega
  have g2 := lowmul 6 3 9 b1.F hw.1.F p1 hw.2.2 v9.1 v9.2.1 q1 hw.2.1 rfl v9.2.2
  have p2 : 0 ≤ dv (FP.dmul (FP.dmul w w) w) := Int.le_trans v9.2.1 g2
  have q2 : U1 ≤ 2 ^ 9 * dm (FP.dmul (FP.dmul w w) w) := by
    have := dv_abs (FP.dmul (FP.dmul w w) w); have := dv_abs 4566650022153682944; have := v9.2.2
    omega
  have b3 : Bd 24 (eas w l) := b2.div (j := 3) hl.1.F hl.2.1 (by decide)
  have hl0 : 0 < dm l := Nat.pos_of_ne_zero (fun h0 => by have h9 := hl.2.1; rw [h0, Nat.mul_zero] at h9; exact absurd U1_pos (by omega))
  have hlv : 0 < dv l := by have := dv_abs l; have := hl.2.2; omega
  have v16 : dN 4535124824762089472 ∧ 2 ^ 16 * dm 4535124824762089472 = U1 := by decide +kernel
  have g3 : dm 4535124824762089472 ≤ dm (eas w l) := by
    refine ddiv_mge b2.F hl.1.F hl0 ?_
    show _ ≤ _ * U1
    refine Nat.le_of_mul_le_mul_left ?_ (Nat.two_pow_pos 16)
    calc 2 ^ 16 * (dm 4535124824762089472 * dm l) = U1 * dm l := by rw [← Nat.mul_assoc, v16.2]
      _ ≤ U1 * (2 ^ 7 * U1) := Nat.mul_le_mul_left _ hl.1.2
      _ = U1 * 2 ^ 7 * U1 := by generalize U1 = u; ac_rfl
      _ ≤ 2 ^ 9 * dm (FP.dmul (FP.dmul w w) w) * 2 ^ 7 * U1 := Nat.mul_le_mul_right _ (Nat.mul_le_mul_right _ q2)
      _ = 2 ^ 16 * (dm (FP.dmul (FP.dmul w w) w) * U1) := by rw [show (2 : Nat) ^ 16 = 2 ^ 9 * 2 ^ 7 by decide +kernel]; generalize U1 = u; ac_rfl
  have s3 := (ddiv_sg b2.F hl.1.F hlv).1 p2
  have e9 := dv_abs (eas w l)
  have u9 := U1_pos
  have w9 := v16.2
  refine ⟨b1, b2, ⟨b3, ?_⟩, q1, p1⟩
  have : 0 ≤ dv (eas w l) := s3
  omega
