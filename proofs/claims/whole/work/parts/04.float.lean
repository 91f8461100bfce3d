/-! numbers: the value of a double, in units of 2^-1074; what its operations do to it -/
abbrev fv (x : UInt64) : FP.Core.Datum := FP.Core.val64 x
def dv (x : UInt64) : Int := FP.Core.zval FP.Core.b64 (fv x)
def dm (x : UInt64) : Nat := FP.Core.zmag FP.Core.b64 (fv x)
abbrev dF (x : UInt64) : Prop := FP.Core.DFin x
abbrev dN (x : UInt64) : Prop := fv x ≠ .nan
theorem dF.nn {x : UInt64} (h : dF x) : dN x := FP.Core.DFin.ne_nan h
theorem dN.ok {x : UInt64} (h : dN x) : vf_n64 x := by
  have h1 := (FP.Core.ne_nan x).mp h
  unfold vf_n64
  rw [UInt64.le_iff_toNat_le, FP.Core.mask_toNat]
  exact h1
theorem dF.ok {x : UInt64} (h : dF x) : vf_n64 x := h.nn.ok
theorem ft {x : UInt64} : FP.Core.fits FP.Core.b64 (fv x) := FP.Core.val64_fits x
theorem dv_abs (x : UInt64) : (dv x).natAbs = dm x := FP.Core.natAbs_signed _ _
theorem fl_top : FP.Core.b64.tails * 2 ^ (FP.Core.b64.exps - 2) = 2 ^ 2098 := by decide +kernel
theorem fl_qmin : FP.Core.b64.qmin = -1074 := by decide +kernel
theorem dF.lt {x : UInt64} (h : dF x) : dm x < 2 ^ 2098 := by
  have h1 := FP.Core.DFin.zval_lt h
  rw [fl_top] at h1
  exact h1
theorem dF_of {x : UInt64} (h : dN x) (h1 : dm x < 2 ^ 2098) : dF x := by
  unfold dN fv at h
  unfold dm fv at h1
  unfold dF FP.Core.DFin
  cases e : FP.Core.val64 x with
  | nan => exact absurd e h
  | inf s =>
    exfalso
    rw [e] at h1
    have h2 : FP.Core.zmag FP.Core.b64 (.inf s) = FP.Core.b64.tails * 2 ^ (FP.Core.b64.exps - 2) := rfl
    rw [h2, fl_top] at h1
    exact Nat.lt_irrefl _ h1
  | fin s c q => exact ⟨s, c, q, rfl⟩
theorem dF_two {x : UInt64} (h : dN x) {a b : Int} (h1 : a ≤ dv x) (h2 : dv x ≤ b) (ha : -(2 ^ 2098) < a) (hb : b < 2 ^ 2098) : dF x := by
  refine dF_of h ?_
  rw [← dv_abs]
  generalize dv x = z at h1 h2 ⊢
  have e : ((2 ^ 2098 : Nat) : Int) = 2 ^ 2098 := by decide +kernel
  generalize (2 ^ 2098 : Nat) = N at e ⊢
  rw [← e] at ha hb
  omega
/-! the operations -/
theorem dadd_nn {x y : UInt64} (hx : dF x) (hy : dF y) : dN (FP.dadd x y) := by
  obtain ⟨s, c, q, ex⟩ := hx
  obtain ⟨t, d, r, ey⟩ := hy
  unfold dN fv
  rw [FP.dadd_core, FP.Core.val64_dadd, ex, ey]
  exact FP.Core.roundRatio_ne_nan _ _ _ _ _
theorem dadd_le {x y v : UInt64} (hx : dF x) (hy : dF y) (hv : dN v) (h : dv x + dv y ≤ dv v) : dv (FP.dadd x y) ≤ dv v := by
  unfold dv fv at *
  rw [FP.dadd_core, FP.Core.val64_dadd]
  exact FP.Core.sum_le FP.Core.good_b64 hx hy ft ft ft hv h
theorem dadd_ge {x y v : UInt64} (hx : dF x) (hy : dF y) (hv : dN v) (h : dv v ≤ dv x + dv y) : dv v ≤ dv (FP.dadd x y) := by
  unfold dv fv at *
  rw [FP.dadd_core, FP.Core.val64_dadd]
  exact FP.Core.sum_ge FP.Core.good_b64 hx hy ft ft ft hv h
theorem dneg_v (x : UInt64) : dv (FP.dneg x) = - dv x := by
  unfold dv fv
  rw [FP.val64_dneg, FP.Core.zval_negate]
theorem dneg_F {x : UInt64} (h : dF x) : dF (FP.dneg x) := by
  obtain ⟨s, c, q, ex⟩ := h
  exact ⟨!s, c, q, by rw [FP.val64_dneg, ex]; rfl⟩
theorem dsub_add {x y : UInt64} (hy : dF y) : FP.dsub x y = FP.dadd x (FP.dneg y) := by
  rw [FP.dsub_core, FP.dadd_core, FP.dneg_core hy.notNaN]
  exact FP.Core.dsub_eq x y
theorem dsub_nn {x y : UInt64} (hx : dF x) (hy : dF y) : dN (FP.dsub x y) := by rw [dsub_add hy]; exact dadd_nn hx (dneg_F hy)
theorem dsub_le {x y v : UInt64} (hx : dF x) (hy : dF y) (hv : dN v) (h : dv x - dv y ≤ dv v) : dv (FP.dsub x y) ≤ dv v := by
  rw [dsub_add hy]; exact dadd_le hx (dneg_F hy) hv (by rw [dneg_v]; omega)
theorem dsub_ge {x y v : UInt64} (hx : dF x) (hy : dF y) (hv : dN v) (h : dv v ≤ dv x - dv y) : dv v ≤ dv (FP.dsub x y) := by
  rw [dsub_add hy]; exact dadd_ge hx (dneg_F hy) hv (by rw [dneg_v]; omega)
theorem dmul_nn {x y : UInt64} (hx : dF x) (hy : dF y) : dN (FP.dmul x y) := by
  obtain ⟨s, c, q, ex⟩ := hx
  obtain ⟨t, d, r, ey⟩ := hy
  unfold dN fv
  rw [FP.dmul_core, FP.Core.val64_dmul, ex, ey]
  exact FP.Core.roundRatio_ne_nan _ _ _ _ _
theorem dmul_ex {x y : UInt64} (hx : dF x) (hy : dF y) : ∃ (s : Bool) (c : Nat) (q : Int), fv (FP.dmul x y) = FP.Core.round FP.Core.b64 (.fin s c q) ∧ 2 * FP.Core.b64.qmin ≤ q ∧ FP.Core.signed s (FP.Core.inUnits c q (2 * FP.Core.b64.qmin)) = dv x * dv y := by
  obtain ⟨s, c, q, ex⟩ := hx
  obtain ⟨t, d, r, ey⟩ := hy
  have fx := ft (x := x)
  have fy := ft (x := y)
  unfold fv at fx fy
  rw [ex] at fx
  rw [ey] at fy
  obtain ⟨e1, e2, e3⟩ := FP.Core.product_units fx fy
  refine ⟨(s != t), c * d, q + r, ?_, e2, ?_⟩
  · unfold fv
    rw [FP.dmul_core, FP.Core.val64_dmul, ex, ey, e1]
  · rw [e3, FP.Core.signed_xor]
    unfold dv fv FP.Core.zval
    rw [ex, ey]
    rfl
theorem fl_e0 : (2 * FP.Core.b64.qmin : Int) ≤ FP.Core.b64.qmin := by decide +kernel
theorem fl_p0 : (2 ^ (FP.Core.b64.qmin - 2 * FP.Core.b64.qmin).toNat : Nat) = 2 ^ 1074 := by decide +kernel
theorem dmul_le {x y v : UInt64} (hx : dF x) (hy : dF y) (hv : dN v) (h : dv x * dv y ≤ dv v * ((2 ^ 1074 : Nat) : Int)) : dv (FP.dmul x y) ≤ dv v := by
  obtain ⟨s, c, q, e1, e2, e3⟩ := dmul_ex hx hy
  have h0 := FP.Core.zval_round_le FP.Core.good_b64 (s := s) (c := c) (q := q) (V := fv v) ft hv fl_e0 e2 (by rw [e3, fl_p0]; exact h)
  rw [← e1] at h0
  exact h0
theorem dmul_ge {x y v : UInt64} (hx : dF x) (hy : dF y) (hv : dN v) (h : dv v * ((2 ^ 1074 : Nat) : Int) ≤ dv x * dv y) : dv v ≤ dv (FP.dmul x y) := by
  obtain ⟨s, c, q, e1, e2, e3⟩ := dmul_ex hx hy
  have h0 := FP.Core.zval_round_ge FP.Core.good_b64 (s := s) (c := c) (q := q) (V := fv v) ft hv fl_e0 e2 (by rw [e3, fl_p0]; exact h)
  rw [← e1] at h0
  exact h0
theorem ddiv_ex {x y : UInt64} (hx : dF x) (hy : dF y) (h0 : 0 < dm y) : ∃ s : Bool, fv (FP.ddiv x y) = FP.Core.roundRatio FP.Core.b64 s (dm x * 2 ^ 1074) (dm y) FP.Core.b64.qmin ∧ (0 < dv y → s = FP.Core.sgn (fv x)) := by
  obtain ⟨s, c, q, ex⟩ := hx
  obtain ⟨t, d, r, ey⟩ := hy
  have fx := ft (x := x)
  have fy := ft (x := y)
  unfold fv at fx fy
  rw [ex] at fx
  rw [ey] at fy
  have hmx : dm x = c * 2 ^ (q - FP.Core.b64.qmin).toNat := by unfold dm fv; rw [ex]; rfl
  have hmy : dm y = d * 2 ^ (r - FP.Core.b64.qmin).toNat := by unfold dm fv; rw [ey]; rfl
  have hd : d ≠ 0 := by
    intro h
    rw [hmy, h, Nat.zero_mul] at h0
    exact Nat.lt_irrefl _ h0
  refine ⟨(s != t), ?_, ?_⟩
  · unfold fv
    rw [FP.ddiv_core, FP.Core.val64_ddiv, ex, ey]
    show (if d = 0 then _ else FP.Core.roundRatio FP.Core.b64 (s != t) c d (q - r)) = _
    rw [if_neg hd]
    refine FP.Core.roundRatio_congr (Nat.pos_of_ne_zero hd) h0 ?_
    have q1 := fx.2.1
    have q2 := fy.2.1
    rw [hmx, hmy]
    rw [fl_qmin] at q1 q2 ⊢
    have e : (r - -1074).toNat + (q - r - -1074).toNat = (q - -1074).toNat + 1074 + (-1074 - (q - r)).toNat := by omega
    calc c * (d * 2 ^ (r - -1074).toNat) * 2 ^ (q - r - -1074).toNat = c * d * (2 ^ ((r - -1074).toNat + (q - r - -1074).toNat)) := by rw [Nat.pow_add]; ac_rfl
      _ = c * 2 ^ (q - -1074).toNat * 2 ^ 1074 * d * 2 ^ (-1074 - (q - r)).toNat := by
        rw [e, Nat.pow_add, Nat.pow_add]
        generalize (2 : Nat) ^ 1074 = z1
        generalize 2 ^ (q - -1074).toNat = z2
        generalize 2 ^ (-1074 - (q - r)).toNat = z3
        ac_rfl
  · intro hp
    have ht : t = false := by
      cases t
      · rfl
      · exfalso
        have : dv y ≤ 0 := by
          unfold dv fv FP.Core.zval
          rw [ey]
          show -((_ : Nat) : Int) ≤ 0
          omega
        omega
    subst ht
    show (s != false) = FP.Core.sgn (FP.Core.val64 x)
    rw [ex]
    show (s != false) = s
    cases s <;> rfl
theorem ddiv_nn {x y : UInt64} (hx : dF x) (hy : dF y) (h0 : 0 < dm y) : dN (FP.ddiv x y) := by
  obtain ⟨s, e, -⟩ := ddiv_ex hx hy h0
  unfold dN
  rw [e]
  exact FP.Core.roundRatio_ne_nan _ _ _ _ _
theorem fl_u (a : Nat) : FP.Core.inUnits a FP.Core.b64.qmin FP.Core.b64.qmin = a := by
  unfold FP.Core.inUnits
  rw [Int.sub_self]
  exact Nat.mul_one a
theorem ddiv_mle {x y v : UInt64} (hx : dF x) (hy : dF y) (h0 : 0 < dm y) (hv : dN v) (h : dm x * 2 ^ 1074 ≤ dm v * dm y) : dm (FP.ddiv x y) ≤ dm v := by
  obtain ⟨s, e, -⟩ := ddiv_ex hx hy h0
  have k := FP.Core.zmag_roundRatio_le FP.Core.good_b64 (s := s) (A := dm x * 2 ^ 1074) (B := dm y) (e := FP.Core.b64.qmin) (e0 := FP.Core.b64.qmin) (V := fv v) h0 ft hv (Int.le_refl _) (Int.le_refl _) (by rw [fl_u, Int.sub_self]; exact Nat.le_trans h (Nat.le_of_eq (by show _ = dm v * 1 * dm y; rw [Nat.mul_one])))
  unfold dm at k ⊢
  rw [e]
  exact k
theorem ddiv_mge {x y v : UInt64} (hx : dF x) (hy : dF y) (h0 : 0 < dm y) (h : dm v * dm y ≤ dm x * 2 ^ 1074) : dm v ≤ dm (FP.ddiv x y) := by
  obtain ⟨s, e, -⟩ := ddiv_ex hx hy h0
  have k := FP.Core.zmag_roundRatio_ge FP.Core.good_b64 (s := s) (A := dm x * 2 ^ 1074) (B := dm y) (e := FP.Core.b64.qmin) (e0 := FP.Core.b64.qmin) (V := fv v) h0 ft (Int.le_refl _) (Int.le_refl _) (by rw [fl_u, Int.sub_self]; exact Nat.le_trans (Nat.le_of_eq (by show dm v * 1 * dm y = _; rw [Nat.mul_one])) h)
  unfold dm at k ⊢
  rw [e]
  exact k
theorem dv_sg (x : UInt64) : dv x = if FP.Core.sgn (fv x) then -(dm x : Int) else (dm x : Int) := rfl
theorem dv_pos {x : UInt64} (h : 0 ≤ dv x) : dv x = (dm x : Int) := by rw [← dv_abs]; omega
theorem dv_neg {x : UInt64} (h : dv x ≤ 0) : dv x = -(dm x : Int) := by rw [← dv_abs]; omega
theorem dm_0 {x : UInt64} (h : dm x = 0) : dv x = 0 := by have := dv_abs x; omega
theorem ddiv_sg {x y : UInt64} (hx : dF x) (hy : dF y) (h0 : 0 < dv y) : (0 ≤ dv x → 0 ≤ dv (FP.ddiv x y)) ∧ (dv x ≤ 0 → dv (FP.ddiv x y) ≤ 0) := by
  have hm : 0 < dm y := by rw [← dv_abs]; omega
  have hz : dm x = 0 → dv (FP.ddiv x y) = 0 := fun h => dm_0 (Nat.le_zero.mp (by
    have h1 := ddiv_mle hx hy hm (v := x) hx.nn (by rw [h, Nat.zero_mul, Nat.zero_mul]; exact Nat.le_refl _)
    rw [h] at h1
    exact h1))
  obtain ⟨s, e, hs⟩ := ddiv_ex hx hy hm
  have hs := hs h0
  have e2 : FP.Core.sgn (fv (FP.ddiv x y)) = s := by rw [e]; exact FP.Core.sgn_roundRatio _ _ _ _ _
  rw [dv_sg (FP.ddiv x y), e2]
  rw [dv_sg (FP.ddiv x y), e2] at hz
  rw [dv_sg x, ← hs]
  cases s
  · refine ⟨fun _ => Int.natCast_nonneg _, fun h => ?_⟩
    have h9 : dm x = 0 := by
      have h : ((dm x : Nat) : Int) ≤ 0 := h
      omega
    exact Int.le_of_eq (hz h9)
  · refine ⟨fun h => ?_, fun _ => ?_⟩
    · have h9 : dm x = 0 := by
        have h : 0 ≤ -((dm x : Nat) : Int) := h
        omega
      exact Int.le_of_eq (hz h9).symm
    · show -((_ : Nat) : Int) ≤ 0
      omega
/-! sums of one sign, exactly: monotone, and a factor 2^10 comes out -/
def fR (n : Nat) : Nat := FP.Core.nearest n (2 ^ (n.log2 - 52)) * 2 ^ (n.log2 - 52)
theorem fl_settle {s : Bool} {m : Nat} {k : Nat} (hm : m ≤ 2 ^ 53) (hk : k < 2045) : FP.Core.zmag FP.Core.b64 (FP.Core.settle FP.Core.b64 s m (-1074 + (k : Int))) = m * 2 ^ k := by
  have hq : FP.Core.b64.qmax = 971 := by decide +kernel
  have hp : (2 : Nat) ^ FP.Core.b64.p = 2 ^ 53 := by decide +kernel
  have ht : FP.Core.b64.tails = 2 ^ 52 := by decide +kernel
  unfold FP.Core.settle FP.Core.bound
  rw [hp, hq, ht]
  by_cases h : m < 2 ^ 53
  · rw [if_pos h, if_pos (by omega)]
    show m * 2 ^ ((-1074 + (k : Int)) - FP.Core.b64.qmin).toNat = _
    rw [fl_qmin, show ((-1074 + (k : Int)) - -1074).toNat = k by omega]
  · rw [if_neg h, if_pos (by omega)]
    show 2 ^ 52 * 2 ^ ((-1074 + (k : Int) + 1) - FP.Core.b64.qmin).toNat = _
    rw [fl_qmin, show ((-1074 + (k : Int) + 1) - -1074).toNat = k + 1 by omega, show m = 2 ^ 53 by omega, ← Nat.pow_add, ← Nat.pow_add]
    congr 1
    omega
theorem fR_spec {s : Bool} {n : Nat} (hn : n < 2 ^ 2097) : FP.Core.zmag FP.Core.b64 (FP.Core.roundRatio FP.Core.b64 s n 1 FP.Core.b64.qmin) = fR n := by
  by_cases h0 : n = 0
  · subst h0
    decide +revert +kernel
  have hl : FP.Core.leading n 1 = (n.log2 : Int) := by
    unfold FP.Core.leading
    have h1 : (1 : Nat).log2 = 0 := by decide +kernel
    rw [h1]
    have h2 : 2 ^ n.log2 ≤ n := Nat.log2_self_le h0
    show (if 1 * 2 ^ ((n.log2 : Int) - ((0 : Nat) : Int)).toNat ≤ n * 2 ^ (-((n.log2 : Int) - ((0 : Nat) : Int))).toNat then (n.log2 : Int) - ((0 : Nat) : Int) else (n.log2 : Int) - ((0 : Nat) : Int) - 1) = _
    rw [if_pos]
    · omega
    · rw [show ((n.log2 : Int) - ((0 : Nat) : Int)).toNat = n.log2 by omega, show (-((n.log2 : Int) - ((0 : Nat) : Int))).toNat = 0 by omega]
      omega
  have hlg : n.log2 < 2097 := (Nat.log2_lt h0).mpr hn
  have hq : FP.Core.quantum FP.Core.b64 n 1 FP.Core.b64.qmin = -1074 + ((n.log2 - 52 : Nat) : Int) := by
    unfold FP.Core.quantum
    rw [hl, fl_qmin]
    have hp : ((FP.Core.b64.p : Nat) : Int) = 53 := by decide +kernel
    rw [hp]
    omega
  unfold FP.Core.roundRatio
  rw [if_neg h0, hq]
  unfold FP.Core.roundAt FP.Core.unitsNum FP.Core.unitsDen
  rw [fl_qmin, show ((-1074 : Int) - (-1074 + ((n.log2 - 52 : Nat) : Int))).toNat = 0 by omega, show ((-1074 + ((n.log2 - 52 : Nat) : Int)) - (-1074 : Int)).toNat = n.log2 - 52 by omega, Nat.pow_zero, Nat.mul_one, Nat.one_mul]
  refine fl_settle (FP.Core.nearest_le (Nat.two_pow_pos _) ?_) (by omega)
  have h3 : n < 2 ^ (n.log2 + 1) := Nat.lt_log2_self
  rw [← Nat.pow_add]
  exact Nat.le_of_lt (Nat.lt_of_lt_of_le h3 (Nat.pow_le_pow_right (by decide) (by omega)))
theorem fl_near_mono {a b D : Nat} (hD : 0 < D) (h : a ≤ b) : FP.Core.nearest a D ≤ FP.Core.nearest b D := by
  have ha := FP.Core.nearest_spec a D hD
  have hb := FP.Core.nearest_spec b D hD
  refine Nat.le_of_not_lt fun hlt => ?_
  generalize FP.Core.nearest a D = x at *
  generalize FP.Core.nearest b D = y at *
  obtain ⟨a1, a2, a3⟩ := ha
  obtain ⟨b1, b2, b3⟩ := hb
  have e1 : (2 * y + 1) * D ≤ (2 * x - 1) * D := Nat.mul_le_mul_right _ (by omega)
  have e2 : (2 * x - 1) * D + D = 2 * x * D := by
    rw [show 2 * x * D = ((2 * x - 1) + 1) * D by rw [show 2 * x - 1 + 1 = 2 * x by omega], Nat.add_mul, Nat.one_mul]
  by_cases hxy : x = y + 1
  · subst hxy
    have e3 : (2 * y + 1) * D = (2 * (y + 1) - 1) * D := by rw [show 2 * (y + 1) - 1 = 2 * y + 1 by omega]
    have g1 : 2 * a = (2 * y + 1) * D := by omega
    have g2 : 2 * b = (2 * y + 1) * D := by omega
    have p1 := a3 (.inr (by omega))
    have p2 := b3 (.inl g2)
    omega
  · have e4 : (2 * y + 1) * D < (2 * x - 1) * D := Nat.mul_lt_mul_of_pos_right (by omega) hD
    omega
theorem fR_mono {a b : Nat} (h : a ≤ b) : fR a ≤ fR b := by
  by_cases h0 : a = 0
  · subst h0
    have : fR 0 = 0 := by decide +kernel
    rw [this]
    exact Nat.zero_le _
  have hb0 : b ≠ 0 := by omega
  have ha1 : 2 ^ a.log2 ≤ a := Nat.log2_self_le h0
  have ha2 : a < 2 ^ (a.log2 + 1) := Nat.lt_log2_self
  have hb1 : 2 ^ b.log2 ≤ b := Nat.log2_self_le hb0
  have hb2 : b < 2 ^ (b.log2 + 1) := Nat.lt_log2_self
  have hl : a.log2 ≤ b.log2 := by
    have : a.log2 < b.log2 + 1 := (Nat.log2_lt h0).mpr (by omega)
    omega
  unfold fR
  by_cases hk : a.log2 - 52 = b.log2 - 52
  · rw [hk]
    exact Nat.mul_le_mul_right _ (fl_near_mono (Nat.two_pow_pos _) h)
  · have hb3 : 53 ≤ b.log2 := by omega
    have e1 : a ≤ 2 ^ b.log2 := by
      have : 2 ^ (a.log2 + 1) ≤ 2 ^ b.log2 := Nat.pow_le_pow_right (by decide) (by omega)
      omega
    have g1 : FP.Core.nearest a (2 ^ (a.log2 - 52)) * 2 ^ (a.log2 - 52) ≤ 2 ^ b.log2 := by
      have e2 : (2 : Nat) ^ b.log2 = 2 ^ (b.log2 - (a.log2 - 52)) * 2 ^ (a.log2 - 52) := by rw [← Nat.pow_add]; congr 1; omega
      rw [e2]
      exact Nat.mul_le_mul_right _ (FP.Core.nearest_le (Nat.two_pow_pos _) (by rw [← e2]; exact e1))
    have g2 : 2 ^ b.log2 ≤ FP.Core.nearest b (2 ^ (b.log2 - 52)) * 2 ^ (b.log2 - 52) := by
      have e2 : (2 : Nat) ^ b.log2 = 2 ^ 52 * 2 ^ (b.log2 - 52) := by rw [← Nat.pow_add]; congr 1; omega
      rw [e2]
      exact Nat.mul_le_mul_right _ (FP.Core.nearest_ge (Nat.two_pow_pos _) (by rw [← e2]; exact hb1))
    exact Nat.le_trans g1 g2
theorem fR_small {n : Nat} (h : n.log2 ≤ 52) : fR n = n := by
  unfold fR
  rw [show n.log2 - 52 = 0 by omega, Nat.pow_zero, Nat.mul_one]
  have := FP.Core.nearest_exact (B := 1) n (by decide)
  rw [Nat.mul_one] at this
  exact this
theorem fR_scale (j n : Nat) : fR (n * 2 ^ j) = fR n * 2 ^ j := by
  by_cases h0 : n = 0
  · subst h0
    rw [Nat.zero_mul]
    have : fR 0 = 0 := by decide +kernel
    rw [this, Nat.zero_mul]
  have hl : (n * 2 ^ j).log2 = n.log2 + j := by
    have h1 : 2 ^ n.log2 ≤ n := Nat.log2_self_le h0
    have h2 : n < 2 ^ (n.log2 + 1) := Nat.lt_log2_self
    have hp := Nat.two_pow_pos j
    have hn0 : n * 2 ^ j ≠ 0 := Nat.mul_ne_zero h0 (by omega)
    have h3 : (n * 2 ^ j).log2 < n.log2 + j + 1 := (Nat.log2_lt hn0).mpr (by
      rw [show n.log2 + j + 1 = (n.log2 + 1) + j by omega, Nat.pow_add]
      exact Nat.mul_lt_mul_of_pos_right h2 hp)
    have h4 : ¬ (n * 2 ^ j).log2 < n.log2 + j := fun h => by
      have := (Nat.log2_lt hn0).mp h
      rw [Nat.pow_add] at this
      exact absurd this (Nat.not_lt.mpr (Nat.mul_le_mul_right _ h1))
    omega
  by_cases h52 : 52 ≤ n.log2
  · unfold fR
    rw [hl, show n.log2 + j - 52 = (n.log2 - 52) + j by omega, Nat.pow_add, FP.Core.nearest_scale _ _ _ (Nat.two_pow_pos j)]
    ac_rfl
  · by_cases h2 : n.log2 + j ≤ 52
    · rw [fR_small (by omega), fR_small (by omega)]
    · rw [fR_small (n := n) (by omega)]
      unfold fR
      rw [hl]
      have e : n * 2 ^ j = (n * 2 ^ (52 - n.log2)) * 2 ^ (n.log2 + j - 52) := by
        rw [Nat.mul_assoc, ← Nat.pow_add]
        congr 2
        omega
      rw [e, FP.Core.nearest_exact _ (Nat.two_pow_pos _)]
theorem dadd_same {x y : UInt64} (hx : dF x) (hy : dF y) (h : (0 ≤ dv x ∧ 0 ≤ dv y) ∨ (dv x ≤ 0 ∧ dv y ≤ 0)) (hs : dm x + dm y < 2 ^ 2097) : dm (FP.dadd x y) = fR (dm x + dm y) := by
  obtain ⟨s, c, q, ex⟩ := hx
  obtain ⟨t, d, r, ey⟩ := hy
  have fx := ft (x := x)
  have fy := ft (x := y)
  unfold fv at fx fy
  rw [ex] at fx
  rw [ey] at fy
  obtain ⟨sg, n, e, h1, h2, h3⟩ := FP.Core.sum_units fx fy
  have hvx : dv x = FP.Core.zval FP.Core.b64 (.fin s c q) := by unfold dv fv; rw [ex]
  have hvy : dv y = FP.Core.zval FP.Core.b64 (.fin t d r) := by unfold dv fv; rw [ey]
  rw [← hvx, ← hvy] at h3
  have hn : FP.Core.inUnits n e FP.Core.b64.qmin = dm x + dm y := by
    have h4 := congrArg Int.natAbs h3
    rw [FP.Core.natAbs_signed] at h4
    rw [h4, ← dv_abs, ← dv_abs]
    omega
  have hr : fv (FP.dadd x y) = FP.Core.roundRatio FP.Core.b64 sg (dm x + dm y) 1 FP.Core.b64.qmin := by
    unfold fv
    rw [FP.dadd_core, FP.Core.val64_dadd, ex, ey, h1, ← FP.Core.round_inUnits sg n h2, hn]
    rfl
  unfold dm
  rw [hr]
  exact fR_spec hs
theorem fR_self {x : UInt64} (hx : dF x) (h : dm x < 2 ^ 2097) : fR (dm x) = dm x := by
  have fx := ft (x := x)
  obtain ⟨s, c, q, ex⟩ := hx
  unfold fv at fx
  rw [ex] at fx
  have h1 := FP.Core.round_of_fits FP.Core.good_b64 fx
  rw [← FP.Core.round_inUnits s c fx.2.1] at h1
  have h2 : dm x = FP.Core.inUnits c q FP.Core.b64.qmin := by unfold dm fv; rw [ex]; rfl
  rw [← h2] at h1
  have h3 := fR_spec (s := s) h
  have h4 : FP.Core.roundRatio FP.Core.b64 s (dm x) 1 FP.Core.b64.qmin = .fin s c q := h1
  rw [h4] at h3
  rw [← h3, h2]
  rfl
