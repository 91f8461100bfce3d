/-! ranges of doubles: bounds by powers of two, and what the class's numbers keep -/
def U1 : Nat := 2 ^ 1074
theorem U1_pos : 0 < U1 := Nat.two_pow_pos _
/-- the double 2^j -/
def pw (j : Nat) : UInt64 := UInt64.ofNat ((1023 + j) * 2 ^ 52)
theorem pw_all : ∀ j, j < 100 → dm (pw j) = 2 ^ j * U1 ∧ 0 ≤ dv (pw j) ∧ fv (pw j) ≠ .nan := by decide +kernel
theorem pw_m {j : Nat} (h : j < 100) : dm (pw j) = 2 ^ j * U1 := (pw_all j h).1
theorem pw_v {j : Nat} (h : j < 100) : dv (pw j) = ((2 ^ j * U1 : Nat) : Int) := by rw [dv_pos (pw_all j h).2.1, pw_m h]
theorem pw_n {j : Nat} (h : j < 100) : dN (pw j) := (pw_all j h).2.2
theorem U1_top : 2 ^ 100 * U1 < 2 ^ 2098 := by decide +kernel
theorem U1_top97 : 2 ^ 100 * U1 < 2 ^ 2097 := by decide +kernel
theorem dF_small {x : UInt64} (h : dN x) (h1 : dm x ≤ 2 ^ 100 * U1) : dF x := dF_of h (Nat.lt_of_le_of_lt h1 U1_top)
theorem pw_F {j : Nat} (h : j < 100) : dF (pw j) := dF_small (pw_n h) (by rw [pw_m h]; exact Nat.mul_le_mul_right _ (Nat.pow_le_pow_right (by decide) (by omega)))
def Bd (j : Nat) (x : UInt64) : Prop := dF x ∧ dm x ≤ 2 ^ j * U1
theorem Bd.F {j : Nat} {x : UInt64} (h : Bd j x) : dF x := h.1
theorem Bd.mono {i j : Nat} {x : UInt64} (h : Bd i x) (hij : i ≤ j) : Bd j x := ⟨h.1, Nat.le_trans h.2 (Nat.mul_le_mul_right _ (Nat.pow_le_pow_right (by decide) hij))⟩
theorem Bd.lo {j : Nat} {x : UInt64} (h : Bd j x) : -((2 ^ j * U1 : Nat) : Int) ≤ dv x := by
  have h1 := h.2
  rw [← dv_abs] at h1
  omega
theorem Bd.hi {j : Nat} {x : UInt64} (h : Bd j x) : dv x ≤ ((2 ^ j * U1 : Nat) : Int) := by
  have h1 := h.2
  rw [← dv_abs] at h1
  omega
theorem Bd.of {j : Nat} {x : UInt64} (hj : j < 100) (hn : dN x) (h1 : -((2 ^ j * U1 : Nat) : Int) ≤ dv x) (h2 : dv x ≤ ((2 ^ j * U1 : Nat) : Int)) : Bd j x := by
  have h3 : dm x ≤ 2 ^ j * U1 := by
    rw [← dv_abs]
    generalize 2 ^ j * U1 = N at h1 h2 ⊢
    omega
  exact ⟨dF_small hn (Nat.le_trans h3 (Nat.mul_le_mul_right _ (Nat.pow_le_pow_right (by decide) (by omega)))), h3⟩
theorem dneg_pw {j : Nat} (h : j < 100) : dv (FP.dneg (pw j)) = -((2 ^ j * U1 : Nat) : Int) ∧ dN (FP.dneg (pw j)) := ⟨by rw [dneg_v, pw_v h], (dneg_F (pw_F h)).nn⟩
theorem Bd.add {j k : Nat} {x y : UInt64} (hx : Bd j x) (hy : Bd j y) (hk : j + 1 = k ∧ k < 100) : Bd k (FP.dadd x y) := by
  obtain ⟨rfl, hj⟩ := hk
  have e : 2 ^ (j + 1) * U1 = 2 ^ j * U1 + 2 ^ j * U1 := by rw [Nat.pow_succ, Nat.mul_comm (2 ^ j) 2, Nat.mul_assoc]; omega
  refine Bd.of hj (dadd_nn hx.F hy.F) ?_ ?_
  · rw [← (dneg_pw hj).1]
    refine dadd_ge hx.F hy.F (dneg_pw hj).2 ?_
    rw [(dneg_pw hj).1, e]
    have := hx.lo; have := hy.lo
    generalize 2 ^ j * U1 = N at *
    omega
  · rw [← pw_v hj]
    refine dadd_le hx.F hy.F (pw_n hj) ?_
    rw [pw_v hj, e]
    have := hx.hi; have := hy.hi
    generalize 2 ^ j * U1 = N at *
    omega
theorem Bd.neg {j : Nat} {x : UInt64} (hx : Bd j x) : Bd j (FP.dneg x) := ⟨dneg_F hx.1, by have h := hx.2; rw [← dv_abs] at h ⊢; rw [dneg_v, Int.natAbs_neg]; exact h⟩
theorem Bd.sub {j k : Nat} {x y : UInt64} (hx : Bd j x) (hy : Bd j y) (hj : j + 1 = k ∧ k < 100) : Bd k (FP.dsub x y) := by
  rw [dsub_add hy.F]; exact hx.add hy.neg hj
theorem fl_abs_mul {x y : Int} {a b : Nat} (hx : x.natAbs ≤ a) (hy : y.natAbs ≤ b) : -((a * b : Nat) : Int) ≤ x * y ∧ x * y ≤ ((a * b : Nat) : Int) := by
  have h1 : (x * y).natAbs ≤ a * b := by rw [Int.natAbs_mul]; exact Nat.mul_le_mul hx hy
  omega
theorem Bd.mul {i j k : Nat} {x y : UInt64} (hx : Bd i x) (hy : Bd j y) (hk : i + j = k ∧ k < 100) : Bd k (FP.dmul x y) := by
  obtain ⟨rfl, hj⟩ := hk
  have h1 : (dv x).natAbs ≤ 2 ^ i * U1 := by rw [dv_abs]; exact hx.2
  have h2 : (dv y).natAbs ≤ 2 ^ j * U1 := by rw [dv_abs]; exact hy.2
  obtain ⟨g1, g2⟩ := fl_abs_mul h1 h2
  have e : 2 ^ i * U1 * (2 ^ j * U1) = 2 ^ (i + j) * U1 * U1 := by rw [Nat.pow_add]; generalize U1 = u; ac_rfl
  rw [e] at g1 g2
  have eu : ((2 ^ 1074 : Nat) : Int) = (U1 : Int) := rfl
  refine Bd.of hj (dmul_nn hx.F hy.F) ?_ ?_
  · rw [← (dneg_pw hj).1]
    refine dmul_ge hx.F hy.F (dneg_pw hj).2 ?_
    rw [(dneg_pw hj).1, eu, Int.neg_mul, ← Int.natCast_mul]
    exact g1
  · rw [← pw_v hj]
    refine dmul_le hx.F hy.F (pw_n hj) ?_
    rw [pw_v hj, eu, ← Int.natCast_mul]
    exact g2
theorem Bd.div {i j k : Nat} {x y : UInt64} (hx : Bd i x) (hy : dF y) (h : U1 ≤ 2 ^ j * dm y) (hk : i + j = k ∧ k < 100) : Bd k (FP.ddiv x y) := by
  obtain ⟨rfl, hj⟩ := hk
  have h0 : 0 < dm y := Nat.pos_of_ne_zero (fun h0 => by rw [h0, Nat.mul_zero] at h; exact absurd U1_pos (by omega))
  have h3 : dm (FP.ddiv x y) ≤ dm (pw (i + j)) := by
    refine ddiv_mle hx.F hy h0 (pw_n hj) ?_
    rw [pw_m hj]
    show dm x * U1 ≤ _
    calc dm x * U1 ≤ 2 ^ i * U1 * (2 ^ j * dm y) := Nat.mul_le_mul hx.2 h
      _ = 2 ^ (i + j) * U1 * dm y := by rw [Nat.pow_add]; generalize U1 = u; ac_rfl
  rw [pw_m hj] at h3
  exact ⟨dF_small (ddiv_nn hx.F hy h0) (Nat.le_trans h3 (Nat.mul_le_mul_right _ (Nat.pow_le_pow_right (by decide) (by omega)))), h3⟩
/-! comparisons -/
theorem dc_spec {x y : UInt64} (hx : dN x) (hy : dN y) : FP.dcmp x y = some (compare (dv x) (dv y)) := by
  rw [FP.dcmp_core]
  exact FP.Core.dcmp_zval hx hy
theorem dc_nan {x y : UInt64} (h : ¬ (dN x ∧ dN y)) : FP.dcmp x y = none := by
  cases e : FP.dcmp x y with
  | none => rfl
  | some o => rw [FP.dcmp_core] at e; exact absurd (FP.Core.dcmp_some e) h
theorem cv_lt {x y : UInt64} {op : CmpOp} (hx : dN x) (hy : dN y) : Op.cmpValue (FP.dcmp x y) op < 0 ↔ dv x < dv y := by
  rw [dc_spec hx hy]
  rcases Int.lt_trichotomy (dv x) (dv y) with h | h | h
  · rw [(FP.Core.compare_lt_iff _ _).mpr h]; exact ⟨fun _ => h, fun _ => by cases op <;> decide⟩
  · rw [(FP.Core.compare_eq_iff _ _).mpr h]; exact ⟨fun h2 => absurd h2 (by cases op <;> decide), fun h2 => by omega⟩
  · rw [(FP.Core.compare_gt_iff _ _).mpr h]; exact ⟨fun h2 => absurd h2 (by cases op <;> decide), fun h2 => by omega⟩
theorem cv_gt {x y : UInt64} {op : CmpOp} (hx : dN x) (hy : dN y) : 0 < Op.cmpValue (FP.dcmp x y) op ↔ dv y < dv x := by
  rw [dc_spec hx hy]
  rcases Int.lt_trichotomy (dv x) (dv y) with h | h | h
  · rw [(FP.Core.compare_lt_iff _ _).mpr h]; exact ⟨fun h2 => absurd h2 (by cases op <;> decide), fun h2 => by omega⟩
  · rw [(FP.Core.compare_eq_iff _ _).mpr h]; exact ⟨fun h2 => absurd h2 (by cases op <;> decide), fun h2 => by omega⟩
  · rw [(FP.Core.compare_gt_iff _ _).mpr h]; exact ⟨fun _ => h, fun _ => by cases op <;> decide⟩
theorem cv_ge {x y : UInt64} {op : CmpOp} (hx : dN x) (hy : dN y) : 0 ≤ Op.cmpValue (FP.dcmp x y) op ↔ dv y ≤ dv x := by
  have h := cv_lt (op := op) hx hy
  constructor
  · intro h1
    refine Int.not_lt.mp fun h2 => ?_
    exact absurd (h.mpr h2) (by rw [Int32.not_lt]; exact h1)
  · intro h1
    rw [← Int32.not_lt]
    intro h2
    have := h.mp h2
    omega
theorem cv_le {x y : UInt64} {op : CmpOp} (hx : dN x) (hy : dN y) : Op.cmpValue (FP.dcmp x y) op ≤ 0 ↔ dv x ≤ dv y := by
  have h := cv_gt (op := op) hx hy
  constructor
  · intro h1
    refine Int.not_lt.mp fun h2 => ?_
    exact absurd (h.mpr h2) (by rw [Int32.not_lt]; exact h1)
  · intro h1
    rw [← Int32.not_lt]
    intro h2
    have := h.mp h2
    omega
/-- 'x >= y' that held: neither is a NaN -/
theorem cv_geN {x y : UInt64} (h : 0 ≤ Op.cmpValue (FP.dcmp x y) .l) : dN x ∧ dN y := by
  refine Classical.byContradiction fun hn => ?_
  rw [dc_nan hn] at h
  exact absurd h (by decide)
/-- 'x <= y' that held -/
theorem cv_leN {x y : UInt64} (h : Op.cmpValue (FP.dcmp x y) .g ≤ 0) : dN x ∧ dN y := by
  refine Classical.byContradiction fun hn => ?_
  rw [dc_nan hn] at h
  exact absurd h (by decide)
/-- 'x > y' that held -/
theorem cv_gtN {x y : UInt64} (h : 0 < Op.cmpValue (FP.dcmp x y) .l) : dN x ∧ dN y := by
  refine Classical.byContradiction fun hn => ?_
  rw [dc_nan hn] at h
  exact absurd h (by decide)
/-- 'x < y' that held -/
theorem cv_ltN {x y : UInt64} (h : Op.cmpValue (FP.dcmp x y) .g < 0) : dN x ∧ dN y := by
  refine Classical.byContradiction fun hn => ?_
  rw [dc_nan hn] at h
  exact absurd h (by decide)
