/-! the values at the start, and that class and model are alike there -/
def s0 : gS := (fun k => match k with | 0 => 1 | 6 => 1 | _ => 0, fun k => match k with | 0 => 4634204016564240384 | 3 => 4634204016564240384 | 1 => 4598175219545276416 | 4 => 4598175219545276416 | _ => FP.dconst0, fun _ _ => 0, fun _ _ => FP.dconst0, fun _ => 0)
theorem s0_d : pD (phC s0) = 0 := by decide +kernel
theorem s0_m : pM (phC s0) = 0 := by decide +kernel
theorem s0_n : nS s0 = 0 := by decide +kernel
theorem s0_S : okS (pS (phC s0)) ∧ okS (pL (phC s0)) := by
  have h1 : dN 4634204016564240384 ∧ dm 4634204016564240384 ≤ 2 ^ 10 * U1 ∧ 0 ≤ dv 4634204016564240384 ∧ dm 4634204016564240384 ≤ 2 ^ 100 * U1 := by decide +kernel
  have h2 : dN 4598175219545276416 ∧ dm 4598175219545276416 ≤ 2 ^ 10 * U1 ∧ 0 ≤ dv 4598175219545276416 ∧ dm 4598175219545276416 ≤ 2 ^ 100 * U1 := by decide +kernel
  exact ⟨⟨⟨dF_small h1.1 h1.2.2.2, h1.2.1⟩, h1.2.2.1⟩, ⟨⟨dF_small h2.1 h2.2.2.2, h2.2.1⟩, h2.2.2.1⟩⟩
theorem s0_Ic : Ic s0 := by
  have nd : ∀ d, ¬ d < pD (phC s0) := fun d h => by rw [s0_d] at h; exact Nat.not_lt_zero _ h
  have nm : ∀ d, ¬ d < pM (phC s0) := fun d h => by rw [s0_m] at h; exact Nat.not_lt_zero _ h
  have ns : ∀ d, ¬ d < nS s0 := fun d h => by rw [s0_n] at h; exact Nat.not_lt_zero _ h
  refine ⟨⟨by decide +kernel, by decide +kernel, by decide +kernel, by decide +kernel, fun d hd => absurd hd (nd d), fun m hm => absurd hm (nm m), fun j hj => ⟨?_, fun d hd => absurd hd (nd d)⟩⟩, fun d hd => absurd hd (nd d), ⟨by decide +kernel, by decide +kernel, fun d hd => absurd hd (nd d), fun m hm => absurd hm (nm m), s0_S⟩, fun j _ => okP_0, fun m hm => absurd hm (nm m), okQ_0, fun d hd => absurd hd (nd d), ⟨by decide +kernel, by decide +kernel, by decide +kernel⟩, ⟨by decide +kernel, by decide +kernel⟩, fun q hq => absurd hq (ns q), fun q hq => absurd hq (ns q), fun d hd => ?_, fun d => okR_0, by decide +kernel, fun d hd => absurd hd (nd d), fun m hm => absurd hm (nm m)⟩
  · rw [s0_d]
    rfl
  · exact absurd hd (by show ¬ decide (¬ (0 : Int32) = 0) = true; decide)
theorem s0_Rl : Rl s0 := by
  refine ⟨s0_Ic, ⟨fun m => ?_, fun m _ => ⟨rfl, rfl, rfl⟩, fun q hq => ?_, fun m => ⟨0, by decide, rfl⟩⟩, ⟨rfl, rfl, rfl, rfl, rfl⟩, ⟨rfl, rfl, rfl, rfl, rfl, rfl⟩, ⟨rfl, rfl, rfl, rfl, rfl, rfl, rfl, rfl⟩, ⟨rfl, rfl, rfl⟩, fun c m hc _ => ?_⟩
  · show (0 : Int32) = bI (decide (¬ (0 : Int32) = 0))
    decide
  · rw [s0_n] at hq
    exact absurd hq (Nat.not_lt_zero _)
  · show decide (¬ (0 : Int32) = 0) = decide (((0 : Int32) >>> (nI c &&& 31)) &&& nI 1 = nI 1)
    rcases (show c = 0 ∨ c = 1 ∨ c = 2 ∨ c = 3 by omega) with rfl | rfl | rfl | rfl <;> decide
