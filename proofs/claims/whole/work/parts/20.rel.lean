/-! class and model side by side -/
def rk (c : Nat → Int32) (n s : Nat) : Nat := ctF (rkB c s) n
def Ex (σ : gS) : Prop := (∀ m, sI σ 19 m = bI (decide (¬ sI σ 19 m = 0))) ∧ (∀ m, tn (sN σ 3) ≤ m → sI σ 19 m = 0 ∧ sF σ 18 m = FP.dconst0 ∧ sI σ 20 m = 0) ∧ (∀ q, q < nS σ → rk (sI σ 25) (nS σ) (odC σ q) = q) ∧ ∀ m, ∃ k, k < 16 ∧ sI σ 20 m = nI k
def Mn (σ : gS) : Prop := sN σ 6 = sN σ 0 ∧ sN σ 7 = sN σ 2 ∧ sN σ 8 = sN σ 3 ∧ sN σ 9 = sN σ 1 ∧ sN σ 10 = sN σ 4
def Ma (σ : gS) : Prop := sI σ 28 = sI σ 9 ∧ sI σ 29 = sI σ 10 ∧ sI σ 35 = sI σ 16 ∧ sI σ 39 = sI σ 19 ∧ sI σ 33 = sI σ 23 ∧ sI σ 42 = sI σ 25
def Mf (σ : gS) : Prop := sF σ 30 = sF σ 11 ∧ sF σ 31 = sF σ 12 ∧ sF σ 32 = sF σ 21 ∧ sF σ 34 = sF σ 22 ∧ sF σ 36 = sF σ 17 ∧ sF σ 38 = sF σ 18 ∧ sF σ 40 = sF σ 7 ∧ sF σ 41 = sF σ 24
def Md (σ : gS) : Prop := sD σ 3 = sD σ 0 ∧ sD σ 4 = sD σ 1 ∧ sD σ 5 = sD σ 2
def Mu (σ : gS) : Prop := ∀ c m, c < 4 → m < 8 → decide (¬ sI σ 37 (8 * c + m) = 0) = usC σ c m
def Rl (σ : gS) : Prop := Ic σ ∧ Ex σ ∧ Mn σ ∧ Ma σ ∧ Mf σ ∧ Md σ ∧ Mu σ
/-- the class's keys are the same -/
def ClE (τ t : gS) : Prop := (∀ k, k < 5 → sN t k = sN τ k) ∧ (∀ k, k < 3 → sD t k = sD τ k) ∧ (∀ k, k < 28 ∨ 45 ≤ k → sI t k = sI τ k) ∧ ∀ k, k < 28 → sF t k = sF τ k
theorem ClE.self (τ : gS) : ClE τ τ := ⟨fun _ _ => rfl, fun _ _ => rfl, fun _ _ => rfl, fun _ _ => rfl⟩
theorem ClE.trans {a b c : gS} (h : ClE a b) (g : ClE b c) : ClE a c := ⟨fun k hk => (g.1 k hk).trans (h.1 k hk), fun k hk => (g.2.1 k hk).trans (h.2.1 k hk), fun k hk => (g.2.2.1 k hk).trans (h.2.2.1 k hk), fun k hk => (g.2.2.2 k hk).trans (h.2.2.2 k hk)⟩
theorem ClE.n {τ t : gS} (h : ClE τ t) (k : Nat) (x : Int32) (hk : 5 ≤ k) : ClE τ (uN t k x) := ⟨fun j hj => (sN_ne t x (by omega)).trans (h.1 j hj), h.2.1, h.2.2.1, h.2.2.2⟩
theorem ClE.d {τ t : gS} (h : ClE τ t) (k : Nat) (x : UInt64) (hk : 3 ≤ k) : ClE τ (uD t k x) := ⟨h.1, fun j hj => (sD_ne t x (by omega)).trans (h.2.1 j hj), h.2.2.1, h.2.2.2⟩
theorem ClE.i {τ t : gS} (h : ClE τ t) (k : Nat) (x : Nat → Int32) (hk : 28 ≤ k ∧ k < 45) : ClE τ (uI t k x) := ⟨h.1, h.2.1, fun j hj => (sI_ne t x (by omega)).trans (h.2.2.1 j hj), h.2.2.2⟩
theorem ClE.f {τ t : gS} (h : ClE τ t) (k : Nat) (x : Nat → UInt64) (hk : 28 ≤ k) : ClE τ (uF t k x) := ⟨h.1, h.2.1, h.2.2.1, fun j hj => (sF_ne t x (by omega)).trans (h.2.2.2 j hj)⟩
theorem ClE.l {τ t : gS} (h : ClE τ t) (x : Nat → Int64) : ClE τ (uL t x) := h
theorem ClE.ph {τ t : gS} (h : ClE τ t) : phC t = phC τ := by
  obtain ⟨h1, h2, h3, h4⟩ := h
  unfold phC
  rw [h1 2 (by decide), h1 3 (by decide), h3 9 (by decide), h3 10 (by decide), h4 12 (by decide), h4 11 (by decide), h3 16 (by decide), h3 19 (by decide), h4 17 (by decide), h2 0 (by decide), h2 1 (by decide)]
theorem ClE.j {τ t : gS} (h : ClE τ t) : nJ t = nJ τ := congrArg tn (h.1 0 (by decide))
theorem ClE.s {τ t : gS} (h : ClE τ t) : nS t = nS τ := congrArg tn (h.1 4 (by decide))
theorem ClE.od {τ t : gS} (h : ClE τ t) (q : Nat) : odC t q = odC τ q := congrArg tn (congrFun (h.2.2.1 26 (by decide)) q)
theorem ClE.ir {τ t : gS} (h : ClE τ t) (d : Nat) : irC t d = irC τ d := by
  unfold irC
  rw [h.2.2.1 23 (by decide)]
theorem ClE.sv {τ t : gS} (h : ClE τ t) : svC t = svC τ := by
  unfold svC
  rw [h.1 1 (by decide)]
theorem Ic.cl {τ t : gS} (c : ClE τ t) (h : Ic τ) : Ic t := by
  unfold Ic
  rw [c.ph]
  obtain ⟨⟨a1, a2, a3, a4, a5, a6, a7⟩, h2, h3, h4, h5, h6, h7, h8, h9, h10, h11, h12, h13, h14, h15, h16⟩ := h
  obtain ⟨c1, c2, c3, c4⟩ := id c
  refine ⟨⟨?_, a2, ?_, a4, ?_, ?_, ?_⟩, ?_, h3, ?_, ?_, ?_, ?_, ⟨?_, ?_⟩, ⟨?_, ?_⟩, ?_, ?_, ?_, ?_, ?_, ?_, ?_⟩
  · rw [c1 2 (by decide)]; exact a1
  · rw [c1 3 (by decide)]; exact a3
  · rw [c3 9 (by decide), c3 10 (by decide)]; exact a5
  · rw [c3 16 (by decide)]; exact a6
  · intro j hj
    rw [c3 15 (by decide), c3 (45 + j) (by omega)]; exact a7 j hj
  · intro d hd
    rw [c4 13 (by decide)]; exact h2 d hd
  · rw [c4 7 (by decide)]; exact h4
  · rw [c4 18 (by decide)]; exact h5
  · rw [c2 2 (by decide)]; exact h6
  · rw [c4 12 (by decide), c4 11 (by decide)]; exact h7
  · rw [c1 0 (by decide), c.j]; exact h8.1
  · rw [c.j]; exact h8.2
  · rw [c1 4 (by decide), c.s]; exact h9.1
  · rw [c.s]; exact h9.2
  · rw [c4 24 (by decide), c.s]; exact h10
  · intro q hq
    rw [c.s] at hq ⊢
    rw [c3 26 (by decide), c.od]; exact h11 q hq
  · intro d hd
    rw [c.ir] at hd
    rw [c4 22 (by decide)]; exact h12 d hd
  · rw [c4 21 (by decide)]; exact h13
  · rw [c1 1 (by decide), c.sv]; exact h14
  · rw [c.j]; exact h15
  · rw [c.j]; exact h16
theorem Ex.cl {τ t : gS} (c : ClE τ t) (h : Ex τ) : Ex t := by
  obtain ⟨c1, c2, c3, c4⟩ := id c
  unfold Ex
  rw [c3 19 (by decide), c1 3 (by decide), c4 18 (by decide), c3 20 (by decide), c3 25 (by decide), c.s]
  refine ⟨h.1, h.2.1, fun q hq => ?_, h.2.2.2⟩
  rw [c.od]
  exact h.2.2.1 q hq
theorem us_cl {τ t : gS} (c : ClE τ t) (k m : Nat) : usC t k m = usC τ k m := by
  unfold usC
  rw [c.2.2.1 20 (by decide)]
/-- the model's keys are the same -/
def MoE (τ t : gS) : Prop := (∀ k, 6 ≤ k → sN t k = sN τ k) ∧ (∀ k, 3 ≤ k → sD t k = sD τ k) ∧ (∀ k, 28 ≤ k ∧ k < 45 → sI t k = sI τ k) ∧ ∀ k, 28 ≤ k ∧ k < 43 → sF t k = sF τ k
theorem MoE.self (τ : gS) : MoE τ τ := ⟨fun _ _ => rfl, fun _ _ => rfl, fun _ _ => rfl, fun _ _ => rfl⟩
theorem MoE.n {τ t : gS} (h : MoE τ t) (k : Nat) (x : Int32) (hk : k < 6) : MoE τ (uN t k x) := ⟨fun j hj => (sN_ne t x (by omega)).trans (h.1 j hj), h.2.1, h.2.2.1, h.2.2.2⟩
theorem MoE.d {τ t : gS} (h : MoE τ t) (k : Nat) (x : UInt64) (hk : k < 3) : MoE τ (uD t k x) := ⟨h.1, fun j hj => (sD_ne t x (by omega)).trans (h.2.1 j hj), h.2.2.1, h.2.2.2⟩
theorem MoE.i {τ t : gS} (h : MoE τ t) (k : Nat) (x : Nat → Int32) (hk : k < 28 ∨ 45 ≤ k) : MoE τ (uI t k x) := ⟨h.1, h.2.1, fun j hj => (sI_ne t x (by omega)).trans (h.2.2.1 j hj), h.2.2.2⟩
theorem MoE.f {τ t : gS} (h : MoE τ t) (k : Nat) (x : Nat → UInt64) (hk : k < 28 ∨ 43 ≤ k) : MoE τ (uF t k x) := ⟨h.1, h.2.1, h.2.2.1, fun j hj => (sF_ne t x (by omega)).trans (h.2.2.2 j hj)⟩
theorem MoE.l {τ t : gS} (h : MoE τ t) (x : Nat → Int64) : MoE τ (uL t x) := h
theorem Mi.mo {τ t : gS} {H : Ph} {nj n : Nat} {sv : Bool} (c : MoE τ t) (h : Mi H nj n sv τ) : Mi H nj n sv t := by
  obtain ⟨c1, c2, c3, c4⟩ := c
  obtain ⟨⟨⟨a1, a2⟩, ⟨a3, a4⟩, a5, a6, ⟨a7, a8⟩, a9, a10⟩, h2, h3, h4, h5, h6, ⟨h7, h8, h9⟩, h10, h11⟩ := h
  refine ⟨⟨⟨?_, a2⟩, ⟨?_, a4⟩, ?_, ?_, ⟨?_, ?_⟩, ?_, a10⟩, h2, ?_, ?_, ?_, ?_, ⟨?_, h8, ?_⟩, ?_, ?_⟩
  · rw [c1 7 (by decide)]; exact a1
  · rw [c1 8 (by decide)]; exact a3
  · rw [c3 28 (by decide), c3 29 (by decide), c4 31 (by decide), c4 30 (by decide)]; exact a5
  · rw [c3 35 (by decide), c3 39 (by decide), c4 36 (by decide)]; exact a6
  · rw [c2 3 (by decide)]; exact a7
  · rw [c2 4 (by decide)]; exact a8
  · rw [c1 6 (by decide)]; exact a9
  · rw [c4 40 (by decide)]; exact h3
  · rw [c4 38 (by decide)]; exact h4
  · rw [c2 5 (by decide)]; exact h5
  · rw [c1 9 (by decide)]; exact h6
  · rw [c1 10 (by decide)]; exact h7
  · rw [c4 41 (by decide)]; exact h9
  · unfold irM
    rw [c3 33 (by decide), c4 34 (by decide)]; exact h10
  · rw [c4 32 (by decide)]; exact h11
theorem Rl.i {σ : gS} (h : Rl σ) : Ic σ := h.1
theorem Rl.mi {σ : gS} (h : Rl σ) : Mi (phC σ) (nJ σ) (nS σ) (svC σ) σ := by
  obtain ⟨hI, hE, ⟨n6, n7, n8, n9, n10⟩, ⟨i28, i29, i35, i39, i33, i42⟩, ⟨f30, f31, f32, f34, f36, f38, f40, f41⟩, ⟨d3, d4, d5⟩, hU⟩ := h
  have hW := hI.w
  refine ⟨⟨⟨?_, hW.nd16⟩, ⟨?_, hW.nm8⟩, fun d hd => ?_, fun m hm => ?_, ⟨d3, d4⟩, ?_, hI.j.2⟩, hI.p, ?_, ?_, ?_, ?_, ⟨?_, hI.s.2, ?_⟩, ?_, ?_⟩
  · rw [n7]; exact hW.nd
  · rw [n8]; exact hW.nm
  · rw [i28, i29, f31, f30]
    have h1 := hW.2.2.2.2.1 d hd
    have h2 := hI.wl d hd
    have h3 := hI.ab d hd
    exact ⟨h1.1.1, h1.2.1.1, h1.2.2, rfl, h2.1, h2.2, h3.1, h3.2⟩
  · rw [i35, i39, f36]
    have h1 := hW.mj hm
    exact ⟨h1.1, hE.1 m, rfl, hI.mj m hm, h1.2.2⟩
  · rw [n6]; exact hI.j.1
  · rw [f40]; exact hI.P
  · rw [f38]; exact hI.G
  · rw [d5]; exact hI.q
  · rw [n9]; exact hI.sv
  · rw [n10]; exact hI.s.1
  · rw [f41]; exact hI.sw
  · unfold irM
    rw [i33, f34]; exact hI.ir
  · rw [f32]; exact hI.lk
/-- the model has said what it throws: nothing else -/
theorem Rl.thr {σ : gS} (h : Rl σ) (x : Int32) : Rl (uN σ 5 x) := by
  have c : ClE σ (uN σ 5 x) := (ClE.self σ).n 5 x (by decide)
  refine ⟨h.1.cl c, h.2.1.cl c, h.2.2.1, h.2.2.2.1, h.2.2.2.2.1, h.2.2.2.2.2.1, fun k m hk hm => ?_⟩
  rw [us_cl c]
  exact h.2.2.2.2.2.2 k m hk hm
theorem Rl.outL {σ : gS} (h : Rl σ) (f : Nat → Int64) : Rl (uL σ f) := h
