/-! the class: what holds between calls, and that balancing and widths keep it -/
def nJ (σ : gS) : Nat := tn (sN σ 0)
def nS (σ : gS) : Nat := tn (sN σ 4)
def irC (σ : gS) (d : Nat) : Bool := decide (¬ sI σ 23 d = 0)
def svC (σ : gS) : Bool := decide (¬ sN σ 1 = 0)
def odC (σ : gS) (q : Nat) : Nat := tn (sI σ 26 q)
/-- the same words over ducts and machines h -/
def WcH (σ : gS) (h : Ph) : Prop := sN σ 2 = nI (pD h) ∧ pD h ≤ 16 ∧ sN σ 3 = nI (pM h) ∧ pM h ≤ 8 ∧
  (∀ d, d < pD h → (sI σ 9 d = nI (pA h d) ∧ pA h d < 10) ∧ (sI σ 10 d = nI (pB h d) ∧ pB h d < 10) ∧ pA h d ≠ pB h d) ∧
  (∀ m, m < pM h → sI σ 16 m = nI (pJ h m) ∧ pJ h m < 10 ∧ pJ h m ≠ 0) ∧
  (∀ j, j < 10 → sI σ 15 j = nI (ctF (atj h j) (pD h)) ∧ ∀ d, d < pD h → atj h j d = true → sI σ (45 + j) (ctF (atj h j) d) = nI d)
def EcH (σ : gS) (h : Ph) : Prop := ∀ d, d < pD h → sF σ 13 d = pE h d
def I0H (σ : gS) (h : Ph) : Prop := (∀ d, d < pD h → okW (sF σ 12 d) ∧ okW (sF σ 11 d)) ∧ (sN σ 0 = nI (nJ σ) ∧ 1 ≤ nJ σ ∧ nJ σ ≤ 10) ∧ (sN σ 4 = nI (nS σ) ∧ nS σ ≤ 6) ∧ (∀ s, s < nS σ → okW (sF σ 24 s)) ∧ (∀ q, q < nS σ → sI σ 26 q = nI (odC σ q) ∧ odC σ q < nS σ) ∧ (∀ d, irC σ d = true → d < pD h ∧ okD (sF σ 22 d)) ∧ (∀ d, okR (sF σ 21 d)) ∧ sN σ 1 = bI (svC σ) ∧ (∀ d, d < pD h → pA h d < nJ σ ∧ pB h d < nJ σ) ∧ (∀ m, m < pM h → pJ h m < nJ σ)
def IcH (σ : gS) (h : Ph) : Prop := WcH σ h ∧ EcH σ h ∧ PhF h ∧ (∀ j, j < 10 → okP (sF σ 7 j)) ∧ (∀ m, m < pM h → okG (sF σ 18 m)) ∧ okQ (sD σ 2) ∧ I0H σ h
def Ic (σ : gS) : Prop := IcH σ (phC σ)
theorem Ic.w {σ : gS} (h : Ic σ) : Wc σ := h.1
theorem Ic.e {σ : gS} (h : Ic σ) : Ec σ := h.2.1
theorem Ic.p {σ : gS} (h : Ic σ) : PhF (phC σ) := h.2.2.1
theorem Ic.P {σ : gS} (h : Ic σ) : Pc_ σ := h.2.2.2.1
theorem Ic.G {σ : gS} (h : Ic σ) : Gc_ σ := h.2.2.2.2.1
theorem Ic.q {σ : gS} (h : Ic σ) : okQ (sD σ 2) := h.2.2.2.2.2.1
theorem Ic.wl {σ : gS} (h : Ic σ) : ∀ d, d < pD (phC σ) → okW (sF σ 12 d) ∧ okW (sF σ 11 d) := h.2.2.2.2.2.2.1
theorem Ic.j {σ : gS} (h : Ic σ) : sN σ 0 = nI (nJ σ) ∧ 1 ≤ nJ σ ∧ nJ σ ≤ 10 := h.2.2.2.2.2.2.2.1
theorem Ic.s {σ : gS} (h : Ic σ) : sN σ 4 = nI (nS σ) ∧ nS σ ≤ 6 := h.2.2.2.2.2.2.2.2.1
theorem Ic.sw {σ : gS} (h : Ic σ) : ∀ s, s < nS σ → okW (sF σ 24 s) := h.2.2.2.2.2.2.2.2.2.1
theorem Ic.od {σ : gS} (h : Ic σ) : ∀ q, q < nS σ → sI σ 26 q = nI (odC σ q) ∧ odC σ q < nS σ := h.2.2.2.2.2.2.2.2.2.2.1
theorem Ic.ir {σ : gS} (h : Ic σ) : ∀ d, irC σ d = true → d < pD (phC σ) ∧ okD (sF σ 22 d) := h.2.2.2.2.2.2.2.2.2.2.2.1
theorem Ic.lk {σ : gS} (h : Ic σ) : ∀ d, okR (sF σ 21 d) := h.2.2.2.2.2.2.2.2.2.2.2.2.1
theorem Ic.sv {σ : gS} (h : Ic σ) : sN σ 1 = bI (svC σ) := h.2.2.2.2.2.2.2.2.2.2.2.2.2.1
theorem Ic.ab {σ : gS} (h : Ic σ) : ∀ d, d < pD (phC σ) → pA (phC σ) d < nJ σ ∧ pB (phC σ) d < nJ σ := h.2.2.2.2.2.2.2.2.2.2.2.2.2.2.1
theorem Ic.mj {σ : gS} (h : Ic σ) : ∀ m, m < pM (phC σ) → pJ (phC σ) m < nJ σ := h.2.2.2.2.2.2.2.2.2.2.2.2.2.2.2
theorem svC_b {σ : gS} {b : Bool} (h : sN σ 1 = bI b) : svC σ = b := by
  unfold svC
  rw [h]
  cases b
  · exact decide_eq_false (fun h => h rfl)
  · exact decide_eq_true (by decide)
theorem sv_bI (b : Bool) : decide (¬ bI b = 0) = b := by cases b <;> decide
theorem Ic_N1 {σ : gS} (h : Ic σ) (b : Bool) : Ic (uN σ 1 (bI b)) := by
  obtain ⟨h1, h2, h3, h4, h5, h6, h7, h8, h9, h10, h11, h12, h13, h14, h15, h16⟩ := h
  exact ⟨h1, h2, h3, h4, h5, h6, h7, h8, h9, h10, h11, h12, h13, congrArg bI (svC_b (σ := uN σ 1 (bI b)) rfl).symm, h15, h16⟩
theorem swW_at {f : Nat → UInt64} {w : UInt64} : ∀ {n d : Nat}, d < n → swW f w n d = w
  | 0, _, h => absurd h (Nat.not_lt_zero _)
  | n + 1, d, h => by
    show vf_upd (swW f w n) n w d = w
    by_cases e : d = n
    · subst e; exact vf_at
    · rw [vf_ne e]; exact swW_at (by omega)
theorem swE_at {f l : Nat → UInt64} {w : UInt64} : ∀ {n d : Nat}, d < n → swE f l w n d = eas w (l d)
  | 0, _, h => absurd h (Nat.not_lt_zero _)
  | n + 1, d, h => by
    show vf_upd (swE f l w n) n (eas w (l n)) d = _
    by_cases e : d = n
    · subst e; exact vf_at
    · rw [vf_ne e]; exact swE_at (by omega)
def setE (h : Ph) (e : Nat → UInt64) : Ph := (h.1, h.2.1, h.2.2.1, h.2.2.2.1, e, h.2.2.2.2.2.1, h.2.2.2.2.2.2.1, h.2.2.2.2.2.2.2.1, h.2.2.2.2.2.2.2.2.1, h.2.2.2.2.2.2.2.2.2)
theorem phC_sw (σ : gS) (w : UInt64) (n : Nat) : phC (swS σ w n) = setE (phC σ) (fun d => eas (swW (sF σ 12) w n d) (sF σ 11 d)) := rfl
theorem IcH_sw {σ : gS} {h : Ph} {w : UInt64} (H : IcH σ h) (hw : okW w) : IcH (swS σ w (pD h)) (setE h (fun d => eas (swW (sF σ 12) w (pD h) d) (sF σ 11 d))) := by
  obtain ⟨h1, h2, h3, h4, h5, h6, h7, h8⟩ := H
  have e12 : ∀ d, d < pD h → swW (sF σ 12) w (pD h) d = w := fun d hd => swW_at hd
  refine ⟨h1, fun d hd => ?_, ⟨h3.1, h3.2.1, fun d hd => ⟨?_, (h3.2.2.1 d hd).2⟩, h3.2.2.2⟩, h4, h5, h6, fun d hd => ⟨?_, (h7 d hd).2⟩, h8⟩
  · show swE (sF σ 13) (sF σ 11) w (pD h) d = eas (swW (sF σ 12) w (pD h) d) (sF σ 11 d)
    have hd : d < pD h := hd
    rw [swE_at hd, e12 d hd]
  · show okE (eas (swW (sF σ 12) w (pD h) d) (sF σ 11 d))
    have hd : d < pD h := hd
    rw [e12 d hd]
    exact (eas_ok hw (h7 d hd).2).2.2.1
  · show okW (swW (sF σ 12) w (pD h) d)
    have hd : d < pD h := hd
    rw [e12 d hd]
    exact hw
theorem Ic_sw {σ : gS} (h : Ic σ) {w : UInt64} (hw : okW w) : Ic (swS σ w (pD (phC σ))) := by
  unfold Ic
  rw [phC_sw]
  exact IcH_sw h hw
theorem blN_ok {h : Ph} (hp : PhF h) : ∀ (f : Nat) {s : (Nat → UInt64) × UInt64} {g : Nat → UInt64} {R : Nat}, SdF s → (∀ m, m < pM h → okG (g m)) → SdF (blN h f s g R).2.1 ∧ ∀ m, m < pM h → okG ((blN h f s g R).2.2 m)
  | 0, _, _, _, hs, hg => ⟨hs, hg⟩
  | f + 1, s, g, R, hs, hg => by
    cases e : seK h g s with
    | none =>
      rw [blN_none e]
      exact ⟨itR_ok hp hg hs _, hg⟩
    | some k =>
      rw [blN_some e]
      have h1 := itR_ok hp hg hs k
      have h2 := clG_ok hp h1.1 hg _ (Nat.le_refl _)
      split
      · exact blN_ok hp f h1 h2
      · exact ⟨h1, h2⟩
theorem opZ_P {σ : gS} {c : Nat} : ∀ j, j < 10 → okP (sF (opZ σ c) 7 j) := fun j hj => by
  have e : sF (opZ σ c) 7 j = _ := zrN_at (P := sF σ 7) (n := 10) hj
  rw [e]
  exact okP_0
theorem opZ_G {σ : gS} {c : Nat} : ∀ m, m < pM (phC σ) → okG (sF (opZ σ c) 18 m) := fun m hm => by
  have e : sF (opZ σ c) 18 m = _ := gtN_at (σ := σ) (c := c) (n := pM (phC σ)) (m := m) hm
  rw [e]
  exact gt_ok _
def setO (h : Ph) (o : Nat → Bool) : Ph := (h.1, h.2.1, h.2.2.1, h.2.2.2.1, h.2.2.2.2.1, h.2.2.2.2.2.1, o, h.2.2.2.2.2.2.2.1, h.2.2.2.2.2.2.2.2.1, h.2.2.2.2.2.2.2.2.2)
theorem PhF_setO {h : Ph} {o : Nat → Bool} (hp : PhF h) : PhF (setO h o) := hp
def opO (σ : gS) (c : Nat) : Nat → Bool := fun m => decide (¬ opN σ c (pM (phC σ)) m = 0)
theorem phC_opZ (σ : gS) (c : Nat) : phC (opZ σ c) = setO (phC σ) (opO σ c) := rfl
theorem pM_opZ (σ : gS) (c : Nat) : pM (phC (opZ σ c)) = pM (phC σ) := by rw [phC_opZ]; rfl
theorem blA_ok {σ : gS} (h : Ic σ) (c : Nat) : SdF (blA (opZ σ c)).2.1 ∧ ∀ m, m < pM (phC σ) → okG ((blA (opZ σ c)).2.2 m) := by
  have hp : PhF (phC (opZ σ c)) := by rw [phC_opZ]; exact PhF_setO h.p
  have h0 := blN_ok hp 10 (s := (sF (opZ σ c) 7, sD (opZ σ c) 2)) (g := sF (opZ σ c) 18) (R := 0) ⟨opZ_P (σ := σ) (c := c), okQ_0⟩ (by rw [pM_opZ]; exact opZ_G)
  rw [pM_opZ] at h0
  exact h0
theorem IcH_opZ {σ : gS} {h : Ph} {c n : Nat} {w : Nat → UInt64} {s : (Nat → UInt64) × UInt64} {g : Nat → UInt64} {o : Nat → Bool} (H : IcH σ h) (hs : SdF s) (hg : ∀ m, m < pM h → okG (g m)) : IcH (baS (uF (uD (opS σ c n) 2 FP.dconst0) 7 (zrN (sF σ 7) 10)) w s g) (setO h o) := by
  obtain ⟨⟨a1, a2, a3, a4, a5, a6, a7⟩, h2, h3, h4, h5, h6, h7⟩ := H
  refine ⟨⟨a1, a2, a3, a4, a5, a6, fun j hj => ⟨(a7 j hj).1, fun d hd ha => ?_⟩⟩, h2, h3, hs.1, hg, hs.2, h7⟩
  have e : sI (baS (uF (uD (opS σ c n) 2 FP.dconst0) 7 (zrN (sF σ 7) 10)) w s g) (45 + j) = sI σ (45 + j) := sI_ne (k := 19) (j := 45 + j) σ (opN σ c n) (by omega)
  rw [e]
  exact (a7 j hj).2 d hd ha
theorem phC_ba (τ : gS) (w : Nat → UInt64) (s : (Nat → UInt64) × UInt64) (g : Nat → UInt64) : phC (baS τ w s g) = phC τ := rfl
theorem Ic_ba {σ : gS} (h : Ic σ) (c : Nat) (w : Nat → UInt64) {s : (Nat → UInt64) × UInt64} {g : Nat → UInt64} (hs : SdF s) (hg : ∀ m, m < pM (phC σ) → okG (g m)) : Ic (baS (opZ σ c) w s g) := by
  unfold Ic
  rw [phC_ba, phC_opZ]
  exact IcH_opZ h hs hg
/-- one size tried: widths, opened, balanced -/
def trT (τ : gS) (c s : Nat) : gS := opZ (swS τ (sF τ 24 s) (pD (phC τ))) c
def trS (τ : gS) (c s : Nat) (w : Nat → UInt64) : gS := uN (baS (trT τ c s) w (blA (trT τ c s)).2.1 (blA (trT τ c s)).2.2) 1 (bI (blA (trT τ c s)).1.isSome)
def trK (τ : gS) : Bool := svC τ && allB (srB (phC τ) (sF τ 7) (sF τ 18)) (pM (phC τ))
/-- the first k sizes tried, none of them good -/
def trR (σ : gS) (c : Nat) : Nat → gS → Prop
  | 0, τ => τ = σ
  | k + 1, τ => ∃ (τ0 : gS) (w : Nat → UInt64), trR σ c k τ0 ∧ τ = trS τ0 c (odC σ k) w ∧ trK τ = false
theorem trS_sz (τ : gS) (c s : Nat) (w : Nat → UInt64) : nS (trS τ c s w) = nS τ ∧ sI (trS τ c s w) 26 = sI τ 26 ∧ sF (trS τ c s w) 24 = sF τ 24 ∧ pD (phC (trS τ c s w)) = pD (phC τ) := ⟨rfl, rfl, rfl, by
  show pD (phC (baS (trT τ c s) w (blA (trT τ c s)).2.1 (blA (trT τ c s)).2.2)) = _
  rw [phC_ba]
  unfold trT
  rw [phC_opZ, phC_sw]
  rfl⟩
theorem Ic_tr {τ : gS} (h : Ic τ) {c s : Nat} (hs : s < nS τ) (w : Nat → UInt64) : Ic (trS τ c s w) := by
  have h1 := Ic_sw h (h.sw s hs)
  have h2 := blA_ok h1 c
  unfold trS trT
  exact Ic_N1 (Ic_ba h1 c w h2.1 h2.2) _
theorem trR_ok {σ : gS} (h : Ic σ) {c : Nat} : ∀ {k : Nat} {τ : gS}, k ≤ nS σ → trR σ c k τ → Ic τ ∧ nS τ = nS σ ∧ sI τ 26 = sI σ 26 ∧ sF τ 24 = sF σ 24 ∧ pD (phC τ) = pD (phC σ)
  | 0, τ, _, e => by
    cases e
    exact ⟨h, rfl, rfl, rfl, rfl⟩
  | k + 1, τ, hk, ⟨τ0, w, e1, e2, _⟩ => by
    obtain ⟨g1, g2, g3, g4, g5⟩ := trR_ok h (k := k) (by omega) e1
    have h5 := trS_sz τ0 c (odC σ k) w
    rw [e2]
    refine ⟨Ic_tr g1 (by rw [g2]; exact (h.od k (by omega)).2) w, ?_, ?_, ?_, ?_⟩
    · exact h5.1.trans g2
    · exact h5.2.1.trans g3
    · exact h5.2.2.1.trans g4
    · exact h5.2.2.2.trans g5
/-! codes: 0 where a call is taken, else which of its exceptions -/
abbrev inR (a : Int32) (n : Nat) : Prop := ¬ a < 0 ∧ a < nI n
theorem inR_of {a : Int32} {n : Nat} (h : inR a n) (hn : n < 2 ^ 31) : ∃ j, j < n ∧ a = nI j := by
  obtain ⟨j, hj, e⟩ := nI_of h.1
  refine ⟨j, ?_, e⟩
  have h2 := h.2
  rw [e] at h2
  exact (nI_ltI hj hn).mp h2
theorem inR_nI {j n : Nat} (h : j < n) (hn : n < 2 ^ 31) : inR (nI j) n := ⟨nI_pos (by omega), nI_lt h hn⟩
abbrev k125 : UInt64 := 4593671619917905920
abbrev k100 : UInt64 := 4636737291354636288
abbrev k1000 : UInt64 := 4652007308841189376
abbrev k10000 : UInt64 := 4666723172467343360
def cdJoint (nj : Nat) : Nat := if nj < 10 then 0 else 1
def cdDuct (nj nd : Nat) (a b : Int32) (l w : UInt64) : Nat := if ¬ (inR a nj ∧ inR b nj) then 1 else if ¬ (a ≠ b ∧ wiB l k125 k100 = true ∧ wiB w k125 k100 = true) then 2 else if ¬ nd < 16 then 3 else 0
def cdMach (nj nm : Nat) (a : Int32) (need : UInt64) : Nat := if ¬ inR a nj then 1 else if ¬ (a ≠ 0 ∧ wiB need k125 k1000 = true) then 2 else if ¬ nm < 8 then 3 else 0
def cdUse (nm : Nat) (c m : Int32) : Nat := if inR c 4 ∧ inR m nm then 0 else 1
def cdFan (s f : UInt64) : Nat := if wiB s FP.dconst0 k1000 = true ∧ wiB f FP.dconst0 k1000 = true then 0 else 1
def cdSolve (c : Int32) : Nat := if inR c 4 then 0 else 1
def cdQ (n w : Nat) (sv : Bool) (a b : Int32) : Nat := if ¬ (inR a n ∧ inR b w) then 1 else if sv = true then 0 else 2
def cdKeeps (sv : Bool) (least : UInt64) : Nat := if Op.cmpValue (FP.dcmp least FP.dconst0) .g < 0 then 1 else if sv = true then 0 else 2
def cdList (ns : Nat) (w : UInt64) (x : Int32) : Nat := if ¬ (wiB w k125 k100 = true ∧ ¬ x < 0 ∧ x ≤ 1000000) then 1 else if ns < 6 then 0 else 2
def cdSize (ns : Nat) (c : Int32) : Nat := if ¬ inR c 4 then 1 else if 0 < ns then 0 else 2
def cdRead (nd : Nat) (d : Int32) (v : UInt64) : Nat := if ¬ inR d nd then 1 else if wiB v FP.dconst0 k10000 = true then 0 else 2
def cdFit (sv : Bool) (r : Int32) : Nat := if ¬ (¬ r < 0 ∧ r ≤ nI 50) then 1 else if sv = true then 0 else 2
def cdCount (w : Int32) : Nat := if inR w 4 then 0 else 1
/-- leaks behind n rounds -/
def fiN (h : Ph) (P rd : Nat → UInt64) (ir : Nat → Bool) (lk : Nat → UInt64) : Nat → (Nat → UInt64)
  | 0 => lk
  | n + 1 => apN h P rd ir (fiN h P rd ir lk n) 16
theorem fiN_ok {h : Ph} (hp : PhF h) {P rd lk : Nat → UInt64} {ir : Nat → Bool} (hP : ∀ j, j < 10 → okP (P j)) (hr : ∀ d, ir d = true → d < pD h ∧ okD (rd d)) (hl : ∀ d, okR (lk d)) : ∀ n d, okR (fiN h P rd ir lk n d)
  | 0 => hl
  | n + 1 => apN_ok hp hP hr (fiN_ok hp hP hr hl n) 16
