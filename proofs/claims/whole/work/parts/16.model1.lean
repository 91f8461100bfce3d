/-! the model: what its numbers stand for, its inner methods -/
def Mw (H : Ph) (nj : Nat) (σ : gS) : Prop := (sN σ 7 = nI (pD H) ∧ pD H ≤ 16) ∧ (sN σ 8 = nI (pM H) ∧ pM H ≤ 8) ∧
  (∀ d, d < pD H → sI σ 28 d = nI (pA H d) ∧ sI σ 29 d = nI (pB H d) ∧ pA H d ≠ pB H d ∧ eas (sF σ 31 d) (sF σ 30 d) = pE H d ∧ okW (sF σ 31 d) ∧ okW (sF σ 30 d) ∧ pA H d < nj ∧ pB H d < nj) ∧
  (∀ m, m < pM H → sI σ 35 m = nI (pJ H m) ∧ sI σ 39 m = bI (pO H m) ∧ sF σ 36 m = pN H m ∧ pJ H m < nj ∧ pJ H m ≠ 0) ∧ (sD σ 3 = pS H ∧ sD σ 4 = pL H) ∧ (sN σ 6 = nI nj ∧ 1 ≤ nj ∧ nj ≤ 10)
theorem Mw.nd {H : Ph} {nj : Nat} {σ : gS} (h : Mw H nj σ) : sN σ 7 = nI (pD H) := h.1.1
theorem Mw.nd16 {H : Ph} {nj : Nat} {σ : gS} (h : Mw H nj σ) : pD H ≤ 16 := h.1.2
theorem Mw.nm {H : Ph} {nj : Nat} {σ : gS} (h : Mw H nj σ) : sN σ 8 = nI (pM H) := h.2.1.1
theorem Mw.nm8 {H : Ph} {nj : Nat} {σ : gS} (h : Mw H nj σ) : pM H ≤ 8 := h.2.1.2
theorem Mw.du {H : Ph} {nj : Nat} {σ : gS} (h : Mw H nj σ) {d : Nat} (hd : d < pD H) : sI σ 28 d = nI (pA H d) ∧ sI σ 29 d = nI (pB H d) ∧ pA H d ≠ pB H d ∧ eas (sF σ 31 d) (sF σ 30 d) = pE H d ∧ okW (sF σ 31 d) ∧ okW (sF σ 30 d) ∧ pA H d < nj ∧ pB H d < nj := h.2.2.1 d hd
theorem Mw.ma {H : Ph} {nj : Nat} {σ : gS} (h : Mw H nj σ) {m : Nat} (hm : m < pM H) : sI σ 35 m = nI (pJ H m) ∧ sI σ 39 m = bI (pO H m) ∧ sF σ 36 m = pN H m ∧ pJ H m < nj ∧ pJ H m ≠ 0 := h.2.2.2.1 m hm
theorem Mw.S {H : Ph} {nj : Nat} {σ : gS} (h : Mw H nj σ) : sD σ 3 = pS H := h.2.2.2.2.1.1
theorem Mw.L {H : Ph} {nj : Nat} {σ : gS} (h : Mw H nj σ) : sD σ 4 = pL H := h.2.2.2.2.1.2
theorem Mw.j {H : Ph} {nj : Nat} {σ : gS} (h : Mw H nj σ) : sN σ 6 = nI nj ∧ 1 ≤ nj ∧ nj ≤ 10 := h.2.2.2.2.2
def inB (v a b : Int32) : Bool := decide (a ≤ v) && decide (v ≤ b)
def otI (H : Ph) (d j : Nat) : Int32 := if pA H d = j then nI (pB H d) else if pB H d = j then nI (pA H d) else -1
theorem nI_m1 {n : Nat} (h : n < 2 ^ 31) : ¬ nI n = -1 := fun e => by
  have h2 : (nI n).toInt = (-1 : Int32).toInt := congrArg Int32.toInt e
  rw [nI_toInt h] at h2
  have h3 : (-1 : Int32).toInt = -1 := by decide
  omega
theorem ot_yes {H : Ph} {d j : Nat} (h : atj H j d = true) : otI H d j = nI (oth H j d) := by
  unfold otI oth
  unfold atj at h
  by_cases e : pA H d = j
  · rw [if_pos e, if_pos e]
  · rw [if_neg e, if_neg e]
    rw [decide_eq_false e, Bool.false_or, decide_eq_true_eq] at h
    rw [if_pos h]
theorem ot_no {H : Ph} {d j : Nat} (h : atj H j d = false) : otI H d j = -1 := by
  unfold otI
  unfold atj at h
  rw [Bool.or_eq_false_iff, decide_eq_false_iff_not, decide_eq_false_iff_not] at h
  rw [if_neg h.1, if_neg h.2]
theorem ot_f {H : Ph} (hp : PhF H) {d j : Nat} (hd : d < pD H) (h : otI H d j = -1) : atj H j d = false := by
  cases e : atj H j d with
  | false => rfl
  | true =>
    rw [ot_yes e] at h
    have := oth_lt hp (j := j) hd
    exact absurd h (nI_m1 (by omega))
theorem ot_t {H : Ph} {d j : Nat} (h : ¬ otI H d j = -1) : atj H j d = true := by
  cases e : atj H j d with
  | true => rfl
  | false => exact absurd (ot_no e) h
def smB (H : Ph) (j n : Nat) : Bool := decide (ctF (atj H j) n ≠ 0)
theorem sm_yes {H : Ph} {j n : Nat} (h : atj H j n = true) : nI 1 = bI (smB H j (n + 1)) := by
  unfold smB
  rw [ctF_yes h, decide_eq_true (by omega)]
  rfl
theorem sm_no {H : Ph} {j n : Nat} (h : atj H j n = false) : bI (smB H j n) = bI (smB H j (n + 1)) := by
  unfold smB
  rw [ctF_no h]
/-- a joint's new pressure -/
def blV (H : Ph) (P g : Nat → UInt64) (j : Nat) : UInt64 := if hasD H j then FP.ddiv (pulV H P j) (wgt H g j) else P j
theorem blV_ok {H : Ph} (hp : PhF H) {P g : Nat → UInt64} (hP : ∀ j, j < 10 → okP (P j)) (hg : ∀ m, m < pM H → okG (g m)) {j : Nat} (hj : j < 10) : okP (blV H P g j) := by
  unfold blV
  split
  · rename_i h
    exact (newP hp hP hg h).1
  · exact hP j hj
theorem vf_self {f : Nat → UInt64} {k : Nat} : vf_upd f k (f k) = f := by
  funext i
  unfold vf_upd
  split
  · rename_i h; rw [h]
  · rfl
theorem mx_0 {c z : UInt64} (hc : dN c ∧ 0 ≤ dv c) (hz : dF z) (h0 : dv z = 0) : mx c (mg z) = c := by
  have h1 : Bd 1 z := Bd.of (by decide) hz.nn (by rw [h0]; have := Int.natCast_nonneg (2 ^ 1 * U1); omega) (by rw [h0]; exact Int.natCast_nonneg _)
  have h2 : dv (mg z) = 0 := by
    unfold mg
    split
    · exact h0
    · rw [dneg_v, h0]; rfl
  unfold mx
  rw [if_pos]
  exact (cv_le (mg_B h1).1.F.nn hc.1).mpr (by rw [h2]; exact hc.2)
theorem dsub_0 {x : UInt64} (hx : dF x) : dv (FP.dsub x x) = 0 := by
  have h1 := dsub_le (v := FP.dconst0) hx hx d0_F.nn (by rw [d0_v]; omega)
  have h2 := dsub_ge (v := FP.dconst0) hx hx d0_F.nn (by rw [d0_v]; omega)
  rw [d0_v] at h1 h2
  omega
theorem mr_up {H : Ph} (hp : PhF H) {g : Nat → UInt64} {s : (Nat → UInt64) × UInt64} {j : Nat} (hj : j < 10) (hP : ∀ j, j < 10 → okP (s.1 j)) (hc : dN s.2 ∧ 0 ≤ dv s.2) : (vf_upd s.1 j (blV H s.1 g j), mx s.2 (mg (FP.dsub (blV H s.1 g j) (s.1 j)))) = stJ H g j s := by
  unfold stJ blV
  cases hb : hasD H j with
  | true => rfl
  | false =>
    have hx := (hP j hj).B
    show (vf_upd s.1 j (s.1 j), mx s.2 (mg (FP.dsub (s.1 j) (s.1 j)))) = s
    rw [vf_self, mx_0 hc (hx.sub (k := 11) hx (by decide)).F (dsub_0 hx.F)]
theorem mx_ok {k : Nat} {c m : UInt64} (hc : dN c ∧ 0 ≤ dv c) (hm : Bd k m ∧ 0 ≤ dv m) : dN (mx c m) ∧ 0 ≤ dv (mx c m) := by
  unfold mx
  split
  · exact hc
  · exact ⟨hm.1.F.nn, hm.2⟩
theorem rdN_c {H : Ph} (hp : PhF H) {g : Nat → UInt64} (hg : ∀ m, m < pM H → okG (g m)) {s : (Nat → UInt64) × UInt64} (hP : ∀ j, j < 10 → okP (s.1 j)) (hc : dN s.2 ∧ 0 ≤ dv s.2) : ∀ n, n ≤ 9 → dN (rdN H g s n).2 ∧ 0 ≤ dv (rdN H g s n).2
  | 0, _ => hc
  | n + 1, hn => by
    have h1 := rdN_c hp hg hP hc n (by omega)
    have h2 := rdN_ok hp hg hP n
    show dN (stJ H g (n + 1) (rdN H g s n)).2 ∧ 0 ≤ dv (stJ H g (n + 1) (rdN H g s n)).2
    rw [← mr_up hp (by omega) h2 h1]
    exact mx_ok h1 (mg_B (((blV_ok hp h2 hg (j := n + 1) (by omega)).B.sub (k := 11) (h2 (n + 1) (by omega)).B (by decide))))
theorem ctF_none : ∀ n, ctF (fun _ => false) n = 0
  | 0 => rfl
  | n + 1 => by rw [ctF_no rfl]; exact ctF_none n
theorem Mw.no {H : Ph} {nj : Nat} {σ : gS} (h : Mw H nj σ) {j : Nat} (hj : nj ≤ j) : hasD H j = false := by
  unfold hasD
  rw [ctF_congr (q := fun _ => false) (fun d hd => by
    have := h.du hd
    unfold atj
    rw [decide_eq_false (by omega), decide_eq_false (by omega)]
    rfl), ctF_none]
  rfl
theorem rdN_end {H : Ph} {g : Nat → UInt64} {s : (Nat → UInt64) × UInt64} {n : Nat} (h : ∀ j, n < j → hasD H j = false) : ∀ k, rdN H g s (n + k) = rdN H g s n
  | 0 => rfl
  | k + 1 => by
    show stJ H g (n + k + 1) (rdN H g s (n + k)) = _
    unfold stJ
    rw [h (n + k + 1) (by omega)]
    exact rdN_end h k
def mrT (H : Ph) (g : Nat → UInt64) (s : (Nat → UInt64) × UInt64) (t : Nat) : (Nat → UInt64) × UInt64 := rdN H g (vf_upd s.1 0 (na (hldV H s.2)), FP.dconst0) t
theorem Mw.end_ {H : Ph} {nj : Nat} {σ : gS} (h : Mw H nj σ) (g : Nat → UInt64) (s : (Nat → UInt64) × UInt64) : mrT H g s (nj - 1) = mrT H g s 9 := by
  have h1 := h.j
  have := rdN_end (H := H) (g := g) (s := (vf_upd s.1 0 (na (hldV H s.2)), FP.dconst0)) (n := nj - 1) (fun j hj => h.no (by omega)) (9 - (nj - 1))
  unfold mrT
  rw [← this]
  congr 1
  omega
theorem inB_R {v : Int32} {n : Nat} (h : n < 2 ^ 31) : inB v (nI 0) (nI n - 1) = decide (inR v n) := by
  unfold inB inR
  by_cases h0 : v < 0
  · rw [decide_eq_false (show ¬ nI 0 ≤ v from Int32.not_le.mpr h0), decide_eq_false (show ¬ (¬ v < 0 ∧ v < nI n) from fun z => z.1 h0)]
    rfl
  · rw [decide_eq_true (show nI 0 ≤ v from Int32.not_lt.mp h0)]
    obtain ⟨j, hj, e⟩ := nI_of h0
    subst e
    cases n with
    | zero =>
      have h1 : ¬ nI j ≤ nI 0 - 1 := fun z => by
        have h2 : (nI j).toInt ≤ (nI 0 - 1).toInt := Int32.le_iff_toInt_le.mp z
        rw [nI_toInt hj, show (nI 0 - 1).toInt = -1 by decide] at h2
        omega
      rw [decide_eq_false h1, decide_eq_false (show ¬ (¬ nI j < 0 ∧ nI j < nI 0) from fun z => h0 z.2)]
      rfl
    | succ n =>
      rw [nI_pred, Bool.true_and]
      apply Bool.eq_iff_iff.mpr
      rw [decide_eq_true_eq, decide_eq_true_eq]
      constructor
      · intro z
        have := (nI_leI hj (by omega)).mp z
        exact ⟨h0, (nI_ltI hj h).mpr (by omega)⟩
      · intro z
        have := (nI_ltI hj h).mp z.2
        exact (nI_leI hj (by omega)).mpr (by omega)
theorem inB_C {v : Int32} {n : Nat} (h : n + 1 < 2 ^ 31) : inB v (nI 0) (nI n) = decide (inR v (n + 1)) := by
  rw [← inB_R h, nI_pred]

set_option maxHeartbeats 4000000 in
set_option maxRecDepth 100000 in
theorem kX7_isIn (l : Launch) (K : gK) (hD : gD K) (σ : gS) (v a b : Int32) : Ct l yX7_isIn wsX7_isIn { frames := 0, cells := 0, slots := 0, locals := 0 } K [.int v, .int a, .int b] σ (fun r t => r = some (.int (bI (inB v a b))) ∧ t = σ) := by
  refine Ct.of hD (by decide) rfl (Nat.le_of_ble_eq_true rfl) ?_
  intro X hL hK hF C
  subst hL; subst hK
  refine g_eq (σ2 := σ) (lv2 := [(0, .int v), (1, .int a), (2, .int b)]) (st2 := []) rfl rfl rfl ?_
  refine g_iload_n C dX7_isIn_0 0 rfl rfl ?_
  refine g_iload_n C dX7_isIn_1 1 rfl rfl ?_
  refine g_icmp_lt (tgt := 14) C dX7_isIn_2 (by decide) (fun c_2 => ?_) (fun c_2 => ?_)
  · refine g_iconst (v := nI 0) C dX7_isIn_14 (by decide +kernel) ?_
    refine g_zret C dX7_isIn_15 rfl rfl ⟨Nat.le_of_ble_eq_true rfl, Nat.le_of_ble_eq_true rfl⟩ ?_
    rw [hF]
    refine ⟨?_, rfl⟩
    unfold inB
    first
      | (rw [decide_eq_false (Int32.not_le.mpr c_2)]; rfl)
      | (rw [decide_eq_true (Int32.not_lt.mp c_2), decide_eq_false (Int32.not_le.mpr c_7)]; rfl)
      | (rw [decide_eq_true (Int32.not_lt.mp c_2), decide_eq_true (Int32.not_lt.mp c_7)]; rfl)
  · refine g_iload_n C dX7_isIn_5 0 rfl rfl ?_
    refine g_iload_n C dX7_isIn_6 2 rfl rfl ?_
    refine g_icmp_gt (tgt := 14) C dX7_isIn_7 (by decide) (fun c_7 => ?_) (fun c_7 => ?_)
    · refine g_iconst (v := nI 0) C dX7_isIn_14 (by decide +kernel) ?_
      refine g_zret C dX7_isIn_15 rfl rfl ⟨Nat.le_of_ble_eq_true rfl, Nat.le_of_ble_eq_true rfl⟩ ?_
      rw [hF]
      refine ⟨?_, rfl⟩
      unfold inB
      first
        | (rw [decide_eq_false (Int32.not_le.mpr c_2)]; rfl)
        | (rw [decide_eq_true (Int32.not_lt.mp c_2), decide_eq_false (Int32.not_le.mpr c_7)]; rfl)
        | (rw [decide_eq_true (Int32.not_lt.mp c_2), decide_eq_true (Int32.not_lt.mp c_7)]; rfl)
    · refine g_iconst (v := nI 1) C dX7_isIn_10 (by decide +kernel) ?_
      refine g_goto (tgt := 15) C dX7_isIn_11 (by decide) ?_
      refine g_zret C dX7_isIn_15 rfl rfl ⟨Nat.le_of_ble_eq_true rfl, Nat.le_of_ble_eq_true rfl⟩ ?_
      rw [hF]
      refine ⟨?_, rfl⟩
      unfold inB
      first
        | (rw [decide_eq_false (Int32.not_le.mpr c_2)]; rfl)
        | (rw [decide_eq_true (Int32.not_lt.mp c_2), decide_eq_false (Int32.not_le.mpr c_7)]; rfl)
        | (rw [decide_eq_true (Int32.not_lt.mp c_2), decide_eq_true (Int32.not_lt.mp c_7)]; rfl)

set_option maxHeartbeats 4000000 in
set_option maxRecDepth 100000 in
theorem kX7_between (l : Launch) (K : gK) (hD : gD K) (σ : gS) (x lo hi : UInt64) : Ct l yX7_between wsX7_between { frames := 0, cells := 0, slots := 0, locals := 0 } K [.double x, .double lo, .double hi] σ (fun r t => r = some (.int (bI (wiB x lo hi))) ∧ t = σ) := by
  refine Ct.of hD (by decide) rfl (Nat.le_of_ble_eq_true rfl) ?_
  intro X hL hK hF C
  subst hL; subst hK
  refine g_eq (σ2 := σ) (lv2 := [(0, .double x), (2, .double lo), (4, .double hi)]) (st2 := []) rfl rfl rfl ?_
  refine g_dload_n C dX7_between_0 0 rfl rfl ?_
  refine g_dload_n C dX7_between_1 1 rfl rfl ?_
  refine g_dcmp C dX7_between_2 ?_
  refine g_if_lt (tgt := 17) C dX7_between_3 (by decide) (fun c_3 => ?_) (fun c_3 => ?_)
  · refine g_iconst (v := nI 0) C dX7_between_17 (by decide +kernel) ?_
    refine g_zret C dX7_between_18 rfl rfl ⟨Nat.le_of_ble_eq_true rfl, Nat.le_of_ble_eq_true rfl⟩ ?_
    rw [hF]
    refine ⟨?_, rfl⟩
    unfold wiB
    first
      | (rw [decide_eq_true c_3]; rfl)
      | (rw [decide_eq_false c_3, decide_eq_true c_10]; rfl)
      | (rw [decide_eq_false c_3, decide_eq_false c_10]; rfl)
  · refine g_dload_n C dX7_between_6 0 rfl rfl ?_
    refine g_dload C dX7_between_7 2 rfl ?_
    refine g_dcmp C dX7_between_9 ?_
    refine g_if_gt (tgt := 17) C dX7_between_10 (by decide) (fun c_10 => ?_) (fun c_10 => ?_)
    · refine g_iconst (v := nI 0) C dX7_between_17 (by decide +kernel) ?_
      refine g_zret C dX7_between_18 rfl rfl ⟨Nat.le_of_ble_eq_true rfl, Nat.le_of_ble_eq_true rfl⟩ ?_
      rw [hF]
      refine ⟨?_, rfl⟩
      unfold wiB
      first
        | (rw [decide_eq_true c_3]; rfl)
        | (rw [decide_eq_false c_3, decide_eq_true c_10]; rfl)
        | (rw [decide_eq_false c_3, decide_eq_false c_10]; rfl)
    · refine g_iconst (v := nI 1) C dX7_between_13 (by decide +kernel) ?_
      refine g_goto (tgt := 18) C dX7_between_14 (by decide) ?_
      refine g_zret C dX7_between_18 rfl rfl ⟨Nat.le_of_ble_eq_true rfl, Nat.le_of_ble_eq_true rfl⟩ ?_
      rw [hF]
      refine ⟨?_, rfl⟩
      unfold wiB
      first
        | (rw [decide_eq_true c_3]; rfl)
        | (rw [decide_eq_false c_3, decide_eq_true c_10]; rfl)
        | (rw [decide_eq_false c_3, decide_eq_false c_10]; rfl)

set_option maxHeartbeats 4000000 in
set_option maxRecDepth 100000 in
theorem kX7_sizeOf (l : Launch) (K : gK) (hD : gD K) (σ : gS) (x : UInt64) : Ct l yX7_sizeOf wsX7_sizeOf { frames := 0, cells := 0, slots := 0, locals := 0 } K [.double x] σ (fun r t => r = some (.double (mg x)) ∧ t = σ) := by
  refine Ct.of hD (by decide) rfl (Nat.le_of_ble_eq_true rfl) ?_
  intro X hL hK hF C
  subst hL; subst hK
  refine g_eq (σ2 := σ) (lv2 := [(0, .double x)]) (st2 := []) rfl rfl rfl ?_
  refine g_dload_n C dX7_sizeOf_0 0 rfl rfl ?_
  refine g_dconst0 C dX7_sizeOf_1 ?_
  refine g_dcmp C dX7_sizeOf_2 ?_
  refine g_if_ge (tgt := 11) C dX7_sizeOf_3 (by decide) (fun c_3 => ?_) (fun c_3 => ?_)
  · refine g_dload_n C dX7_sizeOf_11 0 rfl rfl ?_
    refine g_dret C dX7_sizeOf_12 rfl ⟨Nat.le_of_ble_eq_true rfl, Nat.le_of_ble_eq_true rfl⟩ ?_
    rw [hF]
    refine ⟨?_, rfl⟩
    unfold mg
    first
      | rw [if_pos c_3]
      | rw [if_neg c_3]
  · refine g_dload_n C dX7_sizeOf_6 0 rfl rfl ?_
    refine g_dneg C dX7_sizeOf_7 ?_
    refine g_goto (tgt := 12) C dX7_sizeOf_8 (by decide) ?_
    refine g_dret C dX7_sizeOf_12 rfl ⟨Nat.le_of_ble_eq_true rfl, Nat.le_of_ble_eq_true rfl⟩ ?_
    rw [hF]
    refine ⟨?_, rfl⟩
    unfold mg
    first
      | rw [if_pos c_3]
      | rw [if_neg c_3]

theorem inX7_ease_X7 : ∀ w ∈ u_ws RX7 TX7 24, w ∈ wsX7_ease := by decide +kernel
set_option maxHeartbeats 4000000 in
set_option maxRecDepth 100000 in
theorem kX7_ease (l : Launch) (K : gK) (hD : gD K) (σ : gS) {H : Ph} {nj : Nat} (hM : Mw H nj σ) (hp : PhF H) {d : Nat} (hd : d < pD H) : Ct l yX7_ease wsX7_ease { frames := 0, cells := 0, slots := 0, locals := 0 } K [.ref (K.2.2 27), .int (nI d)] σ (fun r t => r = some (.double (pE H d)) ∧ t = σ) := by
  refine Ct.of hD (by decide) rfl (Nat.le_of_ble_eq_true rfl) ?_
  intro X hL hK hF C
  subst hL; subst hK
  refine g_eq (σ2 := σ) (lv2 := [(0, .ref ((xK X).2.2 27)), (1, .int (nI d))]) (st2 := []) rfl rfl rfl ?_
  have h16 := hM.nd16
  have h8 := hM.nm8
  have hjj := hM.j
  have he := eas_ok (hM.du hd).2.2.2.2.1 (hM.du hd).2.2.2.2.2.1
  refine g_aload_n C dX7_ease_0 0 rfl rfl ?_
  refine g_get C dX7_ease_1 wl27 rfl 6 (by decide) 1 rfl rfl rfl inX7_ease_X7 ?_
  refine g_iload_n C dX7_ease_4 1 rfl rfl ?_
  refine g_dald (j := d) C dX7_ease_5 wl31 rfl (by omega) (by decide) ?_
  refine g_aload_n C dX7_ease_6 0 rfl rfl ?_
  refine g_get C dX7_ease_7 wl27 rfl 6 (by decide) 1 rfl rfl rfl inX7_ease_X7 ?_
  refine g_iload_n C dX7_ease_10 1 rfl rfl ?_
  refine g_dald (j := d) C dX7_ease_11 wl31 rfl (by omega) (by decide) ?_
  refine g_dmul C dX7_ease_12 he.1.F.ok ?_
  refine g_aload_n C dX7_ease_13 0 rfl rfl ?_
  refine g_get C dX7_ease_14 wl27 rfl 6 (by decide) 1 rfl rfl rfl inX7_ease_X7 ?_
  refine g_iload_n C dX7_ease_17 1 rfl rfl ?_
  refine g_dald (j := d) C dX7_ease_18 wl31 rfl (by omega) (by decide) ?_
  refine g_dmul C dX7_ease_19 he.2.1.F.ok ?_
  refine g_aload_n C dX7_ease_20 0 rfl rfl ?_
  refine g_get C dX7_ease_21 wl27 rfl 5 (by decide) 2 rfl rfl rfl inX7_ease_X7 ?_
  refine g_iload_n C dX7_ease_24 1 rfl rfl ?_
  refine g_dald (j := d) C dX7_ease_25 wl30 rfl (by omega) (by decide) ?_
  refine g_ddiv C dX7_ease_26 he.2.2.1.1.F.ok ?_
  refine g_topd (y := pE H d) ((hM.du hd).2.2.2.1) ?_
  refine g_dret C dX7_ease_27 rfl ⟨Nat.le_of_ble_eq_true rfl, Nat.le_of_ble_eq_true rfl⟩ ?_
  rw [hF]
  exact ⟨rfl, rfl⟩

theorem inX7_other_X7 : ∀ w ∈ u_ws RX7 TX7 24, w ∈ wsX7_other := by decide +kernel
set_option maxHeartbeats 4000000 in
set_option maxRecDepth 100000 in
theorem kX7_other (l : Launch) (K : gK) (hD : gD K) (σ : gS) {H : Ph} {nj : Nat} (hM : Mw H nj σ) (hp : PhF H) {d : Nat} (hd : d < pD H) {j : Nat} (hj : j < 10) : Ct l yX7_other wsX7_other { frames := 0, cells := 0, slots := 0, locals := 0 } K [.ref (K.2.2 27), .int (nI d), .int (nI j)] σ (fun r t => r = some (.int (otI H d j)) ∧ t = σ) := by
  refine Ct.of hD (by decide) rfl (Nat.le_of_ble_eq_true rfl) ?_
  intro X hL hK hF C
  subst hL; subst hK
  refine g_eq (σ2 := σ) (lv2 := [(0, .ref ((xK X).2.2 27)), (1, .int (nI d)), (2, .int (nI j))]) (st2 := []) rfl rfl rfl ?_
  have h16 := hM.nd16
  have h8 := hM.nm8
  have hjj := hM.j
  have hdd := hM.du hd
  refine g_aload_n C dX7_other_0 0 rfl rfl ?_
  refine g_get C dX7_other_1 wl27 rfl 3 (by decide) 1 rfl rfl rfl inX7_other_X7 ?_
  refine g_iload_n C dX7_other_4 1 rfl rfl ?_
  refine g_iald (j := d) C dX7_other_5 wl28 rfl (by omega) (by decide) ?_
  refine g_topi (y := nI (pA H d)) ((hM.du hd).1) ?_
  refine g_iload_n C dX7_other_6 2 rfl rfl ?_
  refine g_icmp_ne (tgt := 19) C dX7_other_7 (by decide) (fun c_7 => ?_) (fun c_7 => ?_)
  · have hA : ¬ pA H d = j := fun h => c_7 (by rw [h])
    refine g_aload_n C dX7_other_19 0 rfl rfl ?_
    refine g_get C dX7_other_20 wl27 rfl 4 (by decide) 2 rfl rfl rfl inX7_other_X7 ?_
    refine g_iload_n C dX7_other_23 1 rfl rfl ?_
    refine g_iald (j := d) C dX7_other_24 wl29 rfl (by omega) (by decide) ?_
    refine g_topi (y := nI (pB H d)) ((hM.du hd).2.1) ?_
    refine g_iload_n C dX7_other_25 2 rfl rfl ?_
    refine g_icmp_ne (tgt := 38) C dX7_other_26 (by decide) (fun c_26 => ?_) (fun c_26 => ?_)
    · have hB : ¬ pB H d = j := fun h => c_26 (by rw [h])
      refine g_iconst (v := (-1)) C dX7_other_38 (by decide +kernel) ?_
      refine g_iret C dX7_other_39 rfl ⟨Nat.le_of_ble_eq_true rfl, Nat.le_of_ble_eq_true rfl⟩ ?_
      rw [hF]
      refine ⟨?_, rfl⟩
      unfold otI
      first
        | rw [if_pos hA]
        | rw [if_neg hA, if_pos hB]
        | rw [if_neg hA, if_neg hB]
    · have hB : pB H d = j := (nI_eq (by omega) (by omega)).mp (Decidable.byContradiction fun h => absurd c_26 h)
      refine g_aload_n C dX7_other_29 0 rfl rfl ?_
      refine g_get C dX7_other_30 wl27 rfl 3 (by decide) 1 rfl rfl rfl inX7_other_X7 ?_
      refine g_iload_n C dX7_other_33 1 rfl rfl ?_
      refine g_iald (j := d) C dX7_other_34 wl28 rfl (by omega) (by decide) ?_
      refine g_topi (y := nI (pA H d)) ((hM.du hd).1) ?_
      refine g_goto (tgt := 39) C dX7_other_35 (by decide) ?_
      refine g_iret C dX7_other_39 rfl ⟨Nat.le_of_ble_eq_true rfl, Nat.le_of_ble_eq_true rfl⟩ ?_
      rw [hF]
      refine ⟨?_, rfl⟩
      unfold otI
      first
        | rw [if_pos hA]
        | rw [if_neg hA, if_pos hB]
        | rw [if_neg hA, if_neg hB]
  · have hA : pA H d = j := (nI_eq (by omega) (by omega)).mp (Decidable.byContradiction fun h => absurd c_7 h)
    refine g_aload_n C dX7_other_10 0 rfl rfl ?_
    refine g_get C dX7_other_11 wl27 rfl 4 (by decide) 2 rfl rfl rfl inX7_other_X7 ?_
    refine g_iload_n C dX7_other_14 1 rfl rfl ?_
    refine g_iald (j := d) C dX7_other_15 wl29 rfl (by omega) (by decide) ?_
    refine g_topi (y := nI (pB H d)) ((hM.du hd).2.1) ?_
    refine g_goto (tgt := 39) C dX7_other_16 (by decide) ?_
    refine g_iret C dX7_other_39 rfl ⟨Nat.le_of_ble_eq_true rfl, Nat.le_of_ble_eq_true rfl⟩ ?_
    rw [hF]
    refine ⟨?_, rfl⟩
    unfold otI
    first
      | rw [if_pos hA]
      | rw [if_neg hA, if_pos hB]
      | rw [if_neg hA, if_neg hB]

theorem inX7_balance_X7 : ∀ w ∈ u_ws RX7 TX7 24, w ∈ wsX7_balance := by decide +kernel
set_option maxHeartbeats 4000000 in
set_option maxRecDepth 100000 in
theorem kX7_balance (l : Launch) (K : gK) (hD : gD K) (σ : gS) {H : Ph} {nj : Nat} (hM : Mw H nj σ) (hp : PhF H) (hP : ∀ j, j < 10 → okP (sF σ 40 j)) (hg : ∀ m, m < pM H → okG (sF σ 38 m)) {j : Nat} (hj : j < 10) : Ct l yX7_balance wsX7_balance { frames := 1, cells := 0, slots := 0, locals := 22 } K [.ref (K.2.2 27), .int (nI j)] σ (fun r t => r = some (.double (blV H (sF σ 40) (sF σ 38) j)) ∧ t = σ) := by
  refine Ct.of hD (by decide) rfl (Nat.le_of_ble_eq_true rfl) ?_
  intro X hL hK hF C
  subst hL; subst hK
  refine g_eq (σ2 := σ) (lv2 := [(0, .ref ((xK X).2.2 27)), (1, .int (nI j))]) (st2 := []) rfl rfl rfl ?_
  have h16 := hM.nd16
  have h8 := hM.nm8
  have hjj := hM.j
  refine g_iconst (v := nI 0) C dX7_balance_0 (by decide +kernel) ?_
  refine g_istore_n (lv' := [(2, .int (nI 0)), (0, .ref ((xK X).2.2 27)), (1, .int (nI j))]) C dX7_balance_1 rfl (by decide) rfl ?_
  refine g_dconst0 C dX7_balance_2 ?_
  refine g_dstore_n (lv' := [(3, .double FP.dconst0), (2, .int (nI 0)), (0, .ref ((xK X).2.2 27)), (1, .int (nI j))]) C dX7_balance_3 rfl (by decide) rfl ?_
  refine g_dconst0 C dX7_balance_4 ?_
  refine g_dstore (lv' := [(5, .double FP.dconst0), (3, .double FP.dconst0), (2, .int (nI 0)), (0, .ref ((xK X).2.2 27)), (1, .int (nI j))]) C dX7_balance_5 (by decide) rfl ?_
  refine g_iconst (v := nI 0) C dX7_balance_7 (by decide +kernel) ?_
  refine g_istore (lv' := [(7, .int (nI 0)), (5, .double FP.dconst0), (3, .double FP.dconst0), (2, .int (nI 0)), (0, .ref ((xK X).2.2 27)), (1, .int (nI j))]) C dX7_balance_8 (by decide) rfl ?_
  refine g_eq (σ2 := σ) (lv2 := [(7, .int (nI 0)), (5, .double FP.dconst0), (3, .double FP.dconst0), (2, .int (bI (smB H j 0))), (0, .ref ((xK X).2.2 27)), (1, .int (nI j))]) (st2 := []) rfl rfl rfl ?_
  have loop10 : ∀ (r9 : Nat) (d : Nat), pD H - d < r9 → (d ≤ pD H) → G X 9 0 0 σ [(0, .ref ((xK X).2.2 27)), (1, .int (nI j)), (2, .int (bI (smB H j d))), (3, .double (accF FP.dconst0 (atj H j) (fun d => FP.dmul (pE H d) (sF σ 40 (oth H j d))) d)), (5, .double (accF FP.dconst0 (atj H j) (pE H) d)), (7, .int (nI d))] 10 [] := by
    intro r9
    induction r9 with
    | zero => intro d h9; exact absurd h9 (Nat.not_lt_zero _)
    | succ r9 ih10 =>
      intro d hm10 hd
      refine g_iload C dX7_balance_10 5 rfl ?_
      refine g_aload_n C dX7_balance_12 0 rfl rfl ?_
      refine g_get C dX7_balance_13 wl27 rfl 2 (by decide) 1 rfl rfl rfl inX7_balance_X7 ?_
      refine g_topi (y := nI (pD H)) hM.nd ?_
      refine g_icmp_ge (tgt := 70) C dX7_balance_16 (by decide) (fun c_16 => ?_) (fun c_16 => ?_)
      · have hde : d = pD H := by
          have h9 := (nI_leI (by  omega) (by  omega)).mp c_16
          omega
        refine g_eq (σ2 := σ) (lv2 := [(0, .ref ((xK X).2.2 27)), (1, .int (nI j)), (2, .int (bI (smB H j (pD H)))), (3, .double (accF FP.dconst0 (atj H j) (fun d => FP.dmul (pE H d) (sF σ 40 (oth H j d))) d)), (5, .double (accF FP.dconst0 (atj H j) (pE H) d)), (7, .int (nI d))]) (st2 := []) rfl (congrArg (fun z9 => ([(0, .ref ((xK X).2.2 27)), (1, .int (nI j)), (2, .int z9), (3, .double (accF FP.dconst0 (atj H j) (fun d => FP.dmul (pE H d) (sF σ 40 (oth H j d))) d)), (5, .double (accF FP.dconst0 (atj H j) (pE H) d)), (7, .int (nI d))] : List (Nat × Value))) (by rw [hde])) rfl ?_
        refine g_eq (σ2 := σ) (lv2 := [(0, .ref ((xK X).2.2 27)), (1, .int (nI j)), (2, .int (bI (smB H j (pD H)))), (3, .double (pulV H (sF σ 40) j)), (5, .double (accF FP.dconst0 (atj H j) (pE H) d)), (7, .int (nI d))]) (st2 := []) rfl (congrArg (fun z9 => ([(0, .ref ((xK X).2.2 27)), (1, .int (nI j)), (2, .int (bI (smB H j (pD H)))), (3, .double z9), (5, .double (accF FP.dconst0 (atj H j) (pE H) d)), (7, .int (nI d))] : List (Nat × Value))) (by rw [hde]; rfl)) rfl ?_
        refine g_eq (σ2 := σ) (lv2 := [(0, .ref ((xK X).2.2 27)), (1, .int (nI j)), (2, .int (bI (smB H j (pD H)))), (3, .double (pulV H (sF σ 40) j)), (5, .double (wgE H j)), (7, .int (nI d))]) (st2 := []) rfl (congrArg (fun z9 => ([(0, .ref ((xK X).2.2 27)), (1, .int (nI j)), (2, .int (bI (smB H j (pD H)))), (3, .double (pulV H (sF σ 40) j)), (5, .double z9), (7, .int (nI d))] : List (Nat × Value))) (by rw [hde]; rfl)) rfl ?_
        refine g_iconst (v := nI 0) C dX7_balance_70 (by decide +kernel) ?_
        refine g_istore (lv' := [(7, .int (nI 0)), (0, .ref ((xK X).2.2 27)), (1, .int (nI j)), (2, .int (bI (smB H j (pD H)))), (3, .double (pulV H (sF σ 40) j)), (5, .double (wgE H j))]) C dX7_balance_71 (by decide) rfl ?_
        have loop73 : ∀ (r9 : Nat) (m : Nat), pM H - m < r9 → (m ≤ pM H) → G X 9 0 0 σ [(0, .ref ((xK X).2.2 27)), (1, .int (nI j)), (2, .int (bI (smB H j (pD H)))), (3, .double (pulV H (sF σ 40) j)), (5, .double (accF (wgE H j) (opAt H j) (fun m => FP.dmul (sF σ 38 m) 4620693217682128896) m)), (7, .int (nI m))] 73 [] := by
          intro r9
          induction r9 with
          | zero => intro m h9; exact absurd h9 (Nat.not_lt_zero _)
          | succ r9 ih73 =>
            intro m hm73 hm
            refine g_iload C dX7_balance_73 5 rfl ?_
            refine g_aload_n C dX7_balance_75 0 rfl rfl ?_
            refine g_get C dX7_balance_76 wl27 rfl 10 (by decide) 3 rfl rfl rfl inX7_balance_X7 ?_
            refine g_topi (y := nI (pM H)) hM.nm ?_
            refine g_icmp_ge (tgt := 130) C dX7_balance_79 (by decide) (fun c_79 => ?_) (fun c_79 => ?_)
            · have hme : m = pM H := by
                have h9 := (nI_leI (by  omega) (by  omega)).mp c_79
                omega
              refine g_eq (σ2 := σ) (lv2 := [(0, .ref ((xK X).2.2 27)), (1, .int (nI j)), (2, .int (bI (smB H j (pD H)))), (3, .double (pulV H (sF σ 40) j)), (5, .double (wgt H (sF σ 38) j)), (7, .int (nI m))]) (st2 := []) rfl (congrArg (fun z9 => ([(0, .ref ((xK X).2.2 27)), (1, .int (nI j)), (2, .int (bI (smB H j (pD H)))), (3, .double (pulV H (sF σ 40) j)), (5, .double z9), (7, .int (nI m))] : List (Nat × Value))) (by rw [hme]; rfl)) rfl ?_
              refine g_iload_n C dX7_balance_130 2 rfl rfl ?_
              refine g_if_eq (tgt := 141) C dX7_balance_131 (by decide) (fun c_131 => ?_) (fun c_131 => ?_)
              · have hb : hasD H j = false := (bI_ne (smB H j (pD H))).mp c_131
                refine g_aload_n C dX7_balance_141 0 rfl rfl ?_
                refine g_get C dX7_balance_142 wl27 rfl 18 (by decide) 2 rfl rfl rfl inX7_balance_X7 ?_
                refine g_iload_n C dX7_balance_145 1 rfl rfl ?_
                refine g_dald (j := j) C dX7_balance_146 wl40 rfl (by omega) (by decide) ?_
                refine g_dret C dX7_balance_147 rfl ⟨Nat.le_of_ble_eq_true rfl, Nat.le_of_ble_eq_true rfl⟩ ?_
                rw [hF]
                refine ⟨?_, rfl⟩
                unfold blV
                first
                  | rw [if_pos hb]
                  | rw [if_neg (by rw [hb]; decide)]
              · have hb : hasD H j = true := bIt (b := smB H j (pD H)) c_131
                refine g_dload_n C dX7_balance_134 3 rfl rfl ?_
                refine g_dload C dX7_balance_135 4 rfl ?_
                refine g_ddiv C dX7_balance_137 ((newP hp hP hg hb).1.1.ok) ?_
                refine g_goto (tgt := 147) C dX7_balance_138 (by decide) ?_
                refine g_dret C dX7_balance_147 rfl ⟨Nat.le_of_ble_eq_true rfl, Nat.le_of_ble_eq_true rfl⟩ ?_
                rw [hF]
                refine ⟨?_, rfl⟩
                unfold blV
                first
                  | rw [if_pos hb]
                  | rw [if_neg (by rw [hb]; decide)]
            · have hmt : m < pM H := by
                refine Nat.lt_of_not_le fun h => c_79 ?_
                exact (nI_leI (by  omega) (by  omega)).mpr (by omega)
              refine g_aload_n C dX7_balance_82 0 rfl rfl ?_
              refine g_get C dX7_balance_83 wl27 rfl 15 (by decide) 4 rfl rfl rfl inX7_balance_X7 ?_
              refine g_iload C dX7_balance_86 5 rfl ?_
              refine g_zald (j := m) C dX7_balance_88 wl39 rfl (by omega) (by decide) ?_
              refine g_topi (y := bI (pO H m)) ((hM.ma hmt).2.1) ?_
              refine g_if_eq (tgt := 120) C dX7_balance_89 (by decide) (fun c_89 => ?_) (fun c_89 => ?_)
              · have hb : opAt H j m = false := by unfold opAt; rw [(bI_ne _).mp c_89]; rfl
                refine g_dload C dX7_balance_120 4 rfl ?_
                refine g_topd (y := accF (wgE H j) (opAt H j) (fun m => FP.dmul (sF σ 38 m) 4620693217682128896) (m + 1)) (by first | exact (accF_yes hb).symm | exact (accF_no hb).symm) ?_
                refine g_dstore (lv' := [(5, .double (accF (wgE H j) (opAt H j) (fun m => FP.dmul (sF σ 38 m) 4620693217682128896) (m + 1))), (0, .ref ((xK X).2.2 27)), (1, .int (nI j)), (2, .int (bI (smB H j (pD H)))), (3, .double (pulV H (sF σ 40) j)), (7, .int (nI m))]) C dX7_balance_122 (by decide) rfl ?_
                refine g_iinc (v := nI (m + 1)) (lv' := [(7, .int (nI (m + 1))), (5, .double (accF (wgE H j) (opAt H j) (fun m => FP.dmul (sF σ 38 m) 4620693217682128896) (m + 1))), (0, .ref ((xK X).2.2 27)), (1, .int (nI j)), (2, .int (bI (smB H j (pD H)))), (3, .double (pulV H (sF σ 40) j))]) C dX7_balance_124 5 rfl (nI_1 m) (by decide) rfl ?_
                refine g_goto (tgt := 73) C dX7_balance_127 (by decide) ?_
                refine g_lv [2, 3, 4, 5, 1, 0] rfl ?_
                exact ih73 (m + 1) (by omega) (by omega)
              · refine g_aload_n C dX7_balance_92 0 rfl rfl ?_
                refine g_get C dX7_balance_93 wl27 rfl 11 (by decide) 5 rfl rfl rfl inX7_balance_X7 ?_
                refine g_iload C dX7_balance_96 5 rfl ?_
                refine g_iald (j := m) C dX7_balance_98 wl35 rfl (by omega) (by decide) ?_
                refine g_topi (y := nI (pJ H m)) ((hM.ma hmt).1) ?_
                refine g_iload_n C dX7_balance_99 1 rfl rfl ?_
                refine g_icmp_ne (tgt := 120) C dX7_balance_100 (by decide) (fun c_100 => ?_) (fun c_100 => ?_)
                · have hb : opAt H j m = false := by unfold opAt; rw [decide_eq_false (show ¬ pJ H m = j from fun h => c_100 (by rw [h])), Bool.and_false]
                  refine g_dload C dX7_balance_120 4 rfl ?_
                  refine g_topd (y := accF (wgE H j) (opAt H j) (fun m => FP.dmul (sF σ 38 m) 4620693217682128896) (m + 1)) (by first | exact (accF_yes hb).symm | exact (accF_no hb).symm) ?_
                  refine g_dstore (lv' := [(5, .double (accF (wgE H j) (opAt H j) (fun m => FP.dmul (sF σ 38 m) 4620693217682128896) (m + 1))), (0, .ref ((xK X).2.2 27)), (1, .int (nI j)), (2, .int (bI (smB H j (pD H)))), (3, .double (pulV H (sF σ 40) j)), (7, .int (nI m))]) C dX7_balance_122 (by decide) rfl ?_
                  refine g_iinc (v := nI (m + 1)) (lv' := [(7, .int (nI (m + 1))), (5, .double (accF (wgE H j) (opAt H j) (fun m => FP.dmul (sF σ 38 m) 4620693217682128896) (m + 1))), (0, .ref ((xK X).2.2 27)), (1, .int (nI j)), (2, .int (bI (smB H j (pD H)))), (3, .double (pulV H (sF σ 40) j))]) C dX7_balance_124 5 rfl (nI_1 m) (by decide) rfl ?_
                  refine g_goto (tgt := 73) C dX7_balance_127 (by decide) ?_
                  refine g_lv [2, 3, 4, 5, 1, 0] rfl ?_
                  exact ih73 (m + 1) (by omega) (by omega)
                · have hb : opAt H j m = true := by
                    unfold opAt
                    rw [bIt c_89, decide_eq_true ((nI_eq (by have := hM.ma hmt; omega) (by omega)).mp (Decidable.byContradiction fun h => absurd c_100 h))]
                    rfl
                  refine g_dload C dX7_balance_103 4 rfl ?_
                  refine g_aload_n C dX7_balance_105 0 rfl rfl ?_
                  refine g_get C dX7_balance_106 wl27 rfl 14 (by decide) 6 rfl rfl rfl inX7_balance_X7 ?_
                  refine g_iload C dX7_balance_109 5 rfl ?_
                  refine g_dald (j := m) C dX7_balance_111 wl38 rfl (by omega) (by decide) ?_
                  refine g_ldc2d (v := 4620693217682128896) C dX7_balance_112 7 rfl ?_
                  refine g_dmul C dX7_balance_115 ((gat_g hg hmt).F.ok) ?_
                  refine g_dadd C dX7_balance_116 (accF_ok (wgE_B hp j) (n := pM H) (by omega) hmt (p := opAt H j) (g := fun m => FP.dmul (sF σ 38 m) 4620693217682128896) (fun i hi _ => (gat_g hg hi).mono (by decide)) hb) ?_
                  refine g_goto (tgt := 122) C dX7_balance_117 (by decide) ?_
                  refine g_topd (y := accF (wgE H j) (opAt H j) (fun m => FP.dmul (sF σ 38 m) 4620693217682128896) (m + 1)) (by first | exact (accF_yes hb).symm | exact (accF_no hb).symm) ?_
                  refine g_dstore (lv' := [(5, .double (accF (wgE H j) (opAt H j) (fun m => FP.dmul (sF σ 38 m) 4620693217682128896) (m + 1))), (0, .ref ((xK X).2.2 27)), (1, .int (nI j)), (2, .int (bI (smB H j (pD H)))), (3, .double (pulV H (sF σ 40) j)), (7, .int (nI m))]) C dX7_balance_122 (by decide) rfl ?_
                  refine g_iinc (v := nI (m + 1)) (lv' := [(7, .int (nI (m + 1))), (5, .double (accF (wgE H j) (opAt H j) (fun m => FP.dmul (sF σ 38 m) 4620693217682128896) (m + 1))), (0, .ref ((xK X).2.2 27)), (1, .int (nI j)), (2, .int (bI (smB H j (pD H)))), (3, .double (pulV H (sF σ 40) j))]) C dX7_balance_124 5 rfl (nI_1 m) (by decide) rfl ?_
                  refine g_goto (tgt := 73) C dX7_balance_127 (by decide) ?_
                  refine g_lv [2, 3, 4, 5, 1, 0] rfl ?_
                  exact ih73 (m + 1) (by omega) (by omega)
        refine g_lv [1, 2, 3, 4, 5, 0] rfl ?_
        exact loop73 (pM H + 1) 0 (by omega) (Nat.zero_le _)
      · have hdt : d < pD H := by
          refine Nat.lt_of_not_le fun h => c_16 ?_
          exact (nI_leI (by  omega) (by  omega)).mpr (by omega)
        refine g_aload_n C dX7_balance_19 0 rfl rfl ?_
        refine g_iload C dX7_balance_20 5 rfl ?_
        refine g_iload_n C dX7_balance_22 1 rfl rfl ?_
        refine g_callV (As := [.int (nI d), .int (nI j)]) (rest := []) C dX7_balance_23 (kX7_other (xl X) (xK X) C.hD σ hM hp hdt hj) wl27 rfl 2 gX7_balance_X7_other rfl (by decide +kernel) ⟨Nat.le_of_ble_eq_true rfl, Nat.le_of_ble_eq_true rfl⟩ ⟨Nat.le_of_ble_eq_true rfl, Nat.le_of_ble_eq_true rfl⟩ rfl rfl (Nat.le_of_ble_eq_true rfl) (fun rv9 σ9 h9 => ?_)
        obtain ⟨h9a, h9b⟩ := h9
        refine g_eq (σ2 := σ) (lv2 := [(0, .ref ((xK X).2.2 27)), (1, .int (nI j)), (2, .int (bI (smB H j d))), (3, .double (accF FP.dconst0 (atj H j) (fun d => FP.dmul (pE H d) (sF σ 40 (oth H j d))) d)), (5, .double (accF FP.dconst0 (atj H j) (pE H) d)), (7, .int (nI d))]) (st2 := [.int (otI H d j)]) h9b rfl (by rw [h9a]; rfl) ?_
        refine g_istore (lv' := [(8, .int (otI H d j)), (0, .ref ((xK X).2.2 27)), (1, .int (nI j)), (2, .int (bI (smB H j d))), (3, .double (accF FP.dconst0 (atj H j) (fun d => FP.dmul (pE H d) (sF σ 40 (oth H j d))) d)), (5, .double (accF FP.dconst0 (atj H j) (pE H) d)), (7, .int (nI d))]) C dX7_balance_26 (by decide) rfl ?_
        refine g_iload C dX7_balance_28 0 rfl ?_
        refine g_iconst (v := (-1)) C dX7_balance_30 (by decide +kernel) ?_
        refine g_icmp_eq (tgt := 64) C dX7_balance_31 (by decide) (fun c_31 => ?_) (fun c_31 => ?_)
        · have hb := ot_f hp hdt c_31
          refine g_eq (σ2 := σ) (lv2 := [(8, .int (otI H d j)), (0, .ref ((xK X).2.2 27)), (1, .int (nI j)), (2, .int (bI (smB H j (d + 1)))), (3, .double (accF FP.dconst0 (atj H j) (fun d => FP.dmul (pE H d) (sF σ 40 (oth H j d))) d)), (5, .double (accF FP.dconst0 (atj H j) (pE H) d)), (7, .int (nI d))]) (st2 := []) rfl (congrArg (fun z9 => ([(8, .int (otI H d j)), (0, .ref ((xK X).2.2 27)), (1, .int (nI j)), (2, .int z9), (3, .double (accF FP.dconst0 (atj H j) (fun d => FP.dmul (pE H d) (sF σ 40 (oth H j d))) d)), (5, .double (accF FP.dconst0 (atj H j) (pE H) d)), (7, .int (nI d))] : List (Nat × Value))) (sm_no hb)) rfl ?_
          refine g_eq (σ2 := σ) (lv2 := [(8, .int (otI H d j)), (0, .ref ((xK X).2.2 27)), (1, .int (nI j)), (2, .int (bI (smB H j (d + 1)))), (3, .double (accF FP.dconst0 (atj H j) (fun d => FP.dmul (pE H d) (sF σ 40 (oth H j d))) (d + 1))), (5, .double (accF FP.dconst0 (atj H j) (pE H) d)), (7, .int (nI d))]) (st2 := []) rfl (congrArg (fun z9 => ([(8, .int (otI H d j)), (0, .ref ((xK X).2.2 27)), (1, .int (nI j)), (2, .int (bI (smB H j (d + 1)))), (3, .double z9), (5, .double (accF FP.dconst0 (atj H j) (pE H) d)), (7, .int (nI d))] : List (Nat × Value))) ((accF_no hb).symm)) rfl ?_
          refine g_eq (σ2 := σ) (lv2 := [(8, .int (otI H d j)), (0, .ref ((xK X).2.2 27)), (1, .int (nI j)), (2, .int (bI (smB H j (d + 1)))), (3, .double (accF FP.dconst0 (atj H j) (fun d => FP.dmul (pE H d) (sF σ 40 (oth H j d))) (d + 1))), (5, .double (accF FP.dconst0 (atj H j) (pE H) (d + 1))), (7, .int (nI d))]) (st2 := []) rfl (congrArg (fun z9 => ([(8, .int (otI H d j)), (0, .ref ((xK X).2.2 27)), (1, .int (nI j)), (2, .int (bI (smB H j (d + 1)))), (3, .double (accF FP.dconst0 (atj H j) (fun d => FP.dmul (pE H d) (sF σ 40 (oth H j d))) (d + 1))), (5, .double z9), (7, .int (nI d))] : List (Nat × Value))) ((accF_no hb).symm)) rfl ?_
          refine g_iinc (v := nI (d + 1)) (lv' := [(7, .int (nI (d + 1))), (8, .int (otI H d j)), (0, .ref ((xK X).2.2 27)), (1, .int (nI j)), (2, .int (bI (smB H j (d + 1)))), (3, .double (accF FP.dconst0 (atj H j) (fun d => FP.dmul (pE H d) (sF σ 40 (oth H j d))) (d + 1))), (5, .double (accF FP.dconst0 (atj H j) (pE H) (d + 1)))]) C dX7_balance_64 6 rfl (nI_1 d) (by decide) rfl ?_
          refine g_goto (tgt := 10) C dX7_balance_67 (by decide) ?_
          refine g_lv [2, 3, 4, 5, 6, 0] rfl ?_
          exact ih10 (d + 1) (by omega) (by omega)
        · have hb := ot_t c_31
          refine g_dload_n C dX7_balance_34 4 rfl rfl ?_
          refine g_aload_n C dX7_balance_35 1 rfl rfl ?_
          refine g_iload C dX7_balance_36 6 rfl ?_
          refine g_callV (As := [.int (nI d)]) (rest := [.double (accF FP.dconst0 (atj H j) (fun d => FP.dmul (pE H d) (sF σ 40 (oth H j d))) d)]) C dX7_balance_38 (kX7_ease (xl X) (xK X) C.hD σ hM hp (d := d) hdt) wl27 rfl 1 gX7_balance_X7_ease rfl (by decide +kernel) ⟨Nat.le_of_ble_eq_true rfl, Nat.le_of_ble_eq_true rfl⟩ ⟨Nat.le_of_ble_eq_true rfl, Nat.le_of_ble_eq_true rfl⟩ rfl rfl (Nat.le_of_ble_eq_true rfl) (fun rv9 σ9 h9 => ?_)
          obtain ⟨h9a, h9b⟩ := h9
          refine g_eq (σ2 := σ) (lv2 := [(8, .int (otI H d j)), (0, .ref ((xK X).2.2 27)), (1, .int (nI j)), (2, .int (bI (smB H j d))), (3, .double (accF FP.dconst0 (atj H j) (fun d => FP.dmul (pE H d) (sF σ 40 (oth H j d))) d)), (5, .double (accF FP.dconst0 (atj H j) (pE H) d)), (7, .int (nI d))]) (st2 := [.double (pE H d), .double (accF FP.dconst0 (atj H j) (fun d => FP.dmul (pE H d) (sF σ 40 (oth H j d))) d)]) h9b rfl (by rw [h9a]; rfl) ?_
          refine g_aload_n C dX7_balance_41 1 rfl rfl ?_
          refine g_get C dX7_balance_42 wl27 rfl 18 (by decide) 2 rfl rfl rfl inX7_balance_X7 ?_
          refine g_iload C dX7_balance_45 0 rfl ?_
          refine g_dald (j := (oth H j d)) C dX7_balance_47 wl40 (ot_yes hb) (oth_lt hp hdt) (by decide) ?_
          refine g_dmul C dX7_balance_48 ((pul_g hp hP hdt).F.ok) ?_
          refine g_dadd C dX7_balance_49 (accF_ok (d0_B 34) (n := pD H) (by omega) hdt (p := atj H j) (g := fun d => FP.dmul (pE H d) (sF σ 40 (oth H j d))) (fun i hi _ => pul_g hp hP hi) hb) ?_
          refine g_topd (y := accF FP.dconst0 (atj H j) (fun d => FP.dmul (pE H d) (sF σ 40 (oth H j d))) (d + 1)) ((accF_yes hb).symm) ?_
          refine g_dstore_n (lv' := [(3, .double (accF FP.dconst0 (atj H j) (fun d => FP.dmul (pE H d) (sF σ 40 (oth H j d))) (d + 1))), (8, .int (otI H d j)), (0, .ref ((xK X).2.2 27)), (1, .int (nI j)), (2, .int (bI (smB H j d))), (5, .double (accF FP.dconst0 (atj H j) (pE H) d)), (7, .int (nI d))]) C dX7_balance_50 rfl (by decide) rfl ?_
          refine g_dload C dX7_balance_51 5 rfl ?_
          refine g_aload_n C dX7_balance_53 2 rfl rfl ?_
          refine g_iload C dX7_balance_54 6 rfl ?_
          refine g_callV (As := [.int (nI d)]) (rest := [.double (accF FP.dconst0 (atj H j) (pE H) d)]) C dX7_balance_56 (kX7_ease (xl X) (xK X) C.hD σ hM hp (d := d) hdt) wl27 rfl 1 gX7_balance_X7_ease rfl (by decide +kernel) ⟨Nat.le_of_ble_eq_true rfl, Nat.le_of_ble_eq_true rfl⟩ ⟨Nat.le_of_ble_eq_true rfl, Nat.le_of_ble_eq_true rfl⟩ rfl rfl (Nat.le_of_ble_eq_true rfl) (fun rv9 σ9 h9 => ?_)
          obtain ⟨h9a, h9b⟩ := h9
          refine g_eq (σ2 := σ) (lv2 := [(3, .double (accF FP.dconst0 (atj H j) (fun d => FP.dmul (pE H d) (sF σ 40 (oth H j d))) (d + 1))), (8, .int (otI H d j)), (0, .ref ((xK X).2.2 27)), (1, .int (nI j)), (2, .int (bI (smB H j d))), (5, .double (accF FP.dconst0 (atj H j) (pE H) d)), (7, .int (nI d))]) (st2 := [.double (pE H d), .double (accF FP.dconst0 (atj H j) (pE H) d)]) h9b rfl (by rw [h9a]; rfl) ?_
          refine g_dadd C dX7_balance_59 (accF_ok (d0_B 24) (n := pD H) (by omega) hdt (p := atj H j) (g := pE H) (fun i hi _ => (hp.2.2.1 i hi).1.1) hb) ?_
          refine g_topd (y := accF FP.dconst0 (atj H j) (pE H) (d + 1)) ((accF_yes hb).symm) ?_
          refine g_dstore (lv' := [(5, .double (accF FP.dconst0 (atj H j) (pE H) (d + 1))), (3, .double (accF FP.dconst0 (atj H j) (fun d => FP.dmul (pE H d) (sF σ 40 (oth H j d))) (d + 1))), (8, .int (otI H d j)), (0, .ref ((xK X).2.2 27)), (1, .int (nI j)), (2, .int (bI (smB H j d))), (7, .int (nI d))]) C dX7_balance_60 (by decide) rfl ?_
          refine g_iconst (v := nI 1) C dX7_balance_62 (by decide +kernel) ?_
          refine g_topi (y := bI (smB H j (d + 1))) (sm_yes hb) ?_
          refine g_istore_n (lv' := [(2, .int (bI (smB H j (d + 1)))), (5, .double (accF FP.dconst0 (atj H j) (pE H) (d + 1))), (3, .double (accF FP.dconst0 (atj H j) (fun d => FP.dmul (pE H d) (sF σ 40 (oth H j d))) (d + 1))), (8, .int (otI H d j)), (0, .ref ((xK X).2.2 27)), (1, .int (nI j)), (7, .int (nI d))]) C dX7_balance_63 rfl (by decide) rfl ?_
          refine g_iinc (v := nI (d + 1)) (lv' := [(7, .int (nI (d + 1))), (2, .int (bI (smB H j (d + 1)))), (5, .double (accF FP.dconst0 (atj H j) (pE H) (d + 1))), (3, .double (accF FP.dconst0 (atj H j) (fun d => FP.dmul (pE H d) (sF σ 40 (oth H j d))) (d + 1))), (8, .int (otI H d j)), (0, .ref ((xK X).2.2 27)), (1, .int (nI j))]) C dX7_balance_64 6 rfl (nI_1 d) (by decide) rfl ?_
          refine g_goto (tgt := 10) C dX7_balance_67 (by decide) ?_
          refine g_lv [5, 6, 1, 3, 2, 0] rfl ?_
          exact ih10 (d + 1) (by omega) (by omega)
  refine g_lv [4, 5, 3, 2, 1, 0] rfl ?_
  exact loop10 (pD H + 1) 0 (by omega) (Nat.zero_le _)

theorem inX7_round_X7 : ∀ w ∈ u_ws RX7 TX7 24, w ∈ wsX7_round := by decide +kernel
set_option maxHeartbeats 4000000 in
set_option maxRecDepth 100000 in
theorem kX7_round (l : Launch) (K : gK) (hD : gD K) (σ : gS) {H : Ph} {nj : Nat} (hM : Mw H nj σ) (hp : PhF H) (hP : ∀ j, j < 10 → okP (sF σ 40 j)) (hg : ∀ m, m < pM H → okG (sF σ 38 m)) (hq : okQ (sD σ 5)) : Ct l yX7_round wsX7_round { frames := 2, cells := 0, slots := 0, locals := 50 } K [.ref (K.2.2 27)] σ (fun r t => r = some (.double (rdC H (sF σ 38) (sF σ 40, sD σ 5))) ∧ t = uD (uF σ 40 (rdP H (sF σ 38) (sF σ 40, sD σ 5))) 5 (rdF H (sF σ 38) (sF σ 40, sD σ 5))) := by
  refine Ct.of hD (by decide) rfl (Nat.le_of_ble_eq_true rfl) ?_
  intro X hL hK hF C
  subst hL; subst hK
  refine g_eq (σ2 := σ) (lv2 := [(0, .ref ((xK X).2.2 27))]) (st2 := []) rfl rfl rfl ?_
  have h16 := hM.nd16
  have h8 := hM.nm8
  have hjj := hM.j
  have hPf : ∀ i, i < 10 → okP ((vf_upd (sF σ 40) 0 (na (hldV H (sD σ 5)))) i) := upd_okP hP (hld_ok hp hq).2.2.2
  refine g_dconst0 C dX7_round_0 ?_
  refine g_aload_n C dX7_round_1 0 rfl rfl ?_
  refine g_get C dX7_round_2 wl27 rfl 16 (by decide) 1 rfl rfl rfl inX7_round_X7 ?_
  refine g_topd (y := pS H) hM.S ?_
  refine g_aload_n C dX7_round_5 0 rfl rfl ?_
  refine g_get C dX7_round_6 wl27 rfl 17 (by decide) 2 rfl rfl rfl inX7_round_X7 ?_
  refine g_topd (y := pL H) hM.L ?_
  refine g_aload_n C dX7_round_9 0 rfl rfl ?_
  refine g_get C dX7_round_10 wl27 rfl 19 (by decide) 3 rfl rfl rfl inX7_round_X7 ?_
  refine g_dmul C dX7_round_13 ((hld_ok hp hq).1.F.ok) ?_
  refine g_dsub C dX7_round_14 ((hld_ok hp hq).2.1.F.ok) ?_
  refine g_dsub C dX7_round_15 ((hld_ok hp hq).2.2.1.F.ok) ?_
  refine g_topd (y := hldV H (sD σ 5)) rfl ?_
  refine g_dstore_n (lv' := [(1, .double (hldV H (sD σ 5))), (0, .ref ((xK X).2.2 27))]) C dX7_round_16 rfl (by decide) rfl ?_
  refine g_aload_n C dX7_round_17 1 rfl rfl ?_
  refine g_get C dX7_round_18 wl27 rfl 18 (by decide) 4 rfl rfl rfl inX7_round_X7 ?_
  refine g_iconst (v := nI 0) C dX7_round_21 (by decide +kernel) ?_
  refine g_dload_n C dX7_round_22 0 rfl rfl ?_
  refine g_dconst0 C dX7_round_23 ?_
  refine g_dcmp C dX7_round_24 ?_
  refine g_if_le (tgt := 32) C dX7_round_25 (by decide) (fun c_25 => ?_) (fun c_25 => ?_)
  · refine g_dload_n C dX7_round_32 0 rfl rfl ?_
    refine g_topd (y := na (hldV H (sD σ 5))) (by unfold na; first | rw [if_pos c_25] | rw [if_neg c_25]) ?_
    refine g_dast (j := 0) (σ' := uF σ 40 (vf_upd (sF σ 40) 0 (na (hldV H (sD σ 5))))) C dX7_round_33 wl40 rfl (by decide) (by decide) wsA40 ?_
    refine g_dconst0 C dX7_round_34 ?_
    refine g_dstore_n (lv' := [(3, .double FP.dconst0), (1, .double (hldV H (sD σ 5))), (0, .ref ((xK X).2.2 27))]) C dX7_round_35 rfl (by decide) rfl ?_
    refine g_iconst (v := nI 1) C dX7_round_36 (by decide +kernel) ?_
    refine g_istore (lv' := [(5, .int (nI 1)), (3, .double FP.dconst0), (1, .double (hldV H (sD σ 5))), (0, .ref ((xK X).2.2 27))]) C dX7_round_37 (by decide) rfl ?_
    refine g_eq (σ2 := uF σ 40 (mrT H (sF σ 38) (sF σ 40, sD σ 5) 0).1) (lv2 := [(5, .int (nI 1)), (3, .double FP.dconst0), (1, .double (hldV H (sD σ 5))), (0, .ref ((xK X).2.2 27))]) (st2 := []) rfl rfl rfl ?_
    refine g_eq (σ2 := uF σ 40 (mrT H (sF σ 38) (sF σ 40, sD σ 5) 0).1) (lv2 := [(5, .int (nI 1)), (3, .double ((mrT H (sF σ 38) (sF σ 40, sD σ 5) 0).2)), (1, .double (hldV H (sD σ 5))), (0, .ref ((xK X).2.2 27))]) (st2 := []) rfl rfl rfl ?_
    have loop39 : ∀ (r9 : Nat) (t : Nat), nj - t < r9 → (t ≤ nj - 1) → G X 10 0 0 (uF σ 40 (mrT H (sF σ 38) (sF σ 40, sD σ 5) t).1) [(0, .ref ((xK X).2.2 27)), (3, .double ((mrT H (sF σ 38) (sF σ 40, sD σ 5) t).2)), (5, .int (nI (t + 1)))] 39 [] := by
      intro r9
      induction r9 with
      | zero => intro t h9; exact absurd h9 (Nat.not_lt_zero _)
      | succ r9 ih39 =>
        intro t hm39 ht
        have hPt : ∀ i, i < 10 → okP ((mrT H (sF σ 38) (sF σ 40, sD σ 5) t).1 i) := rdN_ok hp hg hPf t
        have hct : dN (mrT H (sF σ 38) (sF σ 40, sD σ 5) t).2 ∧ 0 ≤ dv (mrT H (sF σ 38) (sF σ 40, sD σ 5) t).2 := rdN_c hp hg (s := (vf_upd (sF σ 40) 0 (na (hldV H (sD σ 5))), FP.dconst0)) hPf ⟨d0_F.nn, by show 0 ≤ dv FP.dconst0; rw [d0_v]; exact Int.le_refl _⟩ t (by omega)
        refine g_iload C dX7_round_39 2 rfl ?_
        refine g_aload_n C dX7_round_41 0 rfl rfl ?_
        refine g_get C dX7_round_42 wl27 rfl 1 (by decide) 5 rfl rfl rfl inX7_round_X7 ?_
        refine g_topi (y := nI nj) hM.j.1 ?_
        refine g_icmp_ge (tgt := 114) C dX7_round_45 (by decide) (fun c_45 => ?_) (fun c_45 => ?_)
        · have hte : t = nj - 1 := by
            have h9 := (nI_leI (by omega) (by omega)).mp c_45
            omega
          have hP9 : ∀ i, i < 10 → okP ((mrT H (sF σ 38) (sF σ 40, sD σ 5) 9).1 i) := rdN_ok hp hg hPf 9
          refine g_eq (σ2 := uF σ 40 (mrT H (sF σ 38) (sF σ 40, sD σ 5) 9).1) (lv2 := [(0, .ref ((xK X).2.2 27)), (3, .double ((mrT H (sF σ 38) (sF σ 40, sD σ 5) t).2)), (5, .int (nI (t + 1)))]) (st2 := []) (by rw [hte, hM.end_]) rfl rfl ?_
          refine g_eq (σ2 := uF σ 40 (mrT H (sF σ 38) (sF σ 40, sD σ 5) 9).1) (lv2 := [(0, .ref ((xK X).2.2 27)), (3, .double ((mrT H (sF σ 38) (sF σ 40, sD σ 5) 9).2)), (5, .int (nI (t + 1)))]) (st2 := []) rfl (congrArg (fun z9 => ([(0, .ref ((xK X).2.2 27)), (3, .double z9), (5, .int (nI (t + 1)))] : List (Nat × Value))) (by rw [hte, hM.end_])) rfl ?_
          refine g_dconst0 C dX7_round_114 ?_
          refine g_dstore (lv' := [(5, .double FP.dconst0), (0, .ref ((xK X).2.2 27)), (3, .double ((mrT H (sF σ 38) (sF σ 40, sD σ 5) 9).2))]) C dX7_round_115 (by decide) rfl ?_
          refine g_iconst (v := nI 0) C dX7_round_117 (by decide +kernel) ?_
          refine g_istore (lv' := [(7, .int (nI 0)), (5, .double FP.dconst0), (0, .ref ((xK X).2.2 27)), (3, .double ((mrT H (sF σ 38) (sF σ 40, sD σ 5) 9).2))]) C dX7_round_118 (by decide) rfl ?_
          have loop120 : ∀ (r9 : Nat) (d : Nat), pD H - d < r9 → (d ≤ pD H) → G X 10 0 0 (uF σ 40 (mrT H (sF σ 38) (sF σ 40, sD σ 5) 9).1) [(0, .ref ((xK X).2.2 27)), (3, .double ((mrT H (sF σ 38) (sF σ 40, sD σ 5) 9).2)), (5, .double (accF FP.dconst0 (atj H 0) (fun d => FP.dmul (pE H d) (FP.dsub ((mrT H (sF σ 38) (sF σ 40, sD σ 5) 9).1 (oth H 0 d)) ((mrT H (sF σ 38) (sF σ 40, sD σ 5) 9).1 0))) d)), (7, .int (nI d))] 120 [] := by
            intro r9
            induction r9 with
            | zero => intro d h9; exact absurd h9 (Nat.not_lt_zero _)
            | succ r9 ih120 =>
              intro d hm120 hd
              refine g_iload C dX7_round_120 3 rfl ?_
              refine g_aload_n C dX7_round_122 0 rfl rfl ?_
              refine g_get C dX7_round_123 wl27 rfl 2 (by decide) 6 rfl rfl rfl inX7_round_X7 ?_
              refine g_topi (y := nI (pD H)) hM.nd ?_
              refine g_icmp_ge (tgt := 181) C dX7_round_126 (by decide) (fun c_126 => ?_) (fun c_126 => ?_)
              · have hde : d = pD H := by
                  have h9 := (nI_leI (by  omega) (by  omega)).mp c_126
                  omega
                refine g_eq (σ2 := uF σ 40 (mrT H (sF σ 38) (sF σ 40, sD σ 5) 9).1) (lv2 := [(0, .ref ((xK X).2.2 27)), (3, .double ((mrT H (sF σ 38) (sF σ 40, sD σ 5) 9).2)), (5, .double (floV H (mrT H (sF σ 38) (sF σ 40, sD σ 5) 9).1 0)), (7, .int (nI d))]) (st2 := []) rfl (congrArg (fun z9 => ([(0, .ref ((xK X).2.2 27)), (3, .double ((mrT H (sF σ 38) (sF σ 40, sD σ 5) 9).2)), (5, .double z9), (7, .int (nI d))] : List (Nat × Value))) (by rw [hde]; rfl)) rfl ?_
                refine g_aload_n C dX7_round_181 0 rfl rfl ?_
                refine g_dload C dX7_round_182 2 rfl ?_
                refine g_dconst0 C dX7_round_184 ?_
                refine g_dcmp C dX7_round_185 ?_
                refine g_if_ge (tgt := 193) C dX7_round_186 (by decide) (fun c_186 => ?_) (fun c_186 => ?_)
                · refine g_dload C dX7_round_193 2 rfl ?_
                  refine g_topd (y := nb (floV H (mrT H (sF σ 38) (sF σ 40, sD σ 5) 9).1 0)) (by unfold nb; first | rw [if_pos c_186]; done | rw [if_neg c_186]; done) ?_
                  refine g_put (σ' := uD (uF σ 40 (mrT H (sF σ 38) (sF σ 40, sD σ 5) 9).1) 5 (nb (floV H (mrT H (sF σ 38) (sF σ 40, sD σ 5) 9).1 0))) (ty := .double) C dX7_round_195 wl27 rfl 19 (by decide) 3 rfl rfl inX7_round_X7 tyX7_ok nmX7 rfl (by decide +kernel) rfl rfl (Nat.le_of_ble_eq_true rfl) wsD5 ?_
                  refine g_dload_n C dX7_round_198 1 rfl rfl ?_
                  refine g_dret C dX7_round_199 rfl ⟨Nat.le_of_ble_eq_true rfl, Nat.le_of_ble_eq_true rfl⟩ ?_
                  rw [hF]
                  exact ⟨rfl, rfl⟩
                · refine g_dconst0 C dX7_round_189 ?_
                  refine g_goto (tgt := 195) C dX7_round_190 (by decide) ?_
                  refine g_topd (y := nb (floV H (mrT H (sF σ 38) (sF σ 40, sD σ 5) 9).1 0)) (by unfold nb; first | rw [if_pos c_186]; done | rw [if_neg c_186]; done) ?_
                  refine g_put (σ' := uD (uF σ 40 (mrT H (sF σ 38) (sF σ 40, sD σ 5) 9).1) 5 (nb (floV H (mrT H (sF σ 38) (sF σ 40, sD σ 5) 9).1 0))) (ty := .double) C dX7_round_195 wl27 rfl 19 (by decide) 3 rfl rfl inX7_round_X7 tyX7_ok nmX7 rfl (by decide +kernel) rfl rfl (Nat.le_of_ble_eq_true rfl) wsD5 ?_
                  refine g_dload_n C dX7_round_198 1 rfl rfl ?_
                  refine g_dret C dX7_round_199 rfl ⟨Nat.le_of_ble_eq_true rfl, Nat.le_of_ble_eq_true rfl⟩ ?_
                  rw [hF]
                  exact ⟨rfl, rfl⟩
              · have hdt : d < pD H := by
                  refine Nat.lt_of_not_le fun h => c_126 ?_
                  exact (nI_leI (by  omega) (by  omega)).mpr (by omega)
                refine g_aload_n C dX7_round_129 0 rfl rfl ?_
                refine g_iload C dX7_round_130 3 rfl ?_
                refine g_iconst (v := nI 0) C dX7_round_132 (by decide +kernel) ?_
                refine g_callV (As := [.int (nI d), .int (nI 0)]) (rest := []) C dX7_round_133 (kX7_other (xl X) (xK X) C.hD (uF σ 40 (mrT H (sF σ 38) (sF σ 40, sD σ 5) 9).1) hM hp hdt (j := 0) (by decide)) wl27 rfl 2 gX7_round_X7_other rfl (by decide +kernel) ⟨Nat.le_of_ble_eq_true rfl, Nat.le_of_ble_eq_true rfl⟩ ⟨Nat.le_of_ble_eq_true rfl, Nat.le_of_ble_eq_true rfl⟩ rfl rfl (Nat.le_of_ble_eq_true rfl) (fun rv9 σ9 h9 => ?_)
                obtain ⟨h9a, h9b⟩ := h9
                refine g_eq (σ2 := uF σ 40 (mrT H (sF σ 38) (sF σ 40, sD σ 5) 9).1) (lv2 := [(0, .ref ((xK X).2.2 27)), (3, .double ((mrT H (sF σ 38) (sF σ 40, sD σ 5) 9).2)), (5, .double (accF FP.dconst0 (atj H 0) (fun d => FP.dmul (pE H d) (FP.dsub ((mrT H (sF σ 38) (sF σ 40, sD σ 5) 9).1 (oth H 0 d)) ((mrT H (sF σ 38) (sF σ 40, sD σ 5) 9).1 0))) d)), (7, .int (nI d))]) (st2 := [.int (otI H d 0)]) h9b rfl (by rw [h9a]; rfl) ?_
                refine g_istore (lv' := [(8, .int (otI H d 0)), (0, .ref ((xK X).2.2 27)), (3, .double ((mrT H (sF σ 38) (sF σ 40, sD σ 5) 9).2)), (5, .double (accF FP.dconst0 (atj H 0) (fun d => FP.dmul (pE H d) (FP.dsub ((mrT H (sF σ 38) (sF σ 40, sD σ 5) 9).1 (oth H 0 d)) ((mrT H (sF σ 38) (sF σ 40, sD σ 5) 9).1 0))) d)), (7, .int (nI d))]) C dX7_round_136 (by decide) rfl ?_
                refine g_iload C dX7_round_138 0 rfl ?_
                refine g_iconst (v := (-1)) C dX7_round_140 (by decide +kernel) ?_
                refine g_icmp_ne (tgt := 149) C dX7_round_141 (by decide) (fun c_141 => ?_) (fun c_141 => ?_)
                · have hb := ot_t c_141
                  refine g_dload C dX7_round_149 3 rfl ?_
                  refine g_aload_n C dX7_round_151 1 rfl rfl ?_
                  refine g_iload C dX7_round_152 4 rfl ?_
                  refine g_callV (As := [.int (nI d)]) (rest := [.double (accF FP.dconst0 (atj H 0) (fun d => FP.dmul (pE H d) (FP.dsub ((mrT H (sF σ 38) (sF σ 40, sD σ 5) 9).1 (oth H 0 d)) ((mrT H (sF σ 38) (sF σ 40, sD σ 5) 9).1 0))) d)]) C dX7_round_154 (kX7_ease (xl X) (xK X) C.hD (uF σ 40 (mrT H (sF σ 38) (sF σ 40, sD σ 5) 9).1) hM hp (d := d) hdt) wl27 rfl 1 gX7_round_X7_ease rfl (by decide +kernel) ⟨Nat.le_of_ble_eq_true rfl, Nat.le_of_ble_eq_true rfl⟩ ⟨Nat.le_of_ble_eq_true rfl, Nat.le_of_ble_eq_true rfl⟩ rfl rfl (Nat.le_of_ble_eq_true rfl) (fun rv9 σ9 h9 => ?_)
                  obtain ⟨h9a, h9b⟩ := h9
                  refine g_eq (σ2 := uF σ 40 (mrT H (sF σ 38) (sF σ 40, sD σ 5) 9).1) (lv2 := [(8, .int (otI H d 0)), (0, .ref ((xK X).2.2 27)), (3, .double ((mrT H (sF σ 38) (sF σ 40, sD σ 5) 9).2)), (5, .double (accF FP.dconst0 (atj H 0) (fun d => FP.dmul (pE H d) (FP.dsub ((mrT H (sF σ 38) (sF σ 40, sD σ 5) 9).1 (oth H 0 d)) ((mrT H (sF σ 38) (sF σ 40, sD σ 5) 9).1 0))) d)), (7, .int (nI d))]) (st2 := [.double (pE H d), .double (accF FP.dconst0 (atj H 0) (fun d => FP.dmul (pE H d) (FP.dsub ((mrT H (sF σ 38) (sF σ 40, sD σ 5) 9).1 (oth H 0 d)) ((mrT H (sF σ 38) (sF σ 40, sD σ 5) 9).1 0))) d)]) h9b rfl (by rw [h9a]; rfl) ?_
                  refine g_aload_n C dX7_round_157 1 rfl rfl ?_
                  refine g_get C dX7_round_158 wl27 rfl 18 (by decide) 4 rfl rfl rfl inX7_round_X7 ?_
                  refine g_iload C dX7_round_161 0 rfl ?_
                  refine g_dald (j := (oth H 0 d)) C dX7_round_163 wl40 (ot_yes hb) (oth_lt hp hdt) (by decide) ?_
                  refine g_aload_n C dX7_round_164 1 rfl rfl ?_
                  refine g_get C dX7_round_165 wl27 rfl 18 (by decide) 4 rfl rfl rfl inX7_round_X7 ?_
                  refine g_iconst (v := nI 0) C dX7_round_168 (by decide +kernel) ?_
                  refine g_dald (j := 0) C dX7_round_169 wl40 rfl (by decide) (by decide) ?_
                  refine g_dsub C dX7_round_170 ((flo_s (h := H) hP9 (oth_lt hp hdt) (by decide)).F.ok) ?_
                  refine g_dmul C dX7_round_171 ((flo_g hp hP9 hdt (oth_lt hp hdt) (by decide)).F.ok) ?_
                  refine g_dadd C dX7_round_172 (accF_ok (d0_B 35) (n := pD H) (by omega) hdt (p := atj H 0) (g := fun d => FP.dmul (pE H d) (FP.dsub ((mrT H (sF σ 38) (sF σ 40, sD σ 5) 9).1 (oth H 0 d)) ((mrT H (sF σ 38) (sF σ 40, sD σ 5) 9).1 0))) (fun i hi _ => flo_g hp hP9 hi (oth_lt hp hi) (by decide)) hb) ?_
                  refine g_topd (y := accF FP.dconst0 (atj H 0) (fun d => FP.dmul (pE H d) (FP.dsub ((mrT H (sF σ 38) (sF σ 40, sD σ 5) 9).1 (oth H 0 d)) ((mrT H (sF σ 38) (sF σ 40, sD σ 5) 9).1 0))) (d + 1)) (by first | exact (accF_yes hb).symm | exact (accF_no hb).symm) ?_
                  refine g_dstore (lv' := [(5, .double (accF FP.dconst0 (atj H 0) (fun d => FP.dmul (pE H d) (FP.dsub ((mrT H (sF σ 38) (sF σ 40, sD σ 5) 9).1 (oth H 0 d)) ((mrT H (sF σ 38) (sF σ 40, sD σ 5) 9).1 0))) (d + 1))), (8, .int (otI H d 0)), (0, .ref ((xK X).2.2 27)), (3, .double ((mrT H (sF σ 38) (sF σ 40, sD σ 5) 9).2)), (7, .int (nI d))]) C dX7_round_173 (by decide) rfl ?_
                  refine g_iinc (v := nI (d + 1)) (lv' := [(7, .int (nI (d + 1))), (5, .double (accF FP.dconst0 (atj H 0) (fun d => FP.dmul (pE H d) (FP.dsub ((mrT H (sF σ 38) (sF σ 40, sD σ 5) 9).1 (oth H 0 d)) ((mrT H (sF σ 38) (sF σ 40, sD σ 5) 9).1 0))) (d + 1))), (8, .int (otI H d 0)), (0, .ref ((xK X).2.2 27)), (3, .double ((mrT H (sF σ 38) (sF σ 40, sD σ 5) 9).2))]) C dX7_round_175 4 rfl (nI_1 d) (by decide) rfl ?_
                  refine g_goto (tgt := 120) C dX7_round_178 (by decide) ?_
                  refine g_lv [3, 4, 1, 0] rfl ?_
                  exact ih120 (d + 1) (by omega) (by omega)
                · have hb := ot_f hp hdt (Decidable.byContradiction fun h => absurd c_141 h)
                  refine g_dload C dX7_round_144 3 rfl ?_
                  refine g_goto (tgt := 173) C dX7_round_146 (by decide) ?_
                  refine g_topd (y := accF FP.dconst0 (atj H 0) (fun d => FP.dmul (pE H d) (FP.dsub ((mrT H (sF σ 38) (sF σ 40, sD σ 5) 9).1 (oth H 0 d)) ((mrT H (sF σ 38) (sF σ 40, sD σ 5) 9).1 0))) (d + 1)) (by first | exact (accF_yes hb).symm | exact (accF_no hb).symm) ?_
                  refine g_dstore (lv' := [(5, .double (accF FP.dconst0 (atj H 0) (fun d => FP.dmul (pE H d) (FP.dsub ((mrT H (sF σ 38) (sF σ 40, sD σ 5) 9).1 (oth H 0 d)) ((mrT H (sF σ 38) (sF σ 40, sD σ 5) 9).1 0))) (d + 1))), (8, .int (otI H d 0)), (0, .ref ((xK X).2.2 27)), (3, .double ((mrT H (sF σ 38) (sF σ 40, sD σ 5) 9).2)), (7, .int (nI d))]) C dX7_round_173 (by decide) rfl ?_
                  refine g_iinc (v := nI (d + 1)) (lv' := [(7, .int (nI (d + 1))), (5, .double (accF FP.dconst0 (atj H 0) (fun d => FP.dmul (pE H d) (FP.dsub ((mrT H (sF σ 38) (sF σ 40, sD σ 5) 9).1 (oth H 0 d)) ((mrT H (sF σ 38) (sF σ 40, sD σ 5) 9).1 0))) (d + 1))), (8, .int (otI H d 0)), (0, .ref ((xK X).2.2 27)), (3, .double ((mrT H (sF σ 38) (sF σ 40, sD σ 5) 9).2))]) C dX7_round_175 4 rfl (nI_1 d) (by decide) rfl ?_
                  refine g_goto (tgt := 120) C dX7_round_178 (by decide) ?_
                  refine g_lv [3, 4, 1, 0] rfl ?_
                  exact ih120 (d + 1) (by omega) (by omega)
          refine g_lv [2, 3, 1, 0] rfl ?_
          exact loop120 (pD H + 1) 0 (by omega) (Nat.zero_le _)
        · have hlt : t + 1 < nj := by
            refine Nat.lt_of_not_le fun h => c_45 ?_
            exact (nI_leI (by  omega) (by  omega)).mpr (by omega)
          refine g_aload_n C dX7_round_48 0 rfl rfl ?_
          refine g_iload C dX7_round_49 2 rfl ?_
          refine g_callV (As := [.int (nI (t + 1))]) (rest := []) C dX7_round_51 (kX7_balance (xl X) (xK X) C.hD (uF σ 40 (mrT H (sF σ 38) (sF σ 40, sD σ 5) t).1) hM hp hPt hg (j := t + 1) (by omega)) wl27 rfl 1 gX7_round_X7_balance rfl (by decide +kernel) ⟨Nat.le_of_ble_eq_true rfl, Nat.le_of_ble_eq_true rfl⟩ ⟨Nat.le_of_ble_eq_true rfl, Nat.le_of_ble_eq_true rfl⟩ rfl rfl (Nat.le_of_ble_eq_true rfl) (fun rv9 σ9 h9 => ?_)
          obtain ⟨h9a, h9b⟩ := h9
          refine g_eq (σ2 := uF σ 40 (mrT H (sF σ 38) (sF σ 40, sD σ 5) t).1) (lv2 := [(0, .ref ((xK X).2.2 27)), (3, .double ((mrT H (sF σ 38) (sF σ 40, sD σ 5) t).2)), (5, .int (nI (t + 1)))]) (st2 := [.double (blV H (mrT H (sF σ 38) (sF σ 40, sD σ 5) t).1 (sF σ 38) (t + 1))]) h9b rfl (by rw [h9a]; rfl) ?_
          refine g_dstore (lv' := [(6, .double (blV H (mrT H (sF σ 38) (sF σ 40, sD σ 5) t).1 (sF σ 38) (t + 1))), (0, .ref ((xK X).2.2 27)), (3, .double ((mrT H (sF σ 38) (sF σ 40, sD σ 5) t).2)), (5, .int (nI (t + 1)))]) C dX7_round_54 (by decide) rfl ?_
          refine g_dload C dX7_round_56 0 rfl ?_
          refine g_aload_n C dX7_round_58 1 rfl rfl ?_
          refine g_get C dX7_round_59 wl27 rfl 18 (by decide) 4 rfl rfl rfl inX7_round_X7 ?_
          refine g_iload C dX7_round_62 3 rfl ?_
          refine g_dald (j := (t + 1)) C dX7_round_64 wl40 rfl (by omega) (by decide) ?_
          refine g_topd (y := (mrT H (sF σ 38) (sF σ 40, sD σ 5) t).1 (t + 1)) rfl ?_
          refine g_dsub C dX7_round_65 (((blV_ok hp hPt hg (j := t + 1) (by omega)).B.sub (k := 11) (hPt _ (by omega)).B (by decide)).F.ok) ?_
          refine g_dstore (lv' := [(8, .double (FP.dsub (blV H (mrT H (sF σ 38) (sF σ 40, sD σ 5) t).1 (sF σ 38) (t + 1)) ((mrT H (sF σ 38) (sF σ 40, sD σ 5) t).1 (t + 1)))), (6, .double (blV H (mrT H (sF σ 38) (sF σ 40, sD σ 5) t).1 (sF σ 38) (t + 1))), (0, .ref ((xK X).2.2 27)), (3, .double ((mrT H (sF σ 38) (sF σ 40, sD σ 5) t).2)), (5, .int (nI (t + 1)))]) C dX7_round_66 (by decide) rfl ?_
          refine g_dload C dX7_round_68 0 rfl ?_
          refine g_dconst0 C dX7_round_70 ?_
          refine g_dcmp C dX7_round_71 ?_
          refine g_if_ge (tgt := 81) C dX7_round_72 (by decide) (fun c_72 => ?_) (fun c_72 => ?_)
          · refine g_dload C dX7_round_81 0 rfl ?_
            refine g_topd (y := mg (FP.dsub (blV H (mrT H (sF σ 38) (sF σ 40, sD σ 5) t).1 (sF σ 38) (t + 1)) ((mrT H (sF σ 38) (sF σ 40, sD σ 5) t).1 (t + 1)))) (by unfold mg; first | rw [if_pos c_72] | rw [if_neg c_72]) ?_
            refine g_dstore (lv' := [(8, .double (mg (FP.dsub (blV H (mrT H (sF σ 38) (sF σ 40, sD σ 5) t).1 (sF σ 38) (t + 1)) ((mrT H (sF σ 38) (sF σ 40, sD σ 5) t).1 (t + 1))))), (6, .double (blV H (mrT H (sF σ 38) (sF σ 40, sD σ 5) t).1 (sF σ 38) (t + 1))), (0, .ref ((xK X).2.2 27)), (3, .double ((mrT H (sF σ 38) (sF σ 40, sD σ 5) t).2)), (5, .int (nI (t + 1)))]) C dX7_round_83 (by decide) rfl ?_
            refine g_dload C dX7_round_85 0 rfl ?_
            refine g_dload_n C dX7_round_87 3 rfl rfl ?_
            refine g_dcmp C dX7_round_88 ?_
            refine g_if_le (tgt := 97) C dX7_round_89 (by decide) (fun c_89 => ?_) (fun c_89 => ?_)
            · refine g_dload_n C dX7_round_97 3 rfl rfl ?_
              refine g_topd (y := mx (mrT H (sF σ 38) (sF σ 40, sD σ 5) t).2 (mg (FP.dsub (blV H (mrT H (sF σ 38) (sF σ 40, sD σ 5) t).1 (sF σ 38) (t + 1)) ((mrT H (sF σ 38) (sF σ 40, sD σ 5) t).1 (t + 1))))) (by unfold mx; first | rw [if_pos c_89] | rw [if_neg c_89]) ?_
              refine g_dstore_n (lv' := [(3, .double (mx (mrT H (sF σ 38) (sF σ 40, sD σ 5) t).2 (mg (FP.dsub (blV H (mrT H (sF σ 38) (sF σ 40, sD σ 5) t).1 (sF σ 38) (t + 1)) ((mrT H (sF σ 38) (sF σ 40, sD σ 5) t).1 (t + 1)))))), (8, .double (mg (FP.dsub (blV H (mrT H (sF σ 38) (sF σ 40, sD σ 5) t).1 (sF σ 38) (t + 1)) ((mrT H (sF σ 38) (sF σ 40, sD σ 5) t).1 (t + 1))))), (6, .double (blV H (mrT H (sF σ 38) (sF σ 40, sD σ 5) t).1 (sF σ 38) (t + 1))), (0, .ref ((xK X).2.2 27)), (5, .int (nI (t + 1)))]) C dX7_round_98 rfl (by decide) rfl ?_
              refine g_aload_n C dX7_round_99 3 rfl rfl ?_
              refine g_get C dX7_round_100 wl27 rfl 18 (by decide) 4 rfl rfl rfl inX7_round_X7 ?_
              refine g_iload C dX7_round_103 4 rfl ?_
              refine g_dload C dX7_round_105 2 rfl ?_
              refine g_dast (j := (t + 1)) (σ' := uF (uF σ 40 (mrT H (sF σ 38) (sF σ 40, sD σ 5) t).1) 40 (vf_upd (sF (uF σ 40 (mrT H (sF σ 38) (sF σ 40, sD σ 5) t).1) 40) (t + 1) (blV H (mrT H (sF σ 38) (sF σ 40, sD σ 5) t).1 (sF σ 38) (t + 1)))) C dX7_round_107 wl40 rfl (by omega) (by decide) wsA40 ?_
              refine g_eq (σ2 := uF σ 40 (vf_upd (mrT H (sF σ 38) (sF σ 40, sD σ 5) t).1 (t + 1) (blV H (mrT H (sF σ 38) (sF σ 40, sD σ 5) t).1 (sF σ 38) (t + 1)))) (lv2 := [(3, .double (mx (mrT H (sF σ 38) (sF σ 40, sD σ 5) t).2 (mg (FP.dsub (blV H (mrT H (sF σ 38) (sF σ 40, sD σ 5) t).1 (sF σ 38) (t + 1)) ((mrT H (sF σ 38) (sF σ 40, sD σ 5) t).1 (t + 1)))))), (8, .double (mg (FP.dsub (blV H (mrT H (sF σ 38) (sF σ 40, sD σ 5) t).1 (sF σ 38) (t + 1)) ((mrT H (sF σ 38) (sF σ 40, sD σ 5) t).1 (t + 1))))), (6, .double (blV H (mrT H (sF σ 38) (sF σ 40, sD σ 5) t).1 (sF σ 38) (t + 1))), (0, .ref ((xK X).2.2 27)), (5, .int (nI (t + 1)))]) (st2 := []) (uF_step _ _ _ _ _) rfl rfl ?_
              have hup := mr_up hp (s := mrT H (sF σ 38) (sF σ 40, sD σ 5) t) (g := sF σ 38) (j := t + 1) (by omega) hPt hct
              refine g_eq (σ2 := uF σ 40 (mrT H (sF σ 38) (sF σ 40, sD σ 5) (t + 1)).1) (lv2 := [(3, .double (mx (mrT H (sF σ 38) (sF σ 40, sD σ 5) t).2 (mg (FP.dsub (blV H (mrT H (sF σ 38) (sF σ 40, sD σ 5) t).1 (sF σ 38) (t + 1)) ((mrT H (sF σ 38) (sF σ 40, sD σ 5) t).1 (t + 1)))))), (8, .double (mg (FP.dsub (blV H (mrT H (sF σ 38) (sF σ 40, sD σ 5) t).1 (sF σ 38) (t + 1)) ((mrT H (sF σ 38) (sF σ 40, sD σ 5) t).1 (t + 1))))), (6, .double (blV H (mrT H (sF σ 38) (sF σ 40, sD σ 5) t).1 (sF σ 38) (t + 1))), (0, .ref ((xK X).2.2 27)), (5, .int (nI (t + 1)))]) (st2 := []) (congrArg (fun z => uF σ 40 z) (congrArg Prod.fst hup)) rfl rfl ?_
              refine g_eq (σ2 := uF σ 40 (mrT H (sF σ 38) (sF σ 40, sD σ 5) (t + 1)).1) (lv2 := [(3, .double ((mrT H (sF σ 38) (sF σ 40, sD σ 5) (t + 1)).2)), (8, .double (mg (FP.dsub (blV H (mrT H (sF σ 38) (sF σ 40, sD σ 5) t).1 (sF σ 38) (t + 1)) ((mrT H (sF σ 38) (sF σ 40, sD σ 5) t).1 (t + 1))))), (6, .double (blV H (mrT H (sF σ 38) (sF σ 40, sD σ 5) t).1 (sF σ 38) (t + 1))), (0, .ref ((xK X).2.2 27)), (5, .int (nI (t + 1)))]) (st2 := []) rfl (congrArg (fun z9 => ([(3, .double z9), (8, .double (mg (FP.dsub (blV H (mrT H (sF σ 38) (sF σ 40, sD σ 5) t).1 (sF σ 38) (t + 1)) ((mrT H (sF σ 38) (sF σ 40, sD σ 5) t).1 (t + 1))))), (6, .double (blV H (mrT H (sF σ 38) (sF σ 40, sD σ 5) t).1 (sF σ 38) (t + 1))), (0, .ref ((xK X).2.2 27)), (5, .int (nI (t + 1)))] : List (Nat × Value))) (congrArg Prod.snd hup)) rfl ?_
              refine g_iinc (v := nI ((t + 1) + 1)) (lv' := [(5, .int (nI ((t + 1) + 1))), (3, .double ((mrT H (sF σ 38) (sF σ 40, sD σ 5) (t + 1)).2)), (8, .double (mg (FP.dsub (blV H (mrT H (sF σ 38) (sF σ 40, sD σ 5) t).1 (sF σ 38) (t + 1)) ((mrT H (sF σ 38) (sF σ 40, sD σ 5) t).1 (t + 1))))), (6, .double (blV H (mrT H (sF σ 38) (sF σ 40, sD σ 5) t).1 (sF σ 38) (t + 1))), (0, .ref ((xK X).2.2 27))]) C dX7_round_108 4 rfl (nI_1 (t + 1)) (by decide) rfl ?_
              refine g_goto (tgt := 39) C dX7_round_111 (by decide) ?_
              refine g_lv [4, 1, 0] rfl ?_
              exact ih39 (t + 1) (by omega) (by omega)
            · refine g_dload C dX7_round_92 0 rfl ?_
              refine g_goto (tgt := 98) C dX7_round_94 (by decide) ?_
              refine g_topd (y := mx (mrT H (sF σ 38) (sF σ 40, sD σ 5) t).2 (mg (FP.dsub (blV H (mrT H (sF σ 38) (sF σ 40, sD σ 5) t).1 (sF σ 38) (t + 1)) ((mrT H (sF σ 38) (sF σ 40, sD σ 5) t).1 (t + 1))))) (by unfold mx; first | rw [if_pos c_89] | rw [if_neg c_89]) ?_
              refine g_dstore_n (lv' := [(3, .double (mx (mrT H (sF σ 38) (sF σ 40, sD σ 5) t).2 (mg (FP.dsub (blV H (mrT H (sF σ 38) (sF σ 40, sD σ 5) t).1 (sF σ 38) (t + 1)) ((mrT H (sF σ 38) (sF σ 40, sD σ 5) t).1 (t + 1)))))), (8, .double (mg (FP.dsub (blV H (mrT H (sF σ 38) (sF σ 40, sD σ 5) t).1 (sF σ 38) (t + 1)) ((mrT H (sF σ 38) (sF σ 40, sD σ 5) t).1 (t + 1))))), (6, .double (blV H (mrT H (sF σ 38) (sF σ 40, sD σ 5) t).1 (sF σ 38) (t + 1))), (0, .ref ((xK X).2.2 27)), (5, .int (nI (t + 1)))]) C dX7_round_98 rfl (by decide) rfl ?_
              refine g_aload_n C dX7_round_99 3 rfl rfl ?_
              refine g_get C dX7_round_100 wl27 rfl 18 (by decide) 4 rfl rfl rfl inX7_round_X7 ?_
              refine g_iload C dX7_round_103 4 rfl ?_
              refine g_dload C dX7_round_105 2 rfl ?_
              refine g_dast (j := (t + 1)) (σ' := uF (uF σ 40 (mrT H (sF σ 38) (sF σ 40, sD σ 5) t).1) 40 (vf_upd (sF (uF σ 40 (mrT H (sF σ 38) (sF σ 40, sD σ 5) t).1) 40) (t + 1) (blV H (mrT H (sF σ 38) (sF σ 40, sD σ 5) t).1 (sF σ 38) (t + 1)))) C dX7_round_107 wl40 rfl (by omega) (by decide) wsA40 ?_
              refine g_eq (σ2 := uF σ 40 (vf_upd (mrT H (sF σ 38) (sF σ 40, sD σ 5) t).1 (t + 1) (blV H (mrT H (sF σ 38) (sF σ 40, sD σ 5) t).1 (sF σ 38) (t + 1)))) (lv2 := [(3, .double (mx (mrT H (sF σ 38) (sF σ 40, sD σ 5) t).2 (mg (FP.dsub (blV H (mrT H (sF σ 38) (sF σ 40, sD σ 5) t).1 (sF σ 38) (t + 1)) ((mrT H (sF σ 38) (sF σ 40, sD σ 5) t).1 (t + 1)))))), (8, .double (mg (FP.dsub (blV H (mrT H (sF σ 38) (sF σ 40, sD σ 5) t).1 (sF σ 38) (t + 1)) ((mrT H (sF σ 38) (sF σ 40, sD σ 5) t).1 (t + 1))))), (6, .double (blV H (mrT H (sF σ 38) (sF σ 40, sD σ 5) t).1 (sF σ 38) (t + 1))), (0, .ref ((xK X).2.2 27)), (5, .int (nI (t + 1)))]) (st2 := []) (uF_step _ _ _ _ _) rfl rfl ?_
              have hup := mr_up hp (s := mrT H (sF σ 38) (sF σ 40, sD σ 5) t) (g := sF σ 38) (j := t + 1) (by omega) hPt hct
              refine g_eq (σ2 := uF σ 40 (mrT H (sF σ 38) (sF σ 40, sD σ 5) (t + 1)).1) (lv2 := [(3, .double (mx (mrT H (sF σ 38) (sF σ 40, sD σ 5) t).2 (mg (FP.dsub (blV H (mrT H (sF σ 38) (sF σ 40, sD σ 5) t).1 (sF σ 38) (t + 1)) ((mrT H (sF σ 38) (sF σ 40, sD σ 5) t).1 (t + 1)))))), (8, .double (mg (FP.dsub (blV H (mrT H (sF σ 38) (sF σ 40, sD σ 5) t).1 (sF σ 38) (t + 1)) ((mrT H (sF σ 38) (sF σ 40, sD σ 5) t).1 (t + 1))))), (6, .double (blV H (mrT H (sF σ 38) (sF σ 40, sD σ 5) t).1 (sF σ 38) (t + 1))), (0, .ref ((xK X).2.2 27)), (5, .int (nI (t + 1)))]) (st2 := []) (congrArg (fun z => uF σ 40 z) (congrArg Prod.fst hup)) rfl rfl ?_
              refine g_eq (σ2 := uF σ 40 (mrT H (sF σ 38) (sF σ 40, sD σ 5) (t + 1)).1) (lv2 := [(3, .double ((mrT H (sF σ 38) (sF σ 40, sD σ 5) (t + 1)).2)), (8, .double (mg (FP.dsub (blV H (mrT H (sF σ 38) (sF σ 40, sD σ 5) t).1 (sF σ 38) (t + 1)) ((mrT H (sF σ 38) (sF σ 40, sD σ 5) t).1 (t + 1))))), (6, .double (blV H (mrT H (sF σ 38) (sF σ 40, sD σ 5) t).1 (sF σ 38) (t + 1))), (0, .ref ((xK X).2.2 27)), (5, .int (nI (t + 1)))]) (st2 := []) rfl (congrArg (fun z9 => ([(3, .double z9), (8, .double (mg (FP.dsub (blV H (mrT H (sF σ 38) (sF σ 40, sD σ 5) t).1 (sF σ 38) (t + 1)) ((mrT H (sF σ 38) (sF σ 40, sD σ 5) t).1 (t + 1))))), (6, .double (blV H (mrT H (sF σ 38) (sF σ 40, sD σ 5) t).1 (sF σ 38) (t + 1))), (0, .ref ((xK X).2.2 27)), (5, .int (nI (t + 1)))] : List (Nat × Value))) (congrArg Prod.snd hup)) rfl ?_
              refine g_iinc (v := nI ((t + 1) + 1)) (lv' := [(5, .int (nI ((t + 1) + 1))), (3, .double ((mrT H (sF σ 38) (sF σ 40, sD σ 5) (t + 1)).2)), (8, .double (mg (FP.dsub (blV H (mrT H (sF σ 38) (sF σ 40, sD σ 5) t).1 (sF σ 38) (t + 1)) ((mrT H (sF σ 38) (sF σ 40, sD σ 5) t).1 (t + 1))))), (6, .double (blV H (mrT H (sF σ 38) (sF σ 40, sD σ 5) t).1 (sF σ 38) (t + 1))), (0, .ref ((xK X).2.2 27))]) C dX7_round_108 4 rfl (nI_1 (t + 1)) (by decide) rfl ?_
              refine g_goto (tgt := 39) C dX7_round_111 (by decide) ?_
              refine g_lv [4, 1, 0] rfl ?_
              exact ih39 (t + 1) (by omega) (by omega)
          · refine g_dload C dX7_round_75 0 rfl ?_
            refine g_dneg C dX7_round_77 ?_
            refine g_goto (tgt := 83) C dX7_round_78 (by decide) ?_
            refine g_topd (y := mg (FP.dsub (blV H (mrT H (sF σ 38) (sF σ 40, sD σ 5) t).1 (sF σ 38) (t + 1)) ((mrT H (sF σ 38) (sF σ 40, sD σ 5) t).1 (t + 1)))) (by unfold mg; first | rw [if_pos c_72] | rw [if_neg c_72]) ?_
            refine g_dstore (lv' := [(8, .double (mg (FP.dsub (blV H (mrT H (sF σ 38) (sF σ 40, sD σ 5) t).1 (sF σ 38) (t + 1)) ((mrT H (sF σ 38) (sF σ 40, sD σ 5) t).1 (t + 1))))), (6, .double (blV H (mrT H (sF σ 38) (sF σ 40, sD σ 5) t).1 (sF σ 38) (t + 1))), (0, .ref ((xK X).2.2 27)), (3, .double ((mrT H (sF σ 38) (sF σ 40, sD σ 5) t).2)), (5, .int (nI (t + 1)))]) C dX7_round_83 (by decide) rfl ?_
            refine g_dload C dX7_round_85 0 rfl ?_
            refine g_dload_n C dX7_round_87 3 rfl rfl ?_
            refine g_dcmp C dX7_round_88 ?_
            refine g_if_le (tgt := 97) C dX7_round_89 (by decide) (fun c_89 => ?_) (fun c_89 => ?_)
            · refine g_dload_n C dX7_round_97 3 rfl rfl ?_
              refine g_topd (y := mx (mrT H (sF σ 38) (sF σ 40, sD σ 5) t).2 (mg (FP.dsub (blV H (mrT H (sF σ 38) (sF σ 40, sD σ 5) t).1 (sF σ 38) (t + 1)) ((mrT H (sF σ 38) (sF σ 40, sD σ 5) t).1 (t + 1))))) (by unfold mx; first | rw [if_pos c_89] | rw [if_neg c_89]) ?_
              refine g_dstore_n (lv' := [(3, .double (mx (mrT H (sF σ 38) (sF σ 40, sD σ 5) t).2 (mg (FP.dsub (blV H (mrT H (sF σ 38) (sF σ 40, sD σ 5) t).1 (sF σ 38) (t + 1)) ((mrT H (sF σ 38) (sF σ 40, sD σ 5) t).1 (t + 1)))))), (8, .double (mg (FP.dsub (blV H (mrT H (sF σ 38) (sF σ 40, sD σ 5) t).1 (sF σ 38) (t + 1)) ((mrT H (sF σ 38) (sF σ 40, sD σ 5) t).1 (t + 1))))), (6, .double (blV H (mrT H (sF σ 38) (sF σ 40, sD σ 5) t).1 (sF σ 38) (t + 1))), (0, .ref ((xK X).2.2 27)), (5, .int (nI (t + 1)))]) C dX7_round_98 rfl (by decide) rfl ?_
              refine g_aload_n C dX7_round_99 3 rfl rfl ?_
              refine g_get C dX7_round_100 wl27 rfl 18 (by decide) 4 rfl rfl rfl inX7_round_X7 ?_
              refine g_iload C dX7_round_103 4 rfl ?_
              refine g_dload C dX7_round_105 2 rfl ?_
              refine g_dast (j := (t + 1)) (σ' := uF (uF σ 40 (mrT H (sF σ 38) (sF σ 40, sD σ 5) t).1) 40 (vf_upd (sF (uF σ 40 (mrT H (sF σ 38) (sF σ 40, sD σ 5) t).1) 40) (t + 1) (blV H (mrT H (sF σ 38) (sF σ 40, sD σ 5) t).1 (sF σ 38) (t + 1)))) C dX7_round_107 wl40 rfl (by omega) (by decide) wsA40 ?_
              refine g_eq (σ2 := uF σ 40 (vf_upd (mrT H (sF σ 38) (sF σ 40, sD σ 5) t).1 (t + 1) (blV H (mrT H (sF σ 38) (sF σ 40, sD σ 5) t).1 (sF σ 38) (t + 1)))) (lv2 := [(3, .double (mx (mrT H (sF σ 38) (sF σ 40, sD σ 5) t).2 (mg (FP.dsub (blV H (mrT H (sF σ 38) (sF σ 40, sD σ 5) t).1 (sF σ 38) (t + 1)) ((mrT H (sF σ 38) (sF σ 40, sD σ 5) t).1 (t + 1)))))), (8, .double (mg (FP.dsub (blV H (mrT H (sF σ 38) (sF σ 40, sD σ 5) t).1 (sF σ 38) (t + 1)) ((mrT H (sF σ 38) (sF σ 40, sD σ 5) t).1 (t + 1))))), (6, .double (blV H (mrT H (sF σ 38) (sF σ 40, sD σ 5) t).1 (sF σ 38) (t + 1))), (0, .ref ((xK X).2.2 27)), (5, .int (nI (t + 1)))]) (st2 := []) (uF_step _ _ _ _ _) rfl rfl ?_
              have hup := mr_up hp (s := mrT H (sF σ 38) (sF σ 40, sD σ 5) t) (g := sF σ 38) (j := t + 1) (by omega) hPt hct
              refine g_eq (σ2 := uF σ 40 (mrT H (sF σ 38) (sF σ 40, sD σ 5) (t + 1)).1) (lv2 := [(3, .double (mx (mrT H (sF σ 38) (sF σ 40, sD σ 5) t).2 (mg (FP.dsub (blV H (mrT H (sF σ 38) (sF σ 40, sD σ 5) t).1 (sF σ 38) (t + 1)) ((mrT H (sF σ 38) (sF σ 40, sD σ 5) t).1 (t + 1)))))), (8, .double (mg (FP.dsub (blV H (mrT H (sF σ 38) (sF σ 40, sD σ 5) t).1 (sF σ 38) (t + 1)) ((mrT H (sF σ 38) (sF σ 40, sD σ 5) t).1 (t + 1))))), (6, .double (blV H (mrT H (sF σ 38) (sF σ 40, sD σ 5) t).1 (sF σ 38) (t + 1))), (0, .ref ((xK X).2.2 27)), (5, .int (nI (t + 1)))]) (st2 := []) (congrArg (fun z => uF σ 40 z) (congrArg Prod.fst hup)) rfl rfl ?_
              refine g_eq (σ2 := uF σ 40 (mrT H (sF σ 38) (sF σ 40, sD σ 5) (t + 1)).1) (lv2 := [(3, .double ((mrT H (sF σ 38) (sF σ 40, sD σ 5) (t + 1)).2)), (8, .double (mg (FP.dsub (blV H (mrT H (sF σ 38) (sF σ 40, sD σ 5) t).1 (sF σ 38) (t + 1)) ((mrT H (sF σ 38) (sF σ 40, sD σ 5) t).1 (t + 1))))), (6, .double (blV H (mrT H (sF σ 38) (sF σ 40, sD σ 5) t).1 (sF σ 38) (t + 1))), (0, .ref ((xK X).2.2 27)), (5, .int (nI (t + 1)))]) (st2 := []) rfl (congrArg (fun z9 => ([(3, .double z9), (8, .double (mg (FP.dsub (blV H (mrT H (sF σ 38) (sF σ 40, sD σ 5) t).1 (sF σ 38) (t + 1)) ((mrT H (sF σ 38) (sF σ 40, sD σ 5) t).1 (t + 1))))), (6, .double (blV H (mrT H (sF σ 38) (sF σ 40, sD σ 5) t).1 (sF σ 38) (t + 1))), (0, .ref ((xK X).2.2 27)), (5, .int (nI (t + 1)))] : List (Nat × Value))) (congrArg Prod.snd hup)) rfl ?_
              refine g_iinc (v := nI ((t + 1) + 1)) (lv' := [(5, .int (nI ((t + 1) + 1))), (3, .double ((mrT H (sF σ 38) (sF σ 40, sD σ 5) (t + 1)).2)), (8, .double (mg (FP.dsub (blV H (mrT H (sF σ 38) (sF σ 40, sD σ 5) t).1 (sF σ 38) (t + 1)) ((mrT H (sF σ 38) (sF σ 40, sD σ 5) t).1 (t + 1))))), (6, .double (blV H (mrT H (sF σ 38) (sF σ 40, sD σ 5) t).1 (sF σ 38) (t + 1))), (0, .ref ((xK X).2.2 27))]) C dX7_round_108 4 rfl (nI_1 (t + 1)) (by decide) rfl ?_
              refine g_goto (tgt := 39) C dX7_round_111 (by decide) ?_
              refine g_lv [4, 1, 0] rfl ?_
              exact ih39 (t + 1) (by omega) (by omega)
            · refine g_dload C dX7_round_92 0 rfl ?_
              refine g_goto (tgt := 98) C dX7_round_94 (by decide) ?_
              refine g_topd (y := mx (mrT H (sF σ 38) (sF σ 40, sD σ 5) t).2 (mg (FP.dsub (blV H (mrT H (sF σ 38) (sF σ 40, sD σ 5) t).1 (sF σ 38) (t + 1)) ((mrT H (sF σ 38) (sF σ 40, sD σ 5) t).1 (t + 1))))) (by unfold mx; first | rw [if_pos c_89] | rw [if_neg c_89]) ?_
              refine g_dstore_n (lv' := [(3, .double (mx (mrT H (sF σ 38) (sF σ 40, sD σ 5) t).2 (mg (FP.dsub (blV H (mrT H (sF σ 38) (sF σ 40, sD σ 5) t).1 (sF σ 38) (t + 1)) ((mrT H (sF σ 38) (sF σ 40, sD σ 5) t).1 (t + 1)))))), (8, .double (mg (FP.dsub (blV H (mrT H (sF σ 38) (sF σ 40, sD σ 5) t).1 (sF σ 38) (t + 1)) ((mrT H (sF σ 38) (sF σ 40, sD σ 5) t).1 (t + 1))))), (6, .double (blV H (mrT H (sF σ 38) (sF σ 40, sD σ 5) t).1 (sF σ 38) (t + 1))), (0, .ref ((xK X).2.2 27)), (5, .int (nI (t + 1)))]) C dX7_round_98 rfl (by decide) rfl ?_
              refine g_aload_n C dX7_round_99 3 rfl rfl ?_
              refine g_get C dX7_round_100 wl27 rfl 18 (by decide) 4 rfl rfl rfl inX7_round_X7 ?_
              refine g_iload C dX7_round_103 4 rfl ?_
              refine g_dload C dX7_round_105 2 rfl ?_
              refine g_dast (j := (t + 1)) (σ' := uF (uF σ 40 (mrT H (sF σ 38) (sF σ 40, sD σ 5) t).1) 40 (vf_upd (sF (uF σ 40 (mrT H (sF σ 38) (sF σ 40, sD σ 5) t).1) 40) (t + 1) (blV H (mrT H (sF σ 38) (sF σ 40, sD σ 5) t).1 (sF σ 38) (t + 1)))) C dX7_round_107 wl40 rfl (by omega) (by decide) wsA40 ?_
              refine g_eq (σ2 := uF σ 40 (vf_upd (mrT H (sF σ 38) (sF σ 40, sD σ 5) t).1 (t + 1) (blV H (mrT H (sF σ 38) (sF σ 40, sD σ 5) t).1 (sF σ 38) (t + 1)))) (lv2 := [(3, .double (mx (mrT H (sF σ 38) (sF σ 40, sD σ 5) t).2 (mg (FP.dsub (blV H (mrT H (sF σ 38) (sF σ 40, sD σ 5) t).1 (sF σ 38) (t + 1)) ((mrT H (sF σ 38) (sF σ 40, sD σ 5) t).1 (t + 1)))))), (8, .double (mg (FP.dsub (blV H (mrT H (sF σ 38) (sF σ 40, sD σ 5) t).1 (sF σ 38) (t + 1)) ((mrT H (sF σ 38) (sF σ 40, sD σ 5) t).1 (t + 1))))), (6, .double (blV H (mrT H (sF σ 38) (sF σ 40, sD σ 5) t).1 (sF σ 38) (t + 1))), (0, .ref ((xK X).2.2 27)), (5, .int (nI (t + 1)))]) (st2 := []) (uF_step _ _ _ _ _) rfl rfl ?_
              have hup := mr_up hp (s := mrT H (sF σ 38) (sF σ 40, sD σ 5) t) (g := sF σ 38) (j := t + 1) (by omega) hPt hct
              refine g_eq (σ2 := uF σ 40 (mrT H (sF σ 38) (sF σ 40, sD σ 5) (t + 1)).1) (lv2 := [(3, .double (mx (mrT H (sF σ 38) (sF σ 40, sD σ 5) t).2 (mg (FP.dsub (blV H (mrT H (sF σ 38) (sF σ 40, sD σ 5) t).1 (sF σ 38) (t + 1)) ((mrT H (sF σ 38) (sF σ 40, sD σ 5) t).1 (t + 1)))))), (8, .double (mg (FP.dsub (blV H (mrT H (sF σ 38) (sF σ 40, sD σ 5) t).1 (sF σ 38) (t + 1)) ((mrT H (sF σ 38) (sF σ 40, sD σ 5) t).1 (t + 1))))), (6, .double (blV H (mrT H (sF σ 38) (sF σ 40, sD σ 5) t).1 (sF σ 38) (t + 1))), (0, .ref ((xK X).2.2 27)), (5, .int (nI (t + 1)))]) (st2 := []) (congrArg (fun z => uF σ 40 z) (congrArg Prod.fst hup)) rfl rfl ?_
              refine g_eq (σ2 := uF σ 40 (mrT H (sF σ 38) (sF σ 40, sD σ 5) (t + 1)).1) (lv2 := [(3, .double ((mrT H (sF σ 38) (sF σ 40, sD σ 5) (t + 1)).2)), (8, .double (mg (FP.dsub (blV H (mrT H (sF σ 38) (sF σ 40, sD σ 5) t).1 (sF σ 38) (t + 1)) ((mrT H (sF σ 38) (sF σ 40, sD σ 5) t).1 (t + 1))))), (6, .double (blV H (mrT H (sF σ 38) (sF σ 40, sD σ 5) t).1 (sF σ 38) (t + 1))), (0, .ref ((xK X).2.2 27)), (5, .int (nI (t + 1)))]) (st2 := []) rfl (congrArg (fun z9 => ([(3, .double z9), (8, .double (mg (FP.dsub (blV H (mrT H (sF σ 38) (sF σ 40, sD σ 5) t).1 (sF σ 38) (t + 1)) ((mrT H (sF σ 38) (sF σ 40, sD σ 5) t).1 (t + 1))))), (6, .double (blV H (mrT H (sF σ 38) (sF σ 40, sD σ 5) t).1 (sF σ 38) (t + 1))), (0, .ref ((xK X).2.2 27)), (5, .int (nI (t + 1)))] : List (Nat × Value))) (congrArg Prod.snd hup)) rfl ?_
              refine g_iinc (v := nI ((t + 1) + 1)) (lv' := [(5, .int (nI ((t + 1) + 1))), (3, .double ((mrT H (sF σ 38) (sF σ 40, sD σ 5) (t + 1)).2)), (8, .double (mg (FP.dsub (blV H (mrT H (sF σ 38) (sF σ 40, sD σ 5) t).1 (sF σ 38) (t + 1)) ((mrT H (sF σ 38) (sF σ 40, sD σ 5) t).1 (t + 1))))), (6, .double (blV H (mrT H (sF σ 38) (sF σ 40, sD σ 5) t).1 (sF σ 38) (t + 1))), (0, .ref ((xK X).2.2 27))]) C dX7_round_108 4 rfl (nI_1 (t + 1)) (by decide) rfl ?_
              refine g_goto (tgt := 39) C dX7_round_111 (by decide) ?_
              refine g_lv [4, 1, 0] rfl ?_
              exact ih39 (t + 1) (by omega) (by omega)
    refine g_lv [3, 1, 0] rfl ?_
    exact loop39 (nj + 1) 0 (by omega) (Nat.zero_le _)
  · refine g_dconst0 C dX7_round_28 ?_
    refine g_goto (tgt := 33) C dX7_round_29 (by decide) ?_
    refine g_topd (y := na (hldV H (sD σ 5))) (by unfold na; first | rw [if_pos c_25] | rw [if_neg c_25]) ?_
    refine g_dast (j := 0) (σ' := uF σ 40 (vf_upd (sF σ 40) 0 (na (hldV H (sD σ 5))))) C dX7_round_33 wl40 rfl (by decide) (by decide) wsA40 ?_
    refine g_dconst0 C dX7_round_34 ?_
    refine g_dstore_n (lv' := [(3, .double FP.dconst0), (1, .double (hldV H (sD σ 5))), (0, .ref ((xK X).2.2 27))]) C dX7_round_35 rfl (by decide) rfl ?_
    refine g_iconst (v := nI 1) C dX7_round_36 (by decide +kernel) ?_
    refine g_istore (lv' := [(5, .int (nI 1)), (3, .double FP.dconst0), (1, .double (hldV H (sD σ 5))), (0, .ref ((xK X).2.2 27))]) C dX7_round_37 (by decide) rfl ?_
    refine g_eq (σ2 := uF σ 40 (mrT H (sF σ 38) (sF σ 40, sD σ 5) 0).1) (lv2 := [(5, .int (nI 1)), (3, .double FP.dconst0), (1, .double (hldV H (sD σ 5))), (0, .ref ((xK X).2.2 27))]) (st2 := []) rfl rfl rfl ?_
    refine g_eq (σ2 := uF σ 40 (mrT H (sF σ 38) (sF σ 40, sD σ 5) 0).1) (lv2 := [(5, .int (nI 1)), (3, .double ((mrT H (sF σ 38) (sF σ 40, sD σ 5) 0).2)), (1, .double (hldV H (sD σ 5))), (0, .ref ((xK X).2.2 27))]) (st2 := []) rfl rfl rfl ?_
    have loop39 : ∀ (r9 : Nat) (t : Nat), nj - t < r9 → (t ≤ nj - 1) → G X 10 0 0 (uF σ 40 (mrT H (sF σ 38) (sF σ 40, sD σ 5) t).1) [(0, .ref ((xK X).2.2 27)), (3, .double ((mrT H (sF σ 38) (sF σ 40, sD σ 5) t).2)), (5, .int (nI (t + 1)))] 39 [] := by
      intro r9
      induction r9 with
      | zero => intro t h9; exact absurd h9 (Nat.not_lt_zero _)
      | succ r9 ih39 =>
        intro t hm39 ht
        have hPt : ∀ i, i < 10 → okP ((mrT H (sF σ 38) (sF σ 40, sD σ 5) t).1 i) := rdN_ok hp hg hPf t
        have hct : dN (mrT H (sF σ 38) (sF σ 40, sD σ 5) t).2 ∧ 0 ≤ dv (mrT H (sF σ 38) (sF σ 40, sD σ 5) t).2 := rdN_c hp hg (s := (vf_upd (sF σ 40) 0 (na (hldV H (sD σ 5))), FP.dconst0)) hPf ⟨d0_F.nn, by show 0 ≤ dv FP.dconst0; rw [d0_v]; exact Int.le_refl _⟩ t (by omega)
        refine g_iload C dX7_round_39 2 rfl ?_
        refine g_aload_n C dX7_round_41 0 rfl rfl ?_
        refine g_get C dX7_round_42 wl27 rfl 1 (by decide) 5 rfl rfl rfl inX7_round_X7 ?_
        refine g_topi (y := nI nj) hM.j.1 ?_
        refine g_icmp_ge (tgt := 114) C dX7_round_45 (by decide) (fun c_45 => ?_) (fun c_45 => ?_)
        · have hte : t = nj - 1 := by
            have h9 := (nI_leI (by omega) (by omega)).mp c_45
            omega
          have hP9 : ∀ i, i < 10 → okP ((mrT H (sF σ 38) (sF σ 40, sD σ 5) 9).1 i) := rdN_ok hp hg hPf 9
          refine g_eq (σ2 := uF σ 40 (mrT H (sF σ 38) (sF σ 40, sD σ 5) 9).1) (lv2 := [(0, .ref ((xK X).2.2 27)), (3, .double ((mrT H (sF σ 38) (sF σ 40, sD σ 5) t).2)), (5, .int (nI (t + 1)))]) (st2 := []) (by rw [hte, hM.end_]) rfl rfl ?_
          refine g_eq (σ2 := uF σ 40 (mrT H (sF σ 38) (sF σ 40, sD σ 5) 9).1) (lv2 := [(0, .ref ((xK X).2.2 27)), (3, .double ((mrT H (sF σ 38) (sF σ 40, sD σ 5) 9).2)), (5, .int (nI (t + 1)))]) (st2 := []) rfl (congrArg (fun z9 => ([(0, .ref ((xK X).2.2 27)), (3, .double z9), (5, .int (nI (t + 1)))] : List (Nat × Value))) (by rw [hte, hM.end_])) rfl ?_
          refine g_dconst0 C dX7_round_114 ?_
          refine g_dstore (lv' := [(5, .double FP.dconst0), (0, .ref ((xK X).2.2 27)), (3, .double ((mrT H (sF σ 38) (sF σ 40, sD σ 5) 9).2))]) C dX7_round_115 (by decide) rfl ?_
          refine g_iconst (v := nI 0) C dX7_round_117 (by decide +kernel) ?_
          refine g_istore (lv' := [(7, .int (nI 0)), (5, .double FP.dconst0), (0, .ref ((xK X).2.2 27)), (3, .double ((mrT H (sF σ 38) (sF σ 40, sD σ 5) 9).2))]) C dX7_round_118 (by decide) rfl ?_
          have loop120 : ∀ (r9 : Nat) (d : Nat), pD H - d < r9 → (d ≤ pD H) → G X 10 0 0 (uF σ 40 (mrT H (sF σ 38) (sF σ 40, sD σ 5) 9).1) [(0, .ref ((xK X).2.2 27)), (3, .double ((mrT H (sF σ 38) (sF σ 40, sD σ 5) 9).2)), (5, .double (accF FP.dconst0 (atj H 0) (fun d => FP.dmul (pE H d) (FP.dsub ((mrT H (sF σ 38) (sF σ 40, sD σ 5) 9).1 (oth H 0 d)) ((mrT H (sF σ 38) (sF σ 40, sD σ 5) 9).1 0))) d)), (7, .int (nI d))] 120 [] := by
            intro r9
            induction r9 with
            | zero => intro d h9; exact absurd h9 (Nat.not_lt_zero _)
            | succ r9 ih120 =>
              intro d hm120 hd
              refine g_iload C dX7_round_120 3 rfl ?_
              refine g_aload_n C dX7_round_122 0 rfl rfl ?_
              refine g_get C dX7_round_123 wl27 rfl 2 (by decide) 6 rfl rfl rfl inX7_round_X7 ?_
              refine g_topi (y := nI (pD H)) hM.nd ?_
              refine g_icmp_ge (tgt := 181) C dX7_round_126 (by decide) (fun c_126 => ?_) (fun c_126 => ?_)
              · have hde : d = pD H := by
                  have h9 := (nI_leI (by  omega) (by  omega)).mp c_126
                  omega
                refine g_eq (σ2 := uF σ 40 (mrT H (sF σ 38) (sF σ 40, sD σ 5) 9).1) (lv2 := [(0, .ref ((xK X).2.2 27)), (3, .double ((mrT H (sF σ 38) (sF σ 40, sD σ 5) 9).2)), (5, .double (floV H (mrT H (sF σ 38) (sF σ 40, sD σ 5) 9).1 0)), (7, .int (nI d))]) (st2 := []) rfl (congrArg (fun z9 => ([(0, .ref ((xK X).2.2 27)), (3, .double ((mrT H (sF σ 38) (sF σ 40, sD σ 5) 9).2)), (5, .double z9), (7, .int (nI d))] : List (Nat × Value))) (by rw [hde]; rfl)) rfl ?_
                refine g_aload_n C dX7_round_181 0 rfl rfl ?_
                refine g_dload C dX7_round_182 2 rfl ?_
                refine g_dconst0 C dX7_round_184 ?_
                refine g_dcmp C dX7_round_185 ?_
                refine g_if_ge (tgt := 193) C dX7_round_186 (by decide) (fun c_186 => ?_) (fun c_186 => ?_)
                · refine g_dload C dX7_round_193 2 rfl ?_
                  refine g_topd (y := nb (floV H (mrT H (sF σ 38) (sF σ 40, sD σ 5) 9).1 0)) (by unfold nb; first | rw [if_pos c_186]; done | rw [if_neg c_186]; done) ?_
                  refine g_put (σ' := uD (uF σ 40 (mrT H (sF σ 38) (sF σ 40, sD σ 5) 9).1) 5 (nb (floV H (mrT H (sF σ 38) (sF σ 40, sD σ 5) 9).1 0))) (ty := .double) C dX7_round_195 wl27 rfl 19 (by decide) 3 rfl rfl inX7_round_X7 tyX7_ok nmX7 rfl (by decide +kernel) rfl rfl (Nat.le_of_ble_eq_true rfl) wsD5 ?_
                  refine g_dload_n C dX7_round_198 1 rfl rfl ?_
                  refine g_dret C dX7_round_199 rfl ⟨Nat.le_of_ble_eq_true rfl, Nat.le_of_ble_eq_true rfl⟩ ?_
                  rw [hF]
                  exact ⟨rfl, rfl⟩
                · refine g_dconst0 C dX7_round_189 ?_
                  refine g_goto (tgt := 195) C dX7_round_190 (by decide) ?_
                  refine g_topd (y := nb (floV H (mrT H (sF σ 38) (sF σ 40, sD σ 5) 9).1 0)) (by unfold nb; first | rw [if_pos c_186]; done | rw [if_neg c_186]; done) ?_
                  refine g_put (σ' := uD (uF σ 40 (mrT H (sF σ 38) (sF σ 40, sD σ 5) 9).1) 5 (nb (floV H (mrT H (sF σ 38) (sF σ 40, sD σ 5) 9).1 0))) (ty := .double) C dX7_round_195 wl27 rfl 19 (by decide) 3 rfl rfl inX7_round_X7 tyX7_ok nmX7 rfl (by decide +kernel) rfl rfl (Nat.le_of_ble_eq_true rfl) wsD5 ?_
                  refine g_dload_n C dX7_round_198 1 rfl rfl ?_
                  refine g_dret C dX7_round_199 rfl ⟨Nat.le_of_ble_eq_true rfl, Nat.le_of_ble_eq_true rfl⟩ ?_
                  rw [hF]
                  exact ⟨rfl, rfl⟩
              · have hdt : d < pD H := by
                  refine Nat.lt_of_not_le fun h => c_126 ?_
                  exact (nI_leI (by  omega) (by  omega)).mpr (by omega)
                refine g_aload_n C dX7_round_129 0 rfl rfl ?_
                refine g_iload C dX7_round_130 3 rfl ?_
                refine g_iconst (v := nI 0) C dX7_round_132 (by decide +kernel) ?_
                refine g_callV (As := [.int (nI d), .int (nI 0)]) (rest := []) C dX7_round_133 (kX7_other (xl X) (xK X) C.hD (uF σ 40 (mrT H (sF σ 38) (sF σ 40, sD σ 5) 9).1) hM hp hdt (j := 0) (by decide)) wl27 rfl 2 gX7_round_X7_other rfl (by decide +kernel) ⟨Nat.le_of_ble_eq_true rfl, Nat.le_of_ble_eq_true rfl⟩ ⟨Nat.le_of_ble_eq_true rfl, Nat.le_of_ble_eq_true rfl⟩ rfl rfl (Nat.le_of_ble_eq_true rfl) (fun rv9 σ9 h9 => ?_)
                obtain ⟨h9a, h9b⟩ := h9
                refine g_eq (σ2 := uF σ 40 (mrT H (sF σ 38) (sF σ 40, sD σ 5) 9).1) (lv2 := [(0, .ref ((xK X).2.2 27)), (3, .double ((mrT H (sF σ 38) (sF σ 40, sD σ 5) 9).2)), (5, .double (accF FP.dconst0 (atj H 0) (fun d => FP.dmul (pE H d) (FP.dsub ((mrT H (sF σ 38) (sF σ 40, sD σ 5) 9).1 (oth H 0 d)) ((mrT H (sF σ 38) (sF σ 40, sD σ 5) 9).1 0))) d)), (7, .int (nI d))]) (st2 := [.int (otI H d 0)]) h9b rfl (by rw [h9a]; rfl) ?_
                refine g_istore (lv' := [(8, .int (otI H d 0)), (0, .ref ((xK X).2.2 27)), (3, .double ((mrT H (sF σ 38) (sF σ 40, sD σ 5) 9).2)), (5, .double (accF FP.dconst0 (atj H 0) (fun d => FP.dmul (pE H d) (FP.dsub ((mrT H (sF σ 38) (sF σ 40, sD σ 5) 9).1 (oth H 0 d)) ((mrT H (sF σ 38) (sF σ 40, sD σ 5) 9).1 0))) d)), (7, .int (nI d))]) C dX7_round_136 (by decide) rfl ?_
                refine g_iload C dX7_round_138 0 rfl ?_
                refine g_iconst (v := (-1)) C dX7_round_140 (by decide +kernel) ?_
                refine g_icmp_ne (tgt := 149) C dX7_round_141 (by decide) (fun c_141 => ?_) (fun c_141 => ?_)
                · have hb := ot_t c_141
                  refine g_dload C dX7_round_149 3 rfl ?_
                  refine g_aload_n C dX7_round_151 1 rfl rfl ?_
                  refine g_iload C dX7_round_152 4 rfl ?_
                  refine g_callV (As := [.int (nI d)]) (rest := [.double (accF FP.dconst0 (atj H 0) (fun d => FP.dmul (pE H d) (FP.dsub ((mrT H (sF σ 38) (sF σ 40, sD σ 5) 9).1 (oth H 0 d)) ((mrT H (sF σ 38) (sF σ 40, sD σ 5) 9).1 0))) d)]) C dX7_round_154 (kX7_ease (xl X) (xK X) C.hD (uF σ 40 (mrT H (sF σ 38) (sF σ 40, sD σ 5) 9).1) hM hp (d := d) hdt) wl27 rfl 1 gX7_round_X7_ease rfl (by decide +kernel) ⟨Nat.le_of_ble_eq_true rfl, Nat.le_of_ble_eq_true rfl⟩ ⟨Nat.le_of_ble_eq_true rfl, Nat.le_of_ble_eq_true rfl⟩ rfl rfl (Nat.le_of_ble_eq_true rfl) (fun rv9 σ9 h9 => ?_)
                  obtain ⟨h9a, h9b⟩ := h9
                  refine g_eq (σ2 := uF σ 40 (mrT H (sF σ 38) (sF σ 40, sD σ 5) 9).1) (lv2 := [(8, .int (otI H d 0)), (0, .ref ((xK X).2.2 27)), (3, .double ((mrT H (sF σ 38) (sF σ 40, sD σ 5) 9).2)), (5, .double (accF FP.dconst0 (atj H 0) (fun d => FP.dmul (pE H d) (FP.dsub ((mrT H (sF σ 38) (sF σ 40, sD σ 5) 9).1 (oth H 0 d)) ((mrT H (sF σ 38) (sF σ 40, sD σ 5) 9).1 0))) d)), (7, .int (nI d))]) (st2 := [.double (pE H d), .double (accF FP.dconst0 (atj H 0) (fun d => FP.dmul (pE H d) (FP.dsub ((mrT H (sF σ 38) (sF σ 40, sD σ 5) 9).1 (oth H 0 d)) ((mrT H (sF σ 38) (sF σ 40, sD σ 5) 9).1 0))) d)]) h9b rfl (by rw [h9a]; rfl) ?_
                  refine g_aload_n C dX7_round_157 1 rfl rfl ?_
                  refine g_get C dX7_round_158 wl27 rfl 18 (by decide) 4 rfl rfl rfl inX7_round_X7 ?_
                  refine g_iload C dX7_round_161 0 rfl ?_
                  refine g_dald (j := (oth H 0 d)) C dX7_round_163 wl40 (ot_yes hb) (oth_lt hp hdt) (by decide) ?_
                  refine g_aload_n C dX7_round_164 1 rfl rfl ?_
                  refine g_get C dX7_round_165 wl27 rfl 18 (by decide) 4 rfl rfl rfl inX7_round_X7 ?_
                  refine g_iconst (v := nI 0) C dX7_round_168 (by decide +kernel) ?_
                  refine g_dald (j := 0) C dX7_round_169 wl40 rfl (by decide) (by decide) ?_
                  refine g_dsub C dX7_round_170 ((flo_s (h := H) hP9 (oth_lt hp hdt) (by decide)).F.ok) ?_
                  refine g_dmul C dX7_round_171 ((flo_g hp hP9 hdt (oth_lt hp hdt) (by decide)).F.ok) ?_
                  refine g_dadd C dX7_round_172 (accF_ok (d0_B 35) (n := pD H) (by omega) hdt (p := atj H 0) (g := fun d => FP.dmul (pE H d) (FP.dsub ((mrT H (sF σ 38) (sF σ 40, sD σ 5) 9).1 (oth H 0 d)) ((mrT H (sF σ 38) (sF σ 40, sD σ 5) 9).1 0))) (fun i hi _ => flo_g hp hP9 hi (oth_lt hp hi) (by decide)) hb) ?_
                  refine g_topd (y := accF FP.dconst0 (atj H 0) (fun d => FP.dmul (pE H d) (FP.dsub ((mrT H (sF σ 38) (sF σ 40, sD σ 5) 9).1 (oth H 0 d)) ((mrT H (sF σ 38) (sF σ 40, sD σ 5) 9).1 0))) (d + 1)) (by first | exact (accF_yes hb).symm | exact (accF_no hb).symm) ?_
                  refine g_dstore (lv' := [(5, .double (accF FP.dconst0 (atj H 0) (fun d => FP.dmul (pE H d) (FP.dsub ((mrT H (sF σ 38) (sF σ 40, sD σ 5) 9).1 (oth H 0 d)) ((mrT H (sF σ 38) (sF σ 40, sD σ 5) 9).1 0))) (d + 1))), (8, .int (otI H d 0)), (0, .ref ((xK X).2.2 27)), (3, .double ((mrT H (sF σ 38) (sF σ 40, sD σ 5) 9).2)), (7, .int (nI d))]) C dX7_round_173 (by decide) rfl ?_
                  refine g_iinc (v := nI (d + 1)) (lv' := [(7, .int (nI (d + 1))), (5, .double (accF FP.dconst0 (atj H 0) (fun d => FP.dmul (pE H d) (FP.dsub ((mrT H (sF σ 38) (sF σ 40, sD σ 5) 9).1 (oth H 0 d)) ((mrT H (sF σ 38) (sF σ 40, sD σ 5) 9).1 0))) (d + 1))), (8, .int (otI H d 0)), (0, .ref ((xK X).2.2 27)), (3, .double ((mrT H (sF σ 38) (sF σ 40, sD σ 5) 9).2))]) C dX7_round_175 4 rfl (nI_1 d) (by decide) rfl ?_
                  refine g_goto (tgt := 120) C dX7_round_178 (by decide) ?_
                  refine g_lv [3, 4, 1, 0] rfl ?_
                  exact ih120 (d + 1) (by omega) (by omega)
                · have hb := ot_f hp hdt (Decidable.byContradiction fun h => absurd c_141 h)
                  refine g_dload C dX7_round_144 3 rfl ?_
                  refine g_goto (tgt := 173) C dX7_round_146 (by decide) ?_
                  refine g_topd (y := accF FP.dconst0 (atj H 0) (fun d => FP.dmul (pE H d) (FP.dsub ((mrT H (sF σ 38) (sF σ 40, sD σ 5) 9).1 (oth H 0 d)) ((mrT H (sF σ 38) (sF σ 40, sD σ 5) 9).1 0))) (d + 1)) (by first | exact (accF_yes hb).symm | exact (accF_no hb).symm) ?_
                  refine g_dstore (lv' := [(5, .double (accF FP.dconst0 (atj H 0) (fun d => FP.dmul (pE H d) (FP.dsub ((mrT H (sF σ 38) (sF σ 40, sD σ 5) 9).1 (oth H 0 d)) ((mrT H (sF σ 38) (sF σ 40, sD σ 5) 9).1 0))) (d + 1))), (8, .int (otI H d 0)), (0, .ref ((xK X).2.2 27)), (3, .double ((mrT H (sF σ 38) (sF σ 40, sD σ 5) 9).2)), (7, .int (nI d))]) C dX7_round_173 (by decide) rfl ?_
                  refine g_iinc (v := nI (d + 1)) (lv' := [(7, .int (nI (d + 1))), (5, .double (accF FP.dconst0 (atj H 0) (fun d => FP.dmul (pE H d) (FP.dsub ((mrT H (sF σ 38) (sF σ 40, sD σ 5) 9).1 (oth H 0 d)) ((mrT H (sF σ 38) (sF σ 40, sD σ 5) 9).1 0))) (d + 1))), (8, .int (otI H d 0)), (0, .ref ((xK X).2.2 27)), (3, .double ((mrT H (sF σ 38) (sF σ 40, sD σ 5) 9).2))]) C dX7_round_175 4 rfl (nI_1 d) (by decide) rfl ?_
                  refine g_goto (tgt := 120) C dX7_round_178 (by decide) ?_
                  refine g_lv [3, 4, 1, 0] rfl ?_
                  exact ih120 (d + 1) (by omega) (by omega)
          refine g_lv [2, 3, 1, 0] rfl ?_
          exact loop120 (pD H + 1) 0 (by omega) (Nat.zero_le _)
        · have hlt : t + 1 < nj := by
            refine Nat.lt_of_not_le fun h => c_45 ?_
            exact (nI_leI (by  omega) (by  omega)).mpr (by omega)
          refine g_aload_n C dX7_round_48 0 rfl rfl ?_
          refine g_iload C dX7_round_49 2 rfl ?_
          refine g_callV (As := [.int (nI (t + 1))]) (rest := []) C dX7_round_51 (kX7_balance (xl X) (xK X) C.hD (uF σ 40 (mrT H (sF σ 38) (sF σ 40, sD σ 5) t).1) hM hp hPt hg (j := t + 1) (by omega)) wl27 rfl 1 gX7_round_X7_balance rfl (by decide +kernel) ⟨Nat.le_of_ble_eq_true rfl, Nat.le_of_ble_eq_true rfl⟩ ⟨Nat.le_of_ble_eq_true rfl, Nat.le_of_ble_eq_true rfl⟩ rfl rfl (Nat.le_of_ble_eq_true rfl) (fun rv9 σ9 h9 => ?_)
          obtain ⟨h9a, h9b⟩ := h9
          refine g_eq (σ2 := uF σ 40 (mrT H (sF σ 38) (sF σ 40, sD σ 5) t).1) (lv2 := [(0, .ref ((xK X).2.2 27)), (3, .double ((mrT H (sF σ 38) (sF σ 40, sD σ 5) t).2)), (5, .int (nI (t + 1)))]) (st2 := [.double (blV H (mrT H (sF σ 38) (sF σ 40, sD σ 5) t).1 (sF σ 38) (t + 1))]) h9b rfl (by rw [h9a]; rfl) ?_
          refine g_dstore (lv' := [(6, .double (blV H (mrT H (sF σ 38) (sF σ 40, sD σ 5) t).1 (sF σ 38) (t + 1))), (0, .ref ((xK X).2.2 27)), (3, .double ((mrT H (sF σ 38) (sF σ 40, sD σ 5) t).2)), (5, .int (nI (t + 1)))]) C dX7_round_54 (by decide) rfl ?_
          refine g_dload C dX7_round_56 0 rfl ?_
          refine g_aload_n C dX7_round_58 1 rfl rfl ?_
          refine g_get C dX7_round_59 wl27 rfl 18 (by decide) 4 rfl rfl rfl inX7_round_X7 ?_
          refine g_iload C dX7_round_62 3 rfl ?_
          refine g_dald (j := (t + 1)) C dX7_round_64 wl40 rfl (by omega) (by decide) ?_
          refine g_topd (y := (mrT H (sF σ 38) (sF σ 40, sD σ 5) t).1 (t + 1)) rfl ?_
          refine g_dsub C dX7_round_65 (((blV_ok hp hPt hg (j := t + 1) (by omega)).B.sub (k := 11) (hPt _ (by omega)).B (by decide)).F.ok) ?_
          refine g_dstore (lv' := [(8, .double (FP.dsub (blV H (mrT H (sF σ 38) (sF σ 40, sD σ 5) t).1 (sF σ 38) (t + 1)) ((mrT H (sF σ 38) (sF σ 40, sD σ 5) t).1 (t + 1)))), (6, .double (blV H (mrT H (sF σ 38) (sF σ 40, sD σ 5) t).1 (sF σ 38) (t + 1))), (0, .ref ((xK X).2.2 27)), (3, .double ((mrT H (sF σ 38) (sF σ 40, sD σ 5) t).2)), (5, .int (nI (t + 1)))]) C dX7_round_66 (by decide) rfl ?_
          refine g_dload C dX7_round_68 0 rfl ?_
          refine g_dconst0 C dX7_round_70 ?_
          refine g_dcmp C dX7_round_71 ?_
          refine g_if_ge (tgt := 81) C dX7_round_72 (by decide) (fun c_72 => ?_) (fun c_72 => ?_)
          · refine g_dload C dX7_round_81 0 rfl ?_
            refine g_topd (y := mg (FP.dsub (blV H (mrT H (sF σ 38) (sF σ 40, sD σ 5) t).1 (sF σ 38) (t + 1)) ((mrT H (sF σ 38) (sF σ 40, sD σ 5) t).1 (t + 1)))) (by unfold mg; first | rw [if_pos c_72] | rw [if_neg c_72]) ?_
            refine g_dstore (lv' := [(8, .double (mg (FP.dsub (blV H (mrT H (sF σ 38) (sF σ 40, sD σ 5) t).1 (sF σ 38) (t + 1)) ((mrT H (sF σ 38) (sF σ 40, sD σ 5) t).1 (t + 1))))), (6, .double (blV H (mrT H (sF σ 38) (sF σ 40, sD σ 5) t).1 (sF σ 38) (t + 1))), (0, .ref ((xK X).2.2 27)), (3, .double ((mrT H (sF σ 38) (sF σ 40, sD σ 5) t).2)), (5, .int (nI (t + 1)))]) C dX7_round_83 (by decide) rfl ?_
            refine g_dload C dX7_round_85 0 rfl ?_
            refine g_dload_n C dX7_round_87 3 rfl rfl ?_
            refine g_dcmp C dX7_round_88 ?_
            refine g_if_le (tgt := 97) C dX7_round_89 (by decide) (fun c_89 => ?_) (fun c_89 => ?_)
            · refine g_dload_n C dX7_round_97 3 rfl rfl ?_
              refine g_topd (y := mx (mrT H (sF σ 38) (sF σ 40, sD σ 5) t).2 (mg (FP.dsub (blV H (mrT H (sF σ 38) (sF σ 40, sD σ 5) t).1 (sF σ 38) (t + 1)) ((mrT H (sF σ 38) (sF σ 40, sD σ 5) t).1 (t + 1))))) (by unfold mx; first | rw [if_pos c_89] | rw [if_neg c_89]) ?_
              refine g_dstore_n (lv' := [(3, .double (mx (mrT H (sF σ 38) (sF σ 40, sD σ 5) t).2 (mg (FP.dsub (blV H (mrT H (sF σ 38) (sF σ 40, sD σ 5) t).1 (sF σ 38) (t + 1)) ((mrT H (sF σ 38) (sF σ 40, sD σ 5) t).1 (t + 1)))))), (8, .double (mg (FP.dsub (blV H (mrT H (sF σ 38) (sF σ 40, sD σ 5) t).1 (sF σ 38) (t + 1)) ((mrT H (sF σ 38) (sF σ 40, sD σ 5) t).1 (t + 1))))), (6, .double (blV H (mrT H (sF σ 38) (sF σ 40, sD σ 5) t).1 (sF σ 38) (t + 1))), (0, .ref ((xK X).2.2 27)), (5, .int (nI (t + 1)))]) C dX7_round_98 rfl (by decide) rfl ?_
              refine g_aload_n C dX7_round_99 3 rfl rfl ?_
              refine g_get C dX7_round_100 wl27 rfl 18 (by decide) 4 rfl rfl rfl inX7_round_X7 ?_
              refine g_iload C dX7_round_103 4 rfl ?_
              refine g_dload C dX7_round_105 2 rfl ?_
              refine g_dast (j := (t + 1)) (σ' := uF (uF σ 40 (mrT H (sF σ 38) (sF σ 40, sD σ 5) t).1) 40 (vf_upd (sF (uF σ 40 (mrT H (sF σ 38) (sF σ 40, sD σ 5) t).1) 40) (t + 1) (blV H (mrT H (sF σ 38) (sF σ 40, sD σ 5) t).1 (sF σ 38) (t + 1)))) C dX7_round_107 wl40 rfl (by omega) (by decide) wsA40 ?_
              refine g_eq (σ2 := uF σ 40 (vf_upd (mrT H (sF σ 38) (sF σ 40, sD σ 5) t).1 (t + 1) (blV H (mrT H (sF σ 38) (sF σ 40, sD σ 5) t).1 (sF σ 38) (t + 1)))) (lv2 := [(3, .double (mx (mrT H (sF σ 38) (sF σ 40, sD σ 5) t).2 (mg (FP.dsub (blV H (mrT H (sF σ 38) (sF σ 40, sD σ 5) t).1 (sF σ 38) (t + 1)) ((mrT H (sF σ 38) (sF σ 40, sD σ 5) t).1 (t + 1)))))), (8, .double (mg (FP.dsub (blV H (mrT H (sF σ 38) (sF σ 40, sD σ 5) t).1 (sF σ 38) (t + 1)) ((mrT H (sF σ 38) (sF σ 40, sD σ 5) t).1 (t + 1))))), (6, .double (blV H (mrT H (sF σ 38) (sF σ 40, sD σ 5) t).1 (sF σ 38) (t + 1))), (0, .ref ((xK X).2.2 27)), (5, .int (nI (t + 1)))]) (st2 := []) (uF_step _ _ _ _ _) rfl rfl ?_
              have hup := mr_up hp (s := mrT H (sF σ 38) (sF σ 40, sD σ 5) t) (g := sF σ 38) (j := t + 1) (by omega) hPt hct
              refine g_eq (σ2 := uF σ 40 (mrT H (sF σ 38) (sF σ 40, sD σ 5) (t + 1)).1) (lv2 := [(3, .double (mx (mrT H (sF σ 38) (sF σ 40, sD σ 5) t).2 (mg (FP.dsub (blV H (mrT H (sF σ 38) (sF σ 40, sD σ 5) t).1 (sF σ 38) (t + 1)) ((mrT H (sF σ 38) (sF σ 40, sD σ 5) t).1 (t + 1)))))), (8, .double (mg (FP.dsub (blV H (mrT H (sF σ 38) (sF σ 40, sD σ 5) t).1 (sF σ 38) (t + 1)) ((mrT H (sF σ 38) (sF σ 40, sD σ 5) t).1 (t + 1))))), (6, .double (blV H (mrT H (sF σ 38) (sF σ 40, sD σ 5) t).1 (sF σ 38) (t + 1))), (0, .ref ((xK X).2.2 27)), (5, .int (nI (t + 1)))]) (st2 := []) (congrArg (fun z => uF σ 40 z) (congrArg Prod.fst hup)) rfl rfl ?_
              refine g_eq (σ2 := uF σ 40 (mrT H (sF σ 38) (sF σ 40, sD σ 5) (t + 1)).1) (lv2 := [(3, .double ((mrT H (sF σ 38) (sF σ 40, sD σ 5) (t + 1)).2)), (8, .double (mg (FP.dsub (blV H (mrT H (sF σ 38) (sF σ 40, sD σ 5) t).1 (sF σ 38) (t + 1)) ((mrT H (sF σ 38) (sF σ 40, sD σ 5) t).1 (t + 1))))), (6, .double (blV H (mrT H (sF σ 38) (sF σ 40, sD σ 5) t).1 (sF σ 38) (t + 1))), (0, .ref ((xK X).2.2 27)), (5, .int (nI (t + 1)))]) (st2 := []) rfl (congrArg (fun z9 => ([(3, .double z9), (8, .double (mg (FP.dsub (blV H (mrT H (sF σ 38) (sF σ 40, sD σ 5) t).1 (sF σ 38) (t + 1)) ((mrT H (sF σ 38) (sF σ 40, sD σ 5) t).1 (t + 1))))), (6, .double (blV H (mrT H (sF σ 38) (sF σ 40, sD σ 5) t).1 (sF σ 38) (t + 1))), (0, .ref ((xK X).2.2 27)), (5, .int (nI (t + 1)))] : List (Nat × Value))) (congrArg Prod.snd hup)) rfl ?_
              refine g_iinc (v := nI ((t + 1) + 1)) (lv' := [(5, .int (nI ((t + 1) + 1))), (3, .double ((mrT H (sF σ 38) (sF σ 40, sD σ 5) (t + 1)).2)), (8, .double (mg (FP.dsub (blV H (mrT H (sF σ 38) (sF σ 40, sD σ 5) t).1 (sF σ 38) (t + 1)) ((mrT H (sF σ 38) (sF σ 40, sD σ 5) t).1 (t + 1))))), (6, .double (blV H (mrT H (sF σ 38) (sF σ 40, sD σ 5) t).1 (sF σ 38) (t + 1))), (0, .ref ((xK X).2.2 27))]) C dX7_round_108 4 rfl (nI_1 (t + 1)) (by decide) rfl ?_
              refine g_goto (tgt := 39) C dX7_round_111 (by decide) ?_
              refine g_lv [4, 1, 0] rfl ?_
              exact ih39 (t + 1) (by omega) (by omega)
            · refine g_dload C dX7_round_92 0 rfl ?_
              refine g_goto (tgt := 98) C dX7_round_94 (by decide) ?_
              refine g_topd (y := mx (mrT H (sF σ 38) (sF σ 40, sD σ 5) t).2 (mg (FP.dsub (blV H (mrT H (sF σ 38) (sF σ 40, sD σ 5) t).1 (sF σ 38) (t + 1)) ((mrT H (sF σ 38) (sF σ 40, sD σ 5) t).1 (t + 1))))) (by unfold mx; first | rw [if_pos c_89] | rw [if_neg c_89]) ?_
              refine g_dstore_n (lv' := [(3, .double (mx (mrT H (sF σ 38) (sF σ 40, sD σ 5) t).2 (mg (FP.dsub (blV H (mrT H (sF σ 38) (sF σ 40, sD σ 5) t).1 (sF σ 38) (t + 1)) ((mrT H (sF σ 38) (sF σ 40, sD σ 5) t).1 (t + 1)))))), (8, .double (mg (FP.dsub (blV H (mrT H (sF σ 38) (sF σ 40, sD σ 5) t).1 (sF σ 38) (t + 1)) ((mrT H (sF σ 38) (sF σ 40, sD σ 5) t).1 (t + 1))))), (6, .double (blV H (mrT H (sF σ 38) (sF σ 40, sD σ 5) t).1 (sF σ 38) (t + 1))), (0, .ref ((xK X).2.2 27)), (5, .int (nI (t + 1)))]) C dX7_round_98 rfl (by decide) rfl ?_
              refine g_aload_n C dX7_round_99 3 rfl rfl ?_
              refine g_get C dX7_round_100 wl27 rfl 18 (by decide) 4 rfl rfl rfl inX7_round_X7 ?_
              refine g_iload C dX7_round_103 4 rfl ?_
              refine g_dload C dX7_round_105 2 rfl ?_
              refine g_dast (j := (t + 1)) (σ' := uF (uF σ 40 (mrT H (sF σ 38) (sF σ 40, sD σ 5) t).1) 40 (vf_upd (sF (uF σ 40 (mrT H (sF σ 38) (sF σ 40, sD σ 5) t).1) 40) (t + 1) (blV H (mrT H (sF σ 38) (sF σ 40, sD σ 5) t).1 (sF σ 38) (t + 1)))) C dX7_round_107 wl40 rfl (by omega) (by decide) wsA40 ?_
              refine g_eq (σ2 := uF σ 40 (vf_upd (mrT H (sF σ 38) (sF σ 40, sD σ 5) t).1 (t + 1) (blV H (mrT H (sF σ 38) (sF σ 40, sD σ 5) t).1 (sF σ 38) (t + 1)))) (lv2 := [(3, .double (mx (mrT H (sF σ 38) (sF σ 40, sD σ 5) t).2 (mg (FP.dsub (blV H (mrT H (sF σ 38) (sF σ 40, sD σ 5) t).1 (sF σ 38) (t + 1)) ((mrT H (sF σ 38) (sF σ 40, sD σ 5) t).1 (t + 1)))))), (8, .double (mg (FP.dsub (blV H (mrT H (sF σ 38) (sF σ 40, sD σ 5) t).1 (sF σ 38) (t + 1)) ((mrT H (sF σ 38) (sF σ 40, sD σ 5) t).1 (t + 1))))), (6, .double (blV H (mrT H (sF σ 38) (sF σ 40, sD σ 5) t).1 (sF σ 38) (t + 1))), (0, .ref ((xK X).2.2 27)), (5, .int (nI (t + 1)))]) (st2 := []) (uF_step _ _ _ _ _) rfl rfl ?_
              have hup := mr_up hp (s := mrT H (sF σ 38) (sF σ 40, sD σ 5) t) (g := sF σ 38) (j := t + 1) (by omega) hPt hct
              refine g_eq (σ2 := uF σ 40 (mrT H (sF σ 38) (sF σ 40, sD σ 5) (t + 1)).1) (lv2 := [(3, .double (mx (mrT H (sF σ 38) (sF σ 40, sD σ 5) t).2 (mg (FP.dsub (blV H (mrT H (sF σ 38) (sF σ 40, sD σ 5) t).1 (sF σ 38) (t + 1)) ((mrT H (sF σ 38) (sF σ 40, sD σ 5) t).1 (t + 1)))))), (8, .double (mg (FP.dsub (blV H (mrT H (sF σ 38) (sF σ 40, sD σ 5) t).1 (sF σ 38) (t + 1)) ((mrT H (sF σ 38) (sF σ 40, sD σ 5) t).1 (t + 1))))), (6, .double (blV H (mrT H (sF σ 38) (sF σ 40, sD σ 5) t).1 (sF σ 38) (t + 1))), (0, .ref ((xK X).2.2 27)), (5, .int (nI (t + 1)))]) (st2 := []) (congrArg (fun z => uF σ 40 z) (congrArg Prod.fst hup)) rfl rfl ?_
              refine g_eq (σ2 := uF σ 40 (mrT H (sF σ 38) (sF σ 40, sD σ 5) (t + 1)).1) (lv2 := [(3, .double ((mrT H (sF σ 38) (sF σ 40, sD σ 5) (t + 1)).2)), (8, .double (mg (FP.dsub (blV H (mrT H (sF σ 38) (sF σ 40, sD σ 5) t).1 (sF σ 38) (t + 1)) ((mrT H (sF σ 38) (sF σ 40, sD σ 5) t).1 (t + 1))))), (6, .double (blV H (mrT H (sF σ 38) (sF σ 40, sD σ 5) t).1 (sF σ 38) (t + 1))), (0, .ref ((xK X).2.2 27)), (5, .int (nI (t + 1)))]) (st2 := []) rfl (congrArg (fun z9 => ([(3, .double z9), (8, .double (mg (FP.dsub (blV H (mrT H (sF σ 38) (sF σ 40, sD σ 5) t).1 (sF σ 38) (t + 1)) ((mrT H (sF σ 38) (sF σ 40, sD σ 5) t).1 (t + 1))))), (6, .double (blV H (mrT H (sF σ 38) (sF σ 40, sD σ 5) t).1 (sF σ 38) (t + 1))), (0, .ref ((xK X).2.2 27)), (5, .int (nI (t + 1)))] : List (Nat × Value))) (congrArg Prod.snd hup)) rfl ?_
              refine g_iinc (v := nI ((t + 1) + 1)) (lv' := [(5, .int (nI ((t + 1) + 1))), (3, .double ((mrT H (sF σ 38) (sF σ 40, sD σ 5) (t + 1)).2)), (8, .double (mg (FP.dsub (blV H (mrT H (sF σ 38) (sF σ 40, sD σ 5) t).1 (sF σ 38) (t + 1)) ((mrT H (sF σ 38) (sF σ 40, sD σ 5) t).1 (t + 1))))), (6, .double (blV H (mrT H (sF σ 38) (sF σ 40, sD σ 5) t).1 (sF σ 38) (t + 1))), (0, .ref ((xK X).2.2 27))]) C dX7_round_108 4 rfl (nI_1 (t + 1)) (by decide) rfl ?_
              refine g_goto (tgt := 39) C dX7_round_111 (by decide) ?_
              refine g_lv [4, 1, 0] rfl ?_
              exact ih39 (t + 1) (by omega) (by omega)
          · refine g_dload C dX7_round_75 0 rfl ?_
            refine g_dneg C dX7_round_77 ?_
            refine g_goto (tgt := 83) C dX7_round_78 (by decide) ?_
            refine g_topd (y := mg (FP.dsub (blV H (mrT H (sF σ 38) (sF σ 40, sD σ 5) t).1 (sF σ 38) (t + 1)) ((mrT H (sF σ 38) (sF σ 40, sD σ 5) t).1 (t + 1)))) (by unfold mg; first | rw [if_pos c_72] | rw [if_neg c_72]) ?_
            refine g_dstore (lv' := [(8, .double (mg (FP.dsub (blV H (mrT H (sF σ 38) (sF σ 40, sD σ 5) t).1 (sF σ 38) (t + 1)) ((mrT H (sF σ 38) (sF σ 40, sD σ 5) t).1 (t + 1))))), (6, .double (blV H (mrT H (sF σ 38) (sF σ 40, sD σ 5) t).1 (sF σ 38) (t + 1))), (0, .ref ((xK X).2.2 27)), (3, .double ((mrT H (sF σ 38) (sF σ 40, sD σ 5) t).2)), (5, .int (nI (t + 1)))]) C dX7_round_83 (by decide) rfl ?_
            refine g_dload C dX7_round_85 0 rfl ?_
            refine g_dload_n C dX7_round_87 3 rfl rfl ?_
            refine g_dcmp C dX7_round_88 ?_
            refine g_if_le (tgt := 97) C dX7_round_89 (by decide) (fun c_89 => ?_) (fun c_89 => ?_)
            · refine g_dload_n C dX7_round_97 3 rfl rfl ?_
              refine g_topd (y := mx (mrT H (sF σ 38) (sF σ 40, sD σ 5) t).2 (mg (FP.dsub (blV H (mrT H (sF σ 38) (sF σ 40, sD σ 5) t).1 (sF σ 38) (t + 1)) ((mrT H (sF σ 38) (sF σ 40, sD σ 5) t).1 (t + 1))))) (by unfold mx; first | rw [if_pos c_89] | rw [if_neg c_89]) ?_
              refine g_dstore_n (lv' := [(3, .double (mx (mrT H (sF σ 38) (sF σ 40, sD σ 5) t).2 (mg (FP.dsub (blV H (mrT H (sF σ 38) (sF σ 40, sD σ 5) t).1 (sF σ 38) (t + 1)) ((mrT H (sF σ 38) (sF σ 40, sD σ 5) t).1 (t + 1)))))), (8, .double (mg (FP.dsub (blV H (mrT H (sF σ 38) (sF σ 40, sD σ 5) t).1 (sF σ 38) (t + 1)) ((mrT H (sF σ 38) (sF σ 40, sD σ 5) t).1 (t + 1))))), (6, .double (blV H (mrT H (sF σ 38) (sF σ 40, sD σ 5) t).1 (sF σ 38) (t + 1))), (0, .ref ((xK X).2.2 27)), (5, .int (nI (t + 1)))]) C dX7_round_98 rfl (by decide) rfl ?_
              refine g_aload_n C dX7_round_99 3 rfl rfl ?_
              refine g_get C dX7_round_100 wl27 rfl 18 (by decide) 4 rfl rfl rfl inX7_round_X7 ?_
              refine g_iload C dX7_round_103 4 rfl ?_
              refine g_dload C dX7_round_105 2 rfl ?_
              refine g_dast (j := (t + 1)) (σ' := uF (uF σ 40 (mrT H (sF σ 38) (sF σ 40, sD σ 5) t).1) 40 (vf_upd (sF (uF σ 40 (mrT H (sF σ 38) (sF σ 40, sD σ 5) t).1) 40) (t + 1) (blV H (mrT H (sF σ 38) (sF σ 40, sD σ 5) t).1 (sF σ 38) (t + 1)))) C dX7_round_107 wl40 rfl (by omega) (by decide) wsA40 ?_
              refine g_eq (σ2 := uF σ 40 (vf_upd (mrT H (sF σ 38) (sF σ 40, sD σ 5) t).1 (t + 1) (blV H (mrT H (sF σ 38) (sF σ 40, sD σ 5) t).1 (sF σ 38) (t + 1)))) (lv2 := [(3, .double (mx (mrT H (sF σ 38) (sF σ 40, sD σ 5) t).2 (mg (FP.dsub (blV H (mrT H (sF σ 38) (sF σ 40, sD σ 5) t).1 (sF σ 38) (t + 1)) ((mrT H (sF σ 38) (sF σ 40, sD σ 5) t).1 (t + 1)))))), (8, .double (mg (FP.dsub (blV H (mrT H (sF σ 38) (sF σ 40, sD σ 5) t).1 (sF σ 38) (t + 1)) ((mrT H (sF σ 38) (sF σ 40, sD σ 5) t).1 (t + 1))))), (6, .double (blV H (mrT H (sF σ 38) (sF σ 40, sD σ 5) t).1 (sF σ 38) (t + 1))), (0, .ref ((xK X).2.2 27)), (5, .int (nI (t + 1)))]) (st2 := []) (uF_step _ _ _ _ _) rfl rfl ?_
              have hup := mr_up hp (s := mrT H (sF σ 38) (sF σ 40, sD σ 5) t) (g := sF σ 38) (j := t + 1) (by omega) hPt hct
              refine g_eq (σ2 := uF σ 40 (mrT H (sF σ 38) (sF σ 40, sD σ 5) (t + 1)).1) (lv2 := [(3, .double (mx (mrT H (sF σ 38) (sF σ 40, sD σ 5) t).2 (mg (FP.dsub (blV H (mrT H (sF σ 38) (sF σ 40, sD σ 5) t).1 (sF σ 38) (t + 1)) ((mrT H (sF σ 38) (sF σ 40, sD σ 5) t).1 (t + 1)))))), (8, .double (mg (FP.dsub (blV H (mrT H (sF σ 38) (sF σ 40, sD σ 5) t).1 (sF σ 38) (t + 1)) ((mrT H (sF σ 38) (sF σ 40, sD σ 5) t).1 (t + 1))))), (6, .double (blV H (mrT H (sF σ 38) (sF σ 40, sD σ 5) t).1 (sF σ 38) (t + 1))), (0, .ref ((xK X).2.2 27)), (5, .int (nI (t + 1)))]) (st2 := []) (congrArg (fun z => uF σ 40 z) (congrArg Prod.fst hup)) rfl rfl ?_
              refine g_eq (σ2 := uF σ 40 (mrT H (sF σ 38) (sF σ 40, sD σ 5) (t + 1)).1) (lv2 := [(3, .double ((mrT H (sF σ 38) (sF σ 40, sD σ 5) (t + 1)).2)), (8, .double (mg (FP.dsub (blV H (mrT H (sF σ 38) (sF σ 40, sD σ 5) t).1 (sF σ 38) (t + 1)) ((mrT H (sF σ 38) (sF σ 40, sD σ 5) t).1 (t + 1))))), (6, .double (blV H (mrT H (sF σ 38) (sF σ 40, sD σ 5) t).1 (sF σ 38) (t + 1))), (0, .ref ((xK X).2.2 27)), (5, .int (nI (t + 1)))]) (st2 := []) rfl (congrArg (fun z9 => ([(3, .double z9), (8, .double (mg (FP.dsub (blV H (mrT H (sF σ 38) (sF σ 40, sD σ 5) t).1 (sF σ 38) (t + 1)) ((mrT H (sF σ 38) (sF σ 40, sD σ 5) t).1 (t + 1))))), (6, .double (blV H (mrT H (sF σ 38) (sF σ 40, sD σ 5) t).1 (sF σ 38) (t + 1))), (0, .ref ((xK X).2.2 27)), (5, .int (nI (t + 1)))] : List (Nat × Value))) (congrArg Prod.snd hup)) rfl ?_
              refine g_iinc (v := nI ((t + 1) + 1)) (lv' := [(5, .int (nI ((t + 1) + 1))), (3, .double ((mrT H (sF σ 38) (sF σ 40, sD σ 5) (t + 1)).2)), (8, .double (mg (FP.dsub (blV H (mrT H (sF σ 38) (sF σ 40, sD σ 5) t).1 (sF σ 38) (t + 1)) ((mrT H (sF σ 38) (sF σ 40, sD σ 5) t).1 (t + 1))))), (6, .double (blV H (mrT H (sF σ 38) (sF σ 40, sD σ 5) t).1 (sF σ 38) (t + 1))), (0, .ref ((xK X).2.2 27))]) C dX7_round_108 4 rfl (nI_1 (t + 1)) (by decide) rfl ?_
              refine g_goto (tgt := 39) C dX7_round_111 (by decide) ?_
              refine g_lv [4, 1, 0] rfl ?_
              exact ih39 (t + 1) (by omega) (by omega)
            · refine g_dload C dX7_round_92 0 rfl ?_
              refine g_goto (tgt := 98) C dX7_round_94 (by decide) ?_
              refine g_topd (y := mx (mrT H (sF σ 38) (sF σ 40, sD σ 5) t).2 (mg (FP.dsub (blV H (mrT H (sF σ 38) (sF σ 40, sD σ 5) t).1 (sF σ 38) (t + 1)) ((mrT H (sF σ 38) (sF σ 40, sD σ 5) t).1 (t + 1))))) (by unfold mx; first | rw [if_pos c_89] | rw [if_neg c_89]) ?_
              refine g_dstore_n (lv' := [(3, .double (mx (mrT H (sF σ 38) (sF σ 40, sD σ 5) t).2 (mg (FP.dsub (blV H (mrT H (sF σ 38) (sF σ 40, sD σ 5) t).1 (sF σ 38) (t + 1)) ((mrT H (sF σ 38) (sF σ 40, sD σ 5) t).1 (t + 1)))))), (8, .double (mg (FP.dsub (blV H (mrT H (sF σ 38) (sF σ 40, sD σ 5) t).1 (sF σ 38) (t + 1)) ((mrT H (sF σ 38) (sF σ 40, sD σ 5) t).1 (t + 1))))), (6, .double (blV H (mrT H (sF σ 38) (sF σ 40, sD σ 5) t).1 (sF σ 38) (t + 1))), (0, .ref ((xK X).2.2 27)), (5, .int (nI (t + 1)))]) C dX7_round_98 rfl (by decide) rfl ?_
              refine g_aload_n C dX7_round_99 3 rfl rfl ?_
              refine g_get C dX7_round_100 wl27 rfl 18 (by decide) 4 rfl rfl rfl inX7_round_X7 ?_
              refine g_iload C dX7_round_103 4 rfl ?_
              refine g_dload C dX7_round_105 2 rfl ?_
              refine g_dast (j := (t + 1)) (σ' := uF (uF σ 40 (mrT H (sF σ 38) (sF σ 40, sD σ 5) t).1) 40 (vf_upd (sF (uF σ 40 (mrT H (sF σ 38) (sF σ 40, sD σ 5) t).1) 40) (t + 1) (blV H (mrT H (sF σ 38) (sF σ 40, sD σ 5) t).1 (sF σ 38) (t + 1)))) C dX7_round_107 wl40 rfl (by omega) (by decide) wsA40 ?_
              refine g_eq (σ2 := uF σ 40 (vf_upd (mrT H (sF σ 38) (sF σ 40, sD σ 5) t).1 (t + 1) (blV H (mrT H (sF σ 38) (sF σ 40, sD σ 5) t).1 (sF σ 38) (t + 1)))) (lv2 := [(3, .double (mx (mrT H (sF σ 38) (sF σ 40, sD σ 5) t).2 (mg (FP.dsub (blV H (mrT H (sF σ 38) (sF σ 40, sD σ 5) t).1 (sF σ 38) (t + 1)) ((mrT H (sF σ 38) (sF σ 40, sD σ 5) t).1 (t + 1)))))), (8, .double (mg (FP.dsub (blV H (mrT H (sF σ 38) (sF σ 40, sD σ 5) t).1 (sF σ 38) (t + 1)) ((mrT H (sF σ 38) (sF σ 40, sD σ 5) t).1 (t + 1))))), (6, .double (blV H (mrT H (sF σ 38) (sF σ 40, sD σ 5) t).1 (sF σ 38) (t + 1))), (0, .ref ((xK X).2.2 27)), (5, .int (nI (t + 1)))]) (st2 := []) (uF_step _ _ _ _ _) rfl rfl ?_
              have hup := mr_up hp (s := mrT H (sF σ 38) (sF σ 40, sD σ 5) t) (g := sF σ 38) (j := t + 1) (by omega) hPt hct
              refine g_eq (σ2 := uF σ 40 (mrT H (sF σ 38) (sF σ 40, sD σ 5) (t + 1)).1) (lv2 := [(3, .double (mx (mrT H (sF σ 38) (sF σ 40, sD σ 5) t).2 (mg (FP.dsub (blV H (mrT H (sF σ 38) (sF σ 40, sD σ 5) t).1 (sF σ 38) (t + 1)) ((mrT H (sF σ 38) (sF σ 40, sD σ 5) t).1 (t + 1)))))), (8, .double (mg (FP.dsub (blV H (mrT H (sF σ 38) (sF σ 40, sD σ 5) t).1 (sF σ 38) (t + 1)) ((mrT H (sF σ 38) (sF σ 40, sD σ 5) t).1 (t + 1))))), (6, .double (blV H (mrT H (sF σ 38) (sF σ 40, sD σ 5) t).1 (sF σ 38) (t + 1))), (0, .ref ((xK X).2.2 27)), (5, .int (nI (t + 1)))]) (st2 := []) (congrArg (fun z => uF σ 40 z) (congrArg Prod.fst hup)) rfl rfl ?_
              refine g_eq (σ2 := uF σ 40 (mrT H (sF σ 38) (sF σ 40, sD σ 5) (t + 1)).1) (lv2 := [(3, .double ((mrT H (sF σ 38) (sF σ 40, sD σ 5) (t + 1)).2)), (8, .double (mg (FP.dsub (blV H (mrT H (sF σ 38) (sF σ 40, sD σ 5) t).1 (sF σ 38) (t + 1)) ((mrT H (sF σ 38) (sF σ 40, sD σ 5) t).1 (t + 1))))), (6, .double (blV H (mrT H (sF σ 38) (sF σ 40, sD σ 5) t).1 (sF σ 38) (t + 1))), (0, .ref ((xK X).2.2 27)), (5, .int (nI (t + 1)))]) (st2 := []) rfl (congrArg (fun z9 => ([(3, .double z9), (8, .double (mg (FP.dsub (blV H (mrT H (sF σ 38) (sF σ 40, sD σ 5) t).1 (sF σ 38) (t + 1)) ((mrT H (sF σ 38) (sF σ 40, sD σ 5) t).1 (t + 1))))), (6, .double (blV H (mrT H (sF σ 38) (sF σ 40, sD σ 5) t).1 (sF σ 38) (t + 1))), (0, .ref ((xK X).2.2 27)), (5, .int (nI (t + 1)))] : List (Nat × Value))) (congrArg Prod.snd hup)) rfl ?_
              refine g_iinc (v := nI ((t + 1) + 1)) (lv' := [(5, .int (nI ((t + 1) + 1))), (3, .double ((mrT H (sF σ 38) (sF σ 40, sD σ 5) (t + 1)).2)), (8, .double (mg (FP.dsub (blV H (mrT H (sF σ 38) (sF σ 40, sD σ 5) t).1 (sF σ 38) (t + 1)) ((mrT H (sF σ 38) (sF σ 40, sD σ 5) t).1 (t + 1))))), (6, .double (blV H (mrT H (sF σ 38) (sF σ 40, sD σ 5) t).1 (sF σ 38) (t + 1))), (0, .ref ((xK X).2.2 27))]) C dX7_round_108 4 rfl (nI_1 (t + 1)) (by decide) rfl ?_
              refine g_goto (tgt := 39) C dX7_round_111 (by decide) ?_
              refine g_lv [4, 1, 0] rfl ?_
              exact ih39 (t + 1) (by omega) (by omega)
    refine g_lv [3, 1, 0] rfl ?_
    exact loop39 (nj + 1) 0 (by omega) (Nat.zero_le _)
