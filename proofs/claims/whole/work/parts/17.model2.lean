/-! the model: draws, gates, balancing, sizes -/
theorem nI_mul (a b : Nat) : nI a * nI b = nI (a * b) := (Int32.ofNat_mul a b).symm
def rkB (c : Nat → Int32) (s t : Nat) : Bool := decide (c t < c s) || (decide (c t = c s) && decide (t < s))
def rkP (c : Nat → Int32) (n k s : Nat) : Bool := decide (ctF (rkB c s) n = k)
def wrC (b sv : Bool) : Nat := if b = true then (if sv = true then 0 else 2) else 1
/-- opened for case c -/
def msO (σ : gS) (c m : Nat) : Bool := decide (m < tn (sN σ 8)) && decide (¬ sI σ 37 (8 * c + m) = 0)
def moN (σ : gS) (c : Nat) : Nat → (Nat → Int32)
  | 0 => sI σ 39
  | m + 1 => upd (moN σ c m) m (bI (msO σ c m))
def mgN (σ : gS) (c : Nat) : Nat → (Nat → UInt64)
  | 0 => sF σ 38
  | m + 1 => vf_upd (mgN σ c m) m (if msO σ c m then FP.dconst1 else FP.dconst0)
theorem moN_at (σ : gS) (c m : Nat) : moN σ c (m + 1) m = bI (msO σ c m) := if_pos rfl
theorem moN_lt {σ : gS} {c : Nat} : ∀ {n m : Nat}, m < n → moN σ c n m = bI (msO σ c m)
  | 0, _, h => absurd h (Nat.not_lt_zero _)
  | n + 1, m, h => by
    show upd (moN σ c n) n _ m = _
    unfold upd
    by_cases e : m = n
    · rw [if_pos e, e]
    · rw [if_neg e]; exact moN_lt (by omega)
theorem mgN_lt {σ : gS} {c : Nat} : ∀ {n m : Nat}, m < n → mgN σ c n m = if msO σ c m then FP.dconst1 else FP.dconst0
  | 0, _, h => absurd h (Nat.not_lt_zero _)
  | n + 1, m, h => by
    show vf_upd (mgN σ c n) n _ m = _
    by_cases e : m = n
    · subst e; exact vf_at
    · rw [vf_ne e]; exact mgN_lt (by omega)
/-- the model behind a balancing: pressures, flow, gates, whether it is solved -/
def mbF (σ : gS) (c : Nat) (s : (Nat → UInt64) × UInt64) (g : Nat → UInt64) (x : Int32) : gS := uN (uF (uD (uF (uI σ 39 (moN σ c 8)) 40 s.1) 5 s.2) 38 g) 9 x
theorem mbF_rd (σ : gS) (c : Nat) (s : (Nat → UInt64) × UInt64) (g : Nat → UInt64) (x : Int32) (P : Nat → UInt64) (f : UInt64) : uD (uF (mbF σ c s g x) 40 P) 5 f = mbF σ c (P, f) g x := by
  have e1 : va_up (va_up (va_up σ.2.2.2.1 40 s.1) 38 g) 40 P = va_up (va_up σ.2.2.2.1 40 P) 38 g := by
    funext j
    unfold va_up
    by_cases h8 : j = 40
    · subst h8; rfl
    · by_cases h7 : j = 38
      · subst h7; rfl
      · simp only [h8, h7, if_false]
  have e2 : va_up (va_up σ.2.1 5 s.2) 5 f = va_up σ.2.1 5 f := by
    funext j
    unfold va_up
    by_cases h2 : j = 5
    · subst h2; rfl
    · simp only [h2, if_false]
  show (va_up σ.1 9 x, va_up (va_up σ.2.1 5 s.2) 5 f, va_up σ.2.2.1 39 (moN σ c 8), va_up (va_up (va_up σ.2.2.2.1 40 s.1) 38 g) 40 P, σ.2.2.2.2) = (va_up σ.1 9 x, va_up σ.2.1 5 f, va_up σ.2.2.1 39 (moN σ c 8), va_up (va_up σ.2.2.2.1 40 P) 38 g, σ.2.2.2.2)
  rw [e1, e2]
theorem mbF_cl (σ : gS) (c : Nat) (s : (Nat → UInt64) × UInt64) (g g2 : Nat → UInt64) (x : Int32) : uF (mbF σ c s g x) 38 g2 = mbF σ c s g2 x := by
  show uN (uF (uF (uD (uF (uI σ 39 (moN σ c 8)) 40 s.1) 5 s.2) 38 g) 38 g2) 9 x = _
  rw [uF_uF]
  rfl
theorem mbF_n (σ : gS) (c : Nat) (s : (Nat → UInt64) × UInt64) (g : Nat → UInt64) (x y : Int32) : uN (mbF σ c s g x) 9 y = mbF σ c s g y := uN_uN _ _ _ _
def msS (σ : gS) (c m : Nat) : gS := uF (uI (uF σ 40 (zrN (sF σ 40) 10)) 39 (moN σ c m)) 38 (mgN σ c m)
theorem msS_0 (σ : gS) (c : Nat) : uF σ 40 (zrN (sF σ 40) 10) = msS σ c 0 := by
  show _ = uF (uI (uF σ 40 (zrN (sF σ 40) 10)) 39 (sI (uF σ 40 (zrN (sF σ 40) 10)) 39)) 38 (sF (uF σ 40 (zrN (sF σ 40) 10)) 38)
  rw [uI_self, uF_self]
theorem msS_z (σ : gS) (c m : Nat) : uI (msS σ c m) 39 (upd (sI (msS σ c m) 39) m (vp_nar .boolean (bI (msO σ c m)))) = uF (uI (uF σ 40 (zrN (sF σ 40) 10)) 39 (moN σ c (m + 1))) 38 (mgN σ c m) := by
  rw [nar_b2]
  show uF (uI (uI (uF σ 40 (zrN (sF σ 40) 10)) 39 (moN σ c m)) 39 (upd (moN σ c m) m (bI (msO σ c m)))) 38 (mgN σ c m) = _
  rw [uI_uI]
  rfl
theorem msS_end (σ : gS) (c : Nat) : uN (uD (msS σ c 8) 5 FP.dconst0) 9 (nI 0) = mbF σ c (zrN (sF σ 40) 10, FP.dconst0) (mgN σ c 8) (nI 0) := rfl
/-- the whole of a balancing, on what stands -/
def blM (H : Ph) (σ : gS) (c : Nat) : Option Nat × ((Nat → UInt64) × UInt64) × (Nat → UInt64) := blN (setO H (msO σ c)) 10 (zrN (sF σ 40) 10, FP.dconst0) (mgN σ c 8) 0
theorem Mw.mb {H : Ph} {nj : Nat} {σ : gS} (h : Mw H nj σ) (c : Nat) (s : (Nat → UInt64) × UInt64) (g : Nat → UInt64) (x : Int32) : Mw (setO H (msO σ c)) nj (mbF σ c s g x) := by
  obtain ⟨h1, h2, h3, h4, h5, h6⟩ := h
  refine ⟨h1, h2, h3, fun m hm => ?_, h5, h6⟩
  have hm : m < pM H := hm
  obtain ⟨g1, _, g3, g4, g5⟩ := h4 m hm
  exact ⟨g1, moN_lt (by omega), g3, g4, g5⟩
theorem nI_le0 {k : Nat} (hk : k < 2 ^ 31) (h : nI k ≤ 0) : k = 0 := Nat.eq_zero_of_not_pos fun h0 => absurd h (nI_nle h0 hk)
theorem wrC_le (b sv : Bool) : wrC b sv ≤ 2 := by cases b <;> cases sv <;> decide
theorem rdC_n {H : Ph} (hp : PhF H) {g : Nat → UInt64} (hg : ∀ m, m < pM H → okG (g m)) {s : (Nat → UInt64) × UInt64} (hs : SdF s) : dN (rdC H g s) :=
  (rdN_c hp hg (s := (vf_upd s.1 0 (na (hldV H s.2)), FP.dconst0)) (upd_okP hs.1 (hld_ok hp hs.2).2.2.2) ⟨d0_F.nn, by show 0 ≤ dv FP.dconst0; rw [d0_v]; exact Int.le_refl _⟩ 9 (Nat.le_refl _)).1

theorem inX7_drawOf_X7 : ∀ w ∈ u_ws RX7 TX7 24, w ∈ wsX7_drawOf := by decide +kernel
set_option maxHeartbeats 4000000 in
set_option maxRecDepth 100000 in
theorem kX7_drawOf (l : Launch) (K : gK) (hD : gD K) (σ : gS) {H : Ph} {nj : Nat} (hM : Mw H nj σ) (hp : PhF H) (hP : ∀ j, j < 10 → okP (sF σ 40 j)) (hg : ∀ m, m < pM H → okG (sF σ 38 m)) {m : Nat} (hm : m < pM H) : Ct l yX7_drawOf wsX7_drawOf { frames := 0, cells := 0, slots := 0, locals := 0 } K [.ref (K.2.2 27), .int (nI m)] σ (fun r t => r = some (.double (drV H (sF σ 40) (sF σ 38) m)) ∧ t = σ) := by
  refine Ct.of hD (by decide) rfl (Nat.le_of_ble_eq_true rfl) ?_
  intro X hL hK hF C
  subst hL; subst hK
  refine g_eq (σ2 := σ) (lv2 := [(0, .ref ((xK X).2.2 27)), (1, .int (nI m))]) (st2 := []) rfl rfl rfl ?_
  have h16 := hM.nd16
  have h8 := hM.nm8
  have hjj := hM.j
  have hmm := hM.ma hm
  refine g_aload_n C dX7_drawOf_0 0 rfl rfl ?_
  refine g_get C dX7_drawOf_1 wl27 rfl 15 (by decide) 1 rfl rfl rfl inX7_drawOf_X7 ?_
  refine g_iload_n C dX7_drawOf_4 1 rfl rfl ?_
  refine g_zald (j := m) C dX7_drawOf_5 wl39 rfl (by omega) (by decide) ?_
  refine g_topi (y := bI (pO H m)) hmm.2.1 ?_
  refine g_if_eq (tgt := 36) C dX7_drawOf_6 (by decide) (fun c_6 => ?_) (fun c_6 => ?_)
  · refine g_dconst0 C dX7_drawOf_36 ?_
    refine g_dstore_n (lv' := [(2, .double FP.dconst0), (0, .ref ((xK X).2.2 27)), (1, .int (nI m))]) C dX7_drawOf_37 rfl (by decide) rfl ?_
    refine g_dload_n C dX7_drawOf_38 0 rfl rfl ?_
    refine g_dconst0 C dX7_drawOf_39 ?_
    refine g_dcmp C dX7_drawOf_40 ?_
    refine g_if_ge (tgt := 48) C dX7_drawOf_41 (by decide) (fun c_41 => ?_) (fun c_41 => ?_)
    · refine g_dload_n C dX7_drawOf_48 0 rfl rfl ?_
      refine g_dret C dX7_drawOf_49 rfl ⟨Nat.le_of_ble_eq_true rfl, Nat.le_of_ble_eq_true rfl⟩ ?_
      rw [hF]
      refine ⟨?_, rfl⟩
      unfold drV
      first
        | (rw [if_pos (bIt c_6)]; unfold nb; first | rw [if_pos c_41] | rw [if_neg c_41])
        | rw [if_neg (by rw [(bI_ne _).mp c_6]; decide)]
    · refine g_dconst0 C dX7_drawOf_44 ?_
      refine g_goto (tgt := 49) C dX7_drawOf_45 (by decide) ?_
      refine g_dret C dX7_drawOf_49 rfl ⟨Nat.le_of_ble_eq_true rfl, Nat.le_of_ble_eq_true rfl⟩ ?_
      rw [hF]
      refine ⟨?_, rfl⟩
      unfold drV
      first
        | (rw [if_pos (bIt c_6)]; unfold nb; first | rw [if_pos c_41] | rw [if_neg c_41])
        | rw [if_neg (by rw [(bI_ne _).mp c_6]; decide)]
  · refine g_aload_n C dX7_drawOf_9 0 rfl rfl ?_
    refine g_get C dX7_drawOf_10 wl27 rfl 14 (by decide) 2 rfl rfl rfl inX7_drawOf_X7 ?_
    refine g_iload_n C dX7_drawOf_13 1 rfl rfl ?_
    refine g_dald (j := m) C dX7_drawOf_14 wl38 rfl (by omega) (by decide) ?_
    refine g_ldc2d (v := 4620693217682128896) C dX7_drawOf_15 3 rfl ?_
    refine g_dmul C dX7_drawOf_18 ((gat_g hg hm).F.ok) ?_
    refine g_dconst0 C dX7_drawOf_19 ?_
    refine g_aload_n C dX7_drawOf_20 0 rfl rfl ?_
    refine g_get C dX7_drawOf_21 wl27 rfl 18 (by decide) 4 rfl rfl rfl inX7_drawOf_X7 ?_
    refine g_aload_n C dX7_drawOf_24 0 rfl rfl ?_
    refine g_get C dX7_drawOf_25 wl27 rfl 11 (by decide) 5 rfl rfl rfl inX7_drawOf_X7 ?_
    refine g_iload_n C dX7_drawOf_28 1 rfl rfl ?_
    refine g_iald (j := m) C dX7_drawOf_29 wl35 rfl (by omega) (by decide) ?_
    refine g_topi (y := nI (pJ H m)) hmm.1 ?_
    refine g_dald (j := (pJ H m)) C dX7_drawOf_30 wl40 rfl (by omega) (by decide) ?_
    refine g_dsub C dX7_drawOf_31 ((drV_B hp hP hg hm).1.F.ok) ?_
    refine g_dmul C dX7_drawOf_32 ((drV_B hp hP hg hm).2.1.F.ok) ?_
    refine g_goto (tgt := 37) C dX7_drawOf_33 (by decide) ?_
    refine g_dstore_n (lv' := [(2, .double (FP.dmul (FP.dmul (sF σ 38 m) 4620693217682128896) (FP.dsub FP.dconst0 (sF σ 40 (pJ H m))))), (0, .ref ((xK X).2.2 27)), (1, .int (nI m))]) C dX7_drawOf_37 rfl (by decide) rfl ?_
    refine g_dload_n C dX7_drawOf_38 0 rfl rfl ?_
    refine g_dconst0 C dX7_drawOf_39 ?_
    refine g_dcmp C dX7_drawOf_40 ?_
    refine g_if_ge (tgt := 48) C dX7_drawOf_41 (by decide) (fun c_41 => ?_) (fun c_41 => ?_)
    · refine g_dload_n C dX7_drawOf_48 0 rfl rfl ?_
      refine g_dret C dX7_drawOf_49 rfl ⟨Nat.le_of_ble_eq_true rfl, Nat.le_of_ble_eq_true rfl⟩ ?_
      rw [hF]
      refine ⟨?_, rfl⟩
      unfold drV
      first
        | (rw [if_pos (bIt c_6)]; unfold nb; first | rw [if_pos c_41] | rw [if_neg c_41])
        | rw [if_neg (by rw [(bI_ne _).mp c_6]; decide)]
    · refine g_dconst0 C dX7_drawOf_44 ?_
      refine g_goto (tgt := 49) C dX7_drawOf_45 (by decide) ?_
      refine g_dret C dX7_drawOf_49 rfl ⟨Nat.le_of_ble_eq_true rfl, Nat.le_of_ble_eq_true rfl⟩ ?_
      rw [hF]
      refine ⟨?_, rfl⟩
      unfold drV
      first
        | (rw [if_pos (bIt c_6)]; unfold nb; first | rw [if_pos c_41] | rw [if_neg c_41])
        | rw [if_neg (by rw [(bI_ne _).mp c_6]; decide)]

theorem inX7_flowOf_X7 : ∀ w ∈ u_ws RX7 TX7 24, w ∈ wsX7_flowOf := by decide +kernel
set_option maxHeartbeats 4000000 in
set_option maxRecDepth 100000 in
theorem kX7_flowOf (l : Launch) (K : gK) (hD : gD K) (σ : gS) {H : Ph} {nj : Nat} (hM : Mw H nj σ) (hp : PhF H) (hP : ∀ j, j < 10 → okP (sF σ 40 j)) {d : Nat} (hd : d < pD H) : Ct l yX7_flowOf wsX7_flowOf { frames := 1, cells := 0, slots := 0, locals := 21 } K [.ref (K.2.2 27), .int (nI d)] σ (fun r t => r = some (.double (flw H (sF σ 40) d)) ∧ t = σ) := by
  refine Ct.of hD (by decide) rfl (Nat.le_of_ble_eq_true rfl) ?_
  intro X hL hK hF C
  subst hL; subst hK
  refine g_eq (σ2 := σ) (lv2 := [(0, .ref ((xK X).2.2 27)), (1, .int (nI d))]) (st2 := []) rfl rfl rfl ?_
  have h16 := hM.nd16
  have h8 := hM.nm8
  have hjj := hM.j
  have hdd := hM.du hd
  refine g_aload_n C dX7_flowOf_0 0 rfl rfl ?_
  refine g_iload_n C dX7_flowOf_1 1 rfl rfl ?_
  refine g_callV (As := [.int (nI d)]) (rest := []) C dX7_flowOf_2 (kX7_ease (xl X) (xK X) C.hD σ hM hp hd) wl27 rfl 1 gX7_flowOf_X7_ease rfl (by decide +kernel) ⟨Nat.le_of_ble_eq_true rfl, Nat.le_of_ble_eq_true rfl⟩ ⟨Nat.le_of_ble_eq_true rfl, Nat.le_of_ble_eq_true rfl⟩ rfl rfl (Nat.le_of_ble_eq_true rfl) (fun rv9 σ9 h9 => ?_)
  obtain ⟨h9a, h9b⟩ := h9
  refine g_eq (σ2 := σ) (lv2 := [(0, .ref ((xK X).2.2 27)), (1, .int (nI d))]) (st2 := [.double (pE H d)]) h9b rfl (by rw [h9a]; rfl) ?_
  refine g_aload_n C dX7_flowOf_5 0 rfl rfl ?_
  refine g_get C dX7_flowOf_6 wl27 rfl 18 (by decide) 1 rfl rfl rfl inX7_flowOf_X7 ?_
  refine g_aload_n C dX7_flowOf_9 0 rfl rfl ?_
  refine g_get C dX7_flowOf_10 wl27 rfl 3 (by decide) 2 rfl rfl rfl inX7_flowOf_X7 ?_
  refine g_iload_n C dX7_flowOf_13 1 rfl rfl ?_
  refine g_iald (j := d) C dX7_flowOf_14 wl28 rfl (by omega) (by decide) ?_
  refine g_topi (y := nI (pA H d)) hdd.1 ?_
  refine g_dald (j := (pA H d)) C dX7_flowOf_15 wl40 rfl (by omega) (by decide) ?_
  refine g_aload_n C dX7_flowOf_16 0 rfl rfl ?_
  refine g_get C dX7_flowOf_17 wl27 rfl 18 (by decide) 1 rfl rfl rfl inX7_flowOf_X7 ?_
  refine g_aload_n C dX7_flowOf_20 0 rfl rfl ?_
  refine g_get C dX7_flowOf_21 wl27 rfl 4 (by decide) 3 rfl rfl rfl inX7_flowOf_X7 ?_
  refine g_iload_n C dX7_flowOf_24 1 rfl rfl ?_
  refine g_iald (j := d) C dX7_flowOf_25 wl29 rfl (by omega) (by decide) ?_
  refine g_topi (y := nI (pB H d)) hdd.2.1 ?_
  refine g_dald (j := (pB H d)) C dX7_flowOf_26 wl40 rfl (by omega) (by decide) ?_
  refine g_dsub C dX7_flowOf_27 ((flo_s (h := H) hP (by omega) (by omega)).F.ok) ?_
  refine g_dmul C dX7_flowOf_28 ((flo_g hp hP hd (by omega) (by omega)).F.ok) ?_
  refine g_dret C dX7_flowOf_29 rfl ⟨Nat.le_of_ble_eq_true rfl, Nat.le_of_ble_eq_true rfl⟩ ?_
  rw [hF]
  exact ⟨rfl, rfl⟩

theorem inX7_speedOf_X7 : ∀ w ∈ u_ws RX7 TX7 24, w ∈ wsX7_speedOf := by decide +kernel
set_option maxHeartbeats 4000000 in
set_option maxRecDepth 100000 in
theorem kX7_speedOf (l : Launch) (K : gK) (hD : gD K) (σ : gS) {H : Ph} {nj : Nat} (hM : Mw H nj σ) (hp : PhF H) (hP : ∀ j, j < 10 → okP (sF σ 40 j)) {d : Nat} (hd : d < pD H) : Ct l yX7_speedOf wsX7_speedOf { frames := 2, cells := 0, slots := 0, locals := 42 } K [.ref (K.2.2 27), .int (nI d)] σ (fun r t => r = some (.double (spd H (sF σ 40) (sF σ 31) d)) ∧ t = σ) := by
  refine Ct.of hD (by decide) rfl (Nat.le_of_ble_eq_true rfl) ?_
  intro X hL hK hF C
  subst hL; subst hK
  refine g_eq (σ2 := σ) (lv2 := [(0, .ref ((xK X).2.2 27)), (1, .int (nI d))]) (st2 := []) rfl rfl rfl ?_
  have h16 := hM.nd16
  have h8 := hM.nm8
  have hjj := hM.j
  have hw := spd_ok hp hP (w := sF σ 31) hd (hM.du hd).2.2.2.2.1
  refine g_aload_n C dX7_speedOf_0 0 rfl rfl ?_
  refine g_iload_n C dX7_speedOf_1 1 rfl rfl ?_
  refine g_callV (As := [.int (nI d)]) (rest := []) C dX7_speedOf_2 (kX7_flowOf (xl X) (xK X) C.hD σ hM hp hP hd) wl27 rfl 1 gX7_speedOf_X7_flowOf rfl (by decide +kernel) ⟨Nat.le_of_ble_eq_true rfl, Nat.le_of_ble_eq_true rfl⟩ ⟨Nat.le_of_ble_eq_true rfl, Nat.le_of_ble_eq_true rfl⟩ rfl rfl (Nat.le_of_ble_eq_true rfl) (fun rv9 σ9 h9 => ?_)
  obtain ⟨h9a, h9b⟩ := h9
  refine g_eq (σ2 := σ) (lv2 := [(0, .ref ((xK X).2.2 27)), (1, .int (nI d))]) (st2 := [.double (flw H (sF σ 40) d)]) h9b rfl (by rw [h9a]; rfl) ?_
  refine g_callS (As := [.double (flw H (sF σ 40) d)]) (rest := []) C dX7_speedOf_5 (kX7_sizeOf (xl X) (xK X) C.hD σ _) 1 gX7_speedOf_X7_sizeOf rfl (by decide +kernel) ⟨Nat.le_of_ble_eq_true rfl, Nat.le_of_ble_eq_true rfl⟩ ⟨Nat.le_of_ble_eq_true rfl, Nat.le_of_ble_eq_true rfl⟩ rfl rfl (Nat.le_of_ble_eq_true rfl) (fun rv9 σ9 h9 => ?_)
  obtain ⟨h9a, h9b⟩ := h9
  refine g_eq (σ2 := σ) (lv2 := [(0, .ref ((xK X).2.2 27)), (1, .int (nI d))]) (st2 := [.double (mg (flw H (sF σ 40) d))]) h9b rfl (by rw [h9a]; rfl) ?_
  refine g_aload_n C dX7_speedOf_8 0 rfl rfl ?_
  refine g_get C dX7_speedOf_9 wl27 rfl 6 (by decide) 1 rfl rfl rfl inX7_speedOf_X7 ?_
  refine g_iload_n C dX7_speedOf_12 1 rfl rfl ?_
  refine g_dald (j := d) C dX7_speedOf_13 wl31 rfl (by omega) (by decide) ?_
  refine g_aload_n C dX7_speedOf_14 0 rfl rfl ?_
  refine g_get C dX7_speedOf_15 wl27 rfl 6 (by decide) 1 rfl rfl rfl inX7_speedOf_X7 ?_
  refine g_iload_n C dX7_speedOf_18 1 rfl rfl ?_
  refine g_dald (j := d) C dX7_speedOf_19 wl31 rfl (by omega) (by decide) ?_
  refine g_dmul C dX7_speedOf_20 hw.1.F.ok ?_
  refine g_ddiv C dX7_speedOf_21 hw.2.F.ok ?_
  refine g_dret C dX7_speedOf_22 rfl ⟨Nat.le_of_ble_eq_true rfl, Nat.le_of_ble_eq_true rfl⟩ ?_
  rw [hF]
  exact ⟨rfl, rfl⟩

theorem inX7_close_X7 : ∀ w ∈ u_ws RX7 TX7 24, w ∈ wsX7_close := by decide +kernel
set_option maxHeartbeats 4000000 in
set_option maxRecDepth 100000 in
theorem kX7_close (l : Launch) (K : gK) (hD : gD K) (σ : gS) {H : Ph} {nj : Nat} (hM : Mw H nj σ) (hp : PhF H) (hP : ∀ j, j < 10 → okP (sF σ 40 j)) (hg : ∀ m, m < pM H → okG (sF σ 38 m)) : Ct l yX7_close wsX7_close { frames := 1, cells := 0, slots := 0, locals := 23 } K [.ref (K.2.2 27)] σ (fun r t => r = some (.int (bI (clB H (sF σ 40) (sF σ 38) (pM H)))) ∧ t = uF σ 38 (clG H (sF σ 40) (sF σ 38) (pM H))) := by
  refine Ct.of hD (by decide) rfl (Nat.le_of_ble_eq_true rfl) ?_
  intro X hL hK hF C
  subst hL; subst hK
  refine g_eq (σ2 := σ) (lv2 := [(0, .ref ((xK X).2.2 27))]) (st2 := []) rfl rfl rfl ?_
  have h16 := hM.nd16
  have h8 := hM.nm8
  have hjj := hM.j
  refine g_iconst (v := nI 0) C dX7_close_0 (by decide +kernel) ?_
  refine g_istore_n (lv' := [(1, .int (nI 0)), (0, .ref ((xK X).2.2 27))]) C dX7_close_1 rfl (by decide) rfl ?_
  refine g_iconst (v := nI 0) C dX7_close_2 (by decide +kernel) ?_
  refine g_istore_n (lv' := [(2, .int (nI 0)), (1, .int (nI 0)), (0, .ref ((xK X).2.2 27))]) C dX7_close_3 rfl (by decide) rfl ?_
  refine g_eq (σ2 := uF σ 38 (clG H (sF σ 40) (sF σ 38) 0)) (lv2 := [(2, .int (nI 0)), (1, .int (nI 0)), (0, .ref ((xK X).2.2 27))]) (st2 := []) ((uF_self σ 38).symm) rfl rfl ?_
  refine g_eq (σ2 := uF σ 38 (clG H (sF σ 40) (sF σ 38) 0)) (lv2 := [(2, .int (nI 0)), (1, .int (bI (clB H (sF σ 40) (sF σ 38) 0))), (0, .ref ((xK X).2.2 27))]) (st2 := []) rfl rfl rfl ?_
  have loop4 : ∀ (r9 : Nat) (m : Nat), pM H - m < r9 → (m ≤ pM H) → G X 5 0 0 (uF σ 38 (clG H (sF σ 40) (sF σ 38) m)) [(0, .ref ((xK X).2.2 27)), (1, .int (bI (clB H (sF σ 40) (sF σ 38) m))), (2, .int (nI m))] 4 [] := by
    intro r9
    induction r9 with
    | zero => intro m h9; exact absurd h9 (Nat.not_lt_zero _)
    | succ r9 ih4 =>
      intro m hm4 hm
      refine g_iload_n C dX7_close_4 2 rfl rfl ?_
      refine g_aload_n C dX7_close_5 0 rfl rfl ?_
      refine g_get C dX7_close_6 wl27 rfl 10 (by decide) 1 rfl rfl rfl inX7_close_X7 ?_
      refine g_topi (y := nI (pM H)) hM.nm ?_
      refine g_icmp_ge (tgt := 94) C dX7_close_9 (by decide) (fun c_9 => ?_) (fun c_9 => ?_)
      · have hme : m = pM H := by
          have h9 := (nI_leI (by  omega) (by  omega)).mp c_9
          omega
        refine g_iload_n C dX7_close_94 1 rfl rfl ?_
        refine g_zret C dX7_close_95 rfl (nar_bI _) ⟨Nat.le_of_ble_eq_true rfl, Nat.le_of_ble_eq_true rfl⟩ ?_
        rw [hF]
        exact ⟨by rw [← hme], by rw [← hme]⟩
      · have hmt : m < pM H := by
          refine Nat.lt_of_not_le fun h => c_9 ?_
          exact (nI_leI (by  omega) (by  omega)).mpr (by omega)
        have hgm := clG_ok hp hP hg m (Nat.le_of_lt hmt)
        have hmm := hM.ma hmt
        refine g_aload_n C dX7_close_12 0 rfl rfl ?_
        refine g_iload_n C dX7_close_13 2 rfl rfl ?_
        refine g_callV (As := [.int (nI m)]) (rest := []) C dX7_close_14 (kX7_drawOf (xl X) (xK X) C.hD (uF σ 38 (clG H (sF σ 40) (sF σ 38) m)) hM hp hP hgm hmt) wl27 rfl 1 gX7_close_X7_drawOf rfl (by decide +kernel) ⟨Nat.le_of_ble_eq_true rfl, Nat.le_of_ble_eq_true rfl⟩ ⟨Nat.le_of_ble_eq_true rfl, Nat.le_of_ble_eq_true rfl⟩ rfl rfl (Nat.le_of_ble_eq_true rfl) (fun rv9 σ9 h9 => ?_)
        obtain ⟨h9a, h9b⟩ := h9
        refine g_eq (σ2 := uF σ 38 (clG H (sF σ 40) (sF σ 38) m)) (lv2 := [(0, .ref ((xK X).2.2 27)), (1, .int (bI (clB H (sF σ 40) (sF σ 38) m))), (2, .int (nI m))]) (st2 := [.double (drV H (sF σ 40) (sF σ 38) m)]) h9b rfl (by rw [h9a]; exact congrArg (fun z => [Value.double z]) (drV_cl H (sF σ 40) (sF σ 38) m)) ?_
        refine g_dstore_n (lv' := [(3, .double (drV H (sF σ 40) (sF σ 38) m)), (0, .ref ((xK X).2.2 27)), (1, .int (bI (clB H (sF σ 40) (sF σ 38) m))), (2, .int (nI m))]) C dX7_close_17 rfl (by decide) rfl ?_
        refine g_aload_n C dX7_close_18 1 rfl rfl ?_
        refine g_get C dX7_close_19 wl27 rfl 15 (by decide) 2 rfl rfl rfl inX7_close_X7 ?_
        refine g_iload_n C dX7_close_22 3 rfl rfl ?_
        refine g_zald (j := m) C dX7_close_23 wl39 rfl (by omega) (by decide) ?_
        refine g_topi (y := bI (pO H m)) hmm.2.1 ?_
        refine g_if_eq (tgt := 88) C dX7_close_24 (by decide) (fun c_24 => ?_) (fun c_24 => ?_)
        · have hb : ovr H (sF σ 40) (sF σ 38) m = false := by unfold ovr; rw [(bI_ne _).mp c_24]; rfl
          refine g_eq (σ2 := uF σ 38 (clG H (sF σ 40) (sF σ 38) (m + 1))) (lv2 := [(3, .double (drV H (sF σ 40) (sF σ 38) m)), (0, .ref ((xK X).2.2 27)), (1, .int (bI (clB H (sF σ 40) (sF σ 38) m))), (2, .int (nI m))]) (st2 := []) (by first | (rw [clG_yes hb]; exact uF_step _ _ _ _ _) | rw [clG_no hb]) rfl rfl ?_
          refine g_eq (σ2 := uF σ 38 (clG H (sF σ 40) (sF σ 38) (m + 1))) (lv2 := [(3, .double (drV H (sF σ 40) (sF σ 38) m)), (0, .ref ((xK X).2.2 27)), (1, .int (bI (clB H (sF σ 40) (sF σ 38) (m + 1)))), (2, .int (nI m))]) (st2 := []) rfl (congrArg (fun z9 => ([(3, .double (drV H (sF σ 40) (sF σ 38) m)), (0, .ref ((xK X).2.2 27)), (1, .int z9), (2, .int (nI m))] : List (Nat × Value))) (by rw [clB_no hb])) rfl ?_
          refine g_iinc (v := nI (m + 1)) (lv' := [(2, .int (nI (m + 1))), (3, .double (drV H (sF σ 40) (sF σ 38) m)), (0, .ref ((xK X).2.2 27)), (1, .int (bI (clB H (sF σ 40) (sF σ 38) (m + 1))))]) C dX7_close_88 3 rfl (nI_1 m) (by decide) rfl ?_
          refine g_goto (tgt := 4) C dX7_close_91 (by decide) ?_
          refine g_lv [2, 3, 0] rfl ?_
          exact ih4 (m + 1) (by omega) (by omega)
        · refine g_dload_n C dX7_close_27 0 rfl rfl ?_
          refine g_aload_n C dX7_close_28 1 rfl rfl ?_
          refine g_get C dX7_close_29 wl27 rfl 12 (by decide) 3 rfl rfl rfl inX7_close_X7 ?_
          refine g_iload_n C dX7_close_32 3 rfl rfl ?_
          refine g_dald (j := m) C dX7_close_33 wl36 rfl (by omega) (by decide) ?_
          refine g_topd (y := pN H m) hmm.2.2.1 ?_
          refine g_dcmp C dX7_close_34 ?_
          refine g_if_le (tgt := 88) C dX7_close_35 (by decide) (fun c_35 => ?_) (fun c_35 => ?_)
          · have hb : ovr H (sF σ 40) (sF σ 38) m = false := by unfold ovr; rw [bIt c_24, decide_eq_false (by rw [Int32.not_lt]; exact c_35)]; rfl
            refine g_eq (σ2 := uF σ 38 (clG H (sF σ 40) (sF σ 38) (m + 1))) (lv2 := [(3, .double (drV H (sF σ 40) (sF σ 38) m)), (0, .ref ((xK X).2.2 27)), (1, .int (bI (clB H (sF σ 40) (sF σ 38) m))), (2, .int (nI m))]) (st2 := []) (by first | (rw [clG_yes hb]; exact uF_step _ _ _ _ _) | rw [clG_no hb]) rfl rfl ?_
            refine g_eq (σ2 := uF σ 38 (clG H (sF σ 40) (sF σ 38) (m + 1))) (lv2 := [(3, .double (drV H (sF σ 40) (sF σ 38) m)), (0, .ref ((xK X).2.2 27)), (1, .int (bI (clB H (sF σ 40) (sF σ 38) (m + 1)))), (2, .int (nI m))]) (st2 := []) rfl (congrArg (fun z9 => ([(3, .double (drV H (sF σ 40) (sF σ 38) m)), (0, .ref ((xK X).2.2 27)), (1, .int z9), (2, .int (nI m))] : List (Nat × Value))) (by rw [clB_no hb])) rfl ?_
            refine g_iinc (v := nI (m + 1)) (lv' := [(2, .int (nI (m + 1))), (3, .double (drV H (sF σ 40) (sF σ 38) m)), (0, .ref ((xK X).2.2 27)), (1, .int (bI (clB H (sF σ 40) (sF σ 38) (m + 1))))]) C dX7_close_88 3 rfl (nI_1 m) (by decide) rfl ?_
            refine g_goto (tgt := 4) C dX7_close_91 (by decide) ?_
            refine g_lv [2, 3, 0] rfl ?_
            exact ih4 (m + 1) (by omega) (by omega)
          · have h0 : 0 < Op.cmpValue (FP.dcmp (drV H (sF σ 40) (sF σ 38) m) (pN H m)) .l := by rw [← Int32.not_le]; exact c_35
            have hb : ovr H (sF σ 40) (sF σ 38) m = true := by unfold ovr; rw [bIt c_24, decide_eq_true h0]; rfl
            have hov := ovr_ok hp hP hg hmt h0
            have hdr := drV_B hp hP hg hmt
            refine g_iload_n C dX7_close_38 2 rfl rfl ?_
            refine g_if_ne (tgt := 61) C dX7_close_39 (by decide) (fun c_39 => ?_) (fun c_39 => ?_)
            · refine g_iconst (v := nI 1) C dX7_close_61 (by decide +kernel) ?_
              refine g_goto (tgt := 66) C dX7_close_62 (by decide) ?_
              refine g_topi (y := bI (clB H (sF σ 40) (sF σ 38) (m + 1))) (by
  rw [clB_yes hb]
  first
    | (have e9 : clB H (sF σ 40) (sF σ 38) m = true := bIt c_39
       rw [e9]; rfl)
    | (have e9 : clB H (sF σ 40) (sF σ 38) m = false := (bI_ne _).mp c_39
       have e8 : far H (sF σ 40) (sF σ 38) m = false := decide_eq_false (by rw [Int32.not_lt]; exact c_58)
       rw [e9, e8]; rfl)
    | (have e8 : far H (sF σ 40) (sF σ 38) m = true := decide_eq_true (by rw [← Int32.not_le]; exact c_58)
       rw [e8, Bool.or_true]; rfl)) ?_
              refine g_istore_n (lv' := [(1, .int (bI (clB H (sF σ 40) (sF σ 38) (m + 1)))), (3, .double (drV H (sF σ 40) (sF σ 38) m)), (0, .ref ((xK X).2.2 27)), (2, .int (nI m))]) C dX7_close_66 rfl (by decide) rfl ?_
              refine g_aload_n C dX7_close_67 2 rfl rfl ?_
              refine g_get C dX7_close_68 wl27 rfl 14 (by decide) 6 rfl rfl rfl inX7_close_X7 ?_
              refine g_iload_n C dX7_close_71 3 rfl rfl ?_
              refine g_aload_n C dX7_close_72 2 rfl rfl ?_
              refine g_get C dX7_close_73 wl27 rfl 14 (by decide) 6 rfl rfl rfl inX7_close_X7 ?_
              refine g_iload_n C dX7_close_76 3 rfl rfl ?_
              refine g_dald (j := m) C dX7_close_77 wl38 rfl (by omega) (by decide) ?_
              refine g_topd (y := sF σ 38 m) (clG_at m m (Nat.le_refl _)) ?_
              refine g_aload_n C dX7_close_78 2 rfl rfl ?_
              refine g_get C dX7_close_79 wl27 rfl 12 (by decide) 3 rfl rfl rfl inX7_close_X7 ?_
              refine g_iload_n C dX7_close_82 3 rfl rfl ?_
              refine g_dald (j := m) C dX7_close_83 wl36 rfl (by omega) (by decide) ?_
              refine g_topd (y := pN H m) hmm.2.2.1 ?_
              refine g_dmul C dX7_close_84 hov.1.F.ok ?_
              refine g_dload_n C dX7_close_85 1 rfl rfl ?_
              refine g_ddiv C dX7_close_86 hov.2.1.F.ok ?_
              refine g_dast (j := m) (σ' := uF (uF σ 38 (clG H (sF σ 40) (sF σ 38) m)) 38 (vf_upd (sF (uF σ 38 (clG H (sF σ 40) (sF σ 38) m)) 38) m (FP.ddiv (FP.dmul (sF σ 38 m) (pN H m)) (drV H (sF σ 40) (sF σ 38) m)))) C dX7_close_87 wl38 rfl (by omega) (by decide) wsA38 ?_
              refine g_eq (σ2 := uF σ 38 (clG H (sF σ 40) (sF σ 38) (m + 1))) (lv2 := [(1, .int (bI (clB H (sF σ 40) (sF σ 38) (m + 1)))), (3, .double (drV H (sF σ 40) (sF σ 38) m)), (0, .ref ((xK X).2.2 27)), (2, .int (nI m))]) (st2 := []) (by first | (rw [clG_yes hb]; exact uF_step _ _ _ _ _) | rw [clG_no hb]) rfl rfl ?_
              refine g_iinc (v := nI (m + 1)) (lv' := [(2, .int (nI (m + 1))), (1, .int (bI (clB H (sF σ 40) (sF σ 38) (m + 1)))), (3, .double (drV H (sF σ 40) (sF σ 38) m)), (0, .ref ((xK X).2.2 27))]) C dX7_close_88 3 rfl (nI_1 m) (by decide) rfl ?_
              refine g_goto (tgt := 4) C dX7_close_91 (by decide) ?_
              refine g_lv [3, 1, 0] rfl ?_
              exact ih4 (m + 1) (by omega) (by omega)
            · refine g_dload_n C dX7_close_42 0 rfl rfl ?_
              refine g_ldc2d (v := 4652007308841189376) C dX7_close_43 4 rfl ?_
              refine g_dmul C dX7_close_46 ((hdr.2.2.1.mul (k := 24) c1000_B (by decide)).F.ok) ?_
              refine g_aload_n C dX7_close_47 1 rfl rfl ?_
              refine g_get C dX7_close_48 wl27 rfl 12 (by decide) 3 rfl rfl rfl inX7_close_X7 ?_
              refine g_iload_n C dX7_close_51 3 rfl rfl ?_
              refine g_dald (j := m) C dX7_close_52 wl36 rfl (by omega) (by decide) ?_
              refine g_topd (y := pN H m) hmm.2.2.1 ?_
              refine g_ldc2d (v := 4652016104934211584) C dX7_close_53 5 rfl ?_
              refine g_dmul C dX7_close_56 (((hp.2.2.2.1 m hmt).1.1.mul (k := 20) c1001_B (by decide)).F.ok) ?_
              refine g_dcmp C dX7_close_57 ?_
              refine g_if_le (tgt := 65) C dX7_close_58 (by decide) (fun c_58 => ?_) (fun c_58 => ?_)
              · refine g_iconst (v := nI 0) C dX7_close_65 (by decide +kernel) ?_
                refine g_topi (y := bI (clB H (sF σ 40) (sF σ 38) (m + 1))) (by
  rw [clB_yes hb]
  first
    | (have e9 : clB H (sF σ 40) (sF σ 38) m = true := bIt c_39
       rw [e9]; rfl)
    | (have e9 : clB H (sF σ 40) (sF σ 38) m = false := (bI_ne _).mp c_39
       have e8 : far H (sF σ 40) (sF σ 38) m = false := decide_eq_false (by rw [Int32.not_lt]; exact c_58)
       rw [e9, e8]; rfl)
    | (have e8 : far H (sF σ 40) (sF σ 38) m = true := decide_eq_true (by rw [← Int32.not_le]; exact c_58)
       rw [e8, Bool.or_true]; rfl)) ?_
                refine g_istore_n (lv' := [(1, .int (bI (clB H (sF σ 40) (sF σ 38) (m + 1)))), (3, .double (drV H (sF σ 40) (sF σ 38) m)), (0, .ref ((xK X).2.2 27)), (2, .int (nI m))]) C dX7_close_66 rfl (by decide) rfl ?_
                refine g_aload_n C dX7_close_67 2 rfl rfl ?_
                refine g_get C dX7_close_68 wl27 rfl 14 (by decide) 6 rfl rfl rfl inX7_close_X7 ?_
                refine g_iload_n C dX7_close_71 3 rfl rfl ?_
                refine g_aload_n C dX7_close_72 2 rfl rfl ?_
                refine g_get C dX7_close_73 wl27 rfl 14 (by decide) 6 rfl rfl rfl inX7_close_X7 ?_
                refine g_iload_n C dX7_close_76 3 rfl rfl ?_
                refine g_dald (j := m) C dX7_close_77 wl38 rfl (by omega) (by decide) ?_
                refine g_topd (y := sF σ 38 m) (clG_at m m (Nat.le_refl _)) ?_
                refine g_aload_n C dX7_close_78 2 rfl rfl ?_
                refine g_get C dX7_close_79 wl27 rfl 12 (by decide) 3 rfl rfl rfl inX7_close_X7 ?_
                refine g_iload_n C dX7_close_82 3 rfl rfl ?_
                refine g_dald (j := m) C dX7_close_83 wl36 rfl (by omega) (by decide) ?_
                refine g_topd (y := pN H m) hmm.2.2.1 ?_
                refine g_dmul C dX7_close_84 hov.1.F.ok ?_
                refine g_dload_n C dX7_close_85 1 rfl rfl ?_
                refine g_ddiv C dX7_close_86 hov.2.1.F.ok ?_
                refine g_dast (j := m) (σ' := uF (uF σ 38 (clG H (sF σ 40) (sF σ 38) m)) 38 (vf_upd (sF (uF σ 38 (clG H (sF σ 40) (sF σ 38) m)) 38) m (FP.ddiv (FP.dmul (sF σ 38 m) (pN H m)) (drV H (sF σ 40) (sF σ 38) m)))) C dX7_close_87 wl38 rfl (by omega) (by decide) wsA38 ?_
                refine g_eq (σ2 := uF σ 38 (clG H (sF σ 40) (sF σ 38) (m + 1))) (lv2 := [(1, .int (bI (clB H (sF σ 40) (sF σ 38) (m + 1)))), (3, .double (drV H (sF σ 40) (sF σ 38) m)), (0, .ref ((xK X).2.2 27)), (2, .int (nI m))]) (st2 := []) (by first | (rw [clG_yes hb]; exact uF_step _ _ _ _ _) | rw [clG_no hb]) rfl rfl ?_
                refine g_iinc (v := nI (m + 1)) (lv' := [(2, .int (nI (m + 1))), (1, .int (bI (clB H (sF σ 40) (sF σ 38) (m + 1)))), (3, .double (drV H (sF σ 40) (sF σ 38) m)), (0, .ref ((xK X).2.2 27))]) C dX7_close_88 3 rfl (nI_1 m) (by decide) rfl ?_
                refine g_goto (tgt := 4) C dX7_close_91 (by decide) ?_
                refine g_lv [3, 1, 0] rfl ?_
                exact ih4 (m + 1) (by omega) (by omega)
              · refine g_iconst (v := nI 1) C dX7_close_61 (by decide +kernel) ?_
                refine g_goto (tgt := 66) C dX7_close_62 (by decide) ?_
                refine g_topi (y := bI (clB H (sF σ 40) (sF σ 38) (m + 1))) (by
  rw [clB_yes hb]
  first
    | (have e9 : clB H (sF σ 40) (sF σ 38) m = true := bIt c_39
       rw [e9]; rfl)
    | (have e9 : clB H (sF σ 40) (sF σ 38) m = false := (bI_ne _).mp c_39
       have e8 : far H (sF σ 40) (sF σ 38) m = false := decide_eq_false (by rw [Int32.not_lt]; exact c_58)
       rw [e9, e8]; rfl)
    | (have e8 : far H (sF σ 40) (sF σ 38) m = true := decide_eq_true (by rw [← Int32.not_le]; exact c_58)
       rw [e8, Bool.or_true]; rfl)) ?_
                refine g_istore_n (lv' := [(1, .int (bI (clB H (sF σ 40) (sF σ 38) (m + 1)))), (3, .double (drV H (sF σ 40) (sF σ 38) m)), (0, .ref ((xK X).2.2 27)), (2, .int (nI m))]) C dX7_close_66 rfl (by decide) rfl ?_
                refine g_aload_n C dX7_close_67 2 rfl rfl ?_
                refine g_get C dX7_close_68 wl27 rfl 14 (by decide) 6 rfl rfl rfl inX7_close_X7 ?_
                refine g_iload_n C dX7_close_71 3 rfl rfl ?_
                refine g_aload_n C dX7_close_72 2 rfl rfl ?_
                refine g_get C dX7_close_73 wl27 rfl 14 (by decide) 6 rfl rfl rfl inX7_close_X7 ?_
                refine g_iload_n C dX7_close_76 3 rfl rfl ?_
                refine g_dald (j := m) C dX7_close_77 wl38 rfl (by omega) (by decide) ?_
                refine g_topd (y := sF σ 38 m) (clG_at m m (Nat.le_refl _)) ?_
                refine g_aload_n C dX7_close_78 2 rfl rfl ?_
                refine g_get C dX7_close_79 wl27 rfl 12 (by decide) 3 rfl rfl rfl inX7_close_X7 ?_
                refine g_iload_n C dX7_close_82 3 rfl rfl ?_
                refine g_dald (j := m) C dX7_close_83 wl36 rfl (by omega) (by decide) ?_
                refine g_topd (y := pN H m) hmm.2.2.1 ?_
                refine g_dmul C dX7_close_84 hov.1.F.ok ?_
                refine g_dload_n C dX7_close_85 1 rfl rfl ?_
                refine g_ddiv C dX7_close_86 hov.2.1.F.ok ?_
                refine g_dast (j := m) (σ' := uF (uF σ 38 (clG H (sF σ 40) (sF σ 38) m)) 38 (vf_upd (sF (uF σ 38 (clG H (sF σ 40) (sF σ 38) m)) 38) m (FP.ddiv (FP.dmul (sF σ 38 m) (pN H m)) (drV H (sF σ 40) (sF σ 38) m)))) C dX7_close_87 wl38 rfl (by omega) (by decide) wsA38 ?_
                refine g_eq (σ2 := uF σ 38 (clG H (sF σ 40) (sF σ 38) (m + 1))) (lv2 := [(1, .int (bI (clB H (sF σ 40) (sF σ 38) (m + 1)))), (3, .double (drV H (sF σ 40) (sF σ 38) m)), (0, .ref ((xK X).2.2 27)), (2, .int (nI m))]) (st2 := []) (by first | (rw [clG_yes hb]; exact uF_step _ _ _ _ _) | rw [clG_no hb]) rfl rfl ?_
                refine g_iinc (v := nI (m + 1)) (lv' := [(2, .int (nI (m + 1))), (1, .int (bI (clB H (sF σ 40) (sF σ 38) (m + 1)))), (3, .double (drV H (sF σ 40) (sF σ 38) m)), (0, .ref ((xK X).2.2 27))]) C dX7_close_88 3 rfl (nI_1 m) (by decide) rfl ?_
                refine g_goto (tgt := 4) C dX7_close_91 (by decide) ?_
                refine g_lv [3, 1, 0] rfl ?_
                exact ih4 (m + 1) (by omega) (by omega)
  refine g_lv [2, 1, 0] rfl ?_
  exact loop4 (pM H + 1) 0 (by omega) (Nat.zero_le _)

theorem inX7_isEnough_X7 : ∀ w ∈ u_ws RX7 TX7 24, w ∈ wsX7_isEnough := by decide +kernel
set_option maxHeartbeats 4000000 in
set_option maxRecDepth 100000 in
theorem kX7_isEnough (l : Launch) (K : gK) (hD : gD K) (σ : gS) {H : Ph} {nj : Nat} (hM : Mw H nj σ) (hp : PhF H) (hP : ∀ j, j < 10 → okP (sF σ 40 j)) (hg : ∀ m, m < pM H → okG (sF σ 38 m)) : Ct l yX7_isEnough wsX7_isEnough { frames := 1, cells := 0, slots := 0, locals := 23 } K [.ref (K.2.2 27)] σ (fun r t => r = some (.int (bI (allB (srB H (sF σ 40) (sF σ 38)) (pM H)))) ∧ t = σ) := by
  refine Ct.of hD (by decide) rfl (Nat.le_of_ble_eq_true rfl) ?_
  intro X hL hK hF C
  subst hL; subst hK
  refine g_eq (σ2 := σ) (lv2 := [(0, .ref ((xK X).2.2 27))]) (st2 := []) rfl rfl rfl ?_
  have h16 := hM.nd16
  have h8 := hM.nm8
  have hjj := hM.j
  refine g_iconst (v := nI 1) C dX7_isEnough_0 (by decide +kernel) ?_
  refine g_istore_n (lv' := [(1, .int (nI 1)), (0, .ref ((xK X).2.2 27))]) C dX7_isEnough_1 rfl (by decide) rfl ?_
  refine g_iconst (v := nI 0) C dX7_isEnough_2 (by decide +kernel) ?_
  refine g_istore_n (lv' := [(2, .int (nI 0)), (1, .int (nI 1)), (0, .ref ((xK X).2.2 27))]) C dX7_isEnough_3 rfl (by decide) rfl ?_
  refine g_eq (σ2 := σ) (lv2 := [(2, .int (nI 0)), (1, .int (bI (allB (srB H (sF σ 40) (sF σ 38)) 0))), (0, .ref ((xK X).2.2 27))]) (st2 := []) rfl rfl rfl ?_
  have loop4 : ∀ (r9 : Nat) (m : Nat), pM H - m < r9 → (m ≤ pM H) → G X 3 0 0 σ [(0, .ref ((xK X).2.2 27)), (1, .int (bI (allB (srB H (sF σ 40) (sF σ 38)) m))), (2, .int (nI m))] 4 [] := by
    intro r9
    induction r9 with
    | zero => intro m h9; exact absurd h9 (Nat.not_lt_zero _)
    | succ r9 ih4 =>
      intro m hm4 hm
      refine g_iload_n C dX7_isEnough_4 2 rfl rfl ?_
      refine g_aload_n C dX7_isEnough_5 0 rfl rfl ?_
      refine g_get C dX7_isEnough_6 wl27 rfl 10 (by decide) 1 rfl rfl rfl inX7_isEnough_X7 ?_
      refine g_topi (y := nI (pM H)) hM.nm ?_
      refine g_icmp_ge (tgt := 56) C dX7_isEnough_9 (by decide) (fun c_9 => ?_) (fun c_9 => ?_)
      · have hme : m = pM H := by
          have h9 := (nI_leI (by  omega) (by  omega)).mp c_9
          omega
        refine g_iload_n C dX7_isEnough_56 1 rfl rfl ?_
        refine g_zret C dX7_isEnough_57 rfl (nar_bI _) ⟨Nat.le_of_ble_eq_true rfl, Nat.le_of_ble_eq_true rfl⟩ ?_
        rw [hF]
        exact ⟨by rw [← hme], rfl⟩
      · have hmt : m < pM H := by
          refine Nat.lt_of_not_le fun h => c_9 ?_
          exact (nI_leI (by  omega) (by  omega)).mpr (by omega)
        have hmm := hM.ma hmt
        have hds := (drV_B hp hP hg hmt).2.2.1
        have hns := (hp.2.2.2.1 m hmt).1.1.mul (k := 10) c9375_B (by decide)
        refine g_iload_n C dX7_isEnough_12 1 rfl rfl ?_
        refine g_if_eq (tgt := 48) C dX7_isEnough_13 (by decide) (fun c_13 => ?_) (fun c_13 => ?_)
        · have ha : allB (srB H (sF σ 40) (sF σ 38)) m = false := (bI_ne _).mp c_13
          refine g_iconst (v := nI 0) C dX7_isEnough_48 (by decide +kernel) ?_
          refine g_topi (y := bI (allB (srB H (sF σ 40) (sF σ 38)) (m + 1))) (by show _ = bI (allB (srB H (sF σ 40) (sF σ 38)) m && (srB H (sF σ 40) (sF σ 38)) m); first | (rw [ha, hb]; rfl) | (rw [ha]; rfl)) ?_
          refine g_istore_n (lv' := [(1, .int (bI (allB (srB H (sF σ 40) (sF σ 38)) (m + 1)))), (0, .ref ((xK X).2.2 27)), (2, .int (nI m))]) C dX7_isEnough_49 rfl (by decide) rfl ?_
          refine g_iinc (v := nI (m + 1)) (lv' := [(2, .int (nI (m + 1))), (1, .int (bI (allB (srB H (sF σ 40) (sF σ 38)) (m + 1)))), (0, .ref ((xK X).2.2 27))]) C dX7_isEnough_50 2 rfl (nI_1 m) (by decide) rfl ?_
          refine g_goto (tgt := 4) C dX7_isEnough_53 (by decide) ?_
          refine g_lv [2, 1, 0] rfl ?_
          exact ih4 (m + 1) (by omega) (by omega)
        · have ha : allB (srB H (sF σ 40) (sF σ 38)) m = true := bIt c_13
          refine g_aload_n C dX7_isEnough_16 0 rfl rfl ?_
          refine g_get C dX7_isEnough_17 wl27 rfl 15 (by decide) 2 rfl rfl rfl inX7_isEnough_X7 ?_
          refine g_iload_n C dX7_isEnough_20 2 rfl rfl ?_
          refine g_zald (j := m) C dX7_isEnough_21 wl39 rfl (by omega) (by decide) ?_
          refine g_topi (y := bI (pO H m)) hmm.2.1 ?_
          refine g_if_eq (tgt := 44) C dX7_isEnough_22 (by decide) (fun c_22 => ?_) (fun c_22 => ?_)
          · have hb : (srB H (sF σ 40) (sF σ 38)) m = true := by unfold srB; rw [(bI_ne _).mp c_22]; rfl
            refine g_iconst (v := nI 1) C dX7_isEnough_44 (by decide +kernel) ?_
            refine g_goto (tgt := 49) C dX7_isEnough_45 (by decide) ?_
            refine g_topi (y := bI (allB (srB H (sF σ 40) (sF σ 38)) (m + 1))) (by show _ = bI (allB (srB H (sF σ 40) (sF σ 38)) m && (srB H (sF σ 40) (sF σ 38)) m); first | (rw [ha, hb]; rfl) | (rw [ha]; rfl)) ?_
            refine g_istore_n (lv' := [(1, .int (bI (allB (srB H (sF σ 40) (sF σ 38)) (m + 1)))), (0, .ref ((xK X).2.2 27)), (2, .int (nI m))]) C dX7_isEnough_49 rfl (by decide) rfl ?_
            refine g_iinc (v := nI (m + 1)) (lv' := [(2, .int (nI (m + 1))), (1, .int (bI (allB (srB H (sF σ 40) (sF σ 38)) (m + 1)))), (0, .ref ((xK X).2.2 27))]) C dX7_isEnough_50 2 rfl (nI_1 m) (by decide) rfl ?_
            refine g_goto (tgt := 4) C dX7_isEnough_53 (by decide) ?_
            refine g_lv [2, 1, 0] rfl ?_
            exact ih4 (m + 1) (by omega) (by omega)
          · refine g_aload_n C dX7_isEnough_25 0 rfl rfl ?_
            refine g_iload_n C dX7_isEnough_26 2 rfl rfl ?_
            refine g_callV (As := [.int (nI m)]) (rest := []) C dX7_isEnough_27 (kX7_drawOf (xl X) (xK X) C.hD σ hM hp hP hg hmt) wl27 rfl 1 gX7_isEnough_X7_drawOf rfl (by decide +kernel) ⟨Nat.le_of_ble_eq_true rfl, Nat.le_of_ble_eq_true rfl⟩ ⟨Nat.le_of_ble_eq_true rfl, Nat.le_of_ble_eq_true rfl⟩ rfl rfl (Nat.le_of_ble_eq_true rfl) (fun rv9 σ9 h9 => ?_)
            obtain ⟨h9a, h9b⟩ := h9
            refine g_eq (σ2 := σ) (lv2 := [(0, .ref ((xK X).2.2 27)), (1, .int (bI (allB (srB H (sF σ 40) (sF σ 38)) m))), (2, .int (nI m))]) (st2 := [.double (drV H (sF σ 40) (sF σ 38) m)]) h9b rfl (by rw [h9a]; rfl) ?_
            refine g_aload_n C dX7_isEnough_30 0 rfl rfl ?_
            refine g_get C dX7_isEnough_31 wl27 rfl 12 (by decide) 3 rfl rfl rfl inX7_isEnough_X7 ?_
            refine g_iload_n C dX7_isEnough_34 2 rfl rfl ?_
            refine g_dald (j := m) C dX7_isEnough_35 wl36 rfl (by omega) (by decide) ?_
            refine g_topd (y := pN H m) hmm.2.2.1 ?_
            refine g_ldc2d (v := 4606619468846596096) C dX7_isEnough_36 4 rfl ?_
            refine g_dmul C dX7_isEnough_39 hns.F.ok ?_
            refine g_dcmp C dX7_isEnough_40 ?_
            refine g_if_lt (tgt := 48) C dX7_isEnough_41 (by decide) (fun c_41 => ?_) (fun c_41 => ?_)
            · have hb : (srB H (sF σ 40) (sF σ 38)) m = false := by unfold srB; rw [bIt c_22, decide_eq_true ((cv_lt hds.F.nn hns.F.nn).mpr ((cv_lt hds.F.nn hns.F.nn).mp c_41))]; rfl
              refine g_iconst (v := nI 0) C dX7_isEnough_48 (by decide +kernel) ?_
              refine g_topi (y := bI (allB (srB H (sF σ 40) (sF σ 38)) (m + 1))) (by show _ = bI (allB (srB H (sF σ 40) (sF σ 38)) m && (srB H (sF σ 40) (sF σ 38)) m); first | (rw [ha, hb]; rfl) | (rw [ha]; rfl)) ?_
              refine g_istore_n (lv' := [(1, .int (bI (allB (srB H (sF σ 40) (sF σ 38)) (m + 1)))), (0, .ref ((xK X).2.2 27)), (2, .int (nI m))]) C dX7_isEnough_49 rfl (by decide) rfl ?_
              refine g_iinc (v := nI (m + 1)) (lv' := [(2, .int (nI (m + 1))), (1, .int (bI (allB (srB H (sF σ 40) (sF σ 38)) (m + 1)))), (0, .ref ((xK X).2.2 27))]) C dX7_isEnough_50 2 rfl (nI_1 m) (by decide) rfl ?_
              refine g_goto (tgt := 4) C dX7_isEnough_53 (by decide) ?_
              refine g_lv [2, 1, 0] rfl ?_
              exact ih4 (m + 1) (by omega) (by omega)
            · have hb : (srB H (sF σ 40) (sF σ 38)) m = true := by unfold srB; rw [decide_eq_false (fun z => c_41 ((cv_lt hds.F.nn hns.F.nn).mpr ((cv_lt hds.F.nn hns.F.nn).mp z))), Bool.and_false]; rfl
              refine g_iconst (v := nI 1) C dX7_isEnough_44 (by decide +kernel) ?_
              refine g_goto (tgt := 49) C dX7_isEnough_45 (by decide) ?_
              refine g_topi (y := bI (allB (srB H (sF σ 40) (sF σ 38)) (m + 1))) (by show _ = bI (allB (srB H (sF σ 40) (sF σ 38)) m && (srB H (sF σ 40) (sF σ 38)) m); first | (rw [ha, hb]; rfl) | (rw [ha]; rfl)) ?_
              refine g_istore_n (lv' := [(1, .int (bI (allB (srB H (sF σ 40) (sF σ 38)) (m + 1)))), (0, .ref ((xK X).2.2 27)), (2, .int (nI m))]) C dX7_isEnough_49 rfl (by decide) rfl ?_
              refine g_iinc (v := nI (m + 1)) (lv' := [(2, .int (nI (m + 1))), (1, .int (bI (allB (srB H (sF σ 40) (sF σ 38)) (m + 1)))), (0, .ref ((xK X).2.2 27))]) C dX7_isEnough_50 2 rfl (nI_1 m) (by decide) rfl ?_
              refine g_goto (tgt := 4) C dX7_isEnough_53 (by decide) ?_
              refine g_lv [2, 1, 0] rfl ?_
              exact ih4 (m + 1) (by omega) (by omega)
  refine g_lv [2, 1, 0] rfl ?_
  exact loop4 (pM H + 1) 0 (by omega) (Nat.zero_le _)

theorem inX7_sizeAt_X7 : ∀ w ∈ u_ws RX7 TX7 24, w ∈ wsX7_sizeAt := by decide +kernel
set_option maxHeartbeats 4000000 in
set_option maxRecDepth 100000 in
theorem kX7_sizeAt (l : Launch) (K : gK) (hD : gD K) (σ : gS) {n k : Nat} (hn : sN σ 10 = nI n) (hn6 : n ≤ 6) (hk : k < 10) : Ct l yX7_sizeAt wsX7_sizeAt { frames := 0, cells := 0, slots := 0, locals := 0 } K [.ref (K.2.2 27), .int (nI k)] σ (fun r t => r = some (.int (sei (srch (rkP (sI σ 42) n k) n 0))) ∧ t = σ) := by
  refine Ct.of hD (by decide) rfl (Nat.le_of_ble_eq_true rfl) ?_
  intro X hL hK hF C
  subst hL; subst hK
  refine g_eq (σ2 := σ) (lv2 := [(0, .ref ((xK X).2.2 27)), (1, .int (nI k))]) (st2 := []) rfl rfl rfl ?_
  refine g_iconst (v := nI 0) C dX7_sizeAt_0 (by decide +kernel) ?_
  refine g_istore_n (lv' := [(2, .int (nI 0)), (0, .ref ((xK X).2.2 27)), (1, .int (nI k))]) C dX7_sizeAt_1 rfl (by decide) rfl ?_
  have loop2 : ∀ (r9 : Nat) (s : Nat), n - s < r9 → (s ≤ n) → (srch (rkP (sI σ 42) n k) n 0 = srch (rkP (sI σ 42) n k) (n - s) s) → G X 5 0 0 σ [(0, .ref ((xK X).2.2 27)), (1, .int (nI k)), (2, .int (nI s))] 2 [] := by
    intro r9
    induction r9 with
    | zero => intro s h9; exact absurd h9 (Nat.not_lt_zero _)
    | succ r9 ih2 =>
      intro s hm2 hs hq
      refine g_iload_n C dX7_sizeAt_2 2 rfl rfl ?_
      refine g_aload_n C dX7_sizeAt_3 0 rfl rfl ?_
      refine g_get C dX7_sizeAt_4 wl27 rfl 21 (by decide) 1 rfl rfl rfl inX7_sizeAt_X7 ?_
      refine g_topi (y := nI n) hn ?_
      refine g_icmp_ge (tgt := 89) C dX7_sizeAt_7 (by decide) (fun c_7 => ?_) (fun c_7 => ?_)
      · have hse : s = n := by
          have h9 := (nI_leI (by  omega) (by  omega)).mp c_7
          omega
        refine g_iconst (v := (-1)) C dX7_sizeAt_89 (by decide +kernel) ?_
        refine g_iret C dX7_sizeAt_90 rfl ⟨Nat.le_of_ble_eq_true rfl, Nat.le_of_ble_eq_true rfl⟩ ?_
        rw [hF]
        exact ⟨by rw [hq, hse, Nat.sub_self]; rfl, rfl⟩
      · have hst : s < n := by
          refine Nat.lt_of_not_le fun h => c_7 ?_
          exact (nI_leI (by  omega) (by  omega)).mpr (by omega)
        refine g_iconst (v := nI 0) C dX7_sizeAt_10 (by decide +kernel) ?_
        refine g_istore_n (lv' := [(3, .int (nI 0)), (0, .ref ((xK X).2.2 27)), (1, .int (nI k)), (2, .int (nI s))]) C dX7_sizeAt_11 rfl (by decide) rfl ?_
        refine g_iconst (v := nI 0) C dX7_sizeAt_12 (by decide +kernel) ?_
        refine g_istore (lv' := [(4, .int (nI 0)), (3, .int (nI 0)), (0, .ref ((xK X).2.2 27)), (1, .int (nI k)), (2, .int (nI s))]) C dX7_sizeAt_13 (by decide) rfl ?_
        have loop15 : ∀ (r9 : Nat) (t : Nat), n - t < r9 → (t ≤ n) → G X 5 0 0 σ [(0, .ref ((xK X).2.2 27)), (1, .int (nI k)), (2, .int (nI s)), (3, .int (nI (ctF (rkB (sI σ 42) s) t))), (4, .int (nI t))] 15 [] := by
          intro r9
          induction r9 with
          | zero => intro t h9; exact absurd h9 (Nat.not_lt_zero _)
          | succ r9 ih15 =>
            intro t hm15 ht
            refine g_iload C dX7_sizeAt_15 4 rfl ?_
            refine g_aload_n C dX7_sizeAt_17 0 rfl rfl ?_
            refine g_get C dX7_sizeAt_18 wl27 rfl 21 (by decide) 1 rfl rfl rfl inX7_sizeAt_X7 ?_
            refine g_topi (y := nI n) hn ?_
            refine g_icmp_ge (tgt := 76) C dX7_sizeAt_21 (by decide) (fun c_21 => ?_) (fun c_21 => ?_)
            · have hte : t = n := by
                have h9 := (nI_leI (by  omega) (by  omega)).mp c_21
                omega
              have hcl := ctF_le (rkB (sI σ 42) s) n
              refine g_iload_n C dX7_sizeAt_76 3 rfl rfl ?_
              refine g_iload_n C dX7_sizeAt_77 1 rfl rfl ?_
              refine g_icmp_ne (tgt := 83) C dX7_sizeAt_78 (by decide) (fun c_78 => ?_) (fun c_78 => ?_)
              · have hr : rkP (sI σ 42) n k s = false := decide_eq_false (fun h => c_78 (by rw [hte, h]))
                refine g_iinc (v := nI (s + 1)) (lv' := [(2, .int (nI (s + 1))), (0, .ref ((xK X).2.2 27)), (1, .int (nI k)), (3, .int (nI (ctF (rkB (sI σ 42) s) t))), (4, .int (nI t))]) C dX7_sizeAt_83 2 rfl (nI_1 s) (by decide) rfl ?_
                refine g_goto (tgt := 2) C dX7_sizeAt_86 (by decide) ?_
                refine g_lv [1, 2, 0] rfl ?_
                exact ih2 (s + 1) (by omega) (by omega) (by rw [hq, show n - s = (n - (s + 1)) + 1 by omega]; exact srch_no hr)
              · have hr : rkP (sI σ 42) n k s = true := decide_eq_true (by
                  have h9 := Decidable.byContradiction fun h => absurd c_78 h
                  have h9 := (nI_eq (by have := ctF_le (rkB (sI σ 42) s) t; omega) (by omega)).mp h9
                  rw [← h9, hte])
                have hres : srch (rkP (sI σ 42) n k) n 0 = some s := by rw [hq, show n - s = (n - s - 1) + 1 by omega]; exact srch_yes hr
                refine g_iload_n C dX7_sizeAt_81 2 rfl rfl ?_
                refine g_iret C dX7_sizeAt_82 rfl ⟨Nat.le_of_ble_eq_true rfl, Nat.le_of_ble_eq_true rfl⟩ ?_
                rw [hF]
                exact ⟨by rw [hres]; rfl, rfl⟩
            · have htt : t < n := by
                refine Nat.lt_of_not_le fun h => c_21 ?_
                exact (nI_leI (by  omega) (by  omega)).mpr (by omega)
              refine g_aload_n C dX7_sizeAt_24 0 rfl rfl ?_
              refine g_get C dX7_sizeAt_25 wl27 rfl 23 (by decide) 2 rfl rfl rfl inX7_sizeAt_X7 ?_
              refine g_iload C dX7_sizeAt_28 4 rfl ?_
              refine g_iald (j := t) C dX7_sizeAt_30 wl42 rfl (by omega) (by decide) ?_
              refine g_aload_n C dX7_sizeAt_31 0 rfl rfl ?_
              refine g_get C dX7_sizeAt_32 wl27 rfl 23 (by decide) 2 rfl rfl rfl inX7_sizeAt_X7 ?_
              refine g_iload_n C dX7_sizeAt_35 2 rfl rfl ?_
              refine g_iald (j := s) C dX7_sizeAt_36 wl42 rfl (by omega) (by decide) ?_
              refine g_icmp_lt (tgt := 62) C dX7_sizeAt_37 (by decide) (fun c_37 => ?_) (fun c_37 => ?_)
              · have hb : rkB (sI σ 42) s t = true := by unfold rkB; rw [decide_eq_true c_37]; rfl
                refine g_iload_n C dX7_sizeAt_62 3 rfl rfl ?_
                refine g_iconst (v := nI 1) C dX7_sizeAt_63 (by decide +kernel) ?_
                refine g_iadd C dX7_sizeAt_64 ?_
                refine g_goto (tgt := 69) C dX7_sizeAt_65 (by decide) ?_
                refine g_topi (y := nI (ctF (rkB (sI σ 42) s) (t + 1))) (by first | (rw [ctF_yes hb]; exact nI_add _ 1) | rw [ctF_no hb]) ?_
                refine g_istore_n (lv' := [(3, .int (nI (ctF (rkB (sI σ 42) s) (t + 1)))), (0, .ref ((xK X).2.2 27)), (1, .int (nI k)), (2, .int (nI s)), (4, .int (nI t))]) C dX7_sizeAt_69 rfl (by decide) rfl ?_
                refine g_iinc (v := nI (t + 1)) (lv' := [(4, .int (nI (t + 1))), (3, .int (nI (ctF (rkB (sI σ 42) s) (t + 1)))), (0, .ref ((xK X).2.2 27)), (1, .int (nI k)), (2, .int (nI s))]) C dX7_sizeAt_70 4 rfl (nI_1 t) (by decide) rfl ?_
                refine g_goto (tgt := 15) C dX7_sizeAt_73 (by decide) ?_
                refine g_lv [2, 3, 4, 1, 0] rfl ?_
                exact ih15 (t + 1) (by omega) (by omega)
              · refine g_aload_n C dX7_sizeAt_40 0 rfl rfl ?_
                refine g_get C dX7_sizeAt_41 wl27 rfl 23 (by decide) 2 rfl rfl rfl inX7_sizeAt_X7 ?_
                refine g_iload C dX7_sizeAt_44 4 rfl ?_
                refine g_iald (j := t) C dX7_sizeAt_46 wl42 rfl (by omega) (by decide) ?_
                refine g_aload_n C dX7_sizeAt_47 0 rfl rfl ?_
                refine g_get C dX7_sizeAt_48 wl27 rfl 23 (by decide) 2 rfl rfl rfl inX7_sizeAt_X7 ?_
                refine g_iload_n C dX7_sizeAt_51 2 rfl rfl ?_
                refine g_iald (j := s) C dX7_sizeAt_52 wl42 rfl (by omega) (by decide) ?_
                refine g_icmp_ne (tgt := 68) C dX7_sizeAt_53 (by decide) (fun c_53 => ?_) (fun c_53 => ?_)
                · have hb : rkB (sI σ 42) s t = false := by unfold rkB; rw [decide_eq_false c_37, decide_eq_false (show ¬ sI σ 42 t = sI σ 42 s from c_53)]; rfl
                  refine g_iload_n C dX7_sizeAt_68 3 rfl rfl ?_
                  refine g_topi (y := nI (ctF (rkB (sI σ 42) s) (t + 1))) (by first | (rw [ctF_yes hb]; exact nI_add _ 1) | rw [ctF_no hb]) ?_
                  refine g_istore_n (lv' := [(3, .int (nI (ctF (rkB (sI σ 42) s) (t + 1)))), (0, .ref ((xK X).2.2 27)), (1, .int (nI k)), (2, .int (nI s)), (4, .int (nI t))]) C dX7_sizeAt_69 rfl (by decide) rfl ?_
                  refine g_iinc (v := nI (t + 1)) (lv' := [(4, .int (nI (t + 1))), (3, .int (nI (ctF (rkB (sI σ 42) s) (t + 1)))), (0, .ref ((xK X).2.2 27)), (1, .int (nI k)), (2, .int (nI s))]) C dX7_sizeAt_70 4 rfl (nI_1 t) (by decide) rfl ?_
                  refine g_goto (tgt := 15) C dX7_sizeAt_73 (by decide) ?_
                  refine g_lv [2, 3, 4, 1, 0] rfl ?_
                  exact ih15 (t + 1) (by omega) (by omega)
                · refine g_iload C dX7_sizeAt_56 4 rfl ?_
                  refine g_iload_n C dX7_sizeAt_58 2 rfl rfl ?_
                  refine g_icmp_ge (tgt := 68) C dX7_sizeAt_59 (by decide) (fun c_59 => ?_) (fun c_59 => ?_)
                  · have hb : rkB (sI σ 42) s t = false := by
                      have h9 := (nI_leI (by omega) (by omega)).mp c_59
                      unfold rkB
                      rw [decide_eq_false c_37, decide_eq_false (show ¬ t < s by omega), Bool.and_false]
                      rfl
                    refine g_iload_n C dX7_sizeAt_68 3 rfl rfl ?_
                    refine g_topi (y := nI (ctF (rkB (sI σ 42) s) (t + 1))) (by first | (rw [ctF_yes hb]; exact nI_add _ 1) | rw [ctF_no hb]) ?_
                    refine g_istore_n (lv' := [(3, .int (nI (ctF (rkB (sI σ 42) s) (t + 1)))), (0, .ref ((xK X).2.2 27)), (1, .int (nI k)), (2, .int (nI s)), (4, .int (nI t))]) C dX7_sizeAt_69 rfl (by decide) rfl ?_
                    refine g_iinc (v := nI (t + 1)) (lv' := [(4, .int (nI (t + 1))), (3, .int (nI (ctF (rkB (sI σ 42) s) (t + 1)))), (0, .ref ((xK X).2.2 27)), (1, .int (nI k)), (2, .int (nI s))]) C dX7_sizeAt_70 4 rfl (nI_1 t) (by decide) rfl ?_
                    refine g_goto (tgt := 15) C dX7_sizeAt_73 (by decide) ?_
                    refine g_lv [2, 3, 4, 1, 0] rfl ?_
                    exact ih15 (t + 1) (by omega) (by omega)
                  · have hb : rkB (sI σ 42) s t = true := by
                      have h9 : t < s := Nat.lt_of_not_le fun h => c_59 ((nI_leI (by omega) (by omega)).mpr h)
                      unfold rkB
                      rw [decide_eq_true (show sI σ 42 t = sI σ 42 s from Decidable.byContradiction fun h => absurd c_53 h), decide_eq_true h9, Bool.and_true, Bool.or_true]
                    refine g_iload_n C dX7_sizeAt_62 3 rfl rfl ?_
                    refine g_iconst (v := nI 1) C dX7_sizeAt_63 (by decide +kernel) ?_
                    refine g_iadd C dX7_sizeAt_64 ?_
                    refine g_goto (tgt := 69) C dX7_sizeAt_65 (by decide) ?_
                    refine g_topi (y := nI (ctF (rkB (sI σ 42) s) (t + 1))) (by first | (rw [ctF_yes hb]; exact nI_add _ 1) | rw [ctF_no hb]) ?_
                    refine g_istore_n (lv' := [(3, .int (nI (ctF (rkB (sI σ 42) s) (t + 1)))), (0, .ref ((xK X).2.2 27)), (1, .int (nI k)), (2, .int (nI s)), (4, .int (nI t))]) C dX7_sizeAt_69 rfl (by decide) rfl ?_
                    refine g_iinc (v := nI (t + 1)) (lv' := [(4, .int (nI (t + 1))), (3, .int (nI (ctF (rkB (sI σ 42) s) (t + 1)))), (0, .ref ((xK X).2.2 27)), (1, .int (nI k)), (2, .int (nI s))]) C dX7_sizeAt_70 4 rfl (nI_1 t) (by decide) rfl ?_
                    refine g_goto (tgt := 15) C dX7_sizeAt_73 (by decide) ?_
                    refine g_lv [2, 3, 4, 1, 0] rfl ?_
                    exact ih15 (t + 1) (by omega) (by omega)
        refine g_lv [2, 3, 4, 1, 0] rfl ?_
        exact loop15 (n + 1) 0 (by omega) (Nat.zero_le _)
  refine g_lv [1, 2, 0] rfl ?_
  exact loop2 (n + 1) 0 (by omega) (Nat.zero_le _) rfl

theorem inX7_isJoint_X7 : ∀ w ∈ u_ws RX7 TX7 24, w ∈ wsX7_isJoint := by decide +kernel
set_option maxHeartbeats 4000000 in
set_option maxRecDepth 100000 in
theorem kX7_isJoint (l : Launch) (K : gK) (hD : gD K) (σ : gS) {nj : Nat} (hn : sN σ 6 = nI nj) (h10 : nj ≤ 10) (v : Int32) : Ct l yX7_isJoint wsX7_isJoint { frames := 1, cells := 0, slots := 0, locals := 22 } K [.ref (K.2.2 27), .int v] σ (fun r t => r = some (.int (bI (decide (inR v nj)))) ∧ t = σ) := by
  refine Ct.of hD (by decide) rfl (Nat.le_of_ble_eq_true rfl) ?_
  intro X hL hK hF C
  subst hL; subst hK
  refine g_eq (σ2 := σ) (lv2 := [(0, .ref ((xK X).2.2 27)), (1, .int v)]) (st2 := []) rfl rfl rfl ?_
  refine g_iload_n C dX7_isJoint_0 1 rfl rfl ?_
  refine g_iconst (v := nI 0) C dX7_isJoint_1 (by decide +kernel) ?_
  refine g_aload_n C dX7_isJoint_2 0 rfl rfl ?_
  refine g_get C dX7_isJoint_3 wl27 rfl 1 (by decide) 1 rfl rfl rfl inX7_isJoint_X7 ?_
  refine g_topi (y := nI nj) hn ?_
  refine g_iconst (v := nI 1) C dX7_isJoint_6 (by decide +kernel) ?_
  refine g_isub C dX7_isJoint_7 ?_
  refine g_callS (As := [.int v, .int (nI 0), .int ((nI nj) - (nI 1))]) (rest := []) C dX7_isJoint_8 (kX7_isIn (xl X) (xK X) C.hD σ v (nI 0) (nI nj - nI 1)) 3 gX7_isJoint_X7_isIn rfl (by decide +kernel) ⟨Nat.le_of_ble_eq_true rfl, Nat.le_of_ble_eq_true rfl⟩ ⟨Nat.le_of_ble_eq_true rfl, Nat.le_of_ble_eq_true rfl⟩ rfl rfl (Nat.le_of_ble_eq_true rfl) (fun rv9 σ9 h9 => ?_)
  obtain ⟨h9a, h9b⟩ := h9
  refine g_eq (σ2 := σ) (lv2 := [(0, .ref ((xK X).2.2 27)), (1, .int v)]) (st2 := [.int (bI (inB v (nI 0) (nI nj - nI 1)))]) h9b rfl (by rw [h9a]; rfl) ?_
  refine g_topi (y := bI (decide (inR v nj))) (congrArg bI (inB_R (by omega))) ?_
  refine g_zret C dX7_isJoint_11 rfl (nar_bI _) ⟨Nat.le_of_ble_eq_true rfl, Nat.le_of_ble_eq_true rfl⟩ ?_
  rw [hF]
  exact ⟨rfl, rfl⟩

theorem inX7_isMachine_X7 : ∀ w ∈ u_ws RX7 TX7 24, w ∈ wsX7_isMachine := by decide +kernel
set_option maxHeartbeats 4000000 in
set_option maxRecDepth 100000 in
theorem kX7_isMachine (l : Launch) (K : gK) (hD : gD K) (σ : gS) {nm : Nat} (hn : sN σ 8 = nI nm) (h8 : nm ≤ 8) (v : Int32) : Ct l yX7_isMachine wsX7_isMachine { frames := 1, cells := 0, slots := 0, locals := 22 } K [.ref (K.2.2 27), .int v] σ (fun r t => r = some (.int (bI (decide (inR v nm)))) ∧ t = σ) := by
  refine Ct.of hD (by decide) rfl (Nat.le_of_ble_eq_true rfl) ?_
  intro X hL hK hF C
  subst hL; subst hK
  refine g_eq (σ2 := σ) (lv2 := [(0, .ref ((xK X).2.2 27)), (1, .int v)]) (st2 := []) rfl rfl rfl ?_
  refine g_iload_n C dX7_isMachine_0 1 rfl rfl ?_
  refine g_iconst (v := nI 0) C dX7_isMachine_1 (by decide +kernel) ?_
  refine g_aload_n C dX7_isMachine_2 0 rfl rfl ?_
  refine g_get C dX7_isMachine_3 wl27 rfl 10 (by decide) 1 rfl rfl rfl inX7_isMachine_X7 ?_
  refine g_topi (y := nI nm) hn ?_
  refine g_iconst (v := nI 1) C dX7_isMachine_6 (by decide +kernel) ?_
  refine g_isub C dX7_isMachine_7 ?_
  refine g_callS (As := [.int v, .int (nI 0), .int ((nI nm) - (nI 1))]) (rest := []) C dX7_isMachine_8 (kX7_isIn (xl X) (xK X) C.hD σ v (nI 0) (nI nm - nI 1)) 3 gX7_isMachine_X7_isIn rfl (by decide +kernel) ⟨Nat.le_of_ble_eq_true rfl, Nat.le_of_ble_eq_true rfl⟩ ⟨Nat.le_of_ble_eq_true rfl, Nat.le_of_ble_eq_true rfl⟩ rfl rfl (Nat.le_of_ble_eq_true rfl) (fun rv9 σ9 h9 => ?_)
  obtain ⟨h9a, h9b⟩ := h9
  refine g_eq (σ2 := σ) (lv2 := [(0, .ref ((xK X).2.2 27)), (1, .int v)]) (st2 := [.int (bI (inB v (nI 0) (nI nm - nI 1)))]) h9b rfl (by rw [h9a]; rfl) ?_
  refine g_topi (y := bI (decide (inR v nm))) (congrArg bI (inB_R (by omega))) ?_
  refine g_zret C dX7_isMachine_11 rfl (nar_bI _) ⟨Nat.le_of_ble_eq_true rfl, Nat.le_of_ble_eq_true rfl⟩ ?_
  rw [hF]
  exact ⟨rfl, rfl⟩

theorem inX7_isWrong_X7 : ∀ w ∈ u_ws RX7 TX7 24, w ∈ wsX7_isWrong := by decide +kernel
set_option maxHeartbeats 4000000 in
set_option maxRecDepth 100000 in
theorem kX7_isWrong (l : Launch) (K : gK) (hD : gD K) (σ : gS) (b : Bool) {sv : Bool} (hsv : sN σ 9 = bI sv) : Ct l yX7_isWrong wsX7_isWrong { frames := 0, cells := 0, slots := 0, locals := 0 } K [.ref (K.2.2 27), .int (bI b)] σ (fun r t => r = some (.int (bI (decide (0 < wrC b sv)))) ∧ t = uN σ 5 (nI (wrC b sv))) := by
  refine Ct.of hD (by decide) rfl (Nat.le_of_ble_eq_true rfl) ?_
  intro X hL hK hF C
  subst hL; subst hK
  refine g_eq (σ2 := σ) (lv2 := [(0, .ref ((xK X).2.2 27)), (1, .int (bI b))]) (st2 := []) rfl rfl rfl ?_
  refine g_aload_n C dX7_isWrong_0 0 rfl rfl ?_
  refine g_iload_n C dX7_isWrong_1 1 rfl rfl ?_
  refine g_if_ne (tgt := 9) C dX7_isWrong_2 (by decide) (fun c_2 => ?_) (fun c_2 => ?_)
  · refine g_aload_n C dX7_isWrong_9 0 rfl rfl ?_
    refine g_get C dX7_isWrong_10 wl27 rfl 20 (by decide) 1 rfl rfl rfl inX7_isWrong_X7 ?_
    refine g_topi (y := bI sv) hsv ?_
    refine g_if_ne (tgt := 20) C dX7_isWrong_13 (by decide) (fun c_13 => ?_) (fun c_13 => ?_)
    · refine g_iconst (v := nI 0) C dX7_isWrong_20 (by decide +kernel) ?_
      refine g_topi (y := nI (wrC b sv)) (by unfold wrC; first | rw [(bI_ne b).mp c_2]; rfl | (rw [bIt c_2, bIt c_13]; rfl) | (rw [bIt c_2, (bI_ne sv).mp c_13]; rfl)) ?_
      refine g_put (σ' := uN σ 5 (nI (wrC b sv))) (ty := .int) C dX7_isWrong_21 wl27 rfl 0 (by decide) 2 rfl rfl inX7_isWrong_X7 tyX7_ok nmX7 rfl (by decide +kernel) rfl rfl (Nat.le_of_ble_eq_true rfl) wsN5 ?_
      refine g_aload_n C dX7_isWrong_24 0 rfl rfl ?_
      refine g_get C dX7_isWrong_25 wl27 rfl 0 (by decide) 2 rfl rfl rfl inX7_isWrong_X7 ?_
      refine g_topi (y := nI (wrC b sv)) rfl ?_
      refine g_if_le (tgt := 35) C dX7_isWrong_28 (by decide) (fun c_28 => ?_) (fun c_28 => ?_)
      · refine g_iconst (v := nI 0) C dX7_isWrong_35 (by decide +kernel) ?_
        refine g_zret C dX7_isWrong_36 rfl rfl ⟨Nat.le_of_ble_eq_true rfl, Nat.le_of_ble_eq_true rfl⟩ ?_
        rw [hF]
        refine ⟨?_, rfl⟩
        have hw := wrC_le b sv
        first
          | (rw [decide_eq_false (show ¬ 0 < wrC b sv by have := nI_le0 (by omega) c_28; omega)]; rfl)
          | (rw [decide_eq_true (show 0 < wrC b sv from Nat.pos_of_ne_zero fun h => c_28 (by rw [h]; decide))]; rfl)
      · refine g_iconst (v := nI 1) C dX7_isWrong_31 (by decide +kernel) ?_
        refine g_goto (tgt := 36) C dX7_isWrong_32 (by decide) ?_
        refine g_zret C dX7_isWrong_36 rfl rfl ⟨Nat.le_of_ble_eq_true rfl, Nat.le_of_ble_eq_true rfl⟩ ?_
        rw [hF]
        refine ⟨?_, rfl⟩
        have hw := wrC_le b sv
        first
          | (rw [decide_eq_false (show ¬ 0 < wrC b sv by have := nI_le0 (by omega) c_28; omega)]; rfl)
          | (rw [decide_eq_true (show 0 < wrC b sv from Nat.pos_of_ne_zero fun h => c_28 (by rw [h]; decide))]; rfl)
    · refine g_iconst (v := nI 2) C dX7_isWrong_16 (by decide +kernel) ?_
      refine g_goto (tgt := 21) C dX7_isWrong_17 (by decide) ?_
      refine g_topi (y := nI (wrC b sv)) (by unfold wrC; first | rw [(bI_ne b).mp c_2]; rfl | (rw [bIt c_2, bIt c_13]; rfl) | (rw [bIt c_2, (bI_ne sv).mp c_13]; rfl)) ?_
      refine g_put (σ' := uN σ 5 (nI (wrC b sv))) (ty := .int) C dX7_isWrong_21 wl27 rfl 0 (by decide) 2 rfl rfl inX7_isWrong_X7 tyX7_ok nmX7 rfl (by decide +kernel) rfl rfl (Nat.le_of_ble_eq_true rfl) wsN5 ?_
      refine g_aload_n C dX7_isWrong_24 0 rfl rfl ?_
      refine g_get C dX7_isWrong_25 wl27 rfl 0 (by decide) 2 rfl rfl rfl inX7_isWrong_X7 ?_
      refine g_topi (y := nI (wrC b sv)) rfl ?_
      refine g_if_le (tgt := 35) C dX7_isWrong_28 (by decide) (fun c_28 => ?_) (fun c_28 => ?_)
      · refine g_iconst (v := nI 0) C dX7_isWrong_35 (by decide +kernel) ?_
        refine g_zret C dX7_isWrong_36 rfl rfl ⟨Nat.le_of_ble_eq_true rfl, Nat.le_of_ble_eq_true rfl⟩ ?_
        rw [hF]
        refine ⟨?_, rfl⟩
        have hw := wrC_le b sv
        first
          | (rw [decide_eq_false (show ¬ 0 < wrC b sv by have := nI_le0 (by omega) c_28; omega)]; rfl)
          | (rw [decide_eq_true (show 0 < wrC b sv from Nat.pos_of_ne_zero fun h => c_28 (by rw [h]; decide))]; rfl)
      · refine g_iconst (v := nI 1) C dX7_isWrong_31 (by decide +kernel) ?_
        refine g_goto (tgt := 36) C dX7_isWrong_32 (by decide) ?_
        refine g_zret C dX7_isWrong_36 rfl rfl ⟨Nat.le_of_ble_eq_true rfl, Nat.le_of_ble_eq_true rfl⟩ ?_
        rw [hF]
        refine ⟨?_, rfl⟩
        have hw := wrC_le b sv
        first
          | (rw [decide_eq_false (show ¬ 0 < wrC b sv by have := nI_le0 (by omega) c_28; omega)]; rfl)
          | (rw [decide_eq_true (show 0 < wrC b sv from Nat.pos_of_ne_zero fun h => c_28 (by rw [h]; decide))]; rfl)
  · refine g_iconst (v := nI 1) C dX7_isWrong_5 (by decide +kernel) ?_
    refine g_goto (tgt := 21) C dX7_isWrong_6 (by decide) ?_
    refine g_topi (y := nI (wrC b sv)) (by unfold wrC; first | rw [(bI_ne b).mp c_2]; rfl | (rw [bIt c_2, bIt c_13]; rfl) | (rw [bIt c_2, (bI_ne sv).mp c_13]; rfl)) ?_
    refine g_put (σ' := uN σ 5 (nI (wrC b sv))) (ty := .int) C dX7_isWrong_21 wl27 rfl 0 (by decide) 2 rfl rfl inX7_isWrong_X7 tyX7_ok nmX7 rfl (by decide +kernel) rfl rfl (Nat.le_of_ble_eq_true rfl) wsN5 ?_
    refine g_aload_n C dX7_isWrong_24 0 rfl rfl ?_
    refine g_get C dX7_isWrong_25 wl27 rfl 0 (by decide) 2 rfl rfl rfl inX7_isWrong_X7 ?_
    refine g_topi (y := nI (wrC b sv)) rfl ?_
    refine g_if_le (tgt := 35) C dX7_isWrong_28 (by decide) (fun c_28 => ?_) (fun c_28 => ?_)
    · refine g_iconst (v := nI 0) C dX7_isWrong_35 (by decide +kernel) ?_
      refine g_zret C dX7_isWrong_36 rfl rfl ⟨Nat.le_of_ble_eq_true rfl, Nat.le_of_ble_eq_true rfl⟩ ?_
      rw [hF]
      refine ⟨?_, rfl⟩
      have hw := wrC_le b sv
      first
        | (rw [decide_eq_false (show ¬ 0 < wrC b sv by have := nI_le0 (by omega) c_28; omega)]; rfl)
        | (rw [decide_eq_true (show 0 < wrC b sv from Nat.pos_of_ne_zero fun h => c_28 (by rw [h]; decide))]; rfl)
    · refine g_iconst (v := nI 1) C dX7_isWrong_31 (by decide +kernel) ?_
      refine g_goto (tgt := 36) C dX7_isWrong_32 (by decide) ?_
      refine g_zret C dX7_isWrong_36 rfl rfl ⟨Nat.le_of_ble_eq_true rfl, Nat.le_of_ble_eq_true rfl⟩ ?_
      rw [hF]
      refine ⟨?_, rfl⟩
      have hw := wrC_le b sv
      first
        | (rw [decide_eq_false (show ¬ 0 < wrC b sv by have := nI_le0 (by omega) c_28; omega)]; rfl)
        | (rw [decide_eq_true (show 0 < wrC b sv from Nat.pos_of_ne_zero fun h => c_28 (by rw [h]; decide))]; rfl)

theorem inX7_solveNow_X7 : ∀ w ∈ u_ws RX7 TX7 24, w ∈ wsX7_solveNow := by decide +kernel
set_option maxHeartbeats 4000000 in
set_option maxRecDepth 100000 in
theorem kX7_solveNow (l : Launch) (K : gK) (hD : gD K) (σ : gS) {H : Ph} {nj : Nat} (hM : Mw H nj σ) (hp : PhF H) {c : Nat} (hc : c < 4) : Ct l yX7_solveNow wsX7_solveNow { frames := 3, cells := 0, slots := 0, locals := 79 } K [.ref (K.2.2 27), .int (nI c)] σ (fun r t => r = some (.int (sei (blM H σ c).1)) ∧ t = mbF σ c (blM H σ c).2.1 (blM H σ c).2.2 (bI (blM H σ c).1.isSome)) := by
  refine Ct.of hD (by decide) rfl (Nat.le_of_ble_eq_true rfl) ?_
  intro X hL hK hF C
  subst hL; subst hK
  refine g_eq (σ2 := σ) (lv2 := [(0, .ref ((xK X).2.2 27)), (1, .int (nI c))]) (st2 := []) rfl rfl rfl ?_
  have h16 := hM.nd16
  have h8 := hM.nm8
  have hjj := hM.j
  have htn : tn (sN σ 8) = pM H := by rw [hM.nm]; exact tn_nI (by omega)
  have hp2 : PhF (setO H (msO σ c)) := PhF_setO hp
  have hs0 : SdF (zrN (sF σ 40) 10, FP.dconst0) := ⟨fun j hj => by rw [show (zrN (sF σ 40) 10, FP.dconst0).1 j = FP.dconst0 from zrN_at hj]; exact okP_0, okQ_0⟩
  have hg0 : ∀ m, m < pM H → okG (mgN σ c 8 m) := fun m hm => by
    rw [mgN_lt (by omega)]
    exact gt_ok _
  refine g_iconst (v := nI 0) C dX7_solveNow_0 (by decide +kernel) ?_
  refine g_istore_n (lv' := [(2, .int (nI 0)), (0, .ref ((xK X).2.2 27)), (1, .int (nI c))]) C dX7_solveNow_1 rfl (by decide) rfl ?_
  refine g_eq (σ2 := uF σ 40 (zrN (sF σ 40) 0)) (lv2 := [(2, .int (nI 0)), (0, .ref ((xK X).2.2 27)), (1, .int (nI c))]) (st2 := []) ((uF_self σ 40).symm) rfl rfl ?_
  have loop2 : ∀ (r9 : Nat) (j : Nat), 10 - j < r9 → (j ≤ 10) → G X 8 0 0 (uF σ 40 (zrN (sF σ 40) j)) [(0, .ref ((xK X).2.2 27)), (1, .int (nI c)), (2, .int (nI j))] 2 [] := by
    intro r9
    induction r9 with
    | zero => intro j h9; exact absurd h9 (Nat.not_lt_zero _)
    | succ r9 ih2 =>
      intro j hm2 hj
      refine g_iload_n C dX7_solveNow_2 2 rfl rfl ?_
      refine g_bipush (v := nI 10) C dX7_solveNow_3 (by decide +kernel) ?_
      refine g_icmp_ge (tgt := 21) C dX7_solveNow_5 (by decide) (fun c_5 => ?_) (fun c_5 => ?_)
      · have hje : j = 10 := by
          have h9 := (nI_leI (by  omega) (by  omega)).mp c_5
          omega
        refine g_eq (σ2 := msS σ c 0) (lv2 := [(0, .ref ((xK X).2.2 27)), (1, .int (nI c)), (2, .int (nI j))]) (st2 := []) (by rw [hje]; exact msS_0 σ c) rfl rfl ?_
        refine g_iconst (v := nI 0) C dX7_solveNow_21 (by decide +kernel) ?_
        refine g_istore_n (lv' := [(2, .int (nI 0)), (0, .ref ((xK X).2.2 27)), (1, .int (nI c))]) C dX7_solveNow_22 rfl (by decide) rfl ?_
        have loop23 : ∀ (r9 : Nat) (m : Nat), 8 - m < r9 → (m ≤ 8) → G X 8 0 0 (msS σ c m) [(0, .ref ((xK X).2.2 27)), (1, .int (nI c)), (2, .int (nI m))] 23 [] := by
          intro r9
          induction r9 with
          | zero => intro m h9; exact absurd h9 (Nat.not_lt_zero _)
          | succ r9 ih23 =>
            intro m hm23 hm
            refine g_iload_n C dX7_solveNow_23 2 rfl rfl ?_
            refine g_bipush (v := nI 8) C dX7_solveNow_24 (by decide +kernel) ?_
            refine g_icmp_ge (tgt := 88) C dX7_solveNow_26 (by decide) (fun c_26 => ?_) (fun c_26 => ?_)
            · have hme : m = 8 := by
                have h9 := (nI_leI (by  omega) (by  omega)).mp c_26
                omega
              refine g_eq (σ2 := msS σ c 8) (lv2 := [(0, .ref ((xK X).2.2 27)), (1, .int (nI c)), (2, .int (nI m))]) (st2 := []) (by rw [hme]) rfl rfl ?_
              refine g_aload_n C dX7_solveNow_88 0 rfl rfl ?_
              refine g_dconst0 C dX7_solveNow_89 ?_
              refine g_put (σ' := uD (msS σ c 8) 5 FP.dconst0) (ty := .double) C dX7_solveNow_90 wl27 rfl 19 (by decide) 6 rfl rfl inX7_solveNow_X7 tyX7_ok nmX7 rfl (by decide +kernel) rfl rfl (Nat.le_of_ble_eq_true rfl) wsD5 ?_
              refine g_aload_n C dX7_solveNow_93 0 rfl rfl ?_
              refine g_iconst (v := nI 0) C dX7_solveNow_94 (by decide +kernel) ?_
              refine g_put (σ' := uN (uD (msS σ c 8) 5 FP.dconst0) 9 (nI 0)) (ty := .boolean) C dX7_solveNow_95 wl27 rfl 20 (by decide) 7 rfl rfl inX7_solveNow_X7 tyX7_ok nmX7 rfl (by decide +kernel) rfl rfl (Nat.le_of_ble_eq_true rfl) wsN9 ?_
              refine g_eq (σ2 := mbF σ c (zrN (sF σ 40) 10, FP.dconst0) (mgN σ c 8) (nI 0)) (lv2 := [(0, .ref ((xK X).2.2 27)), (1, .int (nI c)), (2, .int (nI m))]) (st2 := []) (msS_end σ c) rfl rfl ?_
              refine g_iconst (v := nI 0) C dX7_solveNow_98 (by decide +kernel) ?_
              refine g_istore_n (lv' := [(2, .int (nI 0)), (0, .ref ((xK X).2.2 27)), (1, .int (nI c))]) C dX7_solveNow_99 rfl (by decide) rfl ?_
              refine g_iconst (v := nI 1) C dX7_solveNow_100 (by decide +kernel) ?_
              refine g_istore_n (lv' := [(3, .int (nI 1)), (2, .int (nI 0)), (0, .ref ((xK X).2.2 27)), (1, .int (nI c))]) C dX7_solveNow_101 rfl (by decide) rfl ?_
              have loop102 : ∀ (r9 : Nat) (k R : Nat) (s : (Nat → UInt64) × UInt64) (g : Nat → UInt64), 10 - k < r9 → (k ≤ 10) → (R ≤ 100 * k) → (SdF s) → (∀ m, m < pM H → okG (g m)) → (blM H σ c = blN (setO H (msO σ c)) (10 - k) s g R) → G X 8 0 0 (mbF σ c s g (nI 0)) [(0, .ref ((xK X).2.2 27)), (1, .int (nI c)), (2, .int (nI R)), (3, .int (nI (k + 1)))] 102 [] := by
                intro r9
                induction r9 with
                | zero => intro k R s g h9; exact absurd h9 (Nat.not_lt_zero _)
                | succ r9 ih102 =>
                  intro k R s g hm102 hk hR hs hgk hB
                  refine g_iload_n C dX7_solveNow_102 3 rfl rfl ?_
                  refine g_bipush (v := nI 10) C dX7_solveNow_103 (by decide +kernel) ?_
                  refine g_icmp_gt (tgt := 182) C dX7_solveNow_105 (by decide) (fun c_105 => ?_) (fun c_105 => ?_)
                  · have hke : k = 10 := by have := (nI_ltI (by decide) (by omega)).mp c_105; omega
                    have hres : blM H σ c = (some R, s, g) := by rw [hB, hke]; rfl
                    refine g_aload_n C dX7_solveNow_182 0 rfl rfl ?_
                    refine g_iconst (v := nI 1) C dX7_solveNow_183 (by decide +kernel) ?_
                    refine g_put (σ' := uN (mbF σ c s g (nI 0)) 9 (nI 1)) (ty := .boolean) C dX7_solveNow_184 wl27 rfl 20 (by decide) 7 rfl rfl inX7_solveNow_X7 tyX7_ok nmX7 rfl (by decide +kernel) rfl rfl (Nat.le_of_ble_eq_true rfl) wsN9 ?_
                    refine g_iload_n C dX7_solveNow_187 2 rfl rfl ?_
                    refine g_iret C dX7_solveNow_188 rfl ⟨Nat.le_of_ble_eq_true rfl, Nat.le_of_ble_eq_true rfl⟩ ?_
                    rw [hF]
                    exact ⟨by rw [hres]; rfl, by rw [mbF_n, hres]; rfl⟩
                  · have hkt : k < 10 := by
                      refine Nat.lt_of_not_le fun h => c_105 ?_
                      exact (nI_ltI (by decide) (by omega)).mpr (by omega)
                    refine g_iconst (v := nI 0) C dX7_solveNow_108 (by decide +kernel) ?_
                    refine g_istore (lv' := [(4, .int (nI 0)), (0, .ref ((xK X).2.2 27)), (1, .int (nI c)), (2, .int (nI R)), (3, .int (nI (k + 1)))]) C dX7_solveNow_109 (by decide) rfl ?_
                    refine g_iconst (v := nI 1) C dX7_solveNow_111 (by decide +kernel) ?_
                    refine g_istore (lv' := [(5, .int (nI 1)), (4, .int (nI 0)), (0, .ref ((xK X).2.2 27)), (1, .int (nI c)), (2, .int (nI R)), (3, .int (nI (k + 1)))]) C dX7_solveNow_112 (by decide) rfl ?_
                    refine g_eq (σ2 := mbF σ c (itR (setO H (msO σ c)) g s 0) g (nI 0)) (lv2 := [(5, .int (nI 1)), (4, .int (nI 0)), (0, .ref ((xK X).2.2 27)), (1, .int (nI c)), (2, .int (nI R)), (3, .int (nI (k + 1)))]) (st2 := []) rfl rfl rfl ?_
                    refine g_eq (σ2 := mbF σ c (itR (setO H (msO σ c)) g s 0) g (nI 0)) (lv2 := [(5, .int (bI true)), (4, .int (nI 0)), (0, .ref ((xK X).2.2 27)), (1, .int (nI c)), (2, .int (nI R)), (3, .int (nI (k + 1)))]) (st2 := []) rfl rfl rfl ?_
                    have loop114 : ∀ (r9 : Nat) (n : Nat) (b : Bool), 101 - n < r9 → (n ≤ 100) → (if b = true then n < 100 ∧ seK (setO H (msO σ c)) g s = srch (sePr (setO H (msO σ c)) g s) (100 - n) (n + 1) else seK (setO H (msO σ c)) g s = some n) → G X 8 0 0 (mbF σ c (itR (setO H (msO σ c)) g s n) g (nI 0)) [(0, .ref ((xK X).2.2 27)), (1, .int (nI c)), (2, .int (nI R)), (3, .int (nI (k + 1))), (4, .int (nI n)), (5, .int (bI b))] 114 [] := by
                      intro r9
                      induction r9 with
                      | zero => intro n b h9; exact absurd h9 (Nat.not_lt_zero _)
                      | succ r9 ih114 =>
                        intro n b hm114 hn hnb
                        refine g_iload C dX7_solveNow_114 5 rfl ?_
                        refine g_if_eq (tgt := 161) C dX7_solveNow_116 (by decide) (fun c_116 => ?_) (fun c_116 => ?_)
                        · have hb : b = false := (bI_ne _).mp c_116
                          have hse : seK (setO H (msO σ c)) g s = some n := by
                            rw [if_neg (by rw [hb]; decide)] at hnb
                            exact hnb
                          have hsn := itR_ok (h := (setO H (msO σ c))) hp2 hgk hs n
                          have hgn := clG_ok (h := (setO H (msO σ c))) hp2 hsn.1 hgk (pM H) (Nat.le_refl _)
                          have hn1 := seK_le hse
                          have hB1 : blM H σ c = blN (setO H (msO σ c)) ((9 - k) + 1) s g R := by rw [hB, show 10 - k = (9 - k) + 1 by omega]
                          have hB3 := hB1.trans (blN_some hse)
                          refine g_iload_n C dX7_solveNow_161 2 rfl rfl ?_
                          refine g_iload C dX7_solveNow_162 4 rfl ?_
                          refine g_iadd C dX7_solveNow_164 ?_
                          refine g_topi (y := nI (R + n)) (nI_add R n) ?_
                          refine g_istore_n (lv' := [(2, .int (nI (R + n))), (0, .ref ((xK X).2.2 27)), (1, .int (nI c)), (3, .int (nI (k + 1))), (4, .int (nI n)), (5, .int (bI b))]) C dX7_solveNow_165 rfl (by decide) rfl ?_
                          refine g_aload_n C dX7_solveNow_166 1 rfl rfl ?_
                          refine g_callV (As := []) (rest := []) C dX7_solveNow_167 (kX7_close (xl X) (xK X) C.hD (mbF σ c (itR (setO H (msO σ c)) g s n) g (nI 0)) (hM.mb c _ _ _) hp2 hsn.1 hgk) wl27 rfl 0 gX7_solveNow_X7_close rfl (by decide +kernel) ⟨Nat.le_of_ble_eq_true rfl, Nat.le_of_ble_eq_true rfl⟩ ⟨Nat.le_of_ble_eq_true rfl, Nat.le_of_ble_eq_true rfl⟩ rfl rfl (Nat.le_of_ble_eq_true rfl) (fun rv9 σ9 h9 => ?_)
                          obtain ⟨h9a, h9b⟩ := h9
                          refine g_eq (σ2 := mbF σ c (itR (setO H (msO σ c)) g s n) (clG (setO H (msO σ c)) (itR (setO H (msO σ c)) g s n).1 g (pM H)) (nI 0)) (lv2 := [(2, .int (nI (R + n))), (0, .ref ((xK X).2.2 27)), (1, .int (nI c)), (3, .int (nI (k + 1))), (4, .int (nI n)), (5, .int (bI b))]) (st2 := [.int (bI (clB (setO H (msO σ c)) (itR (setO H (msO σ c)) g s n).1 g (pM H)))]) (h9b.trans (mbF_cl _ _ _ _ _ _)) rfl (by rw [h9a]; rfl) ?_
                          refine g_if_ne (tgt := 176) C dX7_solveNow_170 (by decide) (fun c_170 => ?_) (fun c_170 => ?_)
                          · have hcl : clB (setO H (msO σ c)) (itR (setO H (msO σ c)) g s n).1 g (pM H) = true := bIt c_170
                            have hB2 : blM H σ c = blN (setO H (msO σ c)) (10 - (k + 1)) (itR (setO H (msO σ c)) g s n) (clG (setO H (msO σ c)) (itR (setO H (msO σ c)) g s n).1 g (pM H)) (R + n) := by
                              rw [show 10 - (k + 1) = 9 - k by omega]
                              exact hB3.trans (if_pos hcl)
                            refine g_iinc (v := nI ((k + 1) + 1)) (lv' := [(3, .int (nI ((k + 1) + 1))), (2, .int (nI (R + n))), (0, .ref ((xK X).2.2 27)), (1, .int (nI c)), (4, .int (nI n)), (5, .int (bI b))]) C dX7_solveNow_176 3 rfl (nI_1 (k + 1)) (by decide) rfl ?_
                            refine g_goto (tgt := 102) C dX7_solveNow_179 (by decide) ?_
                            refine g_lv [2, 3, 1, 0] rfl ?_
                            exact ih102 (k + 1) (R + n) _ _ (by omega) (by omega) (by omega) hsn hgn hB2
                          · have hcl : clB (setO H (msO σ c)) (itR (setO H (msO σ c)) g s n).1 g (pM H) = false := (bI_ne _).mp c_170
                            have hres : blM H σ c = (some (R + n), itR (setO H (msO σ c)) g s n, clG (setO H (msO σ c)) (itR (setO H (msO σ c)) g s n).1 g (pM H)) := hB3.trans (if_neg (fun h => absurd (hcl.symm.trans h) (by decide)))
                            refine g_goto (tgt := 182) C dX7_solveNow_173 (by decide) ?_
                            refine g_aload_n C dX7_solveNow_182 1 rfl rfl ?_
                            refine g_iconst (v := nI 1) C dX7_solveNow_183 (by decide +kernel) ?_
                            refine g_put (σ' := uN (mbF σ c (itR (setO H (msO σ c)) g s n) (clG (setO H (msO σ c)) (itR (setO H (msO σ c)) g s n).1 g (pM H)) (nI 0)) 9 (nI 1)) (ty := .boolean) C dX7_solveNow_184 wl27 rfl 20 (by decide) 7 rfl rfl inX7_solveNow_X7 tyX7_ok nmX7 rfl (by decide +kernel) rfl rfl (Nat.le_of_ble_eq_true rfl) wsN9 ?_
                            refine g_iload_n C dX7_solveNow_187 0 rfl rfl ?_
                            refine g_iret C dX7_solveNow_188 rfl ⟨Nat.le_of_ble_eq_true rfl, Nat.le_of_ble_eq_true rfl⟩ ?_
                            rw [hF]
                            exact ⟨by rw [hres]; rfl, by rw [mbF_n, hres]; rfl⟩
                        · have hb : b = true := bIt c_116
                          rw [if_pos hb] at hnb
                          obtain ⟨hn100, hsr⟩ := hnb
                          have hsd := itR_ok (h := (setO H (msO σ c))) hp2 hgk hs n
                          have hrc := rdC_n (H := (setO H (msO σ c))) hp2 hgk hsd
                          obtain ⟨sm, hsm⟩ : ∃ sm, sm = smC (rdC (setO H (msO σ c)) g (itR (setO H (msO σ c)) g s n)) := ⟨_, rfl⟩
                          have hsp : (sePr (setO H (msO σ c)) g s) (n + 1) = sm := hsm.symm
                          rw [show 100 - n = (99 - n) + 1 by omega] at hsr
                          refine g_aload_n C dX7_solveNow_119 0 rfl rfl ?_
                          refine g_callV (As := []) (rest := []) C dX7_solveNow_120 (kX7_round (xl X) (xK X) C.hD (mbF σ c (itR (setO H (msO σ c)) g s n) g (nI 0)) (hM.mb c _ _ _) hp2 hsd.1 hgk hsd.2) wl27 rfl 0 gX7_solveNow_X7_round rfl (by decide +kernel) ⟨Nat.le_of_ble_eq_true rfl, Nat.le_of_ble_eq_true rfl⟩ ⟨Nat.le_of_ble_eq_true rfl, Nat.le_of_ble_eq_true rfl⟩ rfl rfl (Nat.le_of_ble_eq_true rfl) (fun rv9 σ9 h9 => ?_)
                          obtain ⟨h9a, h9b⟩ := h9
                          refine g_eq (σ2 := mbF σ c (itR (setO H (msO σ c)) g s (n + 1)) g (nI 0)) (lv2 := [(0, .ref ((xK X).2.2 27)), (1, .int (nI c)), (2, .int (nI R)), (3, .int (nI (k + 1))), (4, .int (nI n)), (5, .int (bI b))]) (st2 := [.double (rdC (setO H (msO σ c)) g (itR (setO H (msO σ c)) g s n))]) (h9b.trans (mbF_rd _ _ _ _ _ _ _)) rfl (by rw [h9a]; rfl) ?_
                          refine g_dstore (lv' := [(6, .double (rdC (setO H (msO σ c)) g (itR (setO H (msO σ c)) g s n))), (0, .ref ((xK X).2.2 27)), (1, .int (nI c)), (2, .int (nI R)), (3, .int (nI (k + 1))), (4, .int (nI n)), (5, .int (bI b))]) C dX7_solveNow_123 (by decide) rfl ?_
                          refine g_iinc (v := nI (n + 1)) (lv' := [(4, .int (nI (n + 1))), (6, .double (rdC (setO H (msO σ c)) g (itR (setO H (msO σ c)) g s n))), (0, .ref ((xK X).2.2 27)), (1, .int (nI c)), (2, .int (nI R)), (3, .int (nI (k + 1))), (5, .int (bI b))]) C dX7_solveNow_125 5 rfl (nI_1 n) (by decide) rfl ?_
                          refine g_dload C dX7_solveNow_128 1 rfl ?_
                          refine g_ldc2d (v := 4517110426252607488) C dX7_solveNow_130 8 rfl ?_
                          refine g_dcmp C dX7_solveNow_133 ?_
                          refine g_if_lt (tgt := 141) C dX7_solveNow_134 (by decide) (fun c_134 => ?_) (fun c_134 => ?_)
                          · refine g_iconst (v := nI 0) C dX7_solveNow_141 (by decide +kernel) ?_
                            refine g_topi (y := bI (!sm)) (by rw [hsm]; first | (rw [show smC (rdC (setO H (msO σ c)) g (itR (setO H (msO σ c)) g s n)) = true from decide_eq_true ((cv_lt hrc ceps_N).mpr ((cv_lt hrc ceps_N).mp c_134))]; rfl) | (rw [show smC (rdC (setO H (msO σ c)) g (itR (setO H (msO σ c)) g s n)) = false from decide_eq_false (fun z => c_134 ((cv_lt hrc ceps_N).mpr ((cv_lt hrc ceps_N).mp z)))]; rfl)) ?_
                            refine g_istore (lv' := [(5, .int (bI (!sm))), (4, .int (nI (n + 1))), (6, .double (rdC (setO H (msO σ c)) g (itR (setO H (msO σ c)) g s n))), (0, .ref ((xK X).2.2 27)), (1, .int (nI c)), (2, .int (nI R)), (3, .int (nI (k + 1)))]) C dX7_solveNow_142 (by decide) rfl ?_
                            refine g_iload C dX7_solveNow_144 0 rfl ?_
                            refine g_if_eq (tgt := 158) C dX7_solveNow_146 (by decide) (fun c_146 => ?_) (fun c_146 => ?_)
                            · have hs1 : sm = true := by
                                have h9 := (bI_ne _).mp c_146
                                cases sm with
                                | true => rfl
                                | false => cases h9
                              have hnx : if (!sm) = true then n + 1 < 100 ∧ seK (setO H (msO σ c)) g s = srch (sePr (setO H (msO σ c)) g s) (100 - (n + 1)) (n + 1 + 1) else seK (setO H (msO σ c)) g s = some (n + 1) := by
                                rw [if_neg (by rw [hs1]; decide), hsr]
                                exact srch_yes (hsp.trans hs1)
                              refine g_goto (tgt := 114) C dX7_solveNow_158 (by decide) ?_
                              refine g_lv [3, 4, 5, 6, 1, 0] rfl ?_
                              exact ih114 (n + 1) (!sm) (by omega) (by omega) hnx
                            · have hs1 : sm = false := by
                                have h9 := bIt c_146
                                cases sm with
                                | true => cases h9
                                | false => rfl
                              have hsr2 := hsr.trans (srch_no (hsp.trans hs1))
                              refine g_iload C dX7_solveNow_149 1 rfl ?_
                              refine g_bipush (v := nI 100) C dX7_solveNow_151 (by decide +kernel) ?_
                              refine g_icmp_ne (tgt := 158) C dX7_solveNow_153 (by decide) (fun c_153 => ?_) (fun c_153 => ?_)
                              · have hnx : if (!sm) = true then n + 1 < 100 ∧ seK (setO H (msO σ c)) g s = srch (sePr (setO H (msO σ c)) g s) (100 - (n + 1)) (n + 1 + 1) else seK (setO H (msO σ c)) g s = some (n + 1) := by
                                  rw [if_pos (by rw [hs1]; rfl)]
                                  refine ⟨?_, by rw [show 100 - (n + 1) = 99 - n by omega]; exact hsr2⟩
                                  have : n + 1 ≠ 100 := fun h => c_153 (by rw [h])
                                  omega
                                refine g_goto (tgt := 114) C dX7_solveNow_158 (by decide) ?_
                                refine g_lv [3, 4, 5, 6, 1, 0] rfl ?_
                                exact ih114 (n + 1) (!sm) (by omega) (by omega) hnx
                              · have hn99 : n + 1 = 100 := (nI_eq (by omega) (by decide)).mp (Decidable.byContradiction fun h => absurd c_153 h)
                                have hnone : seK (setO H (msO σ c)) g s = none := by
                                  rw [hsr2, show 99 - n = 0 by omega]
                                  rfl
                                have hB1 : blM H σ c = blN (setO H (msO σ c)) ((9 - k) + 1) s g R := by rw [hB, show 10 - k = (9 - k) + 1 by omega]
                                have hres := hB1.trans (blN_none hnone)
                                rw [hnone] at hres
                                refine g_iconst (v := (-1)) C dX7_solveNow_156 (by decide +kernel) ?_
                                refine g_iret C dX7_solveNow_157 rfl ⟨Nat.le_of_ble_eq_true rfl, Nat.le_of_ble_eq_true rfl⟩ ?_
                                rw [hF]
                                exact ⟨by rw [hres]; rfl, by rw [hres, hn99]; rfl⟩
                          · refine g_iconst (v := nI 1) C dX7_solveNow_137 (by decide +kernel) ?_
                            refine g_goto (tgt := 142) C dX7_solveNow_138 (by decide) ?_
                            refine g_topi (y := bI (!sm)) (by rw [hsm]; first | (rw [show smC (rdC (setO H (msO σ c)) g (itR (setO H (msO σ c)) g s n)) = true from decide_eq_true ((cv_lt hrc ceps_N).mpr ((cv_lt hrc ceps_N).mp c_134))]; rfl) | (rw [show smC (rdC (setO H (msO σ c)) g (itR (setO H (msO σ c)) g s n)) = false from decide_eq_false (fun z => c_134 ((cv_lt hrc ceps_N).mpr ((cv_lt hrc ceps_N).mp z)))]; rfl)) ?_
                            refine g_istore (lv' := [(5, .int (bI (!sm))), (4, .int (nI (n + 1))), (6, .double (rdC (setO H (msO σ c)) g (itR (setO H (msO σ c)) g s n))), (0, .ref ((xK X).2.2 27)), (1, .int (nI c)), (2, .int (nI R)), (3, .int (nI (k + 1)))]) C dX7_solveNow_142 (by decide) rfl ?_
                            refine g_iload C dX7_solveNow_144 0 rfl ?_
                            refine g_if_eq (tgt := 158) C dX7_solveNow_146 (by decide) (fun c_146 => ?_) (fun c_146 => ?_)
                            · have hs1 : sm = true := by
                                have h9 := (bI_ne _).mp c_146
                                cases sm with
                                | true => rfl
                                | false => cases h9
                              have hnx : if (!sm) = true then n + 1 < 100 ∧ seK (setO H (msO σ c)) g s = srch (sePr (setO H (msO σ c)) g s) (100 - (n + 1)) (n + 1 + 1) else seK (setO H (msO σ c)) g s = some (n + 1) := by
                                rw [if_neg (by rw [hs1]; decide), hsr]
                                exact srch_yes (hsp.trans hs1)
                              refine g_goto (tgt := 114) C dX7_solveNow_158 (by decide) ?_
                              refine g_lv [3, 4, 5, 6, 1, 0] rfl ?_
                              exact ih114 (n + 1) (!sm) (by omega) (by omega) hnx
                            · have hs1 : sm = false := by
                                have h9 := bIt c_146
                                cases sm with
                                | true => cases h9
                                | false => rfl
                              have hsr2 := hsr.trans (srch_no (hsp.trans hs1))
                              refine g_iload C dX7_solveNow_149 1 rfl ?_
                              refine g_bipush (v := nI 100) C dX7_solveNow_151 (by decide +kernel) ?_
                              refine g_icmp_ne (tgt := 158) C dX7_solveNow_153 (by decide) (fun c_153 => ?_) (fun c_153 => ?_)
                              · have hnx : if (!sm) = true then n + 1 < 100 ∧ seK (setO H (msO σ c)) g s = srch (sePr (setO H (msO σ c)) g s) (100 - (n + 1)) (n + 1 + 1) else seK (setO H (msO σ c)) g s = some (n + 1) := by
                                  rw [if_pos (by rw [hs1]; rfl)]
                                  refine ⟨?_, by rw [show 100 - (n + 1) = 99 - n by omega]; exact hsr2⟩
                                  have : n + 1 ≠ 100 := fun h => c_153 (by rw [h])
                                  omega
                                refine g_goto (tgt := 114) C dX7_solveNow_158 (by decide) ?_
                                refine g_lv [3, 4, 5, 6, 1, 0] rfl ?_
                                exact ih114 (n + 1) (!sm) (by omega) (by omega) hnx
                              · have hn99 : n + 1 = 100 := (nI_eq (by omega) (by decide)).mp (Decidable.byContradiction fun h => absurd c_153 h)
                                have hnone : seK (setO H (msO σ c)) g s = none := by
                                  rw [hsr2, show 99 - n = 0 by omega]
                                  rfl
                                have hB1 : blM H σ c = blN (setO H (msO σ c)) ((9 - k) + 1) s g R := by rw [hB, show 10 - k = (9 - k) + 1 by omega]
                                have hres := hB1.trans (blN_none hnone)
                                rw [hnone] at hres
                                refine g_iconst (v := (-1)) C dX7_solveNow_156 (by decide +kernel) ?_
                                refine g_iret C dX7_solveNow_157 rfl ⟨Nat.le_of_ble_eq_true rfl, Nat.le_of_ble_eq_true rfl⟩ ?_
                                rw [hF]
                                exact ⟨by rw [hres]; rfl, by rw [hres, hn99]; rfl⟩
                    refine g_lv [2, 3, 4, 5, 1, 0] rfl ?_
                    exact loop114 102 0 true (by omega) (Nat.zero_le _) (by rw [if_pos rfl]; exact ⟨by decide, rfl⟩)
              refine g_lv [2, 3, 1, 0] rfl ?_
              exact loop102 11 0 0 (zrN (sF σ 40) 10, FP.dconst0) (mgN σ c 8) (by omega) (Nat.zero_le _) (Nat.zero_le _) hs0 hg0 rfl
            · have hmt : m < 8 := by
                refine Nat.lt_of_not_le fun h => c_26 ?_
                exact (nI_leI (by  omega) (by  omega)).mpr (by omega)
              refine g_aload_n C dX7_solveNow_29 0 rfl rfl ?_
              refine g_get C dX7_solveNow_30 wl27 rfl 15 (by decide) 2 rfl rfl rfl inX7_solveNow_X7 ?_
              refine g_iload_n C dX7_solveNow_33 2 rfl rfl ?_
              refine g_iload_n C dX7_solveNow_34 2 rfl rfl ?_
              refine g_aload_n C dX7_solveNow_35 0 rfl rfl ?_
              refine g_get C dX7_solveNow_36 wl27 rfl 10 (by decide) 3 rfl rfl rfl inX7_solveNow_X7 ?_
              refine g_topi (y := nI (pM H)) hM.nm ?_
              refine g_icmp_ge (tgt := 60) C dX7_solveNow_39 (by decide) (fun c_39 => ?_) (fun c_39 => ?_)
              · have hb : msO σ c m = false := by
                  have h9 := (nI_leI (by omega) (by omega)).mp c_39
                  unfold msO
                  rw [htn, decide_eq_false (by omega), Bool.false_and]
                refine g_iconst (v := nI 0) C dX7_solveNow_60 (by decide +kernel) ?_
                refine g_topi (y := bI (msO σ c m)) (by rw [hb]; rfl) ?_
                refine g_zast (j := m) (σ' := uI (msS σ c m) 39 (upd (sI (msS σ c m) 39) m (vp_nar .boolean (bI (msO σ c m))))) C dX7_solveNow_61 wl39 rfl (by omega) (by decide) wsA39 ?_
                refine g_eq (σ2 := uF (uI (uF σ 40 (zrN (sF σ 40) 10)) 39 (moN σ c (m + 1))) 38 (mgN σ c m)) (lv2 := [(0, .ref ((xK X).2.2 27)), (1, .int (nI c)), (2, .int (nI m))]) (st2 := []) (msS_z σ c m) rfl rfl ?_
                refine g_aload_n C dX7_solveNow_62 0 rfl rfl ?_
                refine g_get C dX7_solveNow_63 wl27 rfl 14 (by decide) 5 rfl rfl rfl inX7_solveNow_X7 ?_
                refine g_iload_n C dX7_solveNow_66 2 rfl rfl ?_
                refine g_aload_n C dX7_solveNow_67 0 rfl rfl ?_
                refine g_get C dX7_solveNow_68 wl27 rfl 15 (by decide) 2 rfl rfl rfl inX7_solveNow_X7 ?_
                refine g_iload_n C dX7_solveNow_71 2 rfl rfl ?_
                refine g_zald (j := m) C dX7_solveNow_72 wl39 rfl (by omega) (by decide) ?_
                refine g_topi (y := bI (msO σ c m)) (moN_at σ c m) ?_
                refine g_if_eq (tgt := 80) C dX7_solveNow_73 (by decide) (fun c_73 => ?_) (fun c_73 => ?_)
                · refine g_dconst0 C dX7_solveNow_80 ?_
                  refine g_topd (y := if msO σ c m then FP.dconst1 else FP.dconst0) (by first | exact (if_neg (by rw [(bI_ne _).mp c_73]; decide)).symm | exact (if_pos (bIt c_73)).symm) ?_
                  refine g_dast (j := m) (σ' := uF (uF (uI (uF σ 40 (zrN (sF σ 40) 10)) 39 (moN σ c (m + 1))) 38 (mgN σ c m)) 38 (vf_upd (sF (uF (uI (uF σ 40 (zrN (sF σ 40) 10)) 39 (moN σ c (m + 1))) 38 (mgN σ c m)) 38) m (if msO σ c m then FP.dconst1 else FP.dconst0))) C dX7_solveNow_81 wl38 rfl (by omega) (by decide) wsA38 ?_
                  refine g_eq (σ2 := msS σ c (m + 1)) (lv2 := [(0, .ref ((xK X).2.2 27)), (1, .int (nI c)), (2, .int (nI m))]) (st2 := []) (uF_step _ _ _ _ _) rfl rfl ?_
                  refine g_iinc (v := nI (m + 1)) (lv' := [(2, .int (nI (m + 1))), (0, .ref ((xK X).2.2 27)), (1, .int (nI c))]) C dX7_solveNow_82 2 rfl (nI_1 m) (by decide) rfl ?_
                  refine g_goto (tgt := 23) C dX7_solveNow_85 (by decide) ?_
                  refine g_lv [1, 2, 0] rfl ?_
                  exact ih23 (m + 1) (by omega) (by omega)
                · refine g_dconst1 C dX7_solveNow_76 ?_
                  refine g_goto (tgt := 81) C dX7_solveNow_77 (by decide) ?_
                  refine g_topd (y := if msO σ c m then FP.dconst1 else FP.dconst0) (by first | exact (if_neg (by rw [(bI_ne _).mp c_73]; decide)).symm | exact (if_pos (bIt c_73)).symm) ?_
                  refine g_dast (j := m) (σ' := uF (uF (uI (uF σ 40 (zrN (sF σ 40) 10)) 39 (moN σ c (m + 1))) 38 (mgN σ c m)) 38 (vf_upd (sF (uF (uI (uF σ 40 (zrN (sF σ 40) 10)) 39 (moN σ c (m + 1))) 38 (mgN σ c m)) 38) m (if msO σ c m then FP.dconst1 else FP.dconst0))) C dX7_solveNow_81 wl38 rfl (by omega) (by decide) wsA38 ?_
                  refine g_eq (σ2 := msS σ c (m + 1)) (lv2 := [(0, .ref ((xK X).2.2 27)), (1, .int (nI c)), (2, .int (nI m))]) (st2 := []) (uF_step _ _ _ _ _) rfl rfl ?_
                  refine g_iinc (v := nI (m + 1)) (lv' := [(2, .int (nI (m + 1))), (0, .ref ((xK X).2.2 27)), (1, .int (nI c))]) C dX7_solveNow_82 2 rfl (nI_1 m) (by decide) rfl ?_
                  refine g_goto (tgt := 23) C dX7_solveNow_85 (by decide) ?_
                  refine g_lv [1, 2, 0] rfl ?_
                  exact ih23 (m + 1) (by omega) (by omega)
              · refine g_aload_n C dX7_solveNow_42 0 rfl rfl ?_
                refine g_get C dX7_solveNow_43 wl27 rfl 13 (by decide) 4 rfl rfl rfl inX7_solveNow_X7 ?_
                refine g_bipush (v := nI 8) C dX7_solveNow_46 (by decide +kernel) ?_
                refine g_iload_n C dX7_solveNow_48 1 rfl rfl ?_
                refine g_imul C dX7_solveNow_49 ?_
                refine g_iload_n C dX7_solveNow_50 2 rfl rfl ?_
                refine g_iadd C dX7_solveNow_51 ?_
                refine g_zald (j := (8 * c + m)) C dX7_solveNow_52 wl37 (by rw [← nI_add, ← nI_mul]) (by omega) (by decide) ?_
                refine g_if_eq (tgt := 60) C dX7_solveNow_53 (by decide) (fun c_53 => ?_) (fun c_53 => ?_)
                · have hb : msO σ c m = false := by
                    unfold msO
                    rw [decide_eq_false (show ¬ ¬ sI σ 37 (8 * c + m) = 0 from fun h => h c_53), Bool.and_false]
                  refine g_iconst (v := nI 0) C dX7_solveNow_60 (by decide +kernel) ?_
                  refine g_topi (y := bI (msO σ c m)) (by rw [hb]; rfl) ?_
                  refine g_zast (j := m) (σ' := uI (msS σ c m) 39 (upd (sI (msS σ c m) 39) m (vp_nar .boolean (bI (msO σ c m))))) C dX7_solveNow_61 wl39 rfl (by omega) (by decide) wsA39 ?_
                  refine g_eq (σ2 := uF (uI (uF σ 40 (zrN (sF σ 40) 10)) 39 (moN σ c (m + 1))) 38 (mgN σ c m)) (lv2 := [(0, .ref ((xK X).2.2 27)), (1, .int (nI c)), (2, .int (nI m))]) (st2 := []) (msS_z σ c m) rfl rfl ?_
                  refine g_aload_n C dX7_solveNow_62 0 rfl rfl ?_
                  refine g_get C dX7_solveNow_63 wl27 rfl 14 (by decide) 5 rfl rfl rfl inX7_solveNow_X7 ?_
                  refine g_iload_n C dX7_solveNow_66 2 rfl rfl ?_
                  refine g_aload_n C dX7_solveNow_67 0 rfl rfl ?_
                  refine g_get C dX7_solveNow_68 wl27 rfl 15 (by decide) 2 rfl rfl rfl inX7_solveNow_X7 ?_
                  refine g_iload_n C dX7_solveNow_71 2 rfl rfl ?_
                  refine g_zald (j := m) C dX7_solveNow_72 wl39 rfl (by omega) (by decide) ?_
                  refine g_topi (y := bI (msO σ c m)) (moN_at σ c m) ?_
                  refine g_if_eq (tgt := 80) C dX7_solveNow_73 (by decide) (fun c_73 => ?_) (fun c_73 => ?_)
                  · refine g_dconst0 C dX7_solveNow_80 ?_
                    refine g_topd (y := if msO σ c m then FP.dconst1 else FP.dconst0) (by first | exact (if_neg (by rw [(bI_ne _).mp c_73]; decide)).symm | exact (if_pos (bIt c_73)).symm) ?_
                    refine g_dast (j := m) (σ' := uF (uF (uI (uF σ 40 (zrN (sF σ 40) 10)) 39 (moN σ c (m + 1))) 38 (mgN σ c m)) 38 (vf_upd (sF (uF (uI (uF σ 40 (zrN (sF σ 40) 10)) 39 (moN σ c (m + 1))) 38 (mgN σ c m)) 38) m (if msO σ c m then FP.dconst1 else FP.dconst0))) C dX7_solveNow_81 wl38 rfl (by omega) (by decide) wsA38 ?_
                    refine g_eq (σ2 := msS σ c (m + 1)) (lv2 := [(0, .ref ((xK X).2.2 27)), (1, .int (nI c)), (2, .int (nI m))]) (st2 := []) (uF_step _ _ _ _ _) rfl rfl ?_
                    refine g_iinc (v := nI (m + 1)) (lv' := [(2, .int (nI (m + 1))), (0, .ref ((xK X).2.2 27)), (1, .int (nI c))]) C dX7_solveNow_82 2 rfl (nI_1 m) (by decide) rfl ?_
                    refine g_goto (tgt := 23) C dX7_solveNow_85 (by decide) ?_
                    refine g_lv [1, 2, 0] rfl ?_
                    exact ih23 (m + 1) (by omega) (by omega)
                  · refine g_dconst1 C dX7_solveNow_76 ?_
                    refine g_goto (tgt := 81) C dX7_solveNow_77 (by decide) ?_
                    refine g_topd (y := if msO σ c m then FP.dconst1 else FP.dconst0) (by first | exact (if_neg (by rw [(bI_ne _).mp c_73]; decide)).symm | exact (if_pos (bIt c_73)).symm) ?_
                    refine g_dast (j := m) (σ' := uF (uF (uI (uF σ 40 (zrN (sF σ 40) 10)) 39 (moN σ c (m + 1))) 38 (mgN σ c m)) 38 (vf_upd (sF (uF (uI (uF σ 40 (zrN (sF σ 40) 10)) 39 (moN σ c (m + 1))) 38 (mgN σ c m)) 38) m (if msO σ c m then FP.dconst1 else FP.dconst0))) C dX7_solveNow_81 wl38 rfl (by omega) (by decide) wsA38 ?_
                    refine g_eq (σ2 := msS σ c (m + 1)) (lv2 := [(0, .ref ((xK X).2.2 27)), (1, .int (nI c)), (2, .int (nI m))]) (st2 := []) (uF_step _ _ _ _ _) rfl rfl ?_
                    refine g_iinc (v := nI (m + 1)) (lv' := [(2, .int (nI (m + 1))), (0, .ref ((xK X).2.2 27)), (1, .int (nI c))]) C dX7_solveNow_82 2 rfl (nI_1 m) (by decide) rfl ?_
                    refine g_goto (tgt := 23) C dX7_solveNow_85 (by decide) ?_
                    refine g_lv [1, 2, 0] rfl ?_
                    exact ih23 (m + 1) (by omega) (by omega)
                · have hb : msO σ c m = true := by
                    have h9 : m < pM H := Nat.lt_of_not_le fun h => c_39 ((nI_leI (by omega) (by omega)).mpr h)
                    unfold msO
                    rw [htn, decide_eq_true h9, decide_eq_true (show ¬ sI σ 37 (8 * c + m) = 0 from c_53)]
                    rfl
                  refine g_iconst (v := nI 1) C dX7_solveNow_56 (by decide +kernel) ?_
                  refine g_goto (tgt := 61) C dX7_solveNow_57 (by decide) ?_
                  refine g_topi (y := bI (msO σ c m)) (by rw [hb]; rfl) ?_
                  refine g_zast (j := m) (σ' := uI (msS σ c m) 39 (upd (sI (msS σ c m) 39) m (vp_nar .boolean (bI (msO σ c m))))) C dX7_solveNow_61 wl39 rfl (by omega) (by decide) wsA39 ?_
                  refine g_eq (σ2 := uF (uI (uF σ 40 (zrN (sF σ 40) 10)) 39 (moN σ c (m + 1))) 38 (mgN σ c m)) (lv2 := [(0, .ref ((xK X).2.2 27)), (1, .int (nI c)), (2, .int (nI m))]) (st2 := []) (msS_z σ c m) rfl rfl ?_
                  refine g_aload_n C dX7_solveNow_62 0 rfl rfl ?_
                  refine g_get C dX7_solveNow_63 wl27 rfl 14 (by decide) 5 rfl rfl rfl inX7_solveNow_X7 ?_
                  refine g_iload_n C dX7_solveNow_66 2 rfl rfl ?_
                  refine g_aload_n C dX7_solveNow_67 0 rfl rfl ?_
                  refine g_get C dX7_solveNow_68 wl27 rfl 15 (by decide) 2 rfl rfl rfl inX7_solveNow_X7 ?_
                  refine g_iload_n C dX7_solveNow_71 2 rfl rfl ?_
                  refine g_zald (j := m) C dX7_solveNow_72 wl39 rfl (by omega) (by decide) ?_
                  refine g_topi (y := bI (msO σ c m)) (moN_at σ c m) ?_
                  refine g_if_eq (tgt := 80) C dX7_solveNow_73 (by decide) (fun c_73 => ?_) (fun c_73 => ?_)
                  · refine g_dconst0 C dX7_solveNow_80 ?_
                    refine g_topd (y := if msO σ c m then FP.dconst1 else FP.dconst0) (by first | exact (if_neg (by rw [(bI_ne _).mp c_73]; decide)).symm | exact (if_pos (bIt c_73)).symm) ?_
                    refine g_dast (j := m) (σ' := uF (uF (uI (uF σ 40 (zrN (sF σ 40) 10)) 39 (moN σ c (m + 1))) 38 (mgN σ c m)) 38 (vf_upd (sF (uF (uI (uF σ 40 (zrN (sF σ 40) 10)) 39 (moN σ c (m + 1))) 38 (mgN σ c m)) 38) m (if msO σ c m then FP.dconst1 else FP.dconst0))) C dX7_solveNow_81 wl38 rfl (by omega) (by decide) wsA38 ?_
                    refine g_eq (σ2 := msS σ c (m + 1)) (lv2 := [(0, .ref ((xK X).2.2 27)), (1, .int (nI c)), (2, .int (nI m))]) (st2 := []) (uF_step _ _ _ _ _) rfl rfl ?_
                    refine g_iinc (v := nI (m + 1)) (lv' := [(2, .int (nI (m + 1))), (0, .ref ((xK X).2.2 27)), (1, .int (nI c))]) C dX7_solveNow_82 2 rfl (nI_1 m) (by decide) rfl ?_
                    refine g_goto (tgt := 23) C dX7_solveNow_85 (by decide) ?_
                    refine g_lv [1, 2, 0] rfl ?_
                    exact ih23 (m + 1) (by omega) (by omega)
                  · refine g_dconst1 C dX7_solveNow_76 ?_
                    refine g_goto (tgt := 81) C dX7_solveNow_77 (by decide) ?_
                    refine g_topd (y := if msO σ c m then FP.dconst1 else FP.dconst0) (by first | exact (if_neg (by rw [(bI_ne _).mp c_73]; decide)).symm | exact (if_pos (bIt c_73)).symm) ?_
                    refine g_dast (j := m) (σ' := uF (uF (uI (uF σ 40 (zrN (sF σ 40) 10)) 39 (moN σ c (m + 1))) 38 (mgN σ c m)) 38 (vf_upd (sF (uF (uI (uF σ 40 (zrN (sF σ 40) 10)) 39 (moN σ c (m + 1))) 38 (mgN σ c m)) 38) m (if msO σ c m then FP.dconst1 else FP.dconst0))) C dX7_solveNow_81 wl38 rfl (by omega) (by decide) wsA38 ?_
                    refine g_eq (σ2 := msS σ c (m + 1)) (lv2 := [(0, .ref ((xK X).2.2 27)), (1, .int (nI c)), (2, .int (nI m))]) (st2 := []) (uF_step _ _ _ _ _) rfl rfl ?_
                    refine g_iinc (v := nI (m + 1)) (lv' := [(2, .int (nI (m + 1))), (0, .ref ((xK X).2.2 27)), (1, .int (nI c))]) C dX7_solveNow_82 2 rfl (nI_1 m) (by decide) rfl ?_
                    refine g_goto (tgt := 23) C dX7_solveNow_85 (by decide) ?_
                    refine g_lv [1, 2, 0] rfl ?_
                    exact ih23 (m + 1) (by omega) (by omega)
        refine g_lv [1, 2, 0] rfl ?_
        exact loop23 9 0 (by omega) (Nat.zero_le _)
      · have hjt : j < 10 := by
          refine Nat.lt_of_not_le fun h => c_5 ?_
          exact (nI_leI (by  omega) (by  omega)).mpr (by omega)
        refine g_aload_n C dX7_solveNow_8 0 rfl rfl ?_
        refine g_get C dX7_solveNow_9 wl27 rfl 18 (by decide) 1 rfl rfl rfl inX7_solveNow_X7 ?_
        refine g_iload_n C dX7_solveNow_12 2 rfl rfl ?_
        refine g_dconst0 C dX7_solveNow_13 ?_
        refine g_dast (j := j) (σ' := uF (uF σ 40 (zrN (sF σ 40) j)) 40 (vf_upd (sF (uF σ 40 (zrN (sF σ 40) j)) 40) j FP.dconst0)) C dX7_solveNow_14 wl40 rfl (by omega) (by decide) wsA40 ?_
        refine g_eq (σ2 := uF σ 40 (zrN (sF σ 40) (j + 1))) (lv2 := [(0, .ref ((xK X).2.2 27)), (1, .int (nI c)), (2, .int (nI j))]) (st2 := []) (uF_step _ _ _ _ _) rfl rfl ?_
        refine g_iinc (v := nI (j + 1)) (lv' := [(2, .int (nI (j + 1))), (0, .ref ((xK X).2.2 27)), (1, .int (nI c))]) C dX7_solveNow_15 2 rfl (nI_1 j) (by decide) rfl ?_
        refine g_goto (tgt := 2) C dX7_solveNow_18 (by decide) ?_
        refine g_lv [1, 2, 0] rfl ?_
        exact ih2 (j + 1) (by omega) (by omega)
  refine g_lv [1, 2, 0] rfl ?_
  exact loop2 11 0 (by omega) (Nat.zero_le _)
