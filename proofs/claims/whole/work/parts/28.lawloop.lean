/-! the law's loop -/
section GLAW
variable {X : gX} {nL : Nat} {cc : ByteArray} {own : String} {Ts : List Cond} {ret : Option FieldType} {rm : Room} {k n : Nat} {σ : gS} {lv : List (Nat × Value)} {pc : Nat} {st : List Value}
theorem g_slen (C : gC X nL cc own Ts ret rm) {b L : Nat} {sc : Nat → Int32} (hX : va_X b L sc (xs X) (xH X)) (hbl : b < (xH X).size) (hbA : ¬ xA X b) (hdg : decode cc pc = .ok (.arraylength, 1)) (kk : G X nL k n σ lv (pc + 1) (.int (nI L) :: st)) : G X nL k n σ lv pc (.ref b :: st) := fun H locs ls hP hS hl => va_slen C.hx C.hb hX hbl hbA hS hdg (kk H locs ls hP hS hl)
theorem g_sld (C : gC X nL cc own Ts ret rm) {b L j : Nat} {sc : Nat → Int32} (hX : va_X b L sc (xs X) (xH X)) (hbl : b < (xH X).size) (hbA : ¬ xA X b) (hdg : decode cc pc = .ok (.iaload, 1)) (hj : j < L) (hL : L < 2 ^ 31) (kk : G X nL k n σ lv (pc + 1) (.int (sc j) :: st)) : G X nL k n σ lv pc (.int (nI j) :: .ref b :: st) := fun H locs ls hP hS hl => va_sld C.hx C.hb hX hbl hbA hS (vp_in_nI hj hL) hdg (by rw [nI_clamp (by omega)]; exact kk H locs ls hP hS hl)
def gEL (X : gX) : Prop := xH X = (xs X).heap ∧ eV (xs X) ∧ eH (xA X) (xs X) (xs X).heap
theorem gC.preL (C : gC X nL cc own Ts ret rm) (E : gEL X) {H : Heap} {locs : List Loc} (hP : va_P (xK X).1 vwCl (wld (xK X) σ) H) (hS : va_S (xA X) (xH X) H locs) {As : List Value} : ∀ U : State, U.heap = H → (xs X).WarmedH U.vm → va_Pc As (gBX (xK X) σ H.size) As.toArray U := fun U hU hW => ⟨rfl, ⟨by rw [hU], by rw [hU]; exact hP, va_K.moved hW.alike C.hK, nws_warm hW C.hN⟩, eV.warm hW E.2.1, eH.to E.1 E.2.2 hS (fun q h => C.hA q (h.elim Or.inl fun h => Or.inr (Nat.le_trans hS.1 h))) hU hW.alike⟩
theorem g_callSHL (C : gC X nL cc own Ts ret rm) (E : gEL X) {y : MethodName} {wsy ws' : List Cond} {by_ : ByteArray} {maxL : Nat} {rty : Option FieldType} {hy : List (Nat × Nat × Nat × Nat)} {rmy : Room} {index : Nat} {As rest : List Value} {Rf : Option Value → gS → Prop} {Ty : String → gS → Prop}
    (hdg : decode cc pc = .ok (.invokestatic index, 3)) (hM : CtX (xl X) y wsy rmy (xK X) As σ Rf Ty) (np : Nat) (hG : GoodIn Ts (va_wsS own index y wsy)) (hw : wsy = Cond.codeWith y by_ maxL rty hy :: ws')
    (hd : y.cls ≠ "java/lang/invoke/MethodHandle" ∧ y.cls ≠ "java/lang/invoke/VarHandle" ∧ (parseMethodDescriptor y.desc).map (fun d => d.parameters.length) = some np) (hR : rmy.frames + 1 ≤ rm.frames ∧ 8 + (maxL + 11) + rmy.locals ≤ rm.locals) (hcs : k + rmy.cells ≤ rm.cells ∧ n + rmy.slots ≤ rm.slots) (hnp : As.length = np) (hst : st = As.reverse ++ rest) (hcat : (rest.map fun v => v.category).sum ≤ 8)
    (kx : ∀ (Ec : String) (σ' : gS), Ty Ec σ' → GX X nL (k + rmy.cells) (n + rmy.slots) σ' lv pc rest Ec) (kk : ∀ (rv : Option Value) (σ' : gS), Rf rv σ' → G X nL (k + rmy.cells) (n + rmy.slots) σ' lv (pc + 3) (rv.toList ++ rest)) : G X nL k n σ lv pc st := by
  subst hst
  intro H locs ls hP hS hl
  exact gx_run C hS hl (vx_runSX (As := As) (rest := rest) ⟨C.hx, C.hb, C.hml, C.hown, C.hts⟩ (hM H.size) (vx_cwSW np C.hts hG hw rfl rfl hd (by rw [C.hR]; exact hR)) ⟨gBX_blind, C.preL E hP hS⟩ rfl hnp hl.1 rfl (lv_room hcat) hdg (by rw [C.hR]; exact hcs)) kk kx
end GLAW
theorem cv_eq0 {x y : UInt64} (h : dF x ∧ dF y ∧ dv x = dv y) (op : CmpOp) : Op.cmpValue (FP.dcmp x y) op = nI 0 := by
  rw [dc_spec h.1.nn h.2.1.nn, h.2.2]
  have : compare (dv y) (dv y) = .eq := by simp [compare, compareOfLessAndEq]
  rw [this]
  rfl
theorem lc_0 (x : Int64) : lg_cmp x x = nI 0 := by
  unfold lg_cmp
  simp
  rfl
def scD (x : Int32) : UInt64 := FP.dmul (FP.i2d x) k125
theorem i2d_B (x : Int32) : Bd 31 (FP.i2d x) := by
  have hw : FP.Core.Whole x.toInt (fv (FP.i2d x)) := FP.Core.i2d_int x
  have hf := ft (x := FP.i2d x)
  have hxb : x.toInt.natAbs ≤ 2 ^ 31 := by
    have h1 := Int32.toInt_lt x
    have h2 := Int32.le_toInt x
    omega
  cases e : fv (FP.i2d x) with
  | nan => rw [e] at hw; exact hw.elim
  | inf s => rw [e] at hw; exact hw.elim
  | fin s c q =>
    rw [e] at hw hf
    have h1 : FP.Core.signed s (c * 2 ^ q.toNat) = x.toInt * ((2 ^ (-q).toNat : Nat) : Int) := hw
    have hq : FP.Core.b64.qmin ≤ q := hf.2.1
    rw [fl_qmin] at hq
    have h2 := congrArg Int.natAbs h1
    rw [FP.Core.natAbs_signed, Int.natAbs_mul, Int.natAbs_natCast] at h2
    have hdm : dm (FP.i2d x) = c * 2 ^ (q + 1074).toNat := by
      unfold dm
      rw [e]
      show c * 2 ^ (q - FP.Core.b64.qmin).toNat = _
      rw [fl_qmin, show q - (-1074 : Int) = q + 1074 by omega]
    refine ⟨⟨s, c, q, e⟩, ?_⟩
    rw [hdm]
    unfold U1
    by_cases h0 : 0 ≤ q
    · rw [show (-q).toNat = 0 by omega, Nat.pow_zero, Nat.mul_one] at h2
      rw [show (q + 1074).toNat = q.toNat + 1074 by omega, Nat.pow_add, ← Nat.mul_assoc, h2]
      exact Nat.mul_le_mul_right _ hxb
    · rw [show q.toNat = 0 by omega, Nat.pow_zero, Nat.mul_one] at h2
      rw [h2, Nat.mul_assoc, ← Nat.pow_add, show (-q).toNat + (q + 1074).toNat = 1074 by omega]
      exact Nat.mul_le_mul_right _ hxb
theorem scD_B (x : Int32) : Bd 31 (scD x) := (i2d_B x).mul (j := 0) ⟨dF_small k125_v.1 (by decide +kernel), by decide +kernel⟩ (by decide)
theorem lt5 {L i : Nat} (hL : L ≤ 2560) (hi : i ≤ 2560) : nI L - nI 5 < nI i ↔ L < i + 5 := by
  have h5 : (nI 5).toInt = 5 := by decide
  rw [Int32.lt_iff_toInt_lt, Int32.toInt_sub, h5, nI_toInt (n := L) (by omega), nI_toInt (n := i) (by omega)]
  unfold Int.bmod
  simp only []
  split <;> omega
theorem tsw (v : Int32) : v = nI 0 ∨ v = nI 1 ∨ v = nI 2 ∨ v = nI 3 ∨ v = nI 4 ∨ v = nI 5 ∨ v = nI 6 ∨ v = nI 7 ∨ v = nI 8 ∨ v = nI 9 ∨ v = nI 10 ∨ v = nI 11 ∨ v = nI 12 ∨ v = nI 13 ∨ v = nI 14 ∨ (v.toInt < 0 ∨ 14 < v.toInt) := by
  by_cases h0 : v < 0
  · have := Int32.lt_iff_toInt_lt.mp h0
    have h3 : (0 : Int32).toInt = 0 := by decide
    omega
  · obtain ⟨j, hj, e⟩ := nI_of h0
    have h1 := nI_toInt hj
    rw [e, h1]
    by_cases h14 : 14 < j
    · omega
    · have : j = 0 ∨ j = 1 ∨ j = 2 ∨ j = 3 ∨ j = 4 ∨ j = 5 ∨ j = 6 ∨ j = 7 ∨ j = 8 ∨ j = 9 ∨ j = 10 ∨ j = 11 ∨ j = 12 ∨ j = 13 ∨ j = 14 := by omega
      rcases this with h | h | h | h | h | h | h | h | h | h | h | h | h | h | h <;> subst h <;> simp

set_option maxHeartbeats 40000000 in
set_option maxRecDepth 100000 in
theorem law_loop (X : gX) (hl0 : (xl X).stackTraces = false) {rt : Option FieldType} (C : gC X 9 cL_law RL wsL_law rt room_1) (E : gEL X) {b L : Nat} {sc : Nat → Int32} (hX : va_X b L sc (xs X) (xH X)) (hbl : b < (xH X).size) (hbA : ¬ xA X b) (hL2 : L ≤ 2560) (fin : ∀ (k n : Nat) (σ : gS) (lv : List (Nat × Value)), k ≤ 632906 → n ≤ 7197386 → G X 9 k n σ lv 1225 []) : ∀ (r9 : Nat) (i : Nat) (σ : gS) (kk nn : Nat), L - i < r9 → (i ≤ L) → (Rl σ) → (kk + 4 * (L - i) ≤ 600000) → (nn + 24 * (L - i) ≤ 7000000) → G X 9 kk nn σ [(0, .ref b), (1, .ref ((xK X).2.2 0)), (2, .ref ((xK X).2.2 27)), (3, .ref ((xK X).2.2 43)), (4, .ref ((xK X).2.2 44)), (5, .int (nI i))] 28 [] := by
  intro r9
  induction r9 with
  | zero => intro i σ kk nn h9; exact absurd h9 (Nat.not_lt_zero _)
  | succ r9 ih28 =>
    intro i σ kk nn hm28 hi hRl hk hn
    refine g_iload C dL_law_28 5 rfl ?_
    refine g_aload_n C dL_law_30 0 rfl rfl ?_
    refine g_slen C hX hbl hbA dL_law_31 ?_
    refine g_iconst (v := nI 5) C dL_law_32 (by decide +kernel) ?_
    refine g_isub C dL_law_33 ?_
    refine g_icmp_gt (tgt := 1225) C dL_law_34 (by decide) (fun c_34 => ?_) (fun c_34 => ?_)
    · exact fin kk nn σ _ (by omega) (by omega)
    · have hi5 : i + 5 ≤ L := Nat.le_of_not_lt fun h => c_34 ((lt5 hL2 (by omega)).mpr h)
      have hkA : kk + 4 ≤ 632906 := by omega
      have hnA : nn + 24 ≤ 7197386 := by omega
      have hk4 : kk + 4 + 4 * (L - (i + 5)) ≤ 600000 := by omega
      have hn4 : nn + 24 + 24 * (L - (i + 5)) ≤ 7000000 := by omega
      have hk4b : kk + 4 * (L - (i + 5)) + 4 ≤ 600000 := by omega
      have hn4b : nn + 24 * (L - (i + 5)) + 24 ≤ 7000000 := by omega
      refine g_aload_n C dL_law_37 0 rfl rfl ?_
      refine g_iload C dL_law_38 5 rfl ?_
      refine g_sld (j := i) C hX hbl hbA dL_law_40 (by omega) (by omega) ?_
      refine g_bipush (v := nI 15) C dL_law_41 (by decide +kernel) ?_
      refine g_iand C dL_law_43 ?_
      rcases tsw ((sc i) &&& (nI 15)) with e9 | e9 | e9 | e9 | e9 | e9 | e9 | e9 | e9 | e9 | e9 | e9 | e9 | e9 | e9 | e9
      · refine g_tableIn (off := 76) (tgt := 120) C dL_law_44 (by rw [e9]; decide) (by rw [e9]; decide) (by rw [e9]; decide) (by decide) ?_
        refine g_aload_n C dL_law_120 1 rfl rfl ?_
        refine g_aload_n C dL_law_121 3 rfl rfl ?_
        refine g_callSHL (As := [.ref ((xK X).2.2 0), .ref ((xK X).2.2 43)]) (rest := []) C E dL_law_122 (kL_joint (xl X) hl0 (xK X) C.hD σ hRl.i) 2 gL_law_L_joint rfl (by decide +kernel) ⟨Nat.le_of_ble_eq_true rfl, Nat.le_of_ble_eq_true rfl⟩ ⟨Nat.le_trans (Nat.add_le_add_left (Nat.le_of_ble_eq_true rfl) kk) hkA, Nat.le_trans (Nat.add_le_add_left (Nat.le_of_ble_eq_true rfl) nn) hnA⟩ rfl rfl (Nat.le_of_ble_eq_true rfl) (fun Ec9 σ9 h9 => ?_) (fun rv9 σ9 h9 => ?_)
        · exact h9.elim
        · obtain ⟨r1, hr1⟩ : ∃ z, z = rv9 := ⟨_, rfl⟩
          obtain ⟨σ1, hs1⟩ : ∃ z, z = σ9 := ⟨_, rfl⟩
          rw [← hr1, ← hs1] at h9
          rw [← hr1, ← hs1]
          have hw1 := h9.1
          have hcdl := cdJoint_le (nJ σ)
          have hst := st_joint hRl h9
          refine g_widen (k2 := kk + 4) (n2 := nn + 24) (Nat.add_le_add_left (Nat.le_of_ble_eq_true rfl) kk) (Nat.add_le_add_left (Nat.le_of_ble_eq_true rfl) nn) ?_
          refine g_eq (σ2 := σ1) (lv2 := [(0, .ref b), (1, .ref ((xK X).2.2 0)), (2, .ref ((xK X).2.2 27)), (3, .ref ((xK X).2.2 43)), (4, .ref ((xK X).2.2 44)), (5, .int (nI i))]) (st2 := [.int (nI (cdJoint (nJ σ)))]) rfl rfl (by rw [hw1]; rfl) ?_
          refine g_istore (lv' := [(6, .int (nI (cdJoint (nJ σ)))), (0, .ref b), (1, .ref ((xK X).2.2 0)), (2, .ref ((xK X).2.2 27)), (3, .ref ((xK X).2.2 43)), (4, .ref ((xK X).2.2 44)), (5, .int (nI i))]) C dL_law_125 (by decide) rfl ?_
          refine g_aload_n C dL_law_127 3 rfl rfl ?_
          refine g_callV (As := []) (rest := []) C dL_law_128 (kX7_joint (xl X) (xK X) C.hD σ1 (hRl.mi.mo hst.1)) wl27 rfl 0 gL_law_X7_joint rfl (by decide +kernel) ⟨Nat.le_of_ble_eq_true rfl, Nat.le_of_ble_eq_true rfl⟩ ⟨hkA, hnA⟩ rfl rfl (Nat.le_of_ble_eq_true rfl) (fun rv9 σ9 h9 => ?_)
          obtain ⟨r2, hr2⟩ : ∃ z, z = rv9 := ⟨_, rfl⟩
          obtain ⟨σ2, hs2⟩ : ∃ z, z = σ9 := ⟨_, rfl⟩
          rw [← hr2, ← hs2] at h9
          rw [← hr2, ← hs2]
          obtain ⟨-, f2, f3, bv, f4, f5⟩ := hst.2 r2 σ2 h9
          refine g_eq (σ2 := σ2) (lv2 := [(6, .int (nI (cdJoint (nJ σ)))), (0, .ref b), (1, .ref ((xK X).2.2 0)), (2, .ref ((xK X).2.2 27)), (3, .ref ((xK X).2.2 43)), (4, .ref ((xK X).2.2 44)), (5, .int (nI i))]) (st2 := [.int bv]) rfl rfl (by rw [f4]; rfl) ?_
          refine g_istore (lv' := [(7, .int bv), (6, .int (nI (cdJoint (nJ σ)))), (0, .ref b), (1, .ref ((xK X).2.2 0)), (2, .ref ((xK X).2.2 27)), (3, .ref ((xK X).2.2 43)), (4, .ref ((xK X).2.2 44)), (5, .int (nI i))]) C dL_law_131 (by decide) rfl ?_
          refine g_aload_n C dL_law_133 4 rfl rfl ?_
          refine g_callV (As := []) (rest := []) C dL_law_134 (kX7_thrown (xl X) (xK X) C.hD σ2) wl27 rfl 0 gL_law_X7_thrown rfl (by decide +kernel) ⟨Nat.le_of_ble_eq_true rfl, Nat.le_of_ble_eq_true rfl⟩ ⟨hkA, hnA⟩ rfl rfl (Nat.le_of_ble_eq_true rfl) (fun rv9 σ9 h9 => ?_)
          obtain ⟨h9a, h9b⟩ := h9
          refine g_eq (σ2 := σ2) (lv2 := [(7, .int bv), (6, .int (nI (cdJoint (nJ σ)))), (0, .ref b), (1, .ref ((xK X).2.2 0)), (2, .ref ((xK X).2.2 27)), (3, .ref ((xK X).2.2 43)), (4, .ref ((xK X).2.2 44)), (5, .int (nI i))]) (st2 := [.int (nI (cdJoint (nJ σ)))]) h9b rfl (by rw [h9a, f2]; rfl) ?_
          refine g_iload C dL_law_137 1 rfl ?_
          refine g_icmp_eq (tgt := 144) C dL_law_139 (by decide) (fun c_139 => ?_) (fun c_139 => ?_)
          · refine g_iload C dL_law_144 1 rfl ?_
            refine g_if_ne (tgt := 161) C dL_law_146 (by decide) (fun c_146 => ?_) (fun c_146 => ?_)
            · refine g_goto (tgt := 1219) C dL_law_161 (by decide) ?_
              refine g_iinc (v := nI (i + 5)) (lv' := [(5, .int (nI (i + 5))), (7, .int bv), (6, .int (nI (cdJoint (nJ σ)))), (0, .ref b), (1, .ref ((xK X).2.2 0)), (2, .ref ((xK X).2.2 27)), (3, .ref ((xK X).2.2 43)), (4, .ref ((xK X).2.2 44))]) C dL_law_1219 7 rfl (nI_add i 5) (by decide) rfl ?_
              refine g_goto (tgt := 28) C dL_law_1222 (by decide) ?_
              refine g_lv [3, 4, 5, 6, 7, 0] rfl ?_
              exact (ih28 (i + 5) σ2 _ _ (by omega) (by omega) f3 hk4 hn4)
            · have hc0 := (nI_eq (b := 0) (by omega) (by decide)).mp (Decidable.byContradiction fun h => absurd c_146 h)
              refine g_aload_n C dL_law_149 5 rfl rfl ?_
              refine g_iconst (v := nI 0) C dL_law_150 (by decide +kernel) ?_
              refine g_lald (j := 0) C dL_law_151 wl43 rfl (by decide) (by decide) ?_
              refine g_iload C dL_law_152 0 rfl ?_
              refine g_i2l C dL_law_154 ?_
              refine g_lcmp C dL_law_155 ?_
              refine g_topi (y := nI 0) (by first | (rw [f5 hc0]; exact lc_0 _) | (rw [f5 hc0, hb]; exact lc_0 _)) ?_
              refine g_if_eq (tgt := 161) C dL_law_156 (by decide) (fun c_156 => ?_) (fun c_156 => ?_)
              · refine g_goto (tgt := 1219) C dL_law_161 (by decide) ?_
                refine g_iinc (v := nI (i + 5)) (lv' := [(5, .int (nI (i + 5))), (7, .int bv), (6, .int (nI (cdJoint (nJ σ)))), (0, .ref b), (1, .ref ((xK X).2.2 0)), (2, .ref ((xK X).2.2 27)), (3, .ref ((xK X).2.2 43)), (4, .ref ((xK X).2.2 44))]) C dL_law_1219 7 rfl (nI_add i 5) (by decide) rfl ?_
                refine g_goto (tgt := 28) C dL_law_1222 (by decide) ?_
                refine g_lv [3, 4, 5, 6, 7, 0] rfl ?_
                exact (ih28 (i + 5) σ2 _ _ (by omega) (by omega) f3 hk4 hn4)
              · exact absurd rfl c_156
          · exact absurd rfl c_139
      · refine g_tableIn (off := 120) (tgt := 164) C dL_law_44 (by rw [e9]; decide) (by rw [e9]; decide) (by rw [e9]; decide) (by decide) ?_
        refine g_aload_n C dL_law_164 1 rfl rfl ?_
        refine g_aload_n C dL_law_165 0 rfl rfl ?_
        refine g_iload C dL_law_166 5 rfl ?_
        refine g_iconst (v := nI 1) C dL_law_168 (by decide +kernel) ?_
        refine g_iadd C dL_law_169 ?_
        refine g_topi (y := nI (i + 1)) (nI_add i 1) ?_
        refine g_sld (j := (i + 1)) C hX hbl hbA dL_law_170 (by omega) (by omega) ?_
        refine g_aload_n C dL_law_171 0 rfl rfl ?_
        refine g_iload C dL_law_172 5 rfl ?_
        refine g_iconst (v := nI 2) C dL_law_174 (by decide +kernel) ?_
        refine g_iadd C dL_law_175 ?_
        refine g_topi (y := nI (i + 2)) (nI_add i 2) ?_
        refine g_sld (j := (i + 2)) C hX hbl hbA dL_law_176 (by omega) (by omega) ?_
        refine g_aload_n C dL_law_177 0 rfl rfl ?_
        refine g_iload C dL_law_178 5 rfl ?_
        refine g_iconst (v := nI 3) C dL_law_180 (by decide +kernel) ?_
        refine g_iadd C dL_law_181 ?_
        refine g_topi (y := nI (i + 3)) (nI_add i 3) ?_
        refine g_sld (j := (i + 3)) C hX hbl hbA dL_law_182 (by omega) (by omega) ?_
        refine g_i2d C dL_law_183 ?_
        refine g_ldc2d (v := 4593671619917905920) C dL_law_184 8 rfl ?_
        refine g_dmul C dL_law_187 ((scD_B _).F.ok) ?_
        refine g_topd (y := scD (sc (i + 3))) rfl ?_
        refine g_aload_n C dL_law_188 0 rfl rfl ?_
        refine g_iload C dL_law_189 5 rfl ?_
        refine g_iconst (v := nI 4) C dL_law_191 (by decide +kernel) ?_
        refine g_iadd C dL_law_192 ?_
        refine g_topi (y := nI (i + 4)) (nI_add i 4) ?_
        refine g_sld (j := (i + 4)) C hX hbl hbA dL_law_193 (by omega) (by omega) ?_
        refine g_i2d C dL_law_194 ?_
        refine g_ldc2d (v := 4593671619917905920) C dL_law_195 8 rfl ?_
        refine g_dmul C dL_law_198 ((scD_B _).F.ok) ?_
        refine g_topd (y := scD (sc (i + 4))) rfl ?_
        refine g_aload_n C dL_law_199 3 rfl rfl ?_
        refine g_callSHL (As := [.ref ((xK X).2.2 0), .int (sc (i + 1)), .int (sc (i + 2)), .double (scD (sc (i + 3))), .double (scD (sc (i + 4))), .ref ((xK X).2.2 43)]) (rest := []) C E dL_law_200 (kL_duct (xl X) hl0 (xK X) C.hD σ hRl.i (sc (i + 1)) (sc (i + 2)) (scD_B _).F (scD_B _).F) 6 gL_law_L_duct rfl (by decide +kernel) ⟨Nat.le_of_ble_eq_true rfl, Nat.le_of_ble_eq_true rfl⟩ ⟨Nat.le_trans (Nat.add_le_add_left (Nat.le_of_ble_eq_true rfl) kk) hkA, Nat.le_trans (Nat.add_le_add_left (Nat.le_of_ble_eq_true rfl) nn) hnA⟩ rfl rfl (Nat.le_of_ble_eq_true rfl) (fun Ec9 σ9 h9 => ?_) (fun rv9 σ9 h9 => ?_)
        · exact h9.elim
        · obtain ⟨r1, hr1⟩ : ∃ z, z = rv9 := ⟨_, rfl⟩
          obtain ⟨σ1, hs1⟩ : ∃ z, z = σ9 := ⟨_, rfl⟩
          rw [← hr1, ← hs1] at h9
          rw [← hr1, ← hs1]
          have hw1 := h9.1
          have hcdl := cdDuct_le (nJ σ) (pD (phC σ)) (sc (i + 1)) (sc (i + 2)) (scD (sc (i + 3))) (scD (sc (i + 4)))
          have hst := st_duct (scD_B _).F (scD_B _).F hRl h9
          refine g_widen (k2 := kk + 4) (n2 := nn + 24) (Nat.add_le_add_left (Nat.le_of_ble_eq_true rfl) kk) (Nat.add_le_add_left (Nat.le_of_ble_eq_true rfl) nn) ?_
          refine g_eq (σ2 := σ1) (lv2 := [(0, .ref b), (1, .ref ((xK X).2.2 0)), (2, .ref ((xK X).2.2 27)), (3, .ref ((xK X).2.2 43)), (4, .ref ((xK X).2.2 44)), (5, .int (nI i))]) (st2 := [.int (nI (cdDuct (nJ σ) (pD (phC σ)) (sc (i + 1)) (sc (i + 2)) (scD (sc (i + 3))) (scD (sc (i + 4)))))]) rfl rfl (by rw [hw1]; rfl) ?_
          refine g_istore (lv' := [(6, .int (nI (cdDuct (nJ σ) (pD (phC σ)) (sc (i + 1)) (sc (i + 2)) (scD (sc (i + 3))) (scD (sc (i + 4)))))), (0, .ref b), (1, .ref ((xK X).2.2 0)), (2, .ref ((xK X).2.2 27)), (3, .ref ((xK X).2.2 43)), (4, .ref ((xK X).2.2 44)), (5, .int (nI i))]) C dL_law_203 (by decide) rfl ?_
          refine g_aload_n C dL_law_205 3 rfl rfl ?_
          refine g_aload_n C dL_law_206 1 rfl rfl ?_
          refine g_iload C dL_law_207 6 rfl ?_
          refine g_iconst (v := nI 1) C dL_law_209 (by decide +kernel) ?_
          refine g_iadd C dL_law_210 ?_
          refine g_topi (y := nI (i + 1)) (nI_add i 1) ?_
          refine g_sld (j := (i + 1)) C hX hbl hbA dL_law_211 (by omega) (by omega) ?_
          refine g_aload_n C dL_law_212 1 rfl rfl ?_
          refine g_iload C dL_law_213 6 rfl ?_
          refine g_iconst (v := nI 2) C dL_law_215 (by decide +kernel) ?_
          refine g_iadd C dL_law_216 ?_
          refine g_topi (y := nI (i + 2)) (nI_add i 2) ?_
          refine g_sld (j := (i + 2)) C hX hbl hbA dL_law_217 (by omega) (by omega) ?_
          refine g_aload_n C dL_law_218 1 rfl rfl ?_
          refine g_iload C dL_law_219 6 rfl ?_
          refine g_iconst (v := nI 3) C dL_law_221 (by decide +kernel) ?_
          refine g_iadd C dL_law_222 ?_
          refine g_topi (y := nI (i + 3)) (nI_add i 3) ?_
          refine g_sld (j := (i + 3)) C hX hbl hbA dL_law_223 (by omega) (by omega) ?_
          refine g_i2d C dL_law_224 ?_
          refine g_ldc2d (v := 4593671619917905920) C dL_law_225 8 rfl ?_
          refine g_dmul C dL_law_228 ((scD_B _).F.ok) ?_
          refine g_topd (y := scD (sc (i + 3))) rfl ?_
          refine g_aload_n C dL_law_229 1 rfl rfl ?_
          refine g_iload C dL_law_230 6 rfl ?_
          refine g_iconst (v := nI 4) C dL_law_232 (by decide +kernel) ?_
          refine g_iadd C dL_law_233 ?_
          refine g_topi (y := nI (i + 4)) (nI_add i 4) ?_
          refine g_sld (j := (i + 4)) C hX hbl hbA dL_law_234 (by omega) (by omega) ?_
          refine g_i2d C dL_law_235 ?_
          refine g_ldc2d (v := 4593671619917905920) C dL_law_236 8 rfl ?_
          refine g_dmul C dL_law_239 ((scD_B _).F.ok) ?_
          refine g_topd (y := scD (sc (i + 4))) rfl ?_
          refine g_callV (As := [.int (sc (i + 1)), .int (sc (i + 2)), .double (scD (sc (i + 3))), .double (scD (sc (i + 4)))]) (rest := []) C dL_law_240 (kX7_duct (xl X) (xK X) C.hD σ1 (hRl.mi.mo hst.1) (sc (i + 1)) (sc (i + 2)) (scD (sc (i + 3))) (scD (sc (i + 4)))) wl27 rfl 4 gL_law_X7_duct rfl (by decide +kernel) ⟨Nat.le_of_ble_eq_true rfl, Nat.le_of_ble_eq_true rfl⟩ ⟨hkA, hnA⟩ rfl rfl (Nat.le_of_ble_eq_true rfl) (fun rv9 σ9 h9 => ?_)
          obtain ⟨r2, hr2⟩ : ∃ z, z = rv9 := ⟨_, rfl⟩
          obtain ⟨σ2, hs2⟩ : ∃ z, z = σ9 := ⟨_, rfl⟩
          rw [← hr2, ← hs2] at h9
          rw [← hr2, ← hs2]
          obtain ⟨-, f2, f3, bv, f4, f5⟩ := hst.2 r2 σ2 h9
          refine g_eq (σ2 := σ2) (lv2 := [(6, .int (nI (cdDuct (nJ σ) (pD (phC σ)) (sc (i + 1)) (sc (i + 2)) (scD (sc (i + 3))) (scD (sc (i + 4)))))), (0, .ref b), (1, .ref ((xK X).2.2 0)), (2, .ref ((xK X).2.2 27)), (3, .ref ((xK X).2.2 43)), (4, .ref ((xK X).2.2 44)), (5, .int (nI i))]) (st2 := [.int bv]) rfl rfl (by rw [f4]; rfl) ?_
          refine g_istore (lv' := [(7, .int bv), (6, .int (nI (cdDuct (nJ σ) (pD (phC σ)) (sc (i + 1)) (sc (i + 2)) (scD (sc (i + 3))) (scD (sc (i + 4)))))), (0, .ref b), (1, .ref ((xK X).2.2 0)), (2, .ref ((xK X).2.2 27)), (3, .ref ((xK X).2.2 43)), (4, .ref ((xK X).2.2 44)), (5, .int (nI i))]) C dL_law_243 (by decide) rfl ?_
          refine g_aload_n C dL_law_245 4 rfl rfl ?_
          refine g_callV (As := []) (rest := []) C dL_law_246 (kX7_thrown (xl X) (xK X) C.hD σ2) wl27 rfl 0 gL_law_X7_thrown rfl (by decide +kernel) ⟨Nat.le_of_ble_eq_true rfl, Nat.le_of_ble_eq_true rfl⟩ ⟨hkA, hnA⟩ rfl rfl (Nat.le_of_ble_eq_true rfl) (fun rv9 σ9 h9 => ?_)
          obtain ⟨h9a, h9b⟩ := h9
          refine g_eq (σ2 := σ2) (lv2 := [(7, .int bv), (6, .int (nI (cdDuct (nJ σ) (pD (phC σ)) (sc (i + 1)) (sc (i + 2)) (scD (sc (i + 3))) (scD (sc (i + 4)))))), (0, .ref b), (1, .ref ((xK X).2.2 0)), (2, .ref ((xK X).2.2 27)), (3, .ref ((xK X).2.2 43)), (4, .ref ((xK X).2.2 44)), (5, .int (nI i))]) (st2 := [.int (nI (cdDuct (nJ σ) (pD (phC σ)) (sc (i + 1)) (sc (i + 2)) (scD (sc (i + 3))) (scD (sc (i + 4)))))]) h9b rfl (by rw [h9a, f2]; rfl) ?_
          refine g_iload C dL_law_249 1 rfl ?_
          refine g_icmp_eq (tgt := 256) C dL_law_251 (by decide) (fun c_251 => ?_) (fun c_251 => ?_)
          · refine g_iload C dL_law_256 1 rfl ?_
            refine g_if_ne (tgt := 273) C dL_law_258 (by decide) (fun c_258 => ?_) (fun c_258 => ?_)
            · refine g_goto (tgt := 1219) C dL_law_273 (by decide) ?_
              refine g_iinc (v := nI (i + 5)) (lv' := [(5, .int (nI (i + 5))), (7, .int bv), (6, .int (nI (cdDuct (nJ σ) (pD (phC σ)) (sc (i + 1)) (sc (i + 2)) (scD (sc (i + 3))) (scD (sc (i + 4)))))), (0, .ref b), (1, .ref ((xK X).2.2 0)), (2, .ref ((xK X).2.2 27)), (3, .ref ((xK X).2.2 43)), (4, .ref ((xK X).2.2 44))]) C dL_law_1219 7 rfl (nI_add i 5) (by decide) rfl ?_
              refine g_goto (tgt := 28) C dL_law_1222 (by decide) ?_
              refine g_lv [3, 4, 5, 6, 7, 0] rfl ?_
              exact (ih28 (i + 5) σ2 _ _ (by omega) (by omega) f3 hk4 hn4)
            · have hc0 := (nI_eq (b := 0) (by omega) (by decide)).mp (Decidable.byContradiction fun h => absurd c_258 h)
              refine g_aload_n C dL_law_261 5 rfl rfl ?_
              refine g_iconst (v := nI 0) C dL_law_262 (by decide +kernel) ?_
              refine g_lald (j := 0) C dL_law_263 wl43 rfl (by decide) (by decide) ?_
              refine g_iload C dL_law_264 0 rfl ?_
              refine g_i2l C dL_law_266 ?_
              refine g_lcmp C dL_law_267 ?_
              refine g_topi (y := nI 0) (by first | (rw [f5 hc0]; exact lc_0 _) | (rw [f5 hc0, hb]; exact lc_0 _)) ?_
              refine g_if_eq (tgt := 273) C dL_law_268 (by decide) (fun c_268 => ?_) (fun c_268 => ?_)
              · refine g_goto (tgt := 1219) C dL_law_273 (by decide) ?_
                refine g_iinc (v := nI (i + 5)) (lv' := [(5, .int (nI (i + 5))), (7, .int bv), (6, .int (nI (cdDuct (nJ σ) (pD (phC σ)) (sc (i + 1)) (sc (i + 2)) (scD (sc (i + 3))) (scD (sc (i + 4)))))), (0, .ref b), (1, .ref ((xK X).2.2 0)), (2, .ref ((xK X).2.2 27)), (3, .ref ((xK X).2.2 43)), (4, .ref ((xK X).2.2 44))]) C dL_law_1219 7 rfl (nI_add i 5) (by decide) rfl ?_
                refine g_goto (tgt := 28) C dL_law_1222 (by decide) ?_
                refine g_lv [3, 4, 5, 6, 7, 0] rfl ?_
                exact (ih28 (i + 5) σ2 _ _ (by omega) (by omega) f3 hk4 hn4)
              · exact absurd rfl c_268
          · exact absurd rfl c_251
      · refine g_tableIn (off := 232) (tgt := 276) C dL_law_44 (by rw [e9]; decide) (by rw [e9]; decide) (by rw [e9]; decide) (by decide) ?_
        refine g_aload_n C dL_law_276 1 rfl rfl ?_
        refine g_aload_n C dL_law_277 0 rfl rfl ?_
        refine g_iload C dL_law_278 5 rfl ?_
        refine g_iconst (v := nI 1) C dL_law_280 (by decide +kernel) ?_
        refine g_iadd C dL_law_281 ?_
        refine g_topi (y := nI (i + 1)) (nI_add i 1) ?_
        refine g_sld (j := (i + 1)) C hX hbl hbA dL_law_282 (by omega) (by omega) ?_
        refine g_aload_n C dL_law_283 0 rfl rfl ?_
        refine g_iload C dL_law_284 5 rfl ?_
        refine g_iconst (v := nI 2) C dL_law_286 (by decide +kernel) ?_
        refine g_iadd C dL_law_287 ?_
        refine g_topi (y := nI (i + 2)) (nI_add i 2) ?_
        refine g_sld (j := (i + 2)) C hX hbl hbA dL_law_288 (by omega) (by omega) ?_
        refine g_i2d C dL_law_289 ?_
        refine g_ldc2d (v := 4593671619917905920) C dL_law_290 8 rfl ?_
        refine g_dmul C dL_law_293 ((scD_B _).F.ok) ?_
        refine g_topd (y := scD (sc (i + 2))) rfl ?_
        refine g_aload_n C dL_law_294 3 rfl rfl ?_
        refine g_callSHL (As := [.ref ((xK X).2.2 0), .int (sc (i + 1)), .double (scD (sc (i + 2))), .ref ((xK X).2.2 43)]) (rest := []) C E dL_law_295 (kL_machine (xl X) hl0 (xK X) C.hD σ hRl.i (sc (i + 1)) (scD_B _).F) 4 gL_law_L_machine rfl (by decide +kernel) ⟨Nat.le_of_ble_eq_true rfl, Nat.le_of_ble_eq_true rfl⟩ ⟨Nat.le_trans (Nat.add_le_add_left (Nat.le_of_ble_eq_true rfl) kk) hkA, Nat.le_trans (Nat.add_le_add_left (Nat.le_of_ble_eq_true rfl) nn) hnA⟩ rfl rfl (Nat.le_of_ble_eq_true rfl) (fun Ec9 σ9 h9 => ?_) (fun rv9 σ9 h9 => ?_)
        · exact h9.elim
        · obtain ⟨r1, hr1⟩ : ∃ z, z = rv9 := ⟨_, rfl⟩
          obtain ⟨σ1, hs1⟩ : ∃ z, z = σ9 := ⟨_, rfl⟩
          rw [← hr1, ← hs1] at h9
          rw [← hr1, ← hs1]
          have hw1 := h9.1
          have hcdl := cdMach_le (nJ σ) (pM (phC σ)) (sc (i + 1)) (scD (sc (i + 2)))
          have hst := st_machine (scD_B _).F hRl h9
          refine g_widen (k2 := kk + 4) (n2 := nn + 24) (Nat.add_le_add_left (Nat.le_of_ble_eq_true rfl) kk) (Nat.add_le_add_left (Nat.le_of_ble_eq_true rfl) nn) ?_
          refine g_eq (σ2 := σ1) (lv2 := [(0, .ref b), (1, .ref ((xK X).2.2 0)), (2, .ref ((xK X).2.2 27)), (3, .ref ((xK X).2.2 43)), (4, .ref ((xK X).2.2 44)), (5, .int (nI i))]) (st2 := [.int (nI (cdMach (nJ σ) (pM (phC σ)) (sc (i + 1)) (scD (sc (i + 2)))))]) rfl rfl (by rw [hw1]; rfl) ?_
          refine g_istore (lv' := [(6, .int (nI (cdMach (nJ σ) (pM (phC σ)) (sc (i + 1)) (scD (sc (i + 2)))))), (0, .ref b), (1, .ref ((xK X).2.2 0)), (2, .ref ((xK X).2.2 27)), (3, .ref ((xK X).2.2 43)), (4, .ref ((xK X).2.2 44)), (5, .int (nI i))]) C dL_law_298 (by decide) rfl ?_
          refine g_aload_n C dL_law_300 3 rfl rfl ?_
          refine g_aload_n C dL_law_301 1 rfl rfl ?_
          refine g_iload C dL_law_302 6 rfl ?_
          refine g_iconst (v := nI 1) C dL_law_304 (by decide +kernel) ?_
          refine g_iadd C dL_law_305 ?_
          refine g_topi (y := nI (i + 1)) (nI_add i 1) ?_
          refine g_sld (j := (i + 1)) C hX hbl hbA dL_law_306 (by omega) (by omega) ?_
          refine g_aload_n C dL_law_307 1 rfl rfl ?_
          refine g_iload C dL_law_308 6 rfl ?_
          refine g_iconst (v := nI 2) C dL_law_310 (by decide +kernel) ?_
          refine g_iadd C dL_law_311 ?_
          refine g_topi (y := nI (i + 2)) (nI_add i 2) ?_
          refine g_sld (j := (i + 2)) C hX hbl hbA dL_law_312 (by omega) (by omega) ?_
          refine g_i2d C dL_law_313 ?_
          refine g_ldc2d (v := 4593671619917905920) C dL_law_314 8 rfl ?_
          refine g_dmul C dL_law_317 ((scD_B _).F.ok) ?_
          refine g_topd (y := scD (sc (i + 2))) rfl ?_
          refine g_callV (As := [.int (sc (i + 1)), .double (scD (sc (i + 2)))]) (rest := []) C dL_law_318 (kX7_machine (xl X) (xK X) C.hD σ1 (hRl.mi.mo hst.1) (sc (i + 1)) (scD (sc (i + 2)))) wl27 rfl 2 gL_law_X7_machine rfl (by decide +kernel) ⟨Nat.le_of_ble_eq_true rfl, Nat.le_of_ble_eq_true rfl⟩ ⟨hkA, hnA⟩ rfl rfl (Nat.le_of_ble_eq_true rfl) (fun rv9 σ9 h9 => ?_)
          obtain ⟨r2, hr2⟩ : ∃ z, z = rv9 := ⟨_, rfl⟩
          obtain ⟨σ2, hs2⟩ : ∃ z, z = σ9 := ⟨_, rfl⟩
          rw [← hr2, ← hs2] at h9
          rw [← hr2, ← hs2]
          obtain ⟨-, f2, f3, bv, f4, f5⟩ := hst.2 r2 σ2 h9
          refine g_eq (σ2 := σ2) (lv2 := [(6, .int (nI (cdMach (nJ σ) (pM (phC σ)) (sc (i + 1)) (scD (sc (i + 2)))))), (0, .ref b), (1, .ref ((xK X).2.2 0)), (2, .ref ((xK X).2.2 27)), (3, .ref ((xK X).2.2 43)), (4, .ref ((xK X).2.2 44)), (5, .int (nI i))]) (st2 := [.int bv]) rfl rfl (by rw [f4]; rfl) ?_
          refine g_istore (lv' := [(7, .int bv), (6, .int (nI (cdMach (nJ σ) (pM (phC σ)) (sc (i + 1)) (scD (sc (i + 2)))))), (0, .ref b), (1, .ref ((xK X).2.2 0)), (2, .ref ((xK X).2.2 27)), (3, .ref ((xK X).2.2 43)), (4, .ref ((xK X).2.2 44)), (5, .int (nI i))]) C dL_law_321 (by decide) rfl ?_
          refine g_aload_n C dL_law_323 4 rfl rfl ?_
          refine g_callV (As := []) (rest := []) C dL_law_324 (kX7_thrown (xl X) (xK X) C.hD σ2) wl27 rfl 0 gL_law_X7_thrown rfl (by decide +kernel) ⟨Nat.le_of_ble_eq_true rfl, Nat.le_of_ble_eq_true rfl⟩ ⟨hkA, hnA⟩ rfl rfl (Nat.le_of_ble_eq_true rfl) (fun rv9 σ9 h9 => ?_)
          obtain ⟨h9a, h9b⟩ := h9
          refine g_eq (σ2 := σ2) (lv2 := [(7, .int bv), (6, .int (nI (cdMach (nJ σ) (pM (phC σ)) (sc (i + 1)) (scD (sc (i + 2)))))), (0, .ref b), (1, .ref ((xK X).2.2 0)), (2, .ref ((xK X).2.2 27)), (3, .ref ((xK X).2.2 43)), (4, .ref ((xK X).2.2 44)), (5, .int (nI i))]) (st2 := [.int (nI (cdMach (nJ σ) (pM (phC σ)) (sc (i + 1)) (scD (sc (i + 2)))))]) h9b rfl (by rw [h9a, f2]; rfl) ?_
          refine g_iload C dL_law_327 1 rfl ?_
          refine g_icmp_eq (tgt := 334) C dL_law_329 (by decide) (fun c_329 => ?_) (fun c_329 => ?_)
          · refine g_iload C dL_law_334 1 rfl ?_
            refine g_if_ne (tgt := 351) C dL_law_336 (by decide) (fun c_336 => ?_) (fun c_336 => ?_)
            · refine g_goto (tgt := 1219) C dL_law_351 (by decide) ?_
              refine g_iinc (v := nI (i + 5)) (lv' := [(5, .int (nI (i + 5))), (7, .int bv), (6, .int (nI (cdMach (nJ σ) (pM (phC σ)) (sc (i + 1)) (scD (sc (i + 2)))))), (0, .ref b), (1, .ref ((xK X).2.2 0)), (2, .ref ((xK X).2.2 27)), (3, .ref ((xK X).2.2 43)), (4, .ref ((xK X).2.2 44))]) C dL_law_1219 7 rfl (nI_add i 5) (by decide) rfl ?_
              refine g_goto (tgt := 28) C dL_law_1222 (by decide) ?_
              refine g_lv [3, 4, 5, 6, 7, 0] rfl ?_
              exact (ih28 (i + 5) σ2 _ _ (by omega) (by omega) f3 hk4 hn4)
            · have hc0 := (nI_eq (b := 0) (by omega) (by decide)).mp (Decidable.byContradiction fun h => absurd c_336 h)
              refine g_aload_n C dL_law_339 5 rfl rfl ?_
              refine g_iconst (v := nI 0) C dL_law_340 (by decide +kernel) ?_
              refine g_lald (j := 0) C dL_law_341 wl43 rfl (by decide) (by decide) ?_
              refine g_iload C dL_law_342 0 rfl ?_
              refine g_i2l C dL_law_344 ?_
              refine g_lcmp C dL_law_345 ?_
              refine g_topi (y := nI 0) (by first | (rw [f5 hc0]; exact lc_0 _) | (rw [f5 hc0, hb]; exact lc_0 _)) ?_
              refine g_if_eq (tgt := 351) C dL_law_346 (by decide) (fun c_346 => ?_) (fun c_346 => ?_)
              · refine g_goto (tgt := 1219) C dL_law_351 (by decide) ?_
                refine g_iinc (v := nI (i + 5)) (lv' := [(5, .int (nI (i + 5))), (7, .int bv), (6, .int (nI (cdMach (nJ σ) (pM (phC σ)) (sc (i + 1)) (scD (sc (i + 2)))))), (0, .ref b), (1, .ref ((xK X).2.2 0)), (2, .ref ((xK X).2.2 27)), (3, .ref ((xK X).2.2 43)), (4, .ref ((xK X).2.2 44))]) C dL_law_1219 7 rfl (nI_add i 5) (by decide) rfl ?_
                refine g_goto (tgt := 28) C dL_law_1222 (by decide) ?_
                refine g_lv [3, 4, 5, 6, 7, 0] rfl ?_
                exact (ih28 (i + 5) σ2 _ _ (by omega) (by omega) f3 hk4 hn4)
              · exact absurd rfl c_346
          · exact absurd rfl c_329
      · refine g_tableIn (off := 310) (tgt := 354) C dL_law_44 (by rw [e9]; decide) (by rw [e9]; decide) (by rw [e9]; decide) (by decide) ?_
        refine g_aload_n C dL_law_354 1 rfl rfl ?_
        refine g_aload_n C dL_law_355 0 rfl rfl ?_
        refine g_iload C dL_law_356 5 rfl ?_
        refine g_iconst (v := nI 1) C dL_law_358 (by decide +kernel) ?_
        refine g_iadd C dL_law_359 ?_
        refine g_topi (y := nI (i + 1)) (nI_add i 1) ?_
        refine g_sld (j := (i + 1)) C hX hbl hbA dL_law_360 (by omega) (by omega) ?_
        refine g_aload_n C dL_law_361 0 rfl rfl ?_
        refine g_iload C dL_law_362 5 rfl ?_
        refine g_iconst (v := nI 2) C dL_law_364 (by decide +kernel) ?_
        refine g_iadd C dL_law_365 ?_
        refine g_topi (y := nI (i + 2)) (nI_add i 2) ?_
        refine g_sld (j := (i + 2)) C hX hbl hbA dL_law_366 (by omega) (by omega) ?_
        refine g_aload_n C dL_law_367 0 rfl rfl ?_
        refine g_iload C dL_law_368 5 rfl ?_
        refine g_iconst (v := nI 3) C dL_law_370 (by decide +kernel) ?_
        refine g_iadd C dL_law_371 ?_
        refine g_topi (y := nI (i + 3)) (nI_add i 3) ?_
        refine g_sld (j := (i + 3)) C hX hbl hbA dL_law_372 (by omega) (by omega) ?_
        refine g_if_eq (tgt := 380) C dL_law_373 (by decide) (fun c_373 => ?_) (fun c_373 => ?_)
        · refine g_iconst (v := nI 0) C dL_law_380 (by decide +kernel) ?_
          refine g_topi (y := bI (decide (¬ sc (i + 3) = 0))) (by first | (rw [decide_eq_false (fun h => h c_373)]; rfl) | (rw [decide_eq_true c_373]; rfl)) ?_
          refine g_callSHL (As := [.ref ((xK X).2.2 0), .int (sc (i + 1)), .int (sc (i + 2)), .int (bI (decide (¬ sc (i + 3) = 0)))]) (rest := []) C E dL_law_381 (kL_use (xl X) hl0 (xK X) C.hD σ hRl.i (sc (i + 1)) (sc (i + 2)) (decide (¬ sc (i + 3) = 0))) 4 gL_law_L_use rfl (by decide +kernel) ⟨Nat.le_of_ble_eq_true rfl, Nat.le_of_ble_eq_true rfl⟩ ⟨Nat.le_trans (Nat.add_le_add_left (Nat.le_of_ble_eq_true rfl) kk) hkA, Nat.le_trans (Nat.add_le_add_left (Nat.le_of_ble_eq_true rfl) nn) hnA⟩ rfl rfl (Nat.le_of_ble_eq_true rfl) (fun Ec9 σ9 h9 => ?_) (fun rv9 σ9 h9 => ?_)
          · exact h9.elim
          · obtain ⟨r1, hr1⟩ : ∃ z, z = rv9 := ⟨_, rfl⟩
            obtain ⟨σ1, hs1⟩ : ∃ z, z = σ9 := ⟨_, rfl⟩
            rw [← hr1, ← hs1] at h9
            rw [← hr1, ← hs1]
            have hw1 := h9.1
            have hcdl := cdUse_le (pM (phC σ)) (sc (i + 1)) (sc (i + 2))
            have hst := st_use hRl h9
            refine g_widen (k2 := kk + 4) (n2 := nn + 24) (Nat.add_le_add_left (Nat.le_of_ble_eq_true rfl) kk) (Nat.add_le_add_left (Nat.le_of_ble_eq_true rfl) nn) ?_
            refine g_eq (σ2 := σ1) (lv2 := [(0, .ref b), (1, .ref ((xK X).2.2 0)), (2, .ref ((xK X).2.2 27)), (3, .ref ((xK X).2.2 43)), (4, .ref ((xK X).2.2 44)), (5, .int (nI i))]) (st2 := [.int (nI (cdUse (pM (phC σ)) (sc (i + 1)) (sc (i + 2))))]) rfl rfl (by rw [hw1]; rfl) ?_
            refine g_istore (lv' := [(6, .int (nI (cdUse (pM (phC σ)) (sc (i + 1)) (sc (i + 2))))), (0, .ref b), (1, .ref ((xK X).2.2 0)), (2, .ref ((xK X).2.2 27)), (3, .ref ((xK X).2.2 43)), (4, .ref ((xK X).2.2 44)), (5, .int (nI i))]) C dL_law_384 (by decide) rfl ?_
            refine g_aload_n C dL_law_386 3 rfl rfl ?_
            refine g_aload_n C dL_law_387 1 rfl rfl ?_
            refine g_iload C dL_law_388 6 rfl ?_
            refine g_iconst (v := nI 1) C dL_law_390 (by decide +kernel) ?_
            refine g_iadd C dL_law_391 ?_
            refine g_topi (y := nI (i + 1)) (nI_add i 1) ?_
            refine g_sld (j := (i + 1)) C hX hbl hbA dL_law_392 (by omega) (by omega) ?_
            refine g_aload_n C dL_law_393 1 rfl rfl ?_
            refine g_iload C dL_law_394 6 rfl ?_
            refine g_iconst (v := nI 2) C dL_law_396 (by decide +kernel) ?_
            refine g_iadd C dL_law_397 ?_
            refine g_topi (y := nI (i + 2)) (nI_add i 2) ?_
            refine g_sld (j := (i + 2)) C hX hbl hbA dL_law_398 (by omega) (by omega) ?_
            refine g_aload_n C dL_law_399 1 rfl rfl ?_
            refine g_iload C dL_law_400 6 rfl ?_
            refine g_iconst (v := nI 3) C dL_law_402 (by decide +kernel) ?_
            refine g_iadd C dL_law_403 ?_
            refine g_topi (y := nI (i + 3)) (nI_add i 3) ?_
            refine g_sld (j := (i + 3)) C hX hbl hbA dL_law_404 (by omega) (by omega) ?_
            refine g_if_eq (tgt := 412) C dL_law_405 (by decide) (fun c_405 => ?_) (fun c_405 => ?_)
            · refine g_iconst (v := nI 0) C dL_law_412 (by decide +kernel) ?_
              refine g_topi (y := bI (decide (¬ sc (i + 3) = 0))) (by first | (rw [decide_eq_false (fun h => h c_405)]; rfl) | (rw [decide_eq_true c_405]; rfl)) ?_
              refine g_callV (As := [.int (sc (i + 1)), .int (sc (i + 2)), .int (bI (decide (¬ sc (i + 3) = 0)))]) (rest := []) C dL_law_413 (kX7_use (xl X) (xK X) C.hD σ1 (hRl.mi.mo hst.1) (sc (i + 1)) (sc (i + 2)) (decide (¬ sc (i + 3) = 0))) wl27 rfl 3 gL_law_X7_use rfl (by decide +kernel) ⟨Nat.le_of_ble_eq_true rfl, Nat.le_of_ble_eq_true rfl⟩ ⟨hkA, hnA⟩ rfl rfl (Nat.le_of_ble_eq_true rfl) (fun rv9 σ9 h9 => ?_)
              obtain ⟨r2, hr2⟩ : ∃ z, z = rv9 := ⟨_, rfl⟩
              obtain ⟨σ2, hs2⟩ : ∃ z, z = σ9 := ⟨_, rfl⟩
              rw [← hr2, ← hs2] at h9
              rw [← hr2, ← hs2]
              obtain ⟨-, f2, f3, f4⟩ := hst.2 r2 σ2 h9
              refine g_eq (σ2 := σ2) (lv2 := [(6, .int (nI (cdUse (pM (phC σ)) (sc (i + 1)) (sc (i + 2))))), (0, .ref b), (1, .ref ((xK X).2.2 0)), (2, .ref ((xK X).2.2 27)), (3, .ref ((xK X).2.2 43)), (4, .ref ((xK X).2.2 44)), (5, .int (nI i))]) (st2 := []) rfl rfl (by rw [f4]; rfl) ?_
              refine g_aload_n C dL_law_416 3 rfl rfl ?_
              refine g_callV (As := []) (rest := []) C dL_law_417 (kX7_thrown (xl X) (xK X) C.hD σ2) wl27 rfl 0 gL_law_X7_thrown rfl (by decide +kernel) ⟨Nat.le_of_ble_eq_true rfl, Nat.le_of_ble_eq_true rfl⟩ ⟨hkA, hnA⟩ rfl rfl (Nat.le_of_ble_eq_true rfl) (fun rv9 σ9 h9 => ?_)
              obtain ⟨h9a, h9b⟩ := h9
              refine g_eq (σ2 := σ2) (lv2 := [(6, .int (nI (cdUse (pM (phC σ)) (sc (i + 1)) (sc (i + 2))))), (0, .ref b), (1, .ref ((xK X).2.2 0)), (2, .ref ((xK X).2.2 27)), (3, .ref ((xK X).2.2 43)), (4, .ref ((xK X).2.2 44)), (5, .int (nI i))]) (st2 := [.int (nI (cdUse (pM (phC σ)) (sc (i + 1)) (sc (i + 2))))]) h9b rfl (by rw [h9a, f2]; rfl) ?_
              refine g_iload C dL_law_420 0 rfl ?_
              refine g_icmp_eq (tgt := 427) C dL_law_422 (by decide) (fun c_422 => ?_) (fun c_422 => ?_)
              · refine g_goto (tgt := 1219) C dL_law_427 (by decide) ?_
                refine g_iinc (v := nI (i + 5)) (lv' := [(5, .int (nI (i + 5))), (6, .int (nI (cdUse (pM (phC σ)) (sc (i + 1)) (sc (i + 2))))), (0, .ref b), (1, .ref ((xK X).2.2 0)), (2, .ref ((xK X).2.2 27)), (3, .ref ((xK X).2.2 43)), (4, .ref ((xK X).2.2 44))]) C dL_law_1219 6 rfl (nI_add i 5) (by decide) rfl ?_
                refine g_goto (tgt := 28) C dL_law_1222 (by decide) ?_
                refine g_lv [2, 3, 4, 5, 6, 0] rfl ?_
                exact (ih28 (i + 5) σ2 _ _ (by omega) (by omega) f3 hk4 hn4)
              · exact absurd rfl c_422
            · refine g_iconst (v := nI 1) C dL_law_408 (by decide +kernel) ?_
              refine g_goto (tgt := 413) C dL_law_409 (by decide) ?_
              refine g_topi (y := bI (decide (¬ sc (i + 3) = 0))) (by first | (rw [decide_eq_false (fun h => h c_405)]; rfl) | (rw [decide_eq_true c_405]; rfl)) ?_
              refine g_callV (As := [.int (sc (i + 1)), .int (sc (i + 2)), .int (bI (decide (¬ sc (i + 3) = 0)))]) (rest := []) C dL_law_413 (kX7_use (xl X) (xK X) C.hD σ1 (hRl.mi.mo hst.1) (sc (i + 1)) (sc (i + 2)) (decide (¬ sc (i + 3) = 0))) wl27 rfl 3 gL_law_X7_use rfl (by decide +kernel) ⟨Nat.le_of_ble_eq_true rfl, Nat.le_of_ble_eq_true rfl⟩ ⟨hkA, hnA⟩ rfl rfl (Nat.le_of_ble_eq_true rfl) (fun rv9 σ9 h9 => ?_)
              obtain ⟨r2, hr2⟩ : ∃ z, z = rv9 := ⟨_, rfl⟩
              obtain ⟨σ2, hs2⟩ : ∃ z, z = σ9 := ⟨_, rfl⟩
              rw [← hr2, ← hs2] at h9
              rw [← hr2, ← hs2]
              obtain ⟨-, f2, f3, f4⟩ := hst.2 r2 σ2 h9
              refine g_eq (σ2 := σ2) (lv2 := [(6, .int (nI (cdUse (pM (phC σ)) (sc (i + 1)) (sc (i + 2))))), (0, .ref b), (1, .ref ((xK X).2.2 0)), (2, .ref ((xK X).2.2 27)), (3, .ref ((xK X).2.2 43)), (4, .ref ((xK X).2.2 44)), (5, .int (nI i))]) (st2 := []) rfl rfl (by rw [f4]; rfl) ?_
              refine g_aload_n C dL_law_416 3 rfl rfl ?_
              refine g_callV (As := []) (rest := []) C dL_law_417 (kX7_thrown (xl X) (xK X) C.hD σ2) wl27 rfl 0 gL_law_X7_thrown rfl (by decide +kernel) ⟨Nat.le_of_ble_eq_true rfl, Nat.le_of_ble_eq_true rfl⟩ ⟨hkA, hnA⟩ rfl rfl (Nat.le_of_ble_eq_true rfl) (fun rv9 σ9 h9 => ?_)
              obtain ⟨h9a, h9b⟩ := h9
              refine g_eq (σ2 := σ2) (lv2 := [(6, .int (nI (cdUse (pM (phC σ)) (sc (i + 1)) (sc (i + 2))))), (0, .ref b), (1, .ref ((xK X).2.2 0)), (2, .ref ((xK X).2.2 27)), (3, .ref ((xK X).2.2 43)), (4, .ref ((xK X).2.2 44)), (5, .int (nI i))]) (st2 := [.int (nI (cdUse (pM (phC σ)) (sc (i + 1)) (sc (i + 2))))]) h9b rfl (by rw [h9a, f2]; rfl) ?_
              refine g_iload C dL_law_420 0 rfl ?_
              refine g_icmp_eq (tgt := 427) C dL_law_422 (by decide) (fun c_422 => ?_) (fun c_422 => ?_)
              · refine g_goto (tgt := 1219) C dL_law_427 (by decide) ?_
                refine g_iinc (v := nI (i + 5)) (lv' := [(5, .int (nI (i + 5))), (6, .int (nI (cdUse (pM (phC σ)) (sc (i + 1)) (sc (i + 2))))), (0, .ref b), (1, .ref ((xK X).2.2 0)), (2, .ref ((xK X).2.2 27)), (3, .ref ((xK X).2.2 43)), (4, .ref ((xK X).2.2 44))]) C dL_law_1219 6 rfl (nI_add i 5) (by decide) rfl ?_
                refine g_goto (tgt := 28) C dL_law_1222 (by decide) ?_
                refine g_lv [2, 3, 4, 5, 6, 0] rfl ?_
                exact (ih28 (i + 5) σ2 _ _ (by omega) (by omega) f3 hk4 hn4)
              · exact absurd rfl c_422
        · refine g_iconst (v := nI 1) C dL_law_376 (by decide +kernel) ?_
          refine g_goto (tgt := 381) C dL_law_377 (by decide) ?_
          refine g_topi (y := bI (decide (¬ sc (i + 3) = 0))) (by first | (rw [decide_eq_false (fun h => h c_373)]; rfl) | (rw [decide_eq_true c_373]; rfl)) ?_
          refine g_callSHL (As := [.ref ((xK X).2.2 0), .int (sc (i + 1)), .int (sc (i + 2)), .int (bI (decide (¬ sc (i + 3) = 0)))]) (rest := []) C E dL_law_381 (kL_use (xl X) hl0 (xK X) C.hD σ hRl.i (sc (i + 1)) (sc (i + 2)) (decide (¬ sc (i + 3) = 0))) 4 gL_law_L_use rfl (by decide +kernel) ⟨Nat.le_of_ble_eq_true rfl, Nat.le_of_ble_eq_true rfl⟩ ⟨Nat.le_trans (Nat.add_le_add_left (Nat.le_of_ble_eq_true rfl) kk) hkA, Nat.le_trans (Nat.add_le_add_left (Nat.le_of_ble_eq_true rfl) nn) hnA⟩ rfl rfl (Nat.le_of_ble_eq_true rfl) (fun Ec9 σ9 h9 => ?_) (fun rv9 σ9 h9 => ?_)
          · exact h9.elim
          · obtain ⟨r1, hr1⟩ : ∃ z, z = rv9 := ⟨_, rfl⟩
            obtain ⟨σ1, hs1⟩ : ∃ z, z = σ9 := ⟨_, rfl⟩
            rw [← hr1, ← hs1] at h9
            rw [← hr1, ← hs1]
            have hw1 := h9.1
            have hcdl := cdUse_le (pM (phC σ)) (sc (i + 1)) (sc (i + 2))
            have hst := st_use hRl h9
            refine g_widen (k2 := kk + 4) (n2 := nn + 24) (Nat.add_le_add_left (Nat.le_of_ble_eq_true rfl) kk) (Nat.add_le_add_left (Nat.le_of_ble_eq_true rfl) nn) ?_
            refine g_eq (σ2 := σ1) (lv2 := [(0, .ref b), (1, .ref ((xK X).2.2 0)), (2, .ref ((xK X).2.2 27)), (3, .ref ((xK X).2.2 43)), (4, .ref ((xK X).2.2 44)), (5, .int (nI i))]) (st2 := [.int (nI (cdUse (pM (phC σ)) (sc (i + 1)) (sc (i + 2))))]) rfl rfl (by rw [hw1]; rfl) ?_
            refine g_istore (lv' := [(6, .int (nI (cdUse (pM (phC σ)) (sc (i + 1)) (sc (i + 2))))), (0, .ref b), (1, .ref ((xK X).2.2 0)), (2, .ref ((xK X).2.2 27)), (3, .ref ((xK X).2.2 43)), (4, .ref ((xK X).2.2 44)), (5, .int (nI i))]) C dL_law_384 (by decide) rfl ?_
            refine g_aload_n C dL_law_386 3 rfl rfl ?_
            refine g_aload_n C dL_law_387 1 rfl rfl ?_
            refine g_iload C dL_law_388 6 rfl ?_
            refine g_iconst (v := nI 1) C dL_law_390 (by decide +kernel) ?_
            refine g_iadd C dL_law_391 ?_
            refine g_topi (y := nI (i + 1)) (nI_add i 1) ?_
            refine g_sld (j := (i + 1)) C hX hbl hbA dL_law_392 (by omega) (by omega) ?_
            refine g_aload_n C dL_law_393 1 rfl rfl ?_
            refine g_iload C dL_law_394 6 rfl ?_
            refine g_iconst (v := nI 2) C dL_law_396 (by decide +kernel) ?_
            refine g_iadd C dL_law_397 ?_
            refine g_topi (y := nI (i + 2)) (nI_add i 2) ?_
            refine g_sld (j := (i + 2)) C hX hbl hbA dL_law_398 (by omega) (by omega) ?_
            refine g_aload_n C dL_law_399 1 rfl rfl ?_
            refine g_iload C dL_law_400 6 rfl ?_
            refine g_iconst (v := nI 3) C dL_law_402 (by decide +kernel) ?_
            refine g_iadd C dL_law_403 ?_
            refine g_topi (y := nI (i + 3)) (nI_add i 3) ?_
            refine g_sld (j := (i + 3)) C hX hbl hbA dL_law_404 (by omega) (by omega) ?_
            refine g_if_eq (tgt := 412) C dL_law_405 (by decide) (fun c_405 => ?_) (fun c_405 => ?_)
            · refine g_iconst (v := nI 0) C dL_law_412 (by decide +kernel) ?_
              refine g_topi (y := bI (decide (¬ sc (i + 3) = 0))) (by first | (rw [decide_eq_false (fun h => h c_405)]; rfl) | (rw [decide_eq_true c_405]; rfl)) ?_
              refine g_callV (As := [.int (sc (i + 1)), .int (sc (i + 2)), .int (bI (decide (¬ sc (i + 3) = 0)))]) (rest := []) C dL_law_413 (kX7_use (xl X) (xK X) C.hD σ1 (hRl.mi.mo hst.1) (sc (i + 1)) (sc (i + 2)) (decide (¬ sc (i + 3) = 0))) wl27 rfl 3 gL_law_X7_use rfl (by decide +kernel) ⟨Nat.le_of_ble_eq_true rfl, Nat.le_of_ble_eq_true rfl⟩ ⟨hkA, hnA⟩ rfl rfl (Nat.le_of_ble_eq_true rfl) (fun rv9 σ9 h9 => ?_)
              obtain ⟨r2, hr2⟩ : ∃ z, z = rv9 := ⟨_, rfl⟩
              obtain ⟨σ2, hs2⟩ : ∃ z, z = σ9 := ⟨_, rfl⟩
              rw [← hr2, ← hs2] at h9
              rw [← hr2, ← hs2]
              obtain ⟨-, f2, f3, f4⟩ := hst.2 r2 σ2 h9
              refine g_eq (σ2 := σ2) (lv2 := [(6, .int (nI (cdUse (pM (phC σ)) (sc (i + 1)) (sc (i + 2))))), (0, .ref b), (1, .ref ((xK X).2.2 0)), (2, .ref ((xK X).2.2 27)), (3, .ref ((xK X).2.2 43)), (4, .ref ((xK X).2.2 44)), (5, .int (nI i))]) (st2 := []) rfl rfl (by rw [f4]; rfl) ?_
              refine g_aload_n C dL_law_416 3 rfl rfl ?_
              refine g_callV (As := []) (rest := []) C dL_law_417 (kX7_thrown (xl X) (xK X) C.hD σ2) wl27 rfl 0 gL_law_X7_thrown rfl (by decide +kernel) ⟨Nat.le_of_ble_eq_true rfl, Nat.le_of_ble_eq_true rfl⟩ ⟨hkA, hnA⟩ rfl rfl (Nat.le_of_ble_eq_true rfl) (fun rv9 σ9 h9 => ?_)
              obtain ⟨h9a, h9b⟩ := h9
              refine g_eq (σ2 := σ2) (lv2 := [(6, .int (nI (cdUse (pM (phC σ)) (sc (i + 1)) (sc (i + 2))))), (0, .ref b), (1, .ref ((xK X).2.2 0)), (2, .ref ((xK X).2.2 27)), (3, .ref ((xK X).2.2 43)), (4, .ref ((xK X).2.2 44)), (5, .int (nI i))]) (st2 := [.int (nI (cdUse (pM (phC σ)) (sc (i + 1)) (sc (i + 2))))]) h9b rfl (by rw [h9a, f2]; rfl) ?_
              refine g_iload C dL_law_420 0 rfl ?_
              refine g_icmp_eq (tgt := 427) C dL_law_422 (by decide) (fun c_422 => ?_) (fun c_422 => ?_)
              · refine g_goto (tgt := 1219) C dL_law_427 (by decide) ?_
                refine g_iinc (v := nI (i + 5)) (lv' := [(5, .int (nI (i + 5))), (6, .int (nI (cdUse (pM (phC σ)) (sc (i + 1)) (sc (i + 2))))), (0, .ref b), (1, .ref ((xK X).2.2 0)), (2, .ref ((xK X).2.2 27)), (3, .ref ((xK X).2.2 43)), (4, .ref ((xK X).2.2 44))]) C dL_law_1219 6 rfl (nI_add i 5) (by decide) rfl ?_
                refine g_goto (tgt := 28) C dL_law_1222 (by decide) ?_
                refine g_lv [2, 3, 4, 5, 6, 0] rfl ?_
                exact (ih28 (i + 5) σ2 _ _ (by omega) (by omega) f3 hk4 hn4)
              · exact absurd rfl c_422
            · refine g_iconst (v := nI 1) C dL_law_408 (by decide +kernel) ?_
              refine g_goto (tgt := 413) C dL_law_409 (by decide) ?_
              refine g_topi (y := bI (decide (¬ sc (i + 3) = 0))) (by first | (rw [decide_eq_false (fun h => h c_405)]; rfl) | (rw [decide_eq_true c_405]; rfl)) ?_
              refine g_callV (As := [.int (sc (i + 1)), .int (sc (i + 2)), .int (bI (decide (¬ sc (i + 3) = 0)))]) (rest := []) C dL_law_413 (kX7_use (xl X) (xK X) C.hD σ1 (hRl.mi.mo hst.1) (sc (i + 1)) (sc (i + 2)) (decide (¬ sc (i + 3) = 0))) wl27 rfl 3 gL_law_X7_use rfl (by decide +kernel) ⟨Nat.le_of_ble_eq_true rfl, Nat.le_of_ble_eq_true rfl⟩ ⟨hkA, hnA⟩ rfl rfl (Nat.le_of_ble_eq_true rfl) (fun rv9 σ9 h9 => ?_)
              obtain ⟨r2, hr2⟩ : ∃ z, z = rv9 := ⟨_, rfl⟩
              obtain ⟨σ2, hs2⟩ : ∃ z, z = σ9 := ⟨_, rfl⟩
              rw [← hr2, ← hs2] at h9
              rw [← hr2, ← hs2]
              obtain ⟨-, f2, f3, f4⟩ := hst.2 r2 σ2 h9
              refine g_eq (σ2 := σ2) (lv2 := [(6, .int (nI (cdUse (pM (phC σ)) (sc (i + 1)) (sc (i + 2))))), (0, .ref b), (1, .ref ((xK X).2.2 0)), (2, .ref ((xK X).2.2 27)), (3, .ref ((xK X).2.2 43)), (4, .ref ((xK X).2.2 44)), (5, .int (nI i))]) (st2 := []) rfl rfl (by rw [f4]; rfl) ?_
              refine g_aload_n C dL_law_416 3 rfl rfl ?_
              refine g_callV (As := []) (rest := []) C dL_law_417 (kX7_thrown (xl X) (xK X) C.hD σ2) wl27 rfl 0 gL_law_X7_thrown rfl (by decide +kernel) ⟨Nat.le_of_ble_eq_true rfl, Nat.le_of_ble_eq_true rfl⟩ ⟨hkA, hnA⟩ rfl rfl (Nat.le_of_ble_eq_true rfl) (fun rv9 σ9 h9 => ?_)
              obtain ⟨h9a, h9b⟩ := h9
              refine g_eq (σ2 := σ2) (lv2 := [(6, .int (nI (cdUse (pM (phC σ)) (sc (i + 1)) (sc (i + 2))))), (0, .ref b), (1, .ref ((xK X).2.2 0)), (2, .ref ((xK X).2.2 27)), (3, .ref ((xK X).2.2 43)), (4, .ref ((xK X).2.2 44)), (5, .int (nI i))]) (st2 := [.int (nI (cdUse (pM (phC σ)) (sc (i + 1)) (sc (i + 2))))]) h9b rfl (by rw [h9a, f2]; rfl) ?_
              refine g_iload C dL_law_420 0 rfl ?_
              refine g_icmp_eq (tgt := 427) C dL_law_422 (by decide) (fun c_422 => ?_) (fun c_422 => ?_)
              · refine g_goto (tgt := 1219) C dL_law_427 (by decide) ?_
                refine g_iinc (v := nI (i + 5)) (lv' := [(5, .int (nI (i + 5))), (6, .int (nI (cdUse (pM (phC σ)) (sc (i + 1)) (sc (i + 2))))), (0, .ref b), (1, .ref ((xK X).2.2 0)), (2, .ref ((xK X).2.2 27)), (3, .ref ((xK X).2.2 43)), (4, .ref ((xK X).2.2 44))]) C dL_law_1219 6 rfl (nI_add i 5) (by decide) rfl ?_
                refine g_goto (tgt := 28) C dL_law_1222 (by decide) ?_
                refine g_lv [2, 3, 4, 5, 6, 0] rfl ?_
                exact (ih28 (i + 5) σ2 _ _ (by omega) (by omega) f3 hk4 hn4)
              · exact absurd rfl c_422
      · refine g_tableIn (off := 386) (tgt := 430) C dL_law_44 (by rw [e9]; decide) (by rw [e9]; decide) (by rw [e9]; decide) (by decide) ?_
        refine g_aload_n C dL_law_430 1 rfl rfl ?_
        refine g_aload_n C dL_law_431 0 rfl rfl ?_
        refine g_iload C dL_law_432 5 rfl ?_
        refine g_iconst (v := nI 1) C dL_law_434 (by decide +kernel) ?_
        refine g_iadd C dL_law_435 ?_
        refine g_topi (y := nI (i + 1)) (nI_add i 1) ?_
        refine g_sld (j := (i + 1)) C hX hbl hbA dL_law_436 (by omega) (by omega) ?_
        refine g_i2d C dL_law_437 ?_
        refine g_ldc2d (v := 4593671619917905920) C dL_law_438 8 rfl ?_
        refine g_dmul C dL_law_441 ((scD_B _).F.ok) ?_
        refine g_topd (y := scD (sc (i + 1))) rfl ?_
        refine g_aload_n C dL_law_442 0 rfl rfl ?_
        refine g_iload C dL_law_443 5 rfl ?_
        refine g_iconst (v := nI 2) C dL_law_445 (by decide +kernel) ?_
        refine g_iadd C dL_law_446 ?_
        refine g_topi (y := nI (i + 2)) (nI_add i 2) ?_
        refine g_sld (j := (i + 2)) C hX hbl hbA dL_law_447 (by omega) (by omega) ?_
        refine g_i2d C dL_law_448 ?_
        refine g_ldc2d (v := 4593671619917905920) C dL_law_449 8 rfl ?_
        refine g_dmul C dL_law_452 ((scD_B _).F.ok) ?_
        refine g_topd (y := scD (sc (i + 2))) rfl ?_
        refine g_callSHL (As := [.ref ((xK X).2.2 0), .double (scD (sc (i + 1))), .double (scD (sc (i + 2)))]) (rest := []) C E dL_law_453 (kL_fan (xl X) hl0 (xK X) C.hD σ (scD (sc (i + 1))) (scD (sc (i + 2)))) 3 gL_law_L_fan rfl (by decide +kernel) ⟨Nat.le_of_ble_eq_true rfl, Nat.le_of_ble_eq_true rfl⟩ ⟨Nat.le_trans (Nat.add_le_add_left (Nat.le_of_ble_eq_true rfl) kk) hkA, Nat.le_trans (Nat.add_le_add_left (Nat.le_of_ble_eq_true rfl) nn) hnA⟩ rfl rfl (Nat.le_of_ble_eq_true rfl) (fun Ec9 σ9 h9 => ?_) (fun rv9 σ9 h9 => ?_)
        · exact h9.elim
        · obtain ⟨r1, hr1⟩ : ∃ z, z = rv9 := ⟨_, rfl⟩
          obtain ⟨σ1, hs1⟩ : ∃ z, z = σ9 := ⟨_, rfl⟩
          rw [← hr1, ← hs1] at h9
          rw [← hr1, ← hs1]
          have hw1 := h9.1
          have hcdl := cdFan_le (scD (sc (i + 1))) (scD (sc (i + 2)))
          have hst := st_fan (scD_B _).F (scD_B _).F hRl h9
          refine g_widen (k2 := kk + 4) (n2 := nn + 24) (Nat.add_le_add_left (Nat.le_of_ble_eq_true rfl) kk) (Nat.add_le_add_left (Nat.le_of_ble_eq_true rfl) nn) ?_
          refine g_eq (σ2 := σ1) (lv2 := [(0, .ref b), (1, .ref ((xK X).2.2 0)), (2, .ref ((xK X).2.2 27)), (3, .ref ((xK X).2.2 43)), (4, .ref ((xK X).2.2 44)), (5, .int (nI i))]) (st2 := [.int (nI (cdFan (scD (sc (i + 1))) (scD (sc (i + 2)))))]) rfl rfl (by rw [hw1]; rfl) ?_
          refine g_istore (lv' := [(6, .int (nI (cdFan (scD (sc (i + 1))) (scD (sc (i + 2)))))), (0, .ref b), (1, .ref ((xK X).2.2 0)), (2, .ref ((xK X).2.2 27)), (3, .ref ((xK X).2.2 43)), (4, .ref ((xK X).2.2 44)), (5, .int (nI i))]) C dL_law_456 (by decide) rfl ?_
          refine g_aload_n C dL_law_458 3 rfl rfl ?_
          refine g_aload_n C dL_law_459 1 rfl rfl ?_
          refine g_iload C dL_law_460 6 rfl ?_
          refine g_iconst (v := nI 1) C dL_law_462 (by decide +kernel) ?_
          refine g_iadd C dL_law_463 ?_
          refine g_topi (y := nI (i + 1)) (nI_add i 1) ?_
          refine g_sld (j := (i + 1)) C hX hbl hbA dL_law_464 (by omega) (by omega) ?_
          refine g_i2d C dL_law_465 ?_
          refine g_ldc2d (v := 4593671619917905920) C dL_law_466 8 rfl ?_
          refine g_dmul C dL_law_469 ((scD_B _).F.ok) ?_
          refine g_topd (y := scD (sc (i + 1))) rfl ?_
          refine g_aload_n C dL_law_470 1 rfl rfl ?_
          refine g_iload C dL_law_471 6 rfl ?_
          refine g_iconst (v := nI 2) C dL_law_473 (by decide +kernel) ?_
          refine g_iadd C dL_law_474 ?_
          refine g_topi (y := nI (i + 2)) (nI_add i 2) ?_
          refine g_sld (j := (i + 2)) C hX hbl hbA dL_law_475 (by omega) (by omega) ?_
          refine g_i2d C dL_law_476 ?_
          refine g_ldc2d (v := 4593671619917905920) C dL_law_477 8 rfl ?_
          refine g_dmul C dL_law_480 ((scD_B _).F.ok) ?_
          refine g_topd (y := scD (sc (i + 2))) rfl ?_
          refine g_callV (As := [.double (scD (sc (i + 1))), .double (scD (sc (i + 2)))]) (rest := []) C dL_law_481 (kX7_fan (xl X) (xK X) C.hD σ1 (hRl.mi.mo hst.1) (scD (sc (i + 1))) (scD (sc (i + 2)))) wl27 rfl 2 gL_law_X7_fan rfl (by decide +kernel) ⟨Nat.le_of_ble_eq_true rfl, Nat.le_of_ble_eq_true rfl⟩ ⟨hkA, hnA⟩ rfl rfl (Nat.le_of_ble_eq_true rfl) (fun rv9 σ9 h9 => ?_)
          obtain ⟨r2, hr2⟩ : ∃ z, z = rv9 := ⟨_, rfl⟩
          obtain ⟨σ2, hs2⟩ : ∃ z, z = σ9 := ⟨_, rfl⟩
          rw [← hr2, ← hs2] at h9
          rw [← hr2, ← hs2]
          obtain ⟨-, f2, f3, f4⟩ := hst.2 r2 σ2 h9
          refine g_eq (σ2 := σ2) (lv2 := [(6, .int (nI (cdFan (scD (sc (i + 1))) (scD (sc (i + 2)))))), (0, .ref b), (1, .ref ((xK X).2.2 0)), (2, .ref ((xK X).2.2 27)), (3, .ref ((xK X).2.2 43)), (4, .ref ((xK X).2.2 44)), (5, .int (nI i))]) (st2 := []) rfl rfl (by rw [f4]; rfl) ?_
          refine g_aload_n C dL_law_484 3 rfl rfl ?_
          refine g_callV (As := []) (rest := []) C dL_law_485 (kX7_thrown (xl X) (xK X) C.hD σ2) wl27 rfl 0 gL_law_X7_thrown rfl (by decide +kernel) ⟨Nat.le_of_ble_eq_true rfl, Nat.le_of_ble_eq_true rfl⟩ ⟨hkA, hnA⟩ rfl rfl (Nat.le_of_ble_eq_true rfl) (fun rv9 σ9 h9 => ?_)
          obtain ⟨h9a, h9b⟩ := h9
          refine g_eq (σ2 := σ2) (lv2 := [(6, .int (nI (cdFan (scD (sc (i + 1))) (scD (sc (i + 2)))))), (0, .ref b), (1, .ref ((xK X).2.2 0)), (2, .ref ((xK X).2.2 27)), (3, .ref ((xK X).2.2 43)), (4, .ref ((xK X).2.2 44)), (5, .int (nI i))]) (st2 := [.int (nI (cdFan (scD (sc (i + 1))) (scD (sc (i + 2)))))]) h9b rfl (by rw [h9a, f2]; rfl) ?_
          refine g_iload C dL_law_488 0 rfl ?_
          refine g_icmp_eq (tgt := 495) C dL_law_490 (by decide) (fun c_490 => ?_) (fun c_490 => ?_)
          · refine g_goto (tgt := 1219) C dL_law_495 (by decide) ?_
            refine g_iinc (v := nI (i + 5)) (lv' := [(5, .int (nI (i + 5))), (6, .int (nI (cdFan (scD (sc (i + 1))) (scD (sc (i + 2)))))), (0, .ref b), (1, .ref ((xK X).2.2 0)), (2, .ref ((xK X).2.2 27)), (3, .ref ((xK X).2.2 43)), (4, .ref ((xK X).2.2 44))]) C dL_law_1219 6 rfl (nI_add i 5) (by decide) rfl ?_
            refine g_goto (tgt := 28) C dL_law_1222 (by decide) ?_
            refine g_lv [2, 3, 4, 5, 6, 0] rfl ?_
            exact (ih28 (i + 5) σ2 _ _ (by omega) (by omega) f3 hk4 hn4)
          · exact absurd rfl c_490
      · refine g_tableIn (off := 454) (tgt := 498) C dL_law_44 (by rw [e9]; decide) (by rw [e9]; decide) (by rw [e9]; decide) (by decide) ?_
        refine g_aload_n C dL_law_498 1 rfl rfl ?_
        refine g_aload_n C dL_law_499 0 rfl rfl ?_
        refine g_iload C dL_law_500 5 rfl ?_
        refine g_iconst (v := nI 1) C dL_law_502 (by decide +kernel) ?_
        refine g_iadd C dL_law_503 ?_
        refine g_topi (y := nI (i + 1)) (nI_add i 1) ?_
        refine g_sld (j := (i + 1)) C hX hbl hbA dL_law_504 (by omega) (by omega) ?_
        refine g_aload_n C dL_law_505 3 rfl rfl ?_
        refine g_callSHL (As := [.ref ((xK X).2.2 0), .int (sc (i + 1)), .ref ((xK X).2.2 43)]) (rest := []) C E dL_law_506 (kL_solve (xl X) hl0 (xK X) C.hD σ hRl.i (sc (i + 1))) 3 gL_law_L_solve rfl (by decide +kernel) ⟨Nat.le_of_ble_eq_true rfl, Nat.le_of_ble_eq_true rfl⟩ ⟨Nat.le_trans (Nat.add_le_add_left (Nat.le_of_ble_eq_true rfl) kk) hkA, Nat.le_trans (Nat.add_le_add_left (Nat.le_of_ble_eq_true rfl) nn) hnA⟩ rfl rfl (Nat.le_of_ble_eq_true rfl) (fun Ec9 σ9 h9 => ?_) (fun rv9 σ9 h9 => ?_)
        · exact h9.elim
        · obtain ⟨r1, hr1⟩ : ∃ z, z = rv9 := ⟨_, rfl⟩
          obtain ⟨σ1, hs1⟩ : ∃ z, z = σ9 := ⟨_, rfl⟩
          rw [← hr1, ← hs1] at h9
          rw [← hr1, ← hs1]
          have hw1 := h9.1
          have hcdl := cdSolve_le (sc (i + 1))
          have hst := st_solve hRl h9
          refine g_widen (k2 := kk + 4) (n2 := nn + 24) (Nat.add_le_add_left (Nat.le_of_ble_eq_true rfl) kk) (Nat.add_le_add_left (Nat.le_of_ble_eq_true rfl) nn) ?_
          refine g_eq (σ2 := σ1) (lv2 := [(0, .ref b), (1, .ref ((xK X).2.2 0)), (2, .ref ((xK X).2.2 27)), (3, .ref ((xK X).2.2 43)), (4, .ref ((xK X).2.2 44)), (5, .int (nI i))]) (st2 := [.int (nI (cdSolve (sc (i + 1))))]) rfl rfl (by rw [hw1]; rfl) ?_
          refine g_istore (lv' := [(6, .int (nI (cdSolve (sc (i + 1))))), (0, .ref b), (1, .ref ((xK X).2.2 0)), (2, .ref ((xK X).2.2 27)), (3, .ref ((xK X).2.2 43)), (4, .ref ((xK X).2.2 44)), (5, .int (nI i))]) C dL_law_509 (by decide) rfl ?_
          refine g_aload_n C dL_law_511 3 rfl rfl ?_
          refine g_aload_n C dL_law_512 1 rfl rfl ?_
          refine g_iload C dL_law_513 6 rfl ?_
          refine g_iconst (v := nI 1) C dL_law_515 (by decide +kernel) ?_
          refine g_iadd C dL_law_516 ?_
          refine g_topi (y := nI (i + 1)) (nI_add i 1) ?_
          refine g_sld (j := (i + 1)) C hX hbl hbA dL_law_517 (by omega) (by omega) ?_
          refine g_callV (As := [.int (sc (i + 1))]) (rest := []) C dL_law_518 (kX7_solve (xl X) (xK X) C.hD σ1 (hRl.mi.mo hst.1) (sc (i + 1))) wl27 rfl 1 gL_law_X7_solve rfl (by decide +kernel) ⟨Nat.le_of_ble_eq_true rfl, Nat.le_of_ble_eq_true rfl⟩ ⟨hkA, hnA⟩ rfl rfl (Nat.le_of_ble_eq_true rfl) (fun rv9 σ9 h9 => ?_)
          obtain ⟨r2, hr2⟩ : ∃ z, z = rv9 := ⟨_, rfl⟩
          obtain ⟨σ2, hs2⟩ : ∃ z, z = σ9 := ⟨_, rfl⟩
          rw [← hr2, ← hs2] at h9
          rw [← hr2, ← hs2]
          obtain ⟨-, f2, f3, bv, f4, f5⟩ := hst.2 r2 σ2 h9
          refine g_eq (σ2 := σ2) (lv2 := [(6, .int (nI (cdSolve (sc (i + 1))))), (0, .ref b), (1, .ref ((xK X).2.2 0)), (2, .ref ((xK X).2.2 27)), (3, .ref ((xK X).2.2 43)), (4, .ref ((xK X).2.2 44)), (5, .int (nI i))]) (st2 := [.int bv]) rfl rfl (by rw [f4]; rfl) ?_
          refine g_istore (lv' := [(7, .int bv), (6, .int (nI (cdSolve (sc (i + 1))))), (0, .ref b), (1, .ref ((xK X).2.2 0)), (2, .ref ((xK X).2.2 27)), (3, .ref ((xK X).2.2 43)), (4, .ref ((xK X).2.2 44)), (5, .int (nI i))]) C dL_law_521 (by decide) rfl ?_
          refine g_aload_n C dL_law_523 4 rfl rfl ?_
          refine g_callV (As := []) (rest := []) C dL_law_524 (kX7_thrown (xl X) (xK X) C.hD σ2) wl27 rfl 0 gL_law_X7_thrown rfl (by decide +kernel) ⟨Nat.le_of_ble_eq_true rfl, Nat.le_of_ble_eq_true rfl⟩ ⟨hkA, hnA⟩ rfl rfl (Nat.le_of_ble_eq_true rfl) (fun rv9 σ9 h9 => ?_)
          obtain ⟨h9a, h9b⟩ := h9
          refine g_eq (σ2 := σ2) (lv2 := [(7, .int bv), (6, .int (nI (cdSolve (sc (i + 1))))), (0, .ref b), (1, .ref ((xK X).2.2 0)), (2, .ref ((xK X).2.2 27)), (3, .ref ((xK X).2.2 43)), (4, .ref ((xK X).2.2 44)), (5, .int (nI i))]) (st2 := [.int (nI (cdSolve (sc (i + 1))))]) h9b rfl (by rw [h9a, f2]; rfl) ?_
          refine g_iload C dL_law_527 1 rfl ?_
          refine g_icmp_eq (tgt := 534) C dL_law_529 (by decide) (fun c_529 => ?_) (fun c_529 => ?_)
          · refine g_iload C dL_law_534 1 rfl ?_
            refine g_if_ne (tgt := 551) C dL_law_536 (by decide) (fun c_536 => ?_) (fun c_536 => ?_)
            · refine g_goto (tgt := 1219) C dL_law_551 (by decide) ?_
              refine g_iinc (v := nI (i + 5)) (lv' := [(5, .int (nI (i + 5))), (7, .int bv), (6, .int (nI (cdSolve (sc (i + 1))))), (0, .ref b), (1, .ref ((xK X).2.2 0)), (2, .ref ((xK X).2.2 27)), (3, .ref ((xK X).2.2 43)), (4, .ref ((xK X).2.2 44))]) C dL_law_1219 7 rfl (nI_add i 5) (by decide) rfl ?_
              refine g_goto (tgt := 28) C dL_law_1222 (by decide) ?_
              refine g_lv [3, 4, 5, 6, 7, 0] rfl ?_
              exact (ih28 (i + 5) σ2 _ _ (by omega) (by omega) f3 hk4 hn4)
            · have hc0 := (nI_eq (b := 0) (by omega) (by decide)).mp (Decidable.byContradiction fun h => absurd c_536 h)
              refine g_aload_n C dL_law_539 5 rfl rfl ?_
              refine g_iconst (v := nI 0) C dL_law_540 (by decide +kernel) ?_
              refine g_lald (j := 0) C dL_law_541 wl43 rfl (by decide) (by decide) ?_
              refine g_iload C dL_law_542 0 rfl ?_
              refine g_i2l C dL_law_544 ?_
              refine g_lcmp C dL_law_545 ?_
              refine g_topi (y := nI 0) (by first | (rw [f5 hc0]; exact lc_0 _) | (rw [f5 hc0, hb]; exact lc_0 _)) ?_
              refine g_if_eq (tgt := 551) C dL_law_546 (by decide) (fun c_546 => ?_) (fun c_546 => ?_)
              · refine g_goto (tgt := 1219) C dL_law_551 (by decide) ?_
                refine g_iinc (v := nI (i + 5)) (lv' := [(5, .int (nI (i + 5))), (7, .int bv), (6, .int (nI (cdSolve (sc (i + 1))))), (0, .ref b), (1, .ref ((xK X).2.2 0)), (2, .ref ((xK X).2.2 27)), (3, .ref ((xK X).2.2 43)), (4, .ref ((xK X).2.2 44))]) C dL_law_1219 7 rfl (nI_add i 5) (by decide) rfl ?_
                refine g_goto (tgt := 28) C dL_law_1222 (by decide) ?_
                refine g_lv [3, 4, 5, 6, 7, 0] rfl ?_
                exact (ih28 (i + 5) σ2 _ _ (by omega) (by omega) f3 hk4 hn4)
              · exact absurd rfl c_546
          · exact absurd rfl c_529
      · refine g_tableIn (off := 510) (tgt := 554) C dL_law_44 (by rw [e9]; decide) (by rw [e9]; decide) (by rw [e9]; decide) (by decide) ?_
        refine g_aload_n C dL_law_554 1 rfl rfl ?_
        refine g_aload_n C dL_law_555 0 rfl rfl ?_
        refine g_iload C dL_law_556 5 rfl ?_
        refine g_iconst (v := nI 1) C dL_law_558 (by decide +kernel) ?_
        refine g_iadd C dL_law_559 ?_
        refine g_topi (y := nI (i + 1)) (nI_add i 1) ?_
        refine g_sld (j := (i + 1)) C hX hbl hbA dL_law_560 (by omega) (by omega) ?_
        refine g_aload_n C dL_law_561 0 rfl rfl ?_
        refine g_iload C dL_law_562 5 rfl ?_
        refine g_iconst (v := nI 2) C dL_law_564 (by decide +kernel) ?_
        refine g_iadd C dL_law_565 ?_
        refine g_topi (y := nI (i + 2)) (nI_add i 2) ?_
        refine g_sld (j := (i + 2)) C hX hbl hbA dL_law_566 (by omega) (by omega) ?_
        refine g_aload C dL_law_567 4 rfl ?_
        refine g_callSHL (As := [.ref ((xK X).2.2 0), .int (sc (i + 1)), .int (sc (i + 2)), .ref ((xK X).2.2 44)]) (rest := []) C E dL_law_569 (kL_at (xl X) hl0 (xK X) C.hD σ hRl.i (sc (i + 1)) (sc (i + 2))) 4 gL_law_L_at rfl (by decide +kernel) ⟨Nat.le_of_ble_eq_true rfl, Nat.le_of_ble_eq_true rfl⟩ ⟨Nat.le_trans (Nat.add_le_add_left (Nat.le_of_ble_eq_true rfl) kk) hkA, Nat.le_trans (Nat.add_le_add_left (Nat.le_of_ble_eq_true rfl) nn) hnA⟩ rfl rfl (Nat.le_of_ble_eq_true rfl) (fun Ec9 σ9 h9 => ?_) (fun rv9 σ9 h9 => ?_)
        · exact h9.elim
        · obtain ⟨r1, hr1⟩ : ∃ z, z = rv9 := ⟨_, rfl⟩
          obtain ⟨σ1, hs1⟩ : ∃ z, z = σ9 := ⟨_, rfl⟩
          rw [← hr1, ← hs1] at h9
          rw [← hr1, ← hs1]
          have hw1 := h9.1
          have hcdl := cdQ_le (nJ σ) 2 (svC σ) (sc (i + 1)) (sc (i + 2))
          have hst := st_at hRl h9
          refine g_widen (k2 := kk + 4) (n2 := nn + 24) (Nat.add_le_add_left (Nat.le_of_ble_eq_true rfl) kk) (Nat.add_le_add_left (Nat.le_of_ble_eq_true rfl) nn) ?_
          refine g_eq (σ2 := σ1) (lv2 := [(0, .ref b), (1, .ref ((xK X).2.2 0)), (2, .ref ((xK X).2.2 27)), (3, .ref ((xK X).2.2 43)), (4, .ref ((xK X).2.2 44)), (5, .int (nI i))]) (st2 := [.int (nI (cdQ (nJ σ) 2 (svC σ) (sc (i + 1)) (sc (i + 2))))]) rfl rfl (by rw [hw1]; rfl) ?_
          refine g_istore (lv' := [(6, .int (nI (cdQ (nJ σ) 2 (svC σ) (sc (i + 1)) (sc (i + 2))))), (0, .ref b), (1, .ref ((xK X).2.2 0)), (2, .ref ((xK X).2.2 27)), (3, .ref ((xK X).2.2 43)), (4, .ref ((xK X).2.2 44)), (5, .int (nI i))]) C dL_law_572 (by decide) rfl ?_
          refine g_aload_n C dL_law_574 3 rfl rfl ?_
          refine g_aload_n C dL_law_575 1 rfl rfl ?_
          refine g_iload C dL_law_576 6 rfl ?_
          refine g_iconst (v := nI 1) C dL_law_578 (by decide +kernel) ?_
          refine g_iadd C dL_law_579 ?_
          refine g_topi (y := nI (i + 1)) (nI_add i 1) ?_
          refine g_sld (j := (i + 1)) C hX hbl hbA dL_law_580 (by omega) (by omega) ?_
          refine g_aload_n C dL_law_581 1 rfl rfl ?_
          refine g_iload C dL_law_582 6 rfl ?_
          refine g_iconst (v := nI 2) C dL_law_584 (by decide +kernel) ?_
          refine g_iadd C dL_law_585 ?_
          refine g_topi (y := nI (i + 2)) (nI_add i 2) ?_
          refine g_sld (j := (i + 2)) C hX hbl hbA dL_law_586 (by omega) (by omega) ?_
          refine g_callV (As := [.int (sc (i + 1)), .int (sc (i + 2))]) (rest := []) C dL_law_587 (kX7_at (xl X) (xK X) C.hD σ1 (hRl.mi.mo hst.1) (sc (i + 1)) (sc (i + 2))) wl27 rfl 2 gL_law_X7_at rfl (by decide +kernel) ⟨Nat.le_of_ble_eq_true rfl, Nat.le_of_ble_eq_true rfl⟩ ⟨hkA, hnA⟩ rfl rfl (Nat.le_of_ble_eq_true rfl) (fun rv9 σ9 h9 => ?_)
          obtain ⟨r2, hr2⟩ : ∃ z, z = rv9 := ⟨_, rfl⟩
          obtain ⟨σ2, hs2⟩ : ∃ z, z = σ9 := ⟨_, rfl⟩
          rw [← hr2, ← hs2] at h9
          rw [← hr2, ← hs2]
          obtain ⟨-, f2, f3, bv, f4, f5⟩ := hst.2 r2 σ2 h9
          refine g_eq (σ2 := σ2) (lv2 := [(6, .int (nI (cdQ (nJ σ) 2 (svC σ) (sc (i + 1)) (sc (i + 2))))), (0, .ref b), (1, .ref ((xK X).2.2 0)), (2, .ref ((xK X).2.2 27)), (3, .ref ((xK X).2.2 43)), (4, .ref ((xK X).2.2 44)), (5, .int (nI i))]) (st2 := [.double bv]) rfl rfl (by rw [f4]; rfl) ?_
          refine g_dstore (lv' := [(7, .double bv), (6, .int (nI (cdQ (nJ σ) 2 (svC σ) (sc (i + 1)) (sc (i + 2))))), (0, .ref b), (1, .ref ((xK X).2.2 0)), (2, .ref ((xK X).2.2 27)), (3, .ref ((xK X).2.2 43)), (4, .ref ((xK X).2.2 44)), (5, .int (nI i))]) C dL_law_590 (by decide) rfl ?_
          refine g_aload_n C dL_law_592 4 rfl rfl ?_
          refine g_callV (As := []) (rest := []) C dL_law_593 (kX7_thrown (xl X) (xK X) C.hD σ2) wl27 rfl 0 gL_law_X7_thrown rfl (by decide +kernel) ⟨Nat.le_of_ble_eq_true rfl, Nat.le_of_ble_eq_true rfl⟩ ⟨hkA, hnA⟩ rfl rfl (Nat.le_of_ble_eq_true rfl) (fun rv9 σ9 h9 => ?_)
          obtain ⟨h9a, h9b⟩ := h9
          refine g_eq (σ2 := σ2) (lv2 := [(7, .double bv), (6, .int (nI (cdQ (nJ σ) 2 (svC σ) (sc (i + 1)) (sc (i + 2))))), (0, .ref b), (1, .ref ((xK X).2.2 0)), (2, .ref ((xK X).2.2 27)), (3, .ref ((xK X).2.2 43)), (4, .ref ((xK X).2.2 44)), (5, .int (nI i))]) (st2 := [.int (nI (cdQ (nJ σ) 2 (svC σ) (sc (i + 1)) (sc (i + 2))))]) h9b rfl (by rw [h9a, f2]; rfl) ?_
          refine g_iload C dL_law_596 1 rfl ?_
          refine g_icmp_eq (tgt := 603) C dL_law_598 (by decide) (fun c_598 => ?_) (fun c_598 => ?_)
          · refine g_iload C dL_law_603 1 rfl ?_
            refine g_if_ne (tgt := 640) C dL_law_605 (by decide) (fun c_605 => ?_) (fun c_605 => ?_)
            · refine g_goto (tgt := 1219) C dL_law_640 (by decide) ?_
              refine g_iinc (v := nI (i + 5)) (lv' := [(5, .int (nI (i + 5))), (7, .double bv), (6, .int (nI (cdQ (nJ σ) 2 (svC σ) (sc (i + 1)) (sc (i + 2))))), (0, .ref b), (1, .ref ((xK X).2.2 0)), (2, .ref ((xK X).2.2 27)), (3, .ref ((xK X).2.2 43)), (4, .ref ((xK X).2.2 44))]) C dL_law_1219 7 rfl (nI_add i 5) (by decide) rfl ?_
              refine g_goto (tgt := 28) C dL_law_1222 (by decide) ?_
              refine g_lv [3, 4, 5, 6, 7, 0] rfl ?_
              exact (ih28 (i + 5) σ2 _ _ (by omega) (by omega) f3 hk4 hn4)
            · have hc0 := (nI_eq (b := 0) (by omega) (by decide)).mp (Decidable.byContradiction fun h => absurd c_605 h)
              refine g_aload C dL_law_608 6 rfl ?_
              refine g_iconst (v := nI 0) C dL_law_610 (by decide +kernel) ?_
              refine g_dald (j := 0) C dL_law_611 wl44 rfl (by decide) (by decide) ?_
              refine g_dload C dL_law_612 0 rfl ?_
              refine g_dcmp C dL_law_614 ?_
              refine g_topi (y := nI 0) (cv_eq0 (f5 hc0) _) ?_
              refine g_if_eq (tgt := 640) C dL_law_615 (by decide) (fun c_615 => ?_) (fun c_615 => ?_)
              · refine g_goto (tgt := 1219) C dL_law_640 (by decide) ?_
                refine g_iinc (v := nI (i + 5)) (lv' := [(5, .int (nI (i + 5))), (7, .double bv), (6, .int (nI (cdQ (nJ σ) 2 (svC σ) (sc (i + 1)) (sc (i + 2))))), (0, .ref b), (1, .ref ((xK X).2.2 0)), (2, .ref ((xK X).2.2 27)), (3, .ref ((xK X).2.2 43)), (4, .ref ((xK X).2.2 44))]) C dL_law_1219 7 rfl (nI_add i 5) (by decide) rfl ?_
                refine g_goto (tgt := 28) C dL_law_1222 (by decide) ?_
                refine g_lv [3, 4, 5, 6, 7, 0] rfl ?_
                exact (ih28 (i + 5) σ2 _ _ (by omega) (by omega) f3 hk4 hn4)
              · exact absurd rfl c_615
          · exact absurd rfl c_598
      · refine g_tableIn (off := 599) (tgt := 643) C dL_law_44 (by rw [e9]; decide) (by rw [e9]; decide) (by rw [e9]; decide) (by decide) ?_
        refine g_aload_n C dL_law_643 1 rfl rfl ?_
        refine g_aload_n C dL_law_644 0 rfl rfl ?_
        refine g_iload C dL_law_645 5 rfl ?_
        refine g_iconst (v := nI 1) C dL_law_647 (by decide +kernel) ?_
        refine g_iadd C dL_law_648 ?_
        refine g_topi (y := nI (i + 1)) (nI_add i 1) ?_
        refine g_sld (j := (i + 1)) C hX hbl hbA dL_law_649 (by omega) (by omega) ?_
        refine g_aload_n C dL_law_650 0 rfl rfl ?_
        refine g_iload C dL_law_651 5 rfl ?_
        refine g_iconst (v := nI 2) C dL_law_653 (by decide +kernel) ?_
        refine g_iadd C dL_law_654 ?_
        refine g_topi (y := nI (i + 2)) (nI_add i 2) ?_
        refine g_sld (j := (i + 2)) C hX hbl hbA dL_law_655 (by omega) (by omega) ?_
        refine g_aload C dL_law_656 4 rfl ?_
        refine g_callSHL (As := [.ref ((xK X).2.2 0), .int (sc (i + 1)), .int (sc (i + 2)), .ref ((xK X).2.2 44)]) (rest := []) C E dL_law_658 (kL_of (xl X) hl0 (xK X) C.hD σ hRl.i (sc (i + 1)) (sc (i + 2))) 4 gL_law_L_of rfl (by decide +kernel) ⟨Nat.le_of_ble_eq_true rfl, Nat.le_of_ble_eq_true rfl⟩ ⟨Nat.le_trans (Nat.add_le_add_left (Nat.le_of_ble_eq_true rfl) kk) hkA, Nat.le_trans (Nat.add_le_add_left (Nat.le_of_ble_eq_true rfl) nn) hnA⟩ rfl rfl (Nat.le_of_ble_eq_true rfl) (fun Ec9 σ9 h9 => ?_) (fun rv9 σ9 h9 => ?_)
        · exact h9.elim
        · obtain ⟨r1, hr1⟩ : ∃ z, z = rv9 := ⟨_, rfl⟩
          obtain ⟨σ1, hs1⟩ : ∃ z, z = σ9 := ⟨_, rfl⟩
          rw [← hr1, ← hs1] at h9
          rw [← hr1, ← hs1]
          have hw1 := h9.1
          have hcdl := cdQ_le (pD (phC σ)) 4 (svC σ) (sc (i + 1)) (sc (i + 2))
          have hst := st_of hRl h9
          refine g_widen (k2 := kk + 4) (n2 := nn + 24) (Nat.add_le_add_left (Nat.le_of_ble_eq_true rfl) kk) (Nat.add_le_add_left (Nat.le_of_ble_eq_true rfl) nn) ?_
          refine g_eq (σ2 := σ1) (lv2 := [(0, .ref b), (1, .ref ((xK X).2.2 0)), (2, .ref ((xK X).2.2 27)), (3, .ref ((xK X).2.2 43)), (4, .ref ((xK X).2.2 44)), (5, .int (nI i))]) (st2 := [.int (nI (cdQ (pD (phC σ)) 4 (svC σ) (sc (i + 1)) (sc (i + 2))))]) rfl rfl (by rw [hw1]; rfl) ?_
          refine g_istore (lv' := [(6, .int (nI (cdQ (pD (phC σ)) 4 (svC σ) (sc (i + 1)) (sc (i + 2))))), (0, .ref b), (1, .ref ((xK X).2.2 0)), (2, .ref ((xK X).2.2 27)), (3, .ref ((xK X).2.2 43)), (4, .ref ((xK X).2.2 44)), (5, .int (nI i))]) C dL_law_661 (by decide) rfl ?_
          refine g_aload_n C dL_law_663 3 rfl rfl ?_
          refine g_aload_n C dL_law_664 1 rfl rfl ?_
          refine g_iload C dL_law_665 6 rfl ?_
          refine g_iconst (v := nI 1) C dL_law_667 (by decide +kernel) ?_
          refine g_iadd C dL_law_668 ?_
          refine g_topi (y := nI (i + 1)) (nI_add i 1) ?_
          refine g_sld (j := (i + 1)) C hX hbl hbA dL_law_669 (by omega) (by omega) ?_
          refine g_aload_n C dL_law_670 1 rfl rfl ?_
          refine g_iload C dL_law_671 6 rfl ?_
          refine g_iconst (v := nI 2) C dL_law_673 (by decide +kernel) ?_
          refine g_iadd C dL_law_674 ?_
          refine g_topi (y := nI (i + 2)) (nI_add i 2) ?_
          refine g_sld (j := (i + 2)) C hX hbl hbA dL_law_675 (by omega) (by omega) ?_
          refine g_callV (As := [.int (sc (i + 1)), .int (sc (i + 2))]) (rest := []) C dL_law_676 (kX7_of (xl X) (xK X) C.hD σ1 (hRl.mi.mo hst.1) (sc (i + 1)) (sc (i + 2))) wl27 rfl 2 gL_law_X7_of rfl (by decide +kernel) ⟨Nat.le_of_ble_eq_true rfl, Nat.le_of_ble_eq_true rfl⟩ ⟨hkA, hnA⟩ rfl rfl (Nat.le_of_ble_eq_true rfl) (fun rv9 σ9 h9 => ?_)
          obtain ⟨r2, hr2⟩ : ∃ z, z = rv9 := ⟨_, rfl⟩
          obtain ⟨σ2, hs2⟩ : ∃ z, z = σ9 := ⟨_, rfl⟩
          rw [← hr2, ← hs2] at h9
          rw [← hr2, ← hs2]
          obtain ⟨-, f2, f3, bv, f4, f5⟩ := hst.2 r2 σ2 h9
          refine g_eq (σ2 := σ2) (lv2 := [(6, .int (nI (cdQ (pD (phC σ)) 4 (svC σ) (sc (i + 1)) (sc (i + 2))))), (0, .ref b), (1, .ref ((xK X).2.2 0)), (2, .ref ((xK X).2.2 27)), (3, .ref ((xK X).2.2 43)), (4, .ref ((xK X).2.2 44)), (5, .int (nI i))]) (st2 := [.double bv]) rfl rfl (by rw [f4]; rfl) ?_
          refine g_dstore (lv' := [(7, .double bv), (6, .int (nI (cdQ (pD (phC σ)) 4 (svC σ) (sc (i + 1)) (sc (i + 2))))), (0, .ref b), (1, .ref ((xK X).2.2 0)), (2, .ref ((xK X).2.2 27)), (3, .ref ((xK X).2.2 43)), (4, .ref ((xK X).2.2 44)), (5, .int (nI i))]) C dL_law_679 (by decide) rfl ?_
          refine g_aload_n C dL_law_681 4 rfl rfl ?_
          refine g_callV (As := []) (rest := []) C dL_law_682 (kX7_thrown (xl X) (xK X) C.hD σ2) wl27 rfl 0 gL_law_X7_thrown rfl (by decide +kernel) ⟨Nat.le_of_ble_eq_true rfl, Nat.le_of_ble_eq_true rfl⟩ ⟨hkA, hnA⟩ rfl rfl (Nat.le_of_ble_eq_true rfl) (fun rv9 σ9 h9 => ?_)
          obtain ⟨h9a, h9b⟩ := h9
          refine g_eq (σ2 := σ2) (lv2 := [(7, .double bv), (6, .int (nI (cdQ (pD (phC σ)) 4 (svC σ) (sc (i + 1)) (sc (i + 2))))), (0, .ref b), (1, .ref ((xK X).2.2 0)), (2, .ref ((xK X).2.2 27)), (3, .ref ((xK X).2.2 43)), (4, .ref ((xK X).2.2 44)), (5, .int (nI i))]) (st2 := [.int (nI (cdQ (pD (phC σ)) 4 (svC σ) (sc (i + 1)) (sc (i + 2))))]) h9b rfl (by rw [h9a, f2]; rfl) ?_
          refine g_iload C dL_law_685 1 rfl ?_
          refine g_icmp_eq (tgt := 692) C dL_law_687 (by decide) (fun c_687 => ?_) (fun c_687 => ?_)
          · refine g_iload C dL_law_692 1 rfl ?_
            refine g_if_ne (tgt := 729) C dL_law_694 (by decide) (fun c_694 => ?_) (fun c_694 => ?_)
            · refine g_goto (tgt := 1219) C dL_law_729 (by decide) ?_
              refine g_iinc (v := nI (i + 5)) (lv' := [(5, .int (nI (i + 5))), (7, .double bv), (6, .int (nI (cdQ (pD (phC σ)) 4 (svC σ) (sc (i + 1)) (sc (i + 2))))), (0, .ref b), (1, .ref ((xK X).2.2 0)), (2, .ref ((xK X).2.2 27)), (3, .ref ((xK X).2.2 43)), (4, .ref ((xK X).2.2 44))]) C dL_law_1219 7 rfl (nI_add i 5) (by decide) rfl ?_
              refine g_goto (tgt := 28) C dL_law_1222 (by decide) ?_
              refine g_lv [3, 4, 5, 6, 7, 0] rfl ?_
              exact (ih28 (i + 5) σ2 _ _ (by omega) (by omega) f3 hk4 hn4)
            · have hc0 := (nI_eq (b := 0) (by omega) (by decide)).mp (Decidable.byContradiction fun h => absurd c_694 h)
              refine g_aload C dL_law_697 6 rfl ?_
              refine g_iconst (v := nI 0) C dL_law_699 (by decide +kernel) ?_
              refine g_dald (j := 0) C dL_law_700 wl44 rfl (by decide) (by decide) ?_
              refine g_dload C dL_law_701 0 rfl ?_
              refine g_dcmp C dL_law_703 ?_
              refine g_topi (y := nI 0) (cv_eq0 (f5 hc0) _) ?_
              refine g_if_eq (tgt := 729) C dL_law_704 (by decide) (fun c_704 => ?_) (fun c_704 => ?_)
              · refine g_goto (tgt := 1219) C dL_law_729 (by decide) ?_
                refine g_iinc (v := nI (i + 5)) (lv' := [(5, .int (nI (i + 5))), (7, .double bv), (6, .int (nI (cdQ (pD (phC σ)) 4 (svC σ) (sc (i + 1)) (sc (i + 2))))), (0, .ref b), (1, .ref ((xK X).2.2 0)), (2, .ref ((xK X).2.2 27)), (3, .ref ((xK X).2.2 43)), (4, .ref ((xK X).2.2 44))]) C dL_law_1219 7 rfl (nI_add i 5) (by decide) rfl ?_
                refine g_goto (tgt := 28) C dL_law_1222 (by decide) ?_
                refine g_lv [3, 4, 5, 6, 7, 0] rfl ?_
                exact (ih28 (i + 5) σ2 _ _ (by omega) (by omega) f3 hk4 hn4)
              · exact absurd rfl c_704
          · exact absurd rfl c_687
      · refine g_tableIn (off := 688) (tgt := 732) C dL_law_44 (by rw [e9]; decide) (by rw [e9]; decide) (by rw [e9]; decide) (by decide) ?_
        refine g_aload_n C dL_law_732 1 rfl rfl ?_
        refine g_aload_n C dL_law_733 0 rfl rfl ?_
        refine g_iload C dL_law_734 5 rfl ?_
        refine g_iconst (v := nI 1) C dL_law_736 (by decide +kernel) ?_
        refine g_iadd C dL_law_737 ?_
        refine g_topi (y := nI (i + 1)) (nI_add i 1) ?_
        refine g_sld (j := (i + 1)) C hX hbl hbA dL_law_738 (by omega) (by omega) ?_
        refine g_aload_n C dL_law_739 0 rfl rfl ?_
        refine g_iload C dL_law_740 5 rfl ?_
        refine g_iconst (v := nI 2) C dL_law_742 (by decide +kernel) ?_
        refine g_iadd C dL_law_743 ?_
        refine g_topi (y := nI (i + 2)) (nI_add i 2) ?_
        refine g_sld (j := (i + 2)) C hX hbl hbA dL_law_744 (by omega) (by omega) ?_
        refine g_aload C dL_law_745 4 rfl ?_
        refine g_callSHL (As := [.ref ((xK X).2.2 0), .int (sc (i + 1)), .int (sc (i + 2)), .ref ((xK X).2.2 44)]) (rest := []) C E dL_law_747 (kL_draws (xl X) hl0 (xK X) C.hD σ hRl.i (sc (i + 1)) (sc (i + 2))) 4 gL_law_L_draws rfl (by decide +kernel) ⟨Nat.le_of_ble_eq_true rfl, Nat.le_of_ble_eq_true rfl⟩ ⟨Nat.le_trans (Nat.add_le_add_left (Nat.le_of_ble_eq_true rfl) kk) hkA, Nat.le_trans (Nat.add_le_add_left (Nat.le_of_ble_eq_true rfl) nn) hnA⟩ rfl rfl (Nat.le_of_ble_eq_true rfl) (fun Ec9 σ9 h9 => ?_) (fun rv9 σ9 h9 => ?_)
        · exact h9.elim
        · obtain ⟨r1, hr1⟩ : ∃ z, z = rv9 := ⟨_, rfl⟩
          obtain ⟨σ1, hs1⟩ : ∃ z, z = σ9 := ⟨_, rfl⟩
          rw [← hr1, ← hs1] at h9
          rw [← hr1, ← hs1]
          have hw1 := h9.1
          have hcdl := cdQ_le (pM (phC σ)) 2 (svC σ) (sc (i + 1)) (sc (i + 2))
          have hst := st_draws hRl h9
          refine g_widen (k2 := kk + 4) (n2 := nn + 24) (Nat.add_le_add_left (Nat.le_of_ble_eq_true rfl) kk) (Nat.add_le_add_left (Nat.le_of_ble_eq_true rfl) nn) ?_
          refine g_eq (σ2 := σ1) (lv2 := [(0, .ref b), (1, .ref ((xK X).2.2 0)), (2, .ref ((xK X).2.2 27)), (3, .ref ((xK X).2.2 43)), (4, .ref ((xK X).2.2 44)), (5, .int (nI i))]) (st2 := [.int (nI (cdQ (pM (phC σ)) 2 (svC σ) (sc (i + 1)) (sc (i + 2))))]) rfl rfl (by rw [hw1]; rfl) ?_
          refine g_istore (lv' := [(6, .int (nI (cdQ (pM (phC σ)) 2 (svC σ) (sc (i + 1)) (sc (i + 2))))), (0, .ref b), (1, .ref ((xK X).2.2 0)), (2, .ref ((xK X).2.2 27)), (3, .ref ((xK X).2.2 43)), (4, .ref ((xK X).2.2 44)), (5, .int (nI i))]) C dL_law_750 (by decide) rfl ?_
          refine g_aload_n C dL_law_752 3 rfl rfl ?_
          refine g_aload_n C dL_law_753 1 rfl rfl ?_
          refine g_iload C dL_law_754 6 rfl ?_
          refine g_iconst (v := nI 1) C dL_law_756 (by decide +kernel) ?_
          refine g_iadd C dL_law_757 ?_
          refine g_topi (y := nI (i + 1)) (nI_add i 1) ?_
          refine g_sld (j := (i + 1)) C hX hbl hbA dL_law_758 (by omega) (by omega) ?_
          refine g_aload_n C dL_law_759 1 rfl rfl ?_
          refine g_iload C dL_law_760 6 rfl ?_
          refine g_iconst (v := nI 2) C dL_law_762 (by decide +kernel) ?_
          refine g_iadd C dL_law_763 ?_
          refine g_topi (y := nI (i + 2)) (nI_add i 2) ?_
          refine g_sld (j := (i + 2)) C hX hbl hbA dL_law_764 (by omega) (by omega) ?_
          refine g_callV (As := [.int (sc (i + 1)), .int (sc (i + 2))]) (rest := []) C dL_law_765 (kX7_draws (xl X) (xK X) C.hD σ1 (hRl.mi.mo hst.1) (sc (i + 1)) (sc (i + 2))) wl27 rfl 2 gL_law_X7_draws rfl (by decide +kernel) ⟨Nat.le_of_ble_eq_true rfl, Nat.le_of_ble_eq_true rfl⟩ ⟨hkA, hnA⟩ rfl rfl (Nat.le_of_ble_eq_true rfl) (fun rv9 σ9 h9 => ?_)
          obtain ⟨r2, hr2⟩ : ∃ z, z = rv9 := ⟨_, rfl⟩
          obtain ⟨σ2, hs2⟩ : ∃ z, z = σ9 := ⟨_, rfl⟩
          rw [← hr2, ← hs2] at h9
          rw [← hr2, ← hs2]
          obtain ⟨-, f2, f3, bv, f4, f5⟩ := hst.2 r2 σ2 h9
          refine g_eq (σ2 := σ2) (lv2 := [(6, .int (nI (cdQ (pM (phC σ)) 2 (svC σ) (sc (i + 1)) (sc (i + 2))))), (0, .ref b), (1, .ref ((xK X).2.2 0)), (2, .ref ((xK X).2.2 27)), (3, .ref ((xK X).2.2 43)), (4, .ref ((xK X).2.2 44)), (5, .int (nI i))]) (st2 := [.double bv]) rfl rfl (by rw [f4]; rfl) ?_
          refine g_dstore (lv' := [(7, .double bv), (6, .int (nI (cdQ (pM (phC σ)) 2 (svC σ) (sc (i + 1)) (sc (i + 2))))), (0, .ref b), (1, .ref ((xK X).2.2 0)), (2, .ref ((xK X).2.2 27)), (3, .ref ((xK X).2.2 43)), (4, .ref ((xK X).2.2 44)), (5, .int (nI i))]) C dL_law_768 (by decide) rfl ?_
          refine g_aload_n C dL_law_770 4 rfl rfl ?_
          refine g_callV (As := []) (rest := []) C dL_law_771 (kX7_thrown (xl X) (xK X) C.hD σ2) wl27 rfl 0 gL_law_X7_thrown rfl (by decide +kernel) ⟨Nat.le_of_ble_eq_true rfl, Nat.le_of_ble_eq_true rfl⟩ ⟨hkA, hnA⟩ rfl rfl (Nat.le_of_ble_eq_true rfl) (fun rv9 σ9 h9 => ?_)
          obtain ⟨h9a, h9b⟩ := h9
          refine g_eq (σ2 := σ2) (lv2 := [(7, .double bv), (6, .int (nI (cdQ (pM (phC σ)) 2 (svC σ) (sc (i + 1)) (sc (i + 2))))), (0, .ref b), (1, .ref ((xK X).2.2 0)), (2, .ref ((xK X).2.2 27)), (3, .ref ((xK X).2.2 43)), (4, .ref ((xK X).2.2 44)), (5, .int (nI i))]) (st2 := [.int (nI (cdQ (pM (phC σ)) 2 (svC σ) (sc (i + 1)) (sc (i + 2))))]) h9b rfl (by rw [h9a, f2]; rfl) ?_
          refine g_iload C dL_law_774 1 rfl ?_
          refine g_icmp_eq (tgt := 781) C dL_law_776 (by decide) (fun c_776 => ?_) (fun c_776 => ?_)
          · refine g_iload C dL_law_781 1 rfl ?_
            refine g_if_ne (tgt := 818) C dL_law_783 (by decide) (fun c_783 => ?_) (fun c_783 => ?_)
            · refine g_goto (tgt := 1219) C dL_law_818 (by decide) ?_
              refine g_iinc (v := nI (i + 5)) (lv' := [(5, .int (nI (i + 5))), (7, .double bv), (6, .int (nI (cdQ (pM (phC σ)) 2 (svC σ) (sc (i + 1)) (sc (i + 2))))), (0, .ref b), (1, .ref ((xK X).2.2 0)), (2, .ref ((xK X).2.2 27)), (3, .ref ((xK X).2.2 43)), (4, .ref ((xK X).2.2 44))]) C dL_law_1219 7 rfl (nI_add i 5) (by decide) rfl ?_
              refine g_goto (tgt := 28) C dL_law_1222 (by decide) ?_
              refine g_lv [3, 4, 5, 6, 7, 0] rfl ?_
              exact (ih28 (i + 5) σ2 _ _ (by omega) (by omega) f3 hk4 hn4)
            · have hc0 := (nI_eq (b := 0) (by omega) (by decide)).mp (Decidable.byContradiction fun h => absurd c_783 h)
              refine g_aload C dL_law_786 6 rfl ?_
              refine g_iconst (v := nI 0) C dL_law_788 (by decide +kernel) ?_
              refine g_dald (j := 0) C dL_law_789 wl44 rfl (by decide) (by decide) ?_
              refine g_dload C dL_law_790 0 rfl ?_
              refine g_dcmp C dL_law_792 ?_
              refine g_topi (y := nI 0) (cv_eq0 (f5 hc0) _) ?_
              refine g_if_eq (tgt := 818) C dL_law_793 (by decide) (fun c_793 => ?_) (fun c_793 => ?_)
              · refine g_goto (tgt := 1219) C dL_law_818 (by decide) ?_
                refine g_iinc (v := nI (i + 5)) (lv' := [(5, .int (nI (i + 5))), (7, .double bv), (6, .int (nI (cdQ (pM (phC σ)) 2 (svC σ) (sc (i + 1)) (sc (i + 2))))), (0, .ref b), (1, .ref ((xK X).2.2 0)), (2, .ref ((xK X).2.2 27)), (3, .ref ((xK X).2.2 43)), (4, .ref ((xK X).2.2 44))]) C dL_law_1219 7 rfl (nI_add i 5) (by decide) rfl ?_
                refine g_goto (tgt := 28) C dL_law_1222 (by decide) ?_
                refine g_lv [3, 4, 5, 6, 7, 0] rfl ?_
                exact (ih28 (i + 5) σ2 _ _ (by omega) (by omega) f3 hk4 hn4)
              · exact absurd rfl c_793
          · exact absurd rfl c_776
      · refine g_tableIn (off := 777) (tgt := 821) C dL_law_44 (by rw [e9]; decide) (by rw [e9]; decide) (by rw [e9]; decide) (by decide) ?_
        refine g_aload_n C dL_law_821 1 rfl rfl ?_
        refine g_aload_n C dL_law_822 0 rfl rfl ?_
        refine g_iload C dL_law_823 5 rfl ?_
        refine g_iconst (v := nI 1) C dL_law_825 (by decide +kernel) ?_
        refine g_iadd C dL_law_826 ?_
        refine g_topi (y := nI (i + 1)) (nI_add i 1) ?_
        refine g_sld (j := (i + 1)) C hX hbl hbA dL_law_827 (by omega) (by omega) ?_
        refine g_i2d C dL_law_828 ?_
        refine g_ldc2d (v := 4593671619917905920) C dL_law_829 8 rfl ?_
        refine g_dmul C dL_law_832 ((scD_B _).F.ok) ?_
        refine g_topd (y := scD (sc (i + 1))) rfl ?_
        refine g_aload_n C dL_law_833 3 rfl rfl ?_
        refine g_callSHL (As := [.ref ((xK X).2.2 0), .double (scD (sc (i + 1))), .ref ((xK X).2.2 43)]) (rest := []) C E dL_law_834 (kL_keeps (xl X) hl0 (xK X) C.hD σ hRl.i (scD (sc (i + 1)))) 3 gL_law_L_keeps rfl (by decide +kernel) ⟨Nat.le_of_ble_eq_true rfl, Nat.le_of_ble_eq_true rfl⟩ ⟨Nat.le_trans (Nat.add_le_add_left (Nat.le_of_ble_eq_true rfl) kk) hkA, Nat.le_trans (Nat.add_le_add_left (Nat.le_of_ble_eq_true rfl) nn) hnA⟩ rfl rfl (Nat.le_of_ble_eq_true rfl) (fun Ec9 σ9 h9 => ?_) (fun rv9 σ9 h9 => ?_)
        · exact h9.elim
        · obtain ⟨r1, hr1⟩ : ∃ z, z = rv9 := ⟨_, rfl⟩
          obtain ⟨σ1, hs1⟩ : ∃ z, z = σ9 := ⟨_, rfl⟩
          rw [← hr1, ← hs1] at h9
          rw [← hr1, ← hs1]
          have hw1 := h9.1
          have hcdl := cdKeeps_le (svC σ) (scD (sc (i + 1)))
          have hst := st_keeps hRl h9
          refine g_widen (k2 := kk + 4) (n2 := nn + 24) (Nat.add_le_add_left (Nat.le_of_ble_eq_true rfl) kk) (Nat.add_le_add_left (Nat.le_of_ble_eq_true rfl) nn) ?_
          refine g_eq (σ2 := σ1) (lv2 := [(0, .ref b), (1, .ref ((xK X).2.2 0)), (2, .ref ((xK X).2.2 27)), (3, .ref ((xK X).2.2 43)), (4, .ref ((xK X).2.2 44)), (5, .int (nI i))]) (st2 := [.int (nI (cdKeeps (svC σ) (scD (sc (i + 1)))))]) rfl rfl (by rw [hw1]; rfl) ?_
          refine g_istore (lv' := [(6, .int (nI (cdKeeps (svC σ) (scD (sc (i + 1)))))), (0, .ref b), (1, .ref ((xK X).2.2 0)), (2, .ref ((xK X).2.2 27)), (3, .ref ((xK X).2.2 43)), (4, .ref ((xK X).2.2 44)), (5, .int (nI i))]) C dL_law_837 (by decide) rfl ?_
          refine g_aload_n C dL_law_839 3 rfl rfl ?_
          refine g_aload_n C dL_law_840 1 rfl rfl ?_
          refine g_iload C dL_law_841 6 rfl ?_
          refine g_iconst (v := nI 1) C dL_law_843 (by decide +kernel) ?_
          refine g_iadd C dL_law_844 ?_
          refine g_topi (y := nI (i + 1)) (nI_add i 1) ?_
          refine g_sld (j := (i + 1)) C hX hbl hbA dL_law_845 (by omega) (by omega) ?_
          refine g_i2d C dL_law_846 ?_
          refine g_ldc2d (v := 4593671619917905920) C dL_law_847 8 rfl ?_
          refine g_dmul C dL_law_850 ((scD_B _).F.ok) ?_
          refine g_topd (y := scD (sc (i + 1))) rfl ?_
          refine g_callV (As := [.double (scD (sc (i + 1)))]) (rest := []) C dL_law_851 (kX7_keeps (xl X) (xK X) C.hD σ1 (hRl.mi.mo hst.1) (scD_B _).F) wl27 rfl 1 gL_law_X7_keeps rfl (by decide +kernel) ⟨Nat.le_of_ble_eq_true rfl, Nat.le_of_ble_eq_true rfl⟩ ⟨hkA, hnA⟩ rfl rfl (Nat.le_of_ble_eq_true rfl) (fun rv9 σ9 h9 => ?_)
          obtain ⟨r2, hr2⟩ : ∃ z, z = rv9 := ⟨_, rfl⟩
          obtain ⟨σ2, hs2⟩ : ∃ z, z = σ9 := ⟨_, rfl⟩
          rw [← hr2, ← hs2] at h9
          rw [← hr2, ← hs2]
          obtain ⟨-, f2, f3, bv, f4, f5⟩ := hst.2 r2 σ2 h9
          refine g_eq (σ2 := σ2) (lv2 := [(6, .int (nI (cdKeeps (svC σ) (scD (sc (i + 1)))))), (0, .ref b), (1, .ref ((xK X).2.2 0)), (2, .ref ((xK X).2.2 27)), (3, .ref ((xK X).2.2 43)), (4, .ref ((xK X).2.2 44)), (5, .int (nI i))]) (st2 := [.int (bI bv)]) rfl rfl (by rw [f4]; rfl) ?_
          refine g_istore (lv' := [(7, .int (bI bv)), (6, .int (nI (cdKeeps (svC σ) (scD (sc (i + 1)))))), (0, .ref b), (1, .ref ((xK X).2.2 0)), (2, .ref ((xK X).2.2 27)), (3, .ref ((xK X).2.2 43)), (4, .ref ((xK X).2.2 44)), (5, .int (nI i))]) C dL_law_854 (by decide) rfl ?_
          refine g_aload_n C dL_law_856 4 rfl rfl ?_
          refine g_callV (As := []) (rest := []) C dL_law_857 (kX7_thrown (xl X) (xK X) C.hD σ2) wl27 rfl 0 gL_law_X7_thrown rfl (by decide +kernel) ⟨Nat.le_of_ble_eq_true rfl, Nat.le_of_ble_eq_true rfl⟩ ⟨hkA, hnA⟩ rfl rfl (Nat.le_of_ble_eq_true rfl) (fun rv9 σ9 h9 => ?_)
          obtain ⟨h9a, h9b⟩ := h9
          refine g_eq (σ2 := σ2) (lv2 := [(7, .int (bI bv)), (6, .int (nI (cdKeeps (svC σ) (scD (sc (i + 1)))))), (0, .ref b), (1, .ref ((xK X).2.2 0)), (2, .ref ((xK X).2.2 27)), (3, .ref ((xK X).2.2 43)), (4, .ref ((xK X).2.2 44)), (5, .int (nI i))]) (st2 := [.int (nI (cdKeeps (svC σ) (scD (sc (i + 1)))))]) h9b rfl (by rw [h9a, f2]; rfl) ?_
          refine g_iload C dL_law_860 1 rfl ?_
          refine g_icmp_eq (tgt := 867) C dL_law_862 (by decide) (fun c_862 => ?_) (fun c_862 => ?_)
          · refine g_iload C dL_law_867 1 rfl ?_
            refine g_if_ne (tgt := 891) C dL_law_869 (by decide) (fun c_869 => ?_) (fun c_869 => ?_)
            · refine g_goto (tgt := 1219) C dL_law_891 (by decide) ?_
              refine g_iinc (v := nI (i + 5)) (lv' := [(5, .int (nI (i + 5))), (7, .int (bI bv)), (6, .int (nI (cdKeeps (svC σ) (scD (sc (i + 1)))))), (0, .ref b), (1, .ref ((xK X).2.2 0)), (2, .ref ((xK X).2.2 27)), (3, .ref ((xK X).2.2 43)), (4, .ref ((xK X).2.2 44))]) C dL_law_1219 7 rfl (nI_add i 5) (by decide) rfl ?_
              refine g_goto (tgt := 28) C dL_law_1222 (by decide) ?_
              refine g_lv [3, 4, 5, 6, 7, 0] rfl ?_
              exact (ih28 (i + 5) σ2 _ _ (by omega) (by omega) f3 hk4 hn4)
            · have hc0 := (nI_eq (b := 0) (by omega) (by decide)).mp (Decidable.byContradiction fun h => absurd c_869 h)
              refine g_aload_n C dL_law_872 5 rfl rfl ?_
              refine g_iconst (v := nI 0) C dL_law_873 (by decide +kernel) ?_
              refine g_lald (j := 0) C dL_law_874 wl43 rfl (by decide) (by decide) ?_
              refine g_iload C dL_law_875 0 rfl ?_
              refine g_if_eq (tgt := 884) C dL_law_877 (by decide) (fun c_877 => ?_) (fun c_877 => ?_)
              · have hb := (bI_ne _).mp c_877
                refine g_lconst (v := 0) C dL_law_884 (by decide +kernel) ?_
                refine g_lcmp C dL_law_885 ?_
                refine g_topi (y := nI 0) (by first | (rw [f5 hc0]; exact lc_0 _) | (rw [f5 hc0, hb]; exact lc_0 _)) ?_
                refine g_if_eq (tgt := 891) C dL_law_886 (by decide) (fun c_886 => ?_) (fun c_886 => ?_)
                · refine g_goto (tgt := 1219) C dL_law_891 (by decide) ?_
                  refine g_iinc (v := nI (i + 5)) (lv' := [(5, .int (nI (i + 5))), (7, .int (bI bv)), (6, .int (nI (cdKeeps (svC σ) (scD (sc (i + 1)))))), (0, .ref b), (1, .ref ((xK X).2.2 0)), (2, .ref ((xK X).2.2 27)), (3, .ref ((xK X).2.2 43)), (4, .ref ((xK X).2.2 44))]) C dL_law_1219 7 rfl (nI_add i 5) (by decide) rfl ?_
                  refine g_goto (tgt := 28) C dL_law_1222 (by decide) ?_
                  refine g_lv [3, 4, 5, 6, 7, 0] rfl ?_
                  exact (ih28 (i + 5) σ2 _ _ (by omega) (by omega) f3 hk4 hn4)
                · exact absurd rfl c_886
              · have hb := bIt c_877
                refine g_lconst (v := 1) C dL_law_880 (by decide +kernel) ?_
                refine g_goto (tgt := 885) C dL_law_881 (by decide) ?_
                refine g_lcmp C dL_law_885 ?_
                refine g_topi (y := nI 0) (by first | (rw [f5 hc0]; exact lc_0 _) | (rw [f5 hc0, hb]; exact lc_0 _)) ?_
                refine g_if_eq (tgt := 891) C dL_law_886 (by decide) (fun c_886 => ?_) (fun c_886 => ?_)
                · refine g_goto (tgt := 1219) C dL_law_891 (by decide) ?_
                  refine g_iinc (v := nI (i + 5)) (lv' := [(5, .int (nI (i + 5))), (7, .int (bI bv)), (6, .int (nI (cdKeeps (svC σ) (scD (sc (i + 1)))))), (0, .ref b), (1, .ref ((xK X).2.2 0)), (2, .ref ((xK X).2.2 27)), (3, .ref ((xK X).2.2 43)), (4, .ref ((xK X).2.2 44))]) C dL_law_1219 7 rfl (nI_add i 5) (by decide) rfl ?_
                  refine g_goto (tgt := 28) C dL_law_1222 (by decide) ?_
                  refine g_lv [3, 4, 5, 6, 7, 0] rfl ?_
                  exact (ih28 (i + 5) σ2 _ _ (by omega) (by omega) f3 hk4 hn4)
                · exact absurd rfl c_886
          · exact absurd rfl c_862
      · refine g_tableIn (off := 850) (tgt := 894) C dL_law_44 (by rw [e9]; decide) (by rw [e9]; decide) (by rw [e9]; decide) (by decide) ?_
        refine g_aload_n C dL_law_894 1 rfl rfl ?_
        refine g_aload_n C dL_law_895 0 rfl rfl ?_
        refine g_iload C dL_law_896 5 rfl ?_
        refine g_iconst (v := nI 1) C dL_law_898 (by decide +kernel) ?_
        refine g_iadd C dL_law_899 ?_
        refine g_topi (y := nI (i + 1)) (nI_add i 1) ?_
        refine g_sld (j := (i + 1)) C hX hbl hbA dL_law_900 (by omega) (by omega) ?_
        refine g_i2d C dL_law_901 ?_
        refine g_ldc2d (v := 4593671619917905920) C dL_law_902 8 rfl ?_
        refine g_dmul C dL_law_905 ((scD_B _).F.ok) ?_
        refine g_topd (y := scD (sc (i + 1))) rfl ?_
        refine g_aload_n C dL_law_906 0 rfl rfl ?_
        refine g_iload C dL_law_907 5 rfl ?_
        refine g_iconst (v := nI 2) C dL_law_909 (by decide +kernel) ?_
        refine g_iadd C dL_law_910 ?_
        refine g_topi (y := nI (i + 2)) (nI_add i 2) ?_
        refine g_sld (j := (i + 2)) C hX hbl hbA dL_law_911 (by omega) (by omega) ?_
        refine g_aload_n C dL_law_912 3 rfl rfl ?_
        refine g_callSHL (As := [.ref ((xK X).2.2 0), .double (scD (sc (i + 1))), .int (sc (i + 2)), .ref ((xK X).2.2 43)]) (rest := []) C E dL_law_913 (kL_list (xl X) hl0 (xK X) C.hD σ hRl.i (scD (sc (i + 1))) (sc (i + 2))) 4 gL_law_L_list rfl (by decide +kernel) ⟨Nat.le_of_ble_eq_true rfl, Nat.le_of_ble_eq_true rfl⟩ ⟨Nat.le_trans (Nat.add_le_add_left (Nat.le_of_ble_eq_true rfl) kk) hkA, Nat.le_trans (Nat.add_le_add_left (Nat.le_of_ble_eq_true rfl) nn) hnA⟩ rfl rfl (Nat.le_of_ble_eq_true rfl) (fun Ec9 σ9 h9 => ?_) (fun rv9 σ9 h9 => ?_)
        · exact h9.elim
        · obtain ⟨r1, hr1⟩ : ∃ z, z = rv9 := ⟨_, rfl⟩
          obtain ⟨σ1, hs1⟩ : ∃ z, z = σ9 := ⟨_, rfl⟩
          rw [← hr1, ← hs1] at h9
          rw [← hr1, ← hs1]
          have hw1 := h9.1
          have hcdl := cdList_le (nS σ) (scD (sc (i + 1))) (sc (i + 2))
          have hst := st_list (scD_B _).F hRl h9
          refine g_widen (k2 := kk + 4) (n2 := nn + 24) (Nat.add_le_add_left (Nat.le_of_ble_eq_true rfl) kk) (Nat.add_le_add_left (Nat.le_of_ble_eq_true rfl) nn) ?_
          refine g_eq (σ2 := σ1) (lv2 := [(0, .ref b), (1, .ref ((xK X).2.2 0)), (2, .ref ((xK X).2.2 27)), (3, .ref ((xK X).2.2 43)), (4, .ref ((xK X).2.2 44)), (5, .int (nI i))]) (st2 := [.int (nI (cdList (nS σ) (scD (sc (i + 1))) (sc (i + 2))))]) rfl rfl (by rw [hw1]; rfl) ?_
          refine g_istore (lv' := [(6, .int (nI (cdList (nS σ) (scD (sc (i + 1))) (sc (i + 2))))), (0, .ref b), (1, .ref ((xK X).2.2 0)), (2, .ref ((xK X).2.2 27)), (3, .ref ((xK X).2.2 43)), (4, .ref ((xK X).2.2 44)), (5, .int (nI i))]) C dL_law_916 (by decide) rfl ?_
          refine g_aload_n C dL_law_918 3 rfl rfl ?_
          refine g_aload_n C dL_law_919 1 rfl rfl ?_
          refine g_iload C dL_law_920 6 rfl ?_
          refine g_iconst (v := nI 1) C dL_law_922 (by decide +kernel) ?_
          refine g_iadd C dL_law_923 ?_
          refine g_topi (y := nI (i + 1)) (nI_add i 1) ?_
          refine g_sld (j := (i + 1)) C hX hbl hbA dL_law_924 (by omega) (by omega) ?_
          refine g_i2d C dL_law_925 ?_
          refine g_ldc2d (v := 4593671619917905920) C dL_law_926 8 rfl ?_
          refine g_dmul C dL_law_929 ((scD_B _).F.ok) ?_
          refine g_topd (y := scD (sc (i + 1))) rfl ?_
          refine g_aload_n C dL_law_930 1 rfl rfl ?_
          refine g_iload C dL_law_931 6 rfl ?_
          refine g_iconst (v := nI 2) C dL_law_933 (by decide +kernel) ?_
          refine g_iadd C dL_law_934 ?_
          refine g_topi (y := nI (i + 2)) (nI_add i 2) ?_
          refine g_sld (j := (i + 2)) C hX hbl hbA dL_law_935 (by omega) (by omega) ?_
          refine g_callV (As := [.double (scD (sc (i + 1))), .int (sc (i + 2))]) (rest := []) C dL_law_936 (kX7_list (xl X) (xK X) C.hD σ1 (hRl.mi.mo hst.1) (scD (sc (i + 1))) (sc (i + 2))) wl27 rfl 2 gL_law_X7_list rfl (by decide +kernel) ⟨Nat.le_of_ble_eq_true rfl, Nat.le_of_ble_eq_true rfl⟩ ⟨hkA, hnA⟩ rfl rfl (Nat.le_of_ble_eq_true rfl) (fun rv9 σ9 h9 => ?_)
          obtain ⟨r2, hr2⟩ : ∃ z, z = rv9 := ⟨_, rfl⟩
          obtain ⟨σ2, hs2⟩ : ∃ z, z = σ9 := ⟨_, rfl⟩
          rw [← hr2, ← hs2] at h9
          rw [← hr2, ← hs2]
          obtain ⟨-, f2, f3, bv, f4, f5⟩ := hst.2 r2 σ2 h9
          refine g_eq (σ2 := σ2) (lv2 := [(6, .int (nI (cdList (nS σ) (scD (sc (i + 1))) (sc (i + 2))))), (0, .ref b), (1, .ref ((xK X).2.2 0)), (2, .ref ((xK X).2.2 27)), (3, .ref ((xK X).2.2 43)), (4, .ref ((xK X).2.2 44)), (5, .int (nI i))]) (st2 := [.int bv]) rfl rfl (by rw [f4]; rfl) ?_
          refine g_istore (lv' := [(7, .int bv), (6, .int (nI (cdList (nS σ) (scD (sc (i + 1))) (sc (i + 2))))), (0, .ref b), (1, .ref ((xK X).2.2 0)), (2, .ref ((xK X).2.2 27)), (3, .ref ((xK X).2.2 43)), (4, .ref ((xK X).2.2 44)), (5, .int (nI i))]) C dL_law_939 (by decide) rfl ?_
          refine g_aload_n C dL_law_941 4 rfl rfl ?_
          refine g_callV (As := []) (rest := []) C dL_law_942 (kX7_thrown (xl X) (xK X) C.hD σ2) wl27 rfl 0 gL_law_X7_thrown rfl (by decide +kernel) ⟨Nat.le_of_ble_eq_true rfl, Nat.le_of_ble_eq_true rfl⟩ ⟨hkA, hnA⟩ rfl rfl (Nat.le_of_ble_eq_true rfl) (fun rv9 σ9 h9 => ?_)
          obtain ⟨h9a, h9b⟩ := h9
          refine g_eq (σ2 := σ2) (lv2 := [(7, .int bv), (6, .int (nI (cdList (nS σ) (scD (sc (i + 1))) (sc (i + 2))))), (0, .ref b), (1, .ref ((xK X).2.2 0)), (2, .ref ((xK X).2.2 27)), (3, .ref ((xK X).2.2 43)), (4, .ref ((xK X).2.2 44)), (5, .int (nI i))]) (st2 := [.int (nI (cdList (nS σ) (scD (sc (i + 1))) (sc (i + 2))))]) h9b rfl (by rw [h9a, f2]; rfl) ?_
          refine g_iload C dL_law_945 1 rfl ?_
          refine g_icmp_eq (tgt := 952) C dL_law_947 (by decide) (fun c_947 => ?_) (fun c_947 => ?_)
          · refine g_iload C dL_law_952 1 rfl ?_
            refine g_if_ne (tgt := 969) C dL_law_954 (by decide) (fun c_954 => ?_) (fun c_954 => ?_)
            · refine g_goto (tgt := 1219) C dL_law_969 (by decide) ?_
              refine g_iinc (v := nI (i + 5)) (lv' := [(5, .int (nI (i + 5))), (7, .int bv), (6, .int (nI (cdList (nS σ) (scD (sc (i + 1))) (sc (i + 2))))), (0, .ref b), (1, .ref ((xK X).2.2 0)), (2, .ref ((xK X).2.2 27)), (3, .ref ((xK X).2.2 43)), (4, .ref ((xK X).2.2 44))]) C dL_law_1219 7 rfl (nI_add i 5) (by decide) rfl ?_
              refine g_goto (tgt := 28) C dL_law_1222 (by decide) ?_
              refine g_lv [3, 4, 5, 6, 7, 0] rfl ?_
              exact (ih28 (i + 5) σ2 _ _ (by omega) (by omega) f3 hk4 hn4)
            · have hc0 := (nI_eq (b := 0) (by omega) (by decide)).mp (Decidable.byContradiction fun h => absurd c_954 h)
              refine g_aload_n C dL_law_957 5 rfl rfl ?_
              refine g_iconst (v := nI 0) C dL_law_958 (by decide +kernel) ?_
              refine g_lald (j := 0) C dL_law_959 wl43 rfl (by decide) (by decide) ?_
              refine g_iload C dL_law_960 0 rfl ?_
              refine g_i2l C dL_law_962 ?_
              refine g_lcmp C dL_law_963 ?_
              refine g_topi (y := nI 0) (by first | (rw [f5 hc0]; exact lc_0 _) | (rw [f5 hc0, hb]; exact lc_0 _)) ?_
              refine g_if_eq (tgt := 969) C dL_law_964 (by decide) (fun c_964 => ?_) (fun c_964 => ?_)
              · refine g_goto (tgt := 1219) C dL_law_969 (by decide) ?_
                refine g_iinc (v := nI (i + 5)) (lv' := [(5, .int (nI (i + 5))), (7, .int bv), (6, .int (nI (cdList (nS σ) (scD (sc (i + 1))) (sc (i + 2))))), (0, .ref b), (1, .ref ((xK X).2.2 0)), (2, .ref ((xK X).2.2 27)), (3, .ref ((xK X).2.2 43)), (4, .ref ((xK X).2.2 44))]) C dL_law_1219 7 rfl (nI_add i 5) (by decide) rfl ?_
                refine g_goto (tgt := 28) C dL_law_1222 (by decide) ?_
                refine g_lv [3, 4, 5, 6, 7, 0] rfl ?_
                exact (ih28 (i + 5) σ2 _ _ (by omega) (by omega) f3 hk4 hn4)
              · exact absurd rfl c_964
          · exact absurd rfl c_947
      · refine g_tableIn (off := 928) (tgt := 972) C dL_law_44 (by rw [e9]; decide) (by rw [e9]; decide) (by rw [e9]; decide) (by decide) ?_
        refine g_aload_n C dL_law_972 1 rfl rfl ?_
        refine g_aload_n C dL_law_973 0 rfl rfl ?_
        refine g_iload C dL_law_974 5 rfl ?_
        refine g_iconst (v := nI 1) C dL_law_976 (by decide +kernel) ?_
        refine g_iadd C dL_law_977 ?_
        refine g_topi (y := nI (i + 1)) (nI_add i 1) ?_
        refine g_sld (j := (i + 1)) C hX hbl hbA dL_law_978 (by omega) (by omega) ?_
        refine g_aload_n C dL_law_979 3 rfl rfl ?_
        refine g_callSHL (As := [.ref ((xK X).2.2 0), .int (sc (i + 1)), .ref ((xK X).2.2 43)]) (rest := []) C E dL_law_980 (kL_size (xl X) hl0 (xK X) C.hD σ hRl.i (sc (i + 1))) 3 gL_law_L_size rfl (by decide +kernel) ⟨Nat.le_of_ble_eq_true rfl, Nat.le_of_ble_eq_true rfl⟩ ⟨Nat.le_trans (Nat.add_le_add_left (Nat.le_of_ble_eq_true rfl) kk) hkA, Nat.le_trans (Nat.add_le_add_left (Nat.le_of_ble_eq_true rfl) nn) hnA⟩ rfl rfl (Nat.le_of_ble_eq_true rfl) (fun Ec9 σ9 h9 => ?_) (fun rv9 σ9 h9 => ?_)
        · exact h9.elim
        · obtain ⟨r1, hr1⟩ : ∃ z, z = rv9 := ⟨_, rfl⟩
          obtain ⟨σ1, hs1⟩ : ∃ z, z = σ9 := ⟨_, rfl⟩
          rw [← hr1, ← hs1] at h9
          rw [← hr1, ← hs1]
          have hw1 := h9.1
          have hcdl := cdSize_le (nS σ) (sc (i + 1))
          have hst := st_size hRl h9
          obtain ⟨v2, τ2, hz1, hz2⟩ := hst.2.2
          have hmi := hRl.mi.mo hst.1
          refine g_widen (k2 := kk + 4) (n2 := nn + 24) (Nat.add_le_add_left (Nat.le_of_ble_eq_true rfl) kk) (Nat.add_le_add_left (Nat.le_of_ble_eq_true rfl) nn) ?_
          refine g_eq (σ2 := σ1) (lv2 := [(0, .ref b), (1, .ref ((xK X).2.2 0)), (2, .ref ((xK X).2.2 27)), (3, .ref ((xK X).2.2 43)), (4, .ref ((xK X).2.2 44)), (5, .int (nI i))]) (st2 := [.int (nI (cdSize (nS σ) (sc (i + 1))))]) rfl rfl (by rw [hw1]; rfl) ?_
          refine g_istore (lv' := [(6, .int (nI (cdSize (nS σ) (sc (i + 1))))), (0, .ref b), (1, .ref ((xK X).2.2 0)), (2, .ref ((xK X).2.2 27)), (3, .ref ((xK X).2.2 43)), (4, .ref ((xK X).2.2 44)), (5, .int (nI i))]) C dL_law_983 (by decide) rfl ?_
          refine g_aload_n C dL_law_985 3 rfl rfl ?_
          refine g_aload_n C dL_law_986 1 rfl rfl ?_
          refine g_iload C dL_law_987 6 rfl ?_
          refine g_iconst (v := nI 1) C dL_law_989 (by decide +kernel) ?_
          refine g_iadd C dL_law_990 ?_
          refine g_topi (y := nI (i + 1)) (nI_add i 1) ?_
          refine g_sld (j := (i + 1)) C hX hbl hbA dL_law_991 (by omega) (by omega) ?_
          refine g_callV (As := [.int (sc (i + 1))]) (rest := []) C dL_law_992 (kX7_size (xl X) (xK X) C.hD σ1 (sc (i + 1)) (ρ := σ) (τc := τ2) (v := v2) rfl hst.2.1 hmi.2.2.2.2.2.2.1.1 hRl.i.s.2 hz1) wl27 rfl 1 gL_law_X7_size rfl (by decide +kernel) ⟨Nat.le_of_ble_eq_true rfl, Nat.le_of_ble_eq_true rfl⟩ ⟨hkA, hnA⟩ rfl rfl (Nat.le_of_ble_eq_true rfl) (fun rv9 σ9 h9 => ?_)
          obtain ⟨r2, hr2⟩ : ∃ z, z = rv9 := ⟨_, rfl⟩
          obtain ⟨σ2, hs2⟩ : ∃ z, z = σ9 := ⟨_, rfl⟩
          rw [← hr2, ← hs2] at h9
          rw [← hr2, ← hs2]
          obtain ⟨-, f2, f3, bv, f4, f5⟩ := hz2 r2 σ2 h9
          refine g_eq (σ2 := σ2) (lv2 := [(6, .int (nI (cdSize (nS σ) (sc (i + 1))))), (0, .ref b), (1, .ref ((xK X).2.2 0)), (2, .ref ((xK X).2.2 27)), (3, .ref ((xK X).2.2 43)), (4, .ref ((xK X).2.2 44)), (5, .int (nI i))]) (st2 := [.int bv]) rfl rfl (by rw [f4]; rfl) ?_
          refine g_istore (lv' := [(7, .int bv), (6, .int (nI (cdSize (nS σ) (sc (i + 1))))), (0, .ref b), (1, .ref ((xK X).2.2 0)), (2, .ref ((xK X).2.2 27)), (3, .ref ((xK X).2.2 43)), (4, .ref ((xK X).2.2 44)), (5, .int (nI i))]) C dL_law_995 (by decide) rfl ?_
          refine g_aload_n C dL_law_997 4 rfl rfl ?_
          refine g_callV (As := []) (rest := []) C dL_law_998 (kX7_thrown (xl X) (xK X) C.hD σ2) wl27 rfl 0 gL_law_X7_thrown rfl (by decide +kernel) ⟨Nat.le_of_ble_eq_true rfl, Nat.le_of_ble_eq_true rfl⟩ ⟨hkA, hnA⟩ rfl rfl (Nat.le_of_ble_eq_true rfl) (fun rv9 σ9 h9 => ?_)
          obtain ⟨h9a, h9b⟩ := h9
          refine g_eq (σ2 := σ2) (lv2 := [(7, .int bv), (6, .int (nI (cdSize (nS σ) (sc (i + 1))))), (0, .ref b), (1, .ref ((xK X).2.2 0)), (2, .ref ((xK X).2.2 27)), (3, .ref ((xK X).2.2 43)), (4, .ref ((xK X).2.2 44)), (5, .int (nI i))]) (st2 := [.int (nI (cdSize (nS σ) (sc (i + 1))))]) h9b rfl (by rw [h9a, f2]; rfl) ?_
          refine g_iload C dL_law_1001 1 rfl ?_
          refine g_icmp_eq (tgt := 1008) C dL_law_1003 (by decide) (fun c_1003 => ?_) (fun c_1003 => ?_)
          · refine g_iload C dL_law_1008 1 rfl ?_
            refine g_if_ne (tgt := 1025) C dL_law_1010 (by decide) (fun c_1010 => ?_) (fun c_1010 => ?_)
            · refine g_goto (tgt := 1219) C dL_law_1025 (by decide) ?_
              refine g_iinc (v := nI (i + 5)) (lv' := [(5, .int (nI (i + 5))), (7, .int bv), (6, .int (nI (cdSize (nS σ) (sc (i + 1))))), (0, .ref b), (1, .ref ((xK X).2.2 0)), (2, .ref ((xK X).2.2 27)), (3, .ref ((xK X).2.2 43)), (4, .ref ((xK X).2.2 44))]) C dL_law_1219 7 rfl (nI_add i 5) (by decide) rfl ?_
              refine g_goto (tgt := 28) C dL_law_1222 (by decide) ?_
              refine g_lv [3, 4, 5, 6, 7, 0] rfl ?_
              exact (ih28 (i + 5) σ2 _ _ (by omega) (by omega) f3 hk4 hn4)
            · have hc0 := (nI_eq (b := 0) (by omega) (by decide)).mp (Decidable.byContradiction fun h => absurd c_1010 h)
              refine g_aload_n C dL_law_1013 5 rfl rfl ?_
              refine g_iconst (v := nI 0) C dL_law_1014 (by decide +kernel) ?_
              refine g_lald (j := 0) C dL_law_1015 wl43 rfl (by decide) (by decide) ?_
              refine g_iload C dL_law_1016 0 rfl ?_
              refine g_i2l C dL_law_1018 ?_
              refine g_lcmp C dL_law_1019 ?_
              refine g_topi (y := nI 0) (by first | (rw [f5 hc0]; exact lc_0 _) | (rw [f5 hc0, hb]; exact lc_0 _)) ?_
              refine g_if_eq (tgt := 1025) C dL_law_1020 (by decide) (fun c_1020 => ?_) (fun c_1020 => ?_)
              · refine g_goto (tgt := 1219) C dL_law_1025 (by decide) ?_
                refine g_iinc (v := nI (i + 5)) (lv' := [(5, .int (nI (i + 5))), (7, .int bv), (6, .int (nI (cdSize (nS σ) (sc (i + 1))))), (0, .ref b), (1, .ref ((xK X).2.2 0)), (2, .ref ((xK X).2.2 27)), (3, .ref ((xK X).2.2 43)), (4, .ref ((xK X).2.2 44))]) C dL_law_1219 7 rfl (nI_add i 5) (by decide) rfl ?_
                refine g_goto (tgt := 28) C dL_law_1222 (by decide) ?_
                refine g_lv [3, 4, 5, 6, 7, 0] rfl ?_
                exact (ih28 (i + 5) σ2 _ _ (by omega) (by omega) f3 hk4 hn4)
              · exact absurd rfl c_1020
          · exact absurd rfl c_1003
      · refine g_tableIn (off := 984) (tgt := 1028) C dL_law_44 (by rw [e9]; decide) (by rw [e9]; decide) (by rw [e9]; decide) (by decide) ?_
        refine g_aload_n C dL_law_1028 1 rfl rfl ?_
        refine g_aload_n C dL_law_1029 0 rfl rfl ?_
        refine g_iload C dL_law_1030 5 rfl ?_
        refine g_iconst (v := nI 1) C dL_law_1032 (by decide +kernel) ?_
        refine g_iadd C dL_law_1033 ?_
        refine g_topi (y := nI (i + 1)) (nI_add i 1) ?_
        refine g_sld (j := (i + 1)) C hX hbl hbA dL_law_1034 (by omega) (by omega) ?_
        refine g_aload_n C dL_law_1035 0 rfl rfl ?_
        refine g_iload C dL_law_1036 5 rfl ?_
        refine g_iconst (v := nI 2) C dL_law_1038 (by decide +kernel) ?_
        refine g_iadd C dL_law_1039 ?_
        refine g_topi (y := nI (i + 2)) (nI_add i 2) ?_
        refine g_sld (j := (i + 2)) C hX hbl hbA dL_law_1040 (by omega) (by omega) ?_
        refine g_i2d C dL_law_1041 ?_
        refine g_ldc2d (v := 4593671619917905920) C dL_law_1042 8 rfl ?_
        refine g_dmul C dL_law_1045 ((scD_B _).F.ok) ?_
        refine g_topd (y := scD (sc (i + 2))) rfl ?_
        refine g_callSHL (As := [.ref ((xK X).2.2 0), .int (sc (i + 1)), .double (scD (sc (i + 2)))]) (rest := []) C E dL_law_1046 (kL_read (xl X) hl0 (xK X) C.hD σ hRl.i (sc (i + 1)) (scD (sc (i + 2)))) 3 gL_law_L_read rfl (by decide +kernel) ⟨Nat.le_of_ble_eq_true rfl, Nat.le_of_ble_eq_true rfl⟩ ⟨Nat.le_trans (Nat.add_le_add_left (Nat.le_of_ble_eq_true rfl) kk) hkA, Nat.le_trans (Nat.add_le_add_left (Nat.le_of_ble_eq_true rfl) nn) hnA⟩ rfl rfl (Nat.le_of_ble_eq_true rfl) (fun Ec9 σ9 h9 => ?_) (fun rv9 σ9 h9 => ?_)
        · exact h9.elim
        · obtain ⟨r1, hr1⟩ : ∃ z, z = rv9 := ⟨_, rfl⟩
          obtain ⟨σ1, hs1⟩ : ∃ z, z = σ9 := ⟨_, rfl⟩
          rw [← hr1, ← hs1] at h9
          rw [← hr1, ← hs1]
          have hw1 := h9.1
          have hcdl := cdRead_le (pD (phC σ)) (sc (i + 1)) (scD (sc (i + 2)))
          have hst := st_read (scD_B _).F hRl h9
          refine g_widen (k2 := kk + 4) (n2 := nn + 24) (Nat.add_le_add_left (Nat.le_of_ble_eq_true rfl) kk) (Nat.add_le_add_left (Nat.le_of_ble_eq_true rfl) nn) ?_
          refine g_eq (σ2 := σ1) (lv2 := [(0, .ref b), (1, .ref ((xK X).2.2 0)), (2, .ref ((xK X).2.2 27)), (3, .ref ((xK X).2.2 43)), (4, .ref ((xK X).2.2 44)), (5, .int (nI i))]) (st2 := [.int (nI (cdRead (pD (phC σ)) (sc (i + 1)) (scD (sc (i + 2)))))]) rfl rfl (by rw [hw1]; rfl) ?_
          refine g_istore (lv' := [(6, .int (nI (cdRead (pD (phC σ)) (sc (i + 1)) (scD (sc (i + 2)))))), (0, .ref b), (1, .ref ((xK X).2.2 0)), (2, .ref ((xK X).2.2 27)), (3, .ref ((xK X).2.2 43)), (4, .ref ((xK X).2.2 44)), (5, .int (nI i))]) C dL_law_1049 (by decide) rfl ?_
          refine g_aload_n C dL_law_1051 3 rfl rfl ?_
          refine g_aload_n C dL_law_1052 1 rfl rfl ?_
          refine g_iload C dL_law_1053 6 rfl ?_
          refine g_iconst (v := nI 1) C dL_law_1055 (by decide +kernel) ?_
          refine g_iadd C dL_law_1056 ?_
          refine g_topi (y := nI (i + 1)) (nI_add i 1) ?_
          refine g_sld (j := (i + 1)) C hX hbl hbA dL_law_1057 (by omega) (by omega) ?_
          refine g_aload_n C dL_law_1058 1 rfl rfl ?_
          refine g_iload C dL_law_1059 6 rfl ?_
          refine g_iconst (v := nI 2) C dL_law_1061 (by decide +kernel) ?_
          refine g_iadd C dL_law_1062 ?_
          refine g_topi (y := nI (i + 2)) (nI_add i 2) ?_
          refine g_sld (j := (i + 2)) C hX hbl hbA dL_law_1063 (by omega) (by omega) ?_
          refine g_i2d C dL_law_1064 ?_
          refine g_ldc2d (v := 4593671619917905920) C dL_law_1065 8 rfl ?_
          refine g_dmul C dL_law_1068 ((scD_B _).F.ok) ?_
          refine g_topd (y := scD (sc (i + 2))) rfl ?_
          refine g_callV (As := [.int (sc (i + 1)), .double (scD (sc (i + 2)))]) (rest := []) C dL_law_1069 (kX7_read (xl X) (xK X) C.hD σ1 (hRl.mi.mo hst.1) (sc (i + 1)) (scD (sc (i + 2)))) wl27 rfl 2 gL_law_X7_read rfl (by decide +kernel) ⟨Nat.le_of_ble_eq_true rfl, Nat.le_of_ble_eq_true rfl⟩ ⟨hkA, hnA⟩ rfl rfl (Nat.le_of_ble_eq_true rfl) (fun rv9 σ9 h9 => ?_)
          obtain ⟨r2, hr2⟩ : ∃ z, z = rv9 := ⟨_, rfl⟩
          obtain ⟨σ2, hs2⟩ : ∃ z, z = σ9 := ⟨_, rfl⟩
          rw [← hr2, ← hs2] at h9
          rw [← hr2, ← hs2]
          obtain ⟨-, f2, f3, f4⟩ := hst.2 r2 σ2 h9
          refine g_eq (σ2 := σ2) (lv2 := [(6, .int (nI (cdRead (pD (phC σ)) (sc (i + 1)) (scD (sc (i + 2)))))), (0, .ref b), (1, .ref ((xK X).2.2 0)), (2, .ref ((xK X).2.2 27)), (3, .ref ((xK X).2.2 43)), (4, .ref ((xK X).2.2 44)), (5, .int (nI i))]) (st2 := []) rfl rfl (by rw [f4]; rfl) ?_
          refine g_aload_n C dL_law_1072 3 rfl rfl ?_
          refine g_callV (As := []) (rest := []) C dL_law_1073 (kX7_thrown (xl X) (xK X) C.hD σ2) wl27 rfl 0 gL_law_X7_thrown rfl (by decide +kernel) ⟨Nat.le_of_ble_eq_true rfl, Nat.le_of_ble_eq_true rfl⟩ ⟨hkA, hnA⟩ rfl rfl (Nat.le_of_ble_eq_true rfl) (fun rv9 σ9 h9 => ?_)
          obtain ⟨h9a, h9b⟩ := h9
          refine g_eq (σ2 := σ2) (lv2 := [(6, .int (nI (cdRead (pD (phC σ)) (sc (i + 1)) (scD (sc (i + 2)))))), (0, .ref b), (1, .ref ((xK X).2.2 0)), (2, .ref ((xK X).2.2 27)), (3, .ref ((xK X).2.2 43)), (4, .ref ((xK X).2.2 44)), (5, .int (nI i))]) (st2 := [.int (nI (cdRead (pD (phC σ)) (sc (i + 1)) (scD (sc (i + 2)))))]) h9b rfl (by rw [h9a, f2]; rfl) ?_
          refine g_iload C dL_law_1076 0 rfl ?_
          refine g_icmp_eq (tgt := 1083) C dL_law_1078 (by decide) (fun c_1078 => ?_) (fun c_1078 => ?_)
          · refine g_goto (tgt := 1219) C dL_law_1083 (by decide) ?_
            refine g_iinc (v := nI (i + 5)) (lv' := [(5, .int (nI (i + 5))), (6, .int (nI (cdRead (pD (phC σ)) (sc (i + 1)) (scD (sc (i + 2)))))), (0, .ref b), (1, .ref ((xK X).2.2 0)), (2, .ref ((xK X).2.2 27)), (3, .ref ((xK X).2.2 43)), (4, .ref ((xK X).2.2 44))]) C dL_law_1219 6 rfl (nI_add i 5) (by decide) rfl ?_
            refine g_goto (tgt := 28) C dL_law_1222 (by decide) ?_
            refine g_lv [2, 3, 4, 5, 6, 0] rfl ?_
            exact (ih28 (i + 5) σ2 _ _ (by omega) (by omega) f3 hk4 hn4)
          · exact absurd rfl c_1078
      · refine g_tableIn (off := 1042) (tgt := 1086) C dL_law_44 (by rw [e9]; decide) (by rw [e9]; decide) (by rw [e9]; decide) (by decide) ?_
        refine g_aload_n C dL_law_1086 1 rfl rfl ?_
        refine g_aload_n C dL_law_1087 0 rfl rfl ?_
        refine g_iload C dL_law_1088 5 rfl ?_
        refine g_iconst (v := nI 1) C dL_law_1090 (by decide +kernel) ?_
        refine g_iadd C dL_law_1091 ?_
        refine g_topi (y := nI (i + 1)) (nI_add i 1) ?_
        refine g_sld (j := (i + 1)) C hX hbl hbA dL_law_1092 (by omega) (by omega) ?_
        refine g_aload C dL_law_1093 4 rfl ?_
        refine g_callSHL (As := [.ref ((xK X).2.2 0), .int (sc (i + 1)), .ref ((xK X).2.2 44)]) (rest := []) C E dL_law_1095 (kL_fit (xl X) hl0 (xK X) C.hD σ hRl.i (sc (i + 1))) 3 gL_law_L_fit rfl (by decide +kernel) ⟨Nat.le_of_ble_eq_true rfl, Nat.le_of_ble_eq_true rfl⟩ ⟨Nat.le_trans (Nat.add_le_add_left (Nat.le_of_ble_eq_true rfl) kk) hkA, Nat.le_trans (Nat.add_le_add_left (Nat.le_of_ble_eq_true rfl) nn) hnA⟩ rfl rfl (Nat.le_of_ble_eq_true rfl) (fun Ec9 σ9 h9 => ?_) (fun rv9 σ9 h9 => ?_)
        · exact h9.elim
        · obtain ⟨r1, hr1⟩ : ∃ z, z = rv9 := ⟨_, rfl⟩
          obtain ⟨σ1, hs1⟩ : ∃ z, z = σ9 := ⟨_, rfl⟩
          rw [← hr1, ← hs1] at h9
          rw [← hr1, ← hs1]
          have hw1 := h9.1
          have hcdl := cdFit_le (svC σ) (sc (i + 1))
          have hst := st_fit hRl h9
          refine g_widen (k2 := kk + 4) (n2 := nn + 24) (Nat.add_le_add_left (Nat.le_of_ble_eq_true rfl) kk) (Nat.add_le_add_left (Nat.le_of_ble_eq_true rfl) nn) ?_
          refine g_eq (σ2 := σ1) (lv2 := [(0, .ref b), (1, .ref ((xK X).2.2 0)), (2, .ref ((xK X).2.2 27)), (3, .ref ((xK X).2.2 43)), (4, .ref ((xK X).2.2 44)), (5, .int (nI i))]) (st2 := [.int (nI (cdFit (svC σ) (sc (i + 1))))]) rfl rfl (by rw [hw1]; rfl) ?_
          refine g_istore (lv' := [(6, .int (nI (cdFit (svC σ) (sc (i + 1))))), (0, .ref b), (1, .ref ((xK X).2.2 0)), (2, .ref ((xK X).2.2 27)), (3, .ref ((xK X).2.2 43)), (4, .ref ((xK X).2.2 44)), (5, .int (nI i))]) C dL_law_1098 (by decide) rfl ?_
          refine g_aload_n C dL_law_1100 3 rfl rfl ?_
          refine g_aload_n C dL_law_1101 1 rfl rfl ?_
          refine g_iload C dL_law_1102 6 rfl ?_
          refine g_iconst (v := nI 1) C dL_law_1104 (by decide +kernel) ?_
          refine g_iadd C dL_law_1105 ?_
          refine g_topi (y := nI (i + 1)) (nI_add i 1) ?_
          refine g_sld (j := (i + 1)) C hX hbl hbA dL_law_1106 (by omega) (by omega) ?_
          refine g_callV (As := [.int (sc (i + 1))]) (rest := []) C dL_law_1107 (kX7_fit (xl X) (xK X) C.hD σ1 (hRl.mi.mo hst.1) (sc (i + 1))) wl27 rfl 1 gL_law_X7_fit rfl (by decide +kernel) ⟨Nat.le_of_ble_eq_true rfl, Nat.le_of_ble_eq_true rfl⟩ ⟨hkA, hnA⟩ rfl rfl (Nat.le_of_ble_eq_true rfl) (fun rv9 σ9 h9 => ?_)
          obtain ⟨r2, hr2⟩ : ∃ z, z = rv9 := ⟨_, rfl⟩
          obtain ⟨σ2, hs2⟩ : ∃ z, z = σ9 := ⟨_, rfl⟩
          rw [← hr2, ← hs2] at h9
          rw [← hr2, ← hs2]
          obtain ⟨-, f2, f3, bv, f4, f5⟩ := hst.2 r2 σ2 h9
          refine g_eq (σ2 := σ2) (lv2 := [(6, .int (nI (cdFit (svC σ) (sc (i + 1))))), (0, .ref b), (1, .ref ((xK X).2.2 0)), (2, .ref ((xK X).2.2 27)), (3, .ref ((xK X).2.2 43)), (4, .ref ((xK X).2.2 44)), (5, .int (nI i))]) (st2 := [.double bv]) rfl rfl (by rw [f4]; rfl) ?_
          refine g_dstore (lv' := [(7, .double bv), (6, .int (nI (cdFit (svC σ) (sc (i + 1))))), (0, .ref b), (1, .ref ((xK X).2.2 0)), (2, .ref ((xK X).2.2 27)), (3, .ref ((xK X).2.2 43)), (4, .ref ((xK X).2.2 44)), (5, .int (nI i))]) C dL_law_1110 (by decide) rfl ?_
          refine g_aload_n C dL_law_1112 4 rfl rfl ?_
          refine g_callV (As := []) (rest := []) C dL_law_1113 (kX7_thrown (xl X) (xK X) C.hD σ2) wl27 rfl 0 gL_law_X7_thrown rfl (by decide +kernel) ⟨Nat.le_of_ble_eq_true rfl, Nat.le_of_ble_eq_true rfl⟩ ⟨hkA, hnA⟩ rfl rfl (Nat.le_of_ble_eq_true rfl) (fun rv9 σ9 h9 => ?_)
          obtain ⟨h9a, h9b⟩ := h9
          refine g_eq (σ2 := σ2) (lv2 := [(7, .double bv), (6, .int (nI (cdFit (svC σ) (sc (i + 1))))), (0, .ref b), (1, .ref ((xK X).2.2 0)), (2, .ref ((xK X).2.2 27)), (3, .ref ((xK X).2.2 43)), (4, .ref ((xK X).2.2 44)), (5, .int (nI i))]) (st2 := [.int (nI (cdFit (svC σ) (sc (i + 1))))]) h9b rfl (by rw [h9a, f2]; rfl) ?_
          refine g_iload C dL_law_1116 1 rfl ?_
          refine g_icmp_eq (tgt := 1123) C dL_law_1118 (by decide) (fun c_1118 => ?_) (fun c_1118 => ?_)
          · refine g_iload C dL_law_1123 1 rfl ?_
            refine g_if_ne (tgt := 1160) C dL_law_1125 (by decide) (fun c_1125 => ?_) (fun c_1125 => ?_)
            · refine g_goto (tgt := 1219) C dL_law_1160 (by decide) ?_
              refine g_iinc (v := nI (i + 5)) (lv' := [(5, .int (nI (i + 5))), (7, .double bv), (6, .int (nI (cdFit (svC σ) (sc (i + 1))))), (0, .ref b), (1, .ref ((xK X).2.2 0)), (2, .ref ((xK X).2.2 27)), (3, .ref ((xK X).2.2 43)), (4, .ref ((xK X).2.2 44))]) C dL_law_1219 7 rfl (nI_add i 5) (by decide) rfl ?_
              refine g_goto (tgt := 28) C dL_law_1222 (by decide) ?_
              refine g_lv [3, 4, 5, 6, 7, 0] rfl ?_
              exact (ih28 (i + 5) σ2 _ _ (by omega) (by omega) f3 hk4 hn4)
            · have hc0 := (nI_eq (b := 0) (by omega) (by decide)).mp (Decidable.byContradiction fun h => absurd c_1125 h)
              refine g_aload C dL_law_1128 6 rfl ?_
              refine g_iconst (v := nI 0) C dL_law_1130 (by decide +kernel) ?_
              refine g_dald (j := 0) C dL_law_1131 wl44 rfl (by decide) (by decide) ?_
              refine g_dload C dL_law_1132 0 rfl ?_
              refine g_dcmp C dL_law_1134 ?_
              refine g_topi (y := nI 0) (cv_eq0 (f5 hc0) _) ?_
              refine g_if_eq (tgt := 1160) C dL_law_1135 (by decide) (fun c_1135 => ?_) (fun c_1135 => ?_)
              · refine g_goto (tgt := 1219) C dL_law_1160 (by decide) ?_
                refine g_iinc (v := nI (i + 5)) (lv' := [(5, .int (nI (i + 5))), (7, .double bv), (6, .int (nI (cdFit (svC σ) (sc (i + 1))))), (0, .ref b), (1, .ref ((xK X).2.2 0)), (2, .ref ((xK X).2.2 27)), (3, .ref ((xK X).2.2 43)), (4, .ref ((xK X).2.2 44))]) C dL_law_1219 7 rfl (nI_add i 5) (by decide) rfl ?_
                refine g_goto (tgt := 28) C dL_law_1222 (by decide) ?_
                refine g_lv [3, 4, 5, 6, 7, 0] rfl ?_
                exact (ih28 (i + 5) σ2 _ _ (by omega) (by omega) f3 hk4 hn4)
              · exact absurd rfl c_1135
          · exact absurd rfl c_1118
      · refine g_tableIn (off := 1119) (tgt := 1163) C dL_law_44 (by rw [e9]; decide) (by rw [e9]; decide) (by rw [e9]; decide) (by decide) ?_
        refine g_aload_n C dL_law_1163 1 rfl rfl ?_
        refine g_aload_n C dL_law_1164 0 rfl rfl ?_
        refine g_iload C dL_law_1165 5 rfl ?_
        refine g_iconst (v := nI 1) C dL_law_1167 (by decide +kernel) ?_
        refine g_iadd C dL_law_1168 ?_
        refine g_topi (y := nI (i + 1)) (nI_add i 1) ?_
        refine g_sld (j := (i + 1)) C hX hbl hbA dL_law_1169 (by omega) (by omega) ?_
        refine g_aload_n C dL_law_1170 3 rfl rfl ?_
        refine g_callSHL (As := [.ref ((xK X).2.2 0), .int (sc (i + 1)), .ref ((xK X).2.2 43)]) (rest := []) C E dL_law_1171 (kL_count (xl X) hl0 (xK X) C.hD σ hRl.i (sc (i + 1))) 3 gL_law_L_count rfl (by decide +kernel) ⟨Nat.le_of_ble_eq_true rfl, Nat.le_of_ble_eq_true rfl⟩ ⟨Nat.le_trans (Nat.add_le_add_left (Nat.le_of_ble_eq_true rfl) kk) hkA, Nat.le_trans (Nat.add_le_add_left (Nat.le_of_ble_eq_true rfl) nn) hnA⟩ rfl rfl (Nat.le_of_ble_eq_true rfl) (fun Ec9 σ9 h9 => ?_) (fun rv9 σ9 h9 => ?_)
        · exact h9.elim
        · obtain ⟨r1, hr1⟩ : ∃ z, z = rv9 := ⟨_, rfl⟩
          obtain ⟨σ1, hs1⟩ : ∃ z, z = σ9 := ⟨_, rfl⟩
          rw [← hr1, ← hs1] at h9
          rw [← hr1, ← hs1]
          have hw1 := h9.1
          have hcdl := cdCount_le (sc (i + 1))
          have hst := st_count hRl h9
          refine g_widen (k2 := kk + 4) (n2 := nn + 24) (Nat.add_le_add_left (Nat.le_of_ble_eq_true rfl) kk) (Nat.add_le_add_left (Nat.le_of_ble_eq_true rfl) nn) ?_
          refine g_eq (σ2 := σ1) (lv2 := [(0, .ref b), (1, .ref ((xK X).2.2 0)), (2, .ref ((xK X).2.2 27)), (3, .ref ((xK X).2.2 43)), (4, .ref ((xK X).2.2 44)), (5, .int (nI i))]) (st2 := [.int (nI (cdCount (sc (i + 1))))]) rfl rfl (by rw [hw1]; rfl) ?_
          refine g_istore (lv' := [(6, .int (nI (cdCount (sc (i + 1))))), (0, .ref b), (1, .ref ((xK X).2.2 0)), (2, .ref ((xK X).2.2 27)), (3, .ref ((xK X).2.2 43)), (4, .ref ((xK X).2.2 44)), (5, .int (nI i))]) C dL_law_1174 (by decide) rfl ?_
          refine g_aload_n C dL_law_1176 3 rfl rfl ?_
          refine g_aload_n C dL_law_1177 1 rfl rfl ?_
          refine g_iload C dL_law_1178 6 rfl ?_
          refine g_iconst (v := nI 1) C dL_law_1180 (by decide +kernel) ?_
          refine g_iadd C dL_law_1181 ?_
          refine g_topi (y := nI (i + 1)) (nI_add i 1) ?_
          refine g_sld (j := (i + 1)) C hX hbl hbA dL_law_1182 (by omega) (by omega) ?_
          refine g_callV (As := [.int (sc (i + 1))]) (rest := []) C dL_law_1183 (kX7_count (xl X) (xK X) C.hD σ1 (hRl.mi.mo hst.1) (sc (i + 1))) wl27 rfl 1 gL_law_X7_count rfl (by decide +kernel) ⟨Nat.le_of_ble_eq_true rfl, Nat.le_of_ble_eq_true rfl⟩ ⟨hkA, hnA⟩ rfl rfl (Nat.le_of_ble_eq_true rfl) (fun rv9 σ9 h9 => ?_)
          obtain ⟨r2, hr2⟩ : ∃ z, z = rv9 := ⟨_, rfl⟩
          obtain ⟨σ2, hs2⟩ : ∃ z, z = σ9 := ⟨_, rfl⟩
          rw [← hr2, ← hs2] at h9
          rw [← hr2, ← hs2]
          obtain ⟨-, f2, f3, bv, f4, f5⟩ := hst.2 r2 σ2 h9
          refine g_eq (σ2 := σ2) (lv2 := [(6, .int (nI (cdCount (sc (i + 1))))), (0, .ref b), (1, .ref ((xK X).2.2 0)), (2, .ref ((xK X).2.2 27)), (3, .ref ((xK X).2.2 43)), (4, .ref ((xK X).2.2 44)), (5, .int (nI i))]) (st2 := [.int bv]) rfl rfl (by rw [f4]; rfl) ?_
          refine g_istore (lv' := [(7, .int bv), (6, .int (nI (cdCount (sc (i + 1))))), (0, .ref b), (1, .ref ((xK X).2.2 0)), (2, .ref ((xK X).2.2 27)), (3, .ref ((xK X).2.2 43)), (4, .ref ((xK X).2.2 44)), (5, .int (nI i))]) C dL_law_1186 (by decide) rfl ?_
          refine g_aload_n C dL_law_1188 4 rfl rfl ?_
          refine g_callV (As := []) (rest := []) C dL_law_1189 (kX7_thrown (xl X) (xK X) C.hD σ2) wl27 rfl 0 gL_law_X7_thrown rfl (by decide +kernel) ⟨Nat.le_of_ble_eq_true rfl, Nat.le_of_ble_eq_true rfl⟩ ⟨hkA, hnA⟩ rfl rfl (Nat.le_of_ble_eq_true rfl) (fun rv9 σ9 h9 => ?_)
          obtain ⟨h9a, h9b⟩ := h9
          refine g_eq (σ2 := σ2) (lv2 := [(7, .int bv), (6, .int (nI (cdCount (sc (i + 1))))), (0, .ref b), (1, .ref ((xK X).2.2 0)), (2, .ref ((xK X).2.2 27)), (3, .ref ((xK X).2.2 43)), (4, .ref ((xK X).2.2 44)), (5, .int (nI i))]) (st2 := [.int (nI (cdCount (sc (i + 1))))]) h9b rfl (by rw [h9a, f2]; rfl) ?_
          refine g_iload C dL_law_1192 1 rfl ?_
          refine g_icmp_eq (tgt := 1199) C dL_law_1194 (by decide) (fun c_1194 => ?_) (fun c_1194 => ?_)
          · refine g_iload C dL_law_1199 1 rfl ?_
            refine g_if_ne (tgt := 1216) C dL_law_1201 (by decide) (fun c_1201 => ?_) (fun c_1201 => ?_)
            · refine g_goto (tgt := 1219) C dL_law_1216 (by decide) ?_
              refine g_iinc (v := nI (i + 5)) (lv' := [(5, .int (nI (i + 5))), (7, .int bv), (6, .int (nI (cdCount (sc (i + 1))))), (0, .ref b), (1, .ref ((xK X).2.2 0)), (2, .ref ((xK X).2.2 27)), (3, .ref ((xK X).2.2 43)), (4, .ref ((xK X).2.2 44))]) C dL_law_1219 7 rfl (nI_add i 5) (by decide) rfl ?_
              refine g_goto (tgt := 28) C dL_law_1222 (by decide) ?_
              refine g_lv [3, 4, 5, 6, 7, 0] rfl ?_
              exact (ih28 (i + 5) σ2 _ _ (by omega) (by omega) f3 hk4 hn4)
            · have hc0 := (nI_eq (b := 0) (by omega) (by decide)).mp (Decidable.byContradiction fun h => absurd c_1201 h)
              refine g_aload_n C dL_law_1204 5 rfl rfl ?_
              refine g_iconst (v := nI 0) C dL_law_1205 (by decide +kernel) ?_
              refine g_lald (j := 0) C dL_law_1206 wl43 rfl (by decide) (by decide) ?_
              refine g_iload C dL_law_1207 0 rfl ?_
              refine g_i2l C dL_law_1209 ?_
              refine g_lcmp C dL_law_1210 ?_
              refine g_topi (y := nI 0) (by first | (rw [f5 hc0]; exact lc_0 _) | (rw [f5 hc0, hb]; exact lc_0 _)) ?_
              refine g_if_eq (tgt := 1216) C dL_law_1211 (by decide) (fun c_1211 => ?_) (fun c_1211 => ?_)
              · refine g_goto (tgt := 1219) C dL_law_1216 (by decide) ?_
                refine g_iinc (v := nI (i + 5)) (lv' := [(5, .int (nI (i + 5))), (7, .int bv), (6, .int (nI (cdCount (sc (i + 1))))), (0, .ref b), (1, .ref ((xK X).2.2 0)), (2, .ref ((xK X).2.2 27)), (3, .ref ((xK X).2.2 43)), (4, .ref ((xK X).2.2 44))]) C dL_law_1219 7 rfl (nI_add i 5) (by decide) rfl ?_
                refine g_goto (tgt := 28) C dL_law_1222 (by decide) ?_
                refine g_lv [3, 4, 5, 6, 7, 0] rfl ?_
                exact (ih28 (i + 5) σ2 _ _ (by omega) (by omega) f3 hk4 hn4)
              · exact absurd rfl c_1211
          · exact absurd rfl c_1194
      · refine g_tableOut (tgt := 1219) C dL_law_44 e9 (by decide) ?_
        refine g_iinc (v := nI (i + 5)) (lv' := [(5, .int (nI (i + 5))), (0, .ref b), (1, .ref ((xK X).2.2 0)), (2, .ref ((xK X).2.2 27)), (3, .ref ((xK X).2.2 43)), (4, .ref ((xK X).2.2 44))]) C dL_law_1219 5 rfl (nI_add i 5) (by decide) rfl ?_
        refine g_goto (tgt := 28) C dL_law_1222 (by decide) ?_
        refine g_lv [1, 2, 3, 4, 5, 0] rfl ?_
        exact (ih28 (i + 5) σ _ _ (by omega) (by omega) hRl (Nat.le_trans (Nat.le_add_right _ _) hk4b) (Nat.le_trans (Nat.le_add_right _ _) hn4b))
