/-! machine; sizes and their order -/
def adM (h : Ph) (j : Nat) (need : UInt64) : Ph := (h.1, h.2.1 + 1, h.2.2.1, h.2.2.2.1, h.2.2.2.2.1, (fun m => if m = h.2.1 then j else h.2.2.2.2.2.1 m), h.2.2.2.2.2.2.1, vf_upd h.2.2.2.2.2.2.2.1 h.2.1 need, h.2.2.2.2.2.2.2.2.1, h.2.2.2.2.2.2.2.2.2)
theorem tn_upd (f : Nat → Int32) (n j : Nat) (hj : j < 2 ^ 31) : (fun m => tn (upd f n (nI j) m)) = fun m => if m = n then j else tn (f m) := by
  funext m
  unfold upd
  by_cases e : m = n
  · rw [if_pos e, if_pos e]; exact tn_nI hj
  · rw [if_neg e, if_neg e]
theorem ph_mach (σ : gS) {j : Nat} {need : UInt64} (hj : j < 2 ^ 31) (hm : pM (phC σ) < 8) : phC (maS (uN σ 1 (nI 0)) (pM (phC σ)) j need) = adM (phC σ) j need := by
  have e1 : tn (nI (pM (phC σ) + 1)) = pM (phC σ) + 1 := tn_nI (by omega)
  have e2 := tn_upd (sI σ 16) (pM (phC σ)) j hj
  show (tn (sN σ 2), tn (nI (pM (phC σ) + 1)), (fun d => tn (sI σ 9 d)), (fun d => tn (sI σ 10 d)), (fun d => eas (sF σ 12 d) (sF σ 11 d)), (fun m => tn (upd (sI σ 16) (pM (phC σ)) (nI j) m)), (fun m => decide (¬ sI σ 19 m = 0)), vf_upd (sF σ 17) (pM (phC σ)) need, sD σ 0, sD σ 1) = _
  rw [e1, e2]
  rfl
theorem Ic_mach {σ : gS} (h : Ic σ) (hE : Ex σ) {j : Nat} {need : UInt64} (hj : j < nJ σ) (hj0 : j ≠ 0) (hn : okN need) (hm : pM (phC σ) < 8) : Ic (maS (uN σ 1 (nI 0)) (pM (phC σ)) j need) := by
  have hnj := h.j
  unfold Ic
  rw [ph_mach σ (by omega) hm]
  obtain ⟨⟨a1, a2, a3, a4, a5, a6, a7⟩, h2, h3, h4, h5, h6, h7, h8, h9, h10, h11, h12, h13, h14, h15, h16⟩ := h
  refine ⟨⟨a1, a2, rfl, hm, a5, fun m hm1 => ?_, fun i hi => ⟨(a7 i hi).1, fun d hd ha => ?_⟩⟩, h2, ⟨h3.1, hm, h3.2.2.1, fun m hm1 => ?_, h3.2.2.2.2⟩, h4, fun m hm1 => ?_, h6, h7, h8, h9, h10, h11, h12, h13, rfl, h15, fun m hm1 => ?_⟩
  · have hm1 : m < pM (phC σ) + 1 := hm1
    show upd (sI σ 16) (pM (phC σ)) (nI j) m = nI (if m = pM (phC σ) then j else pJ (phC σ) m) ∧ (if m = pM (phC σ) then j else pJ (phC σ) m) < 10 ∧ (if m = pM (phC σ) then j else pJ (phC σ) m) ≠ 0
    unfold upd
    by_cases e : m = pM (phC σ)
    · rw [if_pos e, if_pos e]; exact ⟨rfl, by omega, hj0⟩
    · rw [if_neg e, if_neg e]; exact a6 m (by omega)
  · have e : sI (maS (uN σ 1 (nI 0)) (pM (phC σ)) j need) (45 + i) = sI σ (45 + i) := sI_ne (k := 16) (j := 45 + i) _ _ (by omega)
    rw [e]
    exact (a7 i hi).2 d hd ha
  · have hm1 : m < pM (phC σ) + 1 := hm1
    show okN (vf_upd (sF σ 17) (pM (phC σ)) need m) ∧ (if m = pM (phC σ) then j else pJ (phC σ) m) < 10
    by_cases e : m = pM (phC σ)
    · rw [if_pos e, e, vf_at]; exact ⟨hn, by omega⟩
    · rw [if_neg e, vf_ne e]; exact h3.2.2.2.1 m (by omega)
  · have hm1 : m < pM (phC σ) + 1 := hm1
    by_cases e : m = pM (phC σ)
    · show okG (sF σ 18 m)
      rw [(hE.2.1 m (by rw [e]; exact Nat.le_refl _)).2.1]
      exact okG_0
    · exact h5 m (by omega)
  · have hm1 : m < pM (phC σ) + 1 := hm1
    show (if m = pM (phC σ) then j else pJ (phC σ) m) < nJ σ
    by_cases e : m = pM (phC σ)
    · rw [if_pos e]; exact hj
    · rw [if_neg e]; exact h16 m (by omega)
theorem st_machine {σ σ1 : gS} {r1 : Option Value} {a : Int32} {nd : UInt64} (hn : dF nd) (h : Rl σ) (h1 : Wr σ (cdMach (nJ σ) (pM (phC σ)) a nd) (fun t => t = outL (maS (uN σ 1 (nI 0)) (pM (phC σ)) (tn a) nd) (nI (pM (phC σ))).toInt64) r1 σ1) : MoE σ σ1 ∧ ∀ r t, Mr σ1 (cdMach (nJ σ) (pM (phC σ)) a nd) (some (.int (nI 0))) (fun r t => r = some (.int (nI (pM (phC σ)))) ∧ t = uN (uN (uF (uI (uN σ1 5 (nI 0)) 35 (upd (sI σ1 35) (pM (phC σ)) a)) 36 (vf_upd (sF σ1 36) (pM (phC σ)) nd)) 8 (nI (pM (phC σ) + 1))) 9 (nI 0)) r t → FinI (cdMach (nJ σ) (pM (phC σ)) a nd) r1 r t := by
  have m : MoE σ σ1 := mo_W h1 (fun t e => by rw [e]; exact ((((MoE.self σ).n 1 _ (by decide)).n 3 _ (by decide)).i 16 _ (by decide)).f 17 _ (by decide))
  refine ⟨m, fun r t h2 => ?_⟩
  by_cases hc : cdMach (nJ σ) (pM (phC σ)) a nd = 0
  · have e1 := h1.2.1 hc
    obtain ⟨e2, e3⟩ := h2.2 hc
    obtain ⟨k1, k2, k3⟩ := cdMach_0 hc
    have hj := h.1.j
    have ta := inT k1 (by omega)
    have ha0 : tn a ≠ 0 := fun z => k2.1 (by rw [ta.1, z]; rfl)
    refine ⟨h1.1, ?_, ?_, _, e2, fun _ => ?_⟩
    · rw [e3, hc]; rfl
    · have cc : ClE σ1 t := by rw [e3]; exact (((((ClE.self σ1).n 5 _ (by decide)).i 35 _ (by decide)).f 36 _ (by decide)).n 8 _ (by decide)).n 9 _ (by decide)
      rw [e1] at cc
      have cc : ClE (maS (uN σ 1 (nI 0)) (pM (phC σ)) (tn a) nd) t := cc
      have hE := h.2.1
      have hE2 : Ex (maS (uN σ 1 (nI 0)) (pM (phC σ)) (tn a) nd) := by
        refine ⟨hE.1, fun k hk => ?_, hE.2.2⟩
        have hk : tn (nI (pM (phC σ) + 1)) ≤ k := hk
        rw [tn_nI (by omega)] at hk
        have : tn (sN σ 3) ≤ k := by show pM (phC σ) ≤ k; omega
        exact hE.2.1 k this
      have hIc := Ic_mach h.1 hE ta.2 ha0 (okN_of hn k2.2) k3
      obtain ⟨hI, _, ⟨n6, n7, n8, n9, n10⟩, ⟨i28, i29, i35, i39, i33, i42⟩, ⟨f30, f31, f32, f34, f36, f38, f40, f41⟩, hMd, hU⟩ := h
      refine ⟨hIc.cl cc, Ex.cl cc hE2, ?_⟩
      rw [e3, e1]
      refine ⟨⟨n6, n7, rfl, rfl, n10⟩, ⟨i28, i29, ?_, i39, i33, i42⟩, ⟨f30, f31, f32, f34, ?_, f38, f40, f41⟩, hMd, hU⟩
      · show upd (sI σ 35) (pM (phC σ)) a = upd (sI σ 16) (pM (phC σ)) (nI (tn a))
        rw [i35, ← ta.1]
      · show vf_upd (sF σ 36) (pM (phC σ)) nd = vf_upd (sF σ 17) (pM (phC σ)) nd
        rw [f36]
    · rw [e3, e1]
      show vp_updL (sL σ) 0 _ 0 = _
      exact vp_L
  · exact st_errI h h1 h2 hc
/-! ranks -/
theorem rkB_iff {c : Nat → Int32} {s t : Nat} : rkB c s t = true ↔ ((c t).toInt < (c s).toInt ∨ ((c t).toInt = (c s).toInt ∧ t < s)) := by
  unfold rkB
  rw [Bool.or_eq_true, Bool.and_eq_true, decide_eq_true_eq, decide_eq_true_eq, decide_eq_true_eq, Int32.lt_iff_toInt_lt, ← Int32.toInt_inj]
theorem rkB_f {c : Nat → Int32} {s t : Nat} (h : ¬ ((c t).toInt < (c s).toInt ∨ ((c t).toInt = (c s).toInt ∧ t < s))) : rkB c s t = false := by
  cases e : rkB c s t with
  | false => rfl
  | true => exact absurd (rkB_iff.mp e) h
theorem ctF_sub {p q : Nat → Bool} : ∀ {n : Nat}, (∀ k, k < n → p k = true → q k = true) → ctF p n ≤ ctF q n
  | 0, _ => Nat.le_refl _
  | n + 1, h => by
    have ih := ctF_sub (n := n) (fun k hk => h k (by omega))
    cases hp : p n with
    | false => rw [ctF_no hp]; exact Nat.le_trans ih (ctF_mono q (by omega))
    | true => rw [ctF_yes hp, ctF_yes (h n (by omega) hp)]; omega
theorem ctF_lt {p q : Nat → Bool} {i : Nat} (hq : q i = true) (hp : p i = false) : ∀ {n : Nat}, i < n → (∀ k, k < n → p k = true → q k = true) → ctF p n < ctF q n
  | 0, hi, _ => absurd hi (Nat.not_lt_zero _)
  | n + 1, hi, h => by
    by_cases e : i = n
    · subst e
      rw [ctF_no hp, ctF_yes hq]
      have := ctF_sub (p := p) (q := q) (n := i) (fun k hk => h k (by omega))
      omega
    · have ih := ctF_lt hq hp (n := n) (by omega) (fun k hk => h k (by omega))
      cases hpn : p n with
      | false => rw [ctF_no hpn]; exact Nat.lt_of_lt_of_le ih (ctF_mono q (by omega))
      | true => rw [ctF_yes hpn, ctF_yes (h n (by omega) hpn)]; omega
theorem ctF_all : ∀ n, ctF (fun _ => true) n = n
  | 0 => rfl
  | n + 1 => by rw [ctF_yes rfl, ctF_all n]
theorem rk_lt {c : Nat → Int32} {n s t : Nat} (ht : t < n) (h : rkB c s t = true) : rk c n t < rk c n s := by
  have h1 := rkB_iff.mp h
  refine ctF_lt h (rkB_f (by omega)) ht (fun k _ hk => rkB_iff.mpr ?_)
  have h2 := rkB_iff.mp hk
  omega
theorem rk_inj {c : Nat → Int32} {n s t : Nat} (hs : s < n) (ht : t < n) (h : rk c n s = rk c n t) : s = t := by
  by_cases h1 : rkB c s t = true
  · have := rk_lt ht h1; omega
  · by_cases h2 : rkB c t s = true
    · have := rk_lt hs h2; omega
    · rw [rkB_iff] at h1 h2
      omega
theorem rk_bd {c : Nat → Int32} {n s : Nat} (hs : s < n) : rk c n s < n := by
  have := ctF_lt (p := rkB c s) (q := fun _ => true) (i := s) rfl (rkB_f (by omega)) (n := n) hs (fun _ _ _ => rfl)
  rw [ctF_all] at this
  exact this
/-- an order by rank names each size once -/
def Od (c : Nat → Int32) (n : Nat) (o : Nat → Nat) : Prop := ∀ q, q < n → o q < n ∧ rk c n (o q) = q
theorem Od.perm {c : Nat → Int32} {n : Nat} {o : Nat → Nat} (h : Od c n o) {t : Nat} (ht : t < n) : o (rk c n t) = t := rk_inj (h _ (rk_bd ht)).1 ht (h _ (rk_bd ht)).2
theorem srch_is {p : Nat → Bool} {s : Nat} (h : p s = true) : ∀ (f k : Nat), k ≤ s → s < k + f → (∀ i, k ≤ i → i < s → p i = false) → srch p f k = some s
  | 0, _, h1, h2, _ => by omega
  | f + 1, k, h1, h2, h3 => by
    by_cases e : k = s
    · subst e; exact srch_yes h
    · rw [srch_no (h3 k (Nat.le_refl _) (by omega))]
      exact srch_is h f (k + 1) (by omega) (by omega) (fun i hi hi2 => h3 i (by omega) hi2)
theorem Od.srch {c : Nat → Int32} {n : Nat} {o : Nat → Nat} (h : Od c n o) {k : Nat} (hk : k < n) : srch (rkP c n k) n 0 = some (o k) := by
  have h1 := h k hk
  refine srch_is (decide_eq_true h1.2) n 0 (Nat.zero_le _) (by omega) (fun i _ hi => decide_eq_false (fun e => ?_))
  have : i = o k := rk_inj (c := c) (by omega) h1.1 (by rw [h1.2]; exact e)
  omega
theorem insP_spec {c : Nat → Int32} {x : Int32} : ∀ (p : Nat) (o : Nat → Int32), (insP c x o p).1 ≤ p ∧ (∀ q, q < (insP c x o p).1 → (insP c x o p).2 q = o q) ∧ (∀ q, (insP c x o p).1 < q → q ≤ p → (insP c x o p).2 q = o (q - 1)) ∧ (∀ q, p < q → (insP c x o p).2 q = o q) ∧ (∀ q, (insP c x o p).1 ≤ q → q < p → x < c (tn (o q))) ∧ ((insP c x o p).1 = 0 ∨ ¬ x < c (tn (o ((insP c x o p).1 - 1))))
  | 0, o => ⟨Nat.le_refl _, fun _ _ => rfl, fun q h1 h2 => absurd h1 (by show ¬ 0 < q; omega), fun _ _ => rfl, fun q _ h => absurd h (Nat.not_lt_zero _), Or.inl rfl⟩
  | p + 1, o => by
    by_cases h : x < c (tn (o p))
    · rw [insP_yes h]
      obtain ⟨g1, g2, g3, g4, g5, g6⟩ := insP_spec (c := c) (x := x) p (upd o (p + 1) (o p))
      have u : ∀ q, q ≠ p + 1 → upd o (p + 1) (o p) q = o q := fun q hq => if_neg hq
      refine ⟨by omega, fun q hq => ?_, fun q hq hq2 => ?_, fun q hq => ?_, fun q hq hq2 => ?_, ?_⟩
      · rw [g2 q hq, u q (by omega)]
      · by_cases e : q = p + 1
        · rw [e, g4 (p + 1) (by omega)]
          exact if_pos rfl
        · rw [g3 q hq (by omega), u _ (by omega)]
      · rw [g4 q (by omega), u q (by omega)]
      · by_cases e : q = p
        · rw [e]; exact h
        · have := g5 q hq (by omega)
          rw [u q (by omega)] at this
          exact this
      · rcases g6 with g6 | g6
        · exact Or.inl g6
        · rw [u _ (by omega)] at g6
          exact Or.inr g6
    · rw [insP_no h]
      exact ⟨Nat.le_refl _, fun _ _ => rfl, fun q h1 h2 => absurd h1 (by show ¬ p + 1 < q; omega), fun _ _ => rfl, fun q h1 h2 => absurd h1 (by show ¬ p + 1 ≤ q; omega), Or.inr h⟩
theorem rk_old {c : Nat → Int32} {n s : Nat} {x : Int32} (hs : s < n) : rk (upd c n x) (n + 1) s = rk c n s + if x < c s then 1 else 0 := by
  have u : ∀ q, q ≠ n → upd c n x q = c q := fun q hq => if_neg hq
  have un : upd c n x n = x := if_pos rfl
  have e : ctF (rkB (upd c n x) s) n = ctF (rkB c s) n := ctF_congr (fun k hk => by
    unfold rkB
    rw [u k (by omega), u s (by omega)])
  show ctF (rkB (upd c n x) s) (n + 1) = ctF (rkB c s) n + _
  have hb : rkB (upd c n x) s n = decide (x < c s) := by
    unfold rkB
    rw [u s (by omega), un, decide_eq_false (show ¬ n < s by omega), Bool.and_false, Bool.or_false]
  by_cases hx : x < c s
  · rw [if_pos hx, ctF_yes (hb.trans (decide_eq_true hx)), e]
  · rw [if_neg hx, ctF_no (hb.trans (decide_eq_false hx)), e]
    rfl
/-- the order behind one size more -/
theorem Od_ins {c : Nat → Int32} {n : Nat} {x : Int32} {o : Nat → Int32} (hn : n < 2 ^ 30) (h : Od c n (fun q => tn (o q))) :
    Od (upd c n x) (n + 1) (fun q => tn (upd (insP (upd c n x) x o n).2 (insP (upd c n x) x o n).1 (nI n) q)) := by
  obtain ⟨g1, g2, g3, g4, g5, g6⟩ := insP_spec (c := upd c n x) (x := x) n o
  generalize (insP (upd c n x) x o n).1 = P at *
  generalize (insP (upd c n x) x o n).2 = o1 at *
  have u : ∀ q, q < n → upd c n x q = c q := fun q hq => if_neg (by omega)
  have hlo : ∀ q, q < P → ¬ x < c (tn (o q)) := fun q hq hx => by
    rcases g6 with g6 | g6
    · omega
    · have b1 := h q (by omega)
      have b2 := h (P - 1) (by omega)
      rw [u _ b2.1] at g6
      have g6 : ¬ x < c (tn (o (P - 1))) := g6
      have hlt : rkB c (tn (o q)) (tn (o (P - 1))) = true := rkB_iff.mpr (by
        rw [Int32.lt_iff_toInt_lt] at hx g6
        omega)
      have := rk_lt (n := n) b2.1 hlt
      have b3 : rk c n (tn (o (P - 1))) = P - 1 := b2.2
      have b4 : rk c n (tn (o q)) = q := b1.2
      omega
  have hhi : ∀ q, P ≤ q → q < n → x < c (tn (o q)) := fun q hq hq2 => by
    have := g5 q hq hq2
    rw [u _ (h q hq2).1] at this
    exact this
  have hle : ∀ t, t < n → (rkB (upd c n x) n t = true ↔ ¬ x < c t) := fun t ht => by
    rw [rkB_iff, u t ht, show upd c n x n = x from if_pos rfl, Int32.lt_iff_toInt_lt]
    omega
  intro q hq
  show tn (upd o1 P (nI n) q) < n + 1 ∧ rk (upd c n x) (n + 1) (tn (upd o1 P (nI n) q)) = q
  by_cases e : q = P
  · have e0 : upd o1 P (nI n) q = nI n := if_pos e
    rw [e0, tn_nI (by omega)]
    refine ⟨by omega, ?_⟩
    have hself : rkB (upd c n x) n n = false := rkB_f (by omega)
    show ctF (rkB (upd c n x) n) (n + 1) = q
    rw [ctF_no hself, e]
    by_cases hP : P = n
    · have : ctF (rkB (upd c n x) n) n = ctF (fun _ => true) n := ctF_congr (fun t ht => by
        refine (hle t ht).mpr ?_
        have := hlo (rk c n t) (by have := rk_bd (c := c) ht; omega)
        have e9 : tn (o (rk c n t)) = t := h.perm ht
        rw [e9] at this
        exact this)
      rw [this, ctF_all, hP]
    · have hu := h P (by omega)
      have hx := hhi P (Nat.le_refl _) (by omega)
      have : ctF (rkB (upd c n x) n) n = ctF (rkB c (tn (o P))) n := ctF_congr (fun t ht => by
        apply Bool.eq_iff_iff.mpr
        rw [hle t ht]
        constructor
        · intro h9
          refine rkB_iff.mpr (Or.inl ?_)
          rw [Int32.lt_iff_toInt_lt] at h9 hx
          omega
        · intro h9
          have h8 := rk_lt ht h9
          have b2 : rk c n (tn (o P)) = P := hu.2
          have := hlo (rk c n t) (by omega)
          have e9 : tn (o (rk c n t)) = t := h.perm ht
          rw [e9] at this
          exact this)
      rw [this]
      exact hu.2
  · have e0 : upd o1 P (nI n) q = o1 q := if_neg e
    rw [e0]
    by_cases hlt : q < P
    · rw [g2 q hlt]
      have b := h q (by omega)
      have b1 : tn (o q) < n := b.1
      refine ⟨by omega, ?_⟩
      rw [rk_old b1, if_neg (hlo q hlt)]
      exact b.2
    · rw [g3 q (by omega) (by omega)]
      have b := h (q - 1) (by omega)
      have b1 : tn (o (q - 1)) < n := b.1
      have b2 : rk c n (tn (o (q - 1))) = q - 1 := b.2
      refine ⟨by omega, ?_⟩
      rw [rk_old b1, if_pos (hhi (q - 1) (by omega) (by omega)), b2]
      omega
/-! list -/
theorem siS_at (σ : gS) (w : UInt64) (x : Int32) : sI (siS σ (nS σ) w x) 25 = upd (sI σ 25) (nS σ) x ∧ sI (siS σ (nS σ) w x) 26 = upd (insP (upd (sI σ 25) (nS σ) x) x (sI σ 26) (nS σ)).2 (insP (upd (sI σ 25) (nS σ) x) x (sI σ 26) (nS σ)).1 (nI (nS σ)) := ⟨rfl, rfl⟩
theorem Ic_list {σ : gS} (h : Ic σ) (hE : Ex σ) {w : UInt64} {x : Int32} (hw : okW w) (hn : nS σ < 6) : Ic (siS σ (nS σ) w x) ∧ Ex (siS σ (nS σ) w x) := by
  have e4 : nS (siS σ (nS σ) w x) = nS σ + 1 := tn_nI (by omega)
  have hOd : Od (sI σ 25) (nS σ) (fun q => tn (sI σ 26 q)) := fun q hq => ⟨(h.od q hq).2, hE.2.2.1 q hq⟩
  have hO2 := Od_ins (x := x) (by omega) hOd
  have hnn : ∀ q, q < nS σ + 1 → sI (siS σ (nS σ) w x) 26 q = nI (tn (sI (siS σ (nS σ) w x) 26 q)) := fun q hq => by
    rw [(siS_at σ w x).2]
    obtain ⟨g1, g2, g3, g4, g5, g6⟩ := insP_spec (c := upd (sI σ 25) (nS σ) x) (x := x) (nS σ) (sI σ 26)
    generalize (insP (upd (sI σ 25) (nS σ) x) x (sI σ 26) (nS σ)).1 = P at *
    generalize (insP (upd (sI σ 25) (nS σ) x) x (sI σ 26) (nS σ)).2 = o1 at *
    unfold upd
    by_cases e : q = P
    · rw [if_pos e, tn_nI (by omega)]
    · rw [if_neg e]
      by_cases hl : q < P
      · rw [g2 q hl]; exact (h.od q (by omega)).1
      · rw [g3 q (by omega) (by omega)]; exact (h.od (q - 1) (by omega)).1
  have hod : ∀ q, q < nS σ + 1 → odC (siS σ (nS σ) w x) q < nS σ + 1 ∧ rk (sI (siS σ (nS σ) w x) 25) (nS σ + 1) (odC (siS σ (nS σ) w x) q) = q := hO2
  constructor
  · obtain ⟨⟨a1, a2, a3, a4, a5, a6, a7⟩, h2, h3, h4, h5, h6, h7, h8, h9, h10, h11, h12, h13, h14, h15, h16⟩ := h
    refine ⟨⟨a1, a2, a3, a4, a5, a6, fun i hi => ⟨(a7 i hi).1, fun d hd ha => ?_⟩⟩, h2, h3, h4, h5, h6, h7, h8, ⟨?_, ?_⟩, fun s hs => ?_, fun q hq => ?_, h12, h13, h14, h15, h16⟩
    · have e : sI (siS σ (nS σ) w x) (45 + i) = sI σ (45 + i) := (sI_ne (k := 26) (j := 45 + i) _ _ (by omega)).trans (sI_ne (k := 25) (j := 45 + i) _ _ (by omega))
      rw [e]
      exact (a7 i hi).2 d hd ha
    · rw [e4]; rfl
    · rw [e4]; omega
    · rw [e4] at hs
      show okW (vf_upd (sF σ 24) (nS σ) w s)
      by_cases e : s = nS σ
      · rw [e, vf_at]; exact hw
      · rw [vf_ne e]; exact h10 s (by omega)
    · rw [e4] at hq ⊢
      exact ⟨hnn q hq, (hod q hq).1⟩
  · refine ⟨hE.1, hE.2.1, fun q hq => ?_, hE.2.2.2⟩
    rw [e4] at hq ⊢
    exact (hod q hq).2
theorem st_list {σ σ1 : gS} {r1 : Option Value} {wd : UInt64} {x : Int32} (hw : dF wd) (h : Rl σ) (h1 : Wr σ (cdList (nS σ) wd x) (fun t => t = outL (siS σ (nS σ) wd x) (nI (nS σ)).toInt64) r1 σ1) : MoE σ σ1 ∧ ∀ r t, Mr σ1 (cdList (nS σ) wd x) (some (.int (nI 0))) (fun r t => r = some (.int (nI (nS σ))) ∧ t = uN (uI (uF (uN σ1 5 (nI 0)) 41 (vf_upd (sF σ1 41) (nS σ) wd)) 42 (upd (sI σ1 42) (nS σ) x)) 10 (nI (nS σ + 1))) r t → FinI (cdList (nS σ) wd x) r1 r t := by
  have m : MoE σ σ1 := mo_W h1 (fun t e => by rw [e]; exact (((((MoE.self σ).f 24 _ (by decide)).i 25 _ (by decide)).i 26 _ (by decide)).n 4 _ (by decide)).l _)
  refine ⟨m, fun r t h2 => ?_⟩
  by_cases hc : cdList (nS σ) wd x = 0
  · have e1 := h1.2.1 hc
    obtain ⟨e2, e3⟩ := h2.2 hc
    obtain ⟨k1, k2⟩ := cdList_0 hc
    refine ⟨h1.1, ?_, ?_, _, e2, fun _ => ?_⟩
    · rw [e3, hc]; rfl
    · have cc : ClE σ1 t := by rw [e3]; exact ((((ClE.self σ1).n 5 _ (by decide)).f 41 _ (by decide)).i 42 _ (by decide)).n 10 _ (by decide)
      rw [e1] at cc
      have cc : ClE (siS σ (nS σ) wd x) t := cc
      have hIE := Ic_list h.1 h.2.1 (x := x) (okW_of hw k1.1) k2
      obtain ⟨hI, _, ⟨n6, n7, n8, n9, n10⟩, ⟨i28, i29, i35, i39, i33, i42⟩, ⟨f30, f31, f32, f34, f36, f38, f40, f41⟩, hMd, hU⟩ := h
      refine ⟨hIE.1.cl cc, Ex.cl cc hIE.2, ?_⟩
      rw [e3, e1]
      refine ⟨⟨n6, n7, n8, n9, rfl⟩, ⟨i28, i29, i35, i39, i33, ?_⟩, ⟨f30, f31, f32, f34, f36, f38, f40, ?_⟩, hMd, hU⟩
      · show upd (sI σ 42) (nS σ) x = upd (sI σ 25) (nS σ) x
        rw [i42]
      · show vf_upd (sF σ 41) (nS σ) wd = vf_upd (sF σ 24) (nS σ) wd
        rw [f41]
    · rw [e3, e1]
      show vp_updL (sL σ) 0 _ 0 = _
      exact vp_L
  · exact st_errI h h1 h2 hc
