/-! what is reckoned: one text for the class and for the reference -/
def tn (x : Int32) : Nat := x.toNatClampNeg
theorem tn_nI {n : Nat} (h : n < 2 ^ 31) : tn (nI n) = n := nI_clamp h
def bI (b : Bool) : Int32 := if b then nI 1 else nI 0
theorem bI_1 : bI true = nI 1 := rfl
theorem bI_0 : bI false = nI 0 := rfl
theorem bI_ne (b : Bool) : bI b = 0 ↔ b = false := by cases b <;> decide
def mg (x : UInt64) : UInt64 := if 0 ≤ Op.cmpValue (FP.dcmp x FP.dconst0) .g then x else FP.dneg x
def nb (x : UInt64) : UInt64 := if 0 ≤ Op.cmpValue (FP.dcmp x FP.dconst0) .g then x else FP.dconst0
def mx (c m : UInt64) : UInt64 := if Op.cmpValue (FP.dcmp m c) .l ≤ 0 then c else m
def wiB (x lo hi : UInt64) : Bool := !decide (Op.cmpValue (FP.dcmp x lo) .l < 0) && !decide (0 < Op.cmpValue (FP.dcmp x hi) .g)
def eas (w l : UInt64) : UInt64 := FP.ddiv (FP.dmul (FP.dmul w w) w) l
/-- sums over those of 0 .. n-1 that p names, in turn -/
def accF (a : UInt64) (p : Nat → Bool) (g : Nat → UInt64) : Nat → UInt64
  | 0 => a
  | n + 1 => if p n then FP.dadd (accF a p g n) (g n) else accF a p g n
theorem accF_yes {a : UInt64} {p : Nat → Bool} {g : Nat → UInt64} {n : Nat} (h : p n = true) : accF a p g (n + 1) = FP.dadd (accF a p g n) (g n) := by
  show (if p n then _ else _) = _
  rw [if_pos h]
theorem accF_no {a : UInt64} {p : Nat → Bool} {g : Nat → UInt64} {n : Nat} (h : p n = false) : accF a p g (n + 1) = accF a p g n := by
  show (if p n then _ else _) = _
  rw [if_neg (by rw [h]; decide)]
theorem accF_congr {a : UInt64} {p q : Nat → Bool} {g h : Nat → UInt64} : ∀ {n : Nat}, (∀ k, k < n → p k = q k) → (∀ k, k < n → q k = true → g k = h k) → accF a p g n = accF a q h n
  | 0, _, _ => rfl
  | n + 1, h1, h2 => by
    have ih := accF_congr (a := a) (n := n) (fun k hk => h1 k (by omega)) (fun k hk => h2 k (by omega))
    have h3 := h1 n (by omega)
    cases hq : q n with
    | true => rw [accF_yes (h3.trans hq), accF_yes hq, ih, h2 n (by omega) hq]
    | false => rw [accF_no (h3.trans hq), accF_no hq, ih]
/-- how many of 0 .. n-1 p names -/
def ctF (p : Nat → Bool) : Nat → Nat
  | 0 => 0
  | n + 1 => if p n then ctF p n + 1 else ctF p n
theorem ctF_yes {p : Nat → Bool} {n : Nat} (h : p n = true) : ctF p (n + 1) = ctF p n + 1 := by
  show (if p n then _ else _) = _
  rw [if_pos h]
theorem ctF_no {p : Nat → Bool} {n : Nat} (h : p n = false) : ctF p (n + 1) = ctF p n := by
  show (if p n then _ else _) = _
  rw [if_neg (by rw [h]; decide)]
theorem ctF_le (p : Nat → Bool) : ∀ n, ctF p n ≤ n
  | 0 => Nat.le_refl _
  | n + 1 => by
    have := ctF_le p n
    cases h : p n with
    | true => rw [ctF_yes h]; omega
    | false => rw [ctF_no h]; omega
theorem ctF_congr {p q : Nat → Bool} : ∀ {n : Nat}, (∀ k, k < n → p k = q k) → ctF p n = ctF q n
  | 0, _ => rfl
  | n + 1, h1 => by
    have ih := ctF_congr (n := n) (fun k hk => h1 k (by omega))
    have h3 := h1 n (by omega)
    cases hq : q n with
    | true => rw [ctF_yes (h3.trans hq), ctF_yes hq, ih]
    | false => rw [ctF_no (h3.trans hq), ctF_no hq, ih]
theorem ctF_mono (p : Nat → Bool) {m : Nat} : ∀ {n : Nat}, m ≤ n → ctF p m ≤ ctF p n
  | 0, h => by rw [show m = 0 by omega]; exact Nat.le_refl _
  | n + 1, h => by
    by_cases hm : m = n + 1
    · rw [hm]; exact Nat.le_refl _
    · have := ctF_mono p (m := m) (n := n) (by omega)
      cases hq : p n with
      | true => rw [ctF_yes hq]; omega
      | false => rw [ctF_no hq]; exact this
/-- a list du of those that p names, in turn: the sum along the list is the sum over all -/
theorem accF_list {a : UInt64} {p : Nat → Bool} {g : Nat → UInt64} {du : Nat → Nat} : ∀ {n : Nat}, (∀ d, d < n → p d = true → du (ctF p d) = d) → accF a (fun _ => true) (fun t => g (du t)) (ctF p n) = accF a p g n
  | 0, _ => rfl
  | n + 1, h => by
    have ih := accF_list (a := a) (g := g) (n := n) (fun d hd => h d (by omega))
    cases hp : p n with
    | true => rw [ctF_yes hp, accF_yes hp, accF_yes rfl, ih, h n (by omega) hp]
    | false => rw [ctF_no hp, accF_no hp, ih]
/-- the t-th of the list is one that p names -/
theorem du_at {p : Nat → Bool} {du : Nat → Nat} : ∀ {n : Nat}, (∀ d, d < n → p d = true → du (ctF p d) = d) → ∀ t, t < ctF p n → du t < n ∧ p (du t) = true ∧ ctF p (du t) = t
  | 0, _, t, ht => absurd ht (Nat.not_lt_zero _)
  | n + 1, h, t, ht => by
    cases hp : p n with
    | true =>
      rw [ctF_yes hp] at ht
      by_cases e : t = ctF p n
      · subst e
        rw [h n (by omega) hp]
        exact ⟨by omega, hp, rfl⟩
      · obtain ⟨h1, h2, h3⟩ := du_at (n := n) (fun d hd => h d (by omega)) t (by omega)
        exact ⟨by omega, h2, h3⟩
    | false =>
      rw [ctF_no hp] at ht
      obtain ⟨h1, h2, h3⟩ := du_at (n := n) (fun d hd => h d (by omega)) t ht
      exact ⟨by omega, h2, h3⟩
/-- ducts and machines as they stand: number of ducts, of machines, first and second ends, eases, machines' joints, open, needs, strength, fall -/
abbrev Ph : Type := Nat × Nat × (Nat → Nat) × (Nat → Nat) × (Nat → UInt64) × (Nat → Nat) × (Nat → Bool) × (Nat → UInt64) × UInt64 × UInt64
def pD (h : Ph) : Nat := h.1
def pM (h : Ph) : Nat := h.2.1
def pA (h : Ph) : Nat → Nat := h.2.2.1
def pB (h : Ph) : Nat → Nat := h.2.2.2.1
def pE (h : Ph) : Nat → UInt64 := h.2.2.2.2.1
def pJ (h : Ph) : Nat → Nat := h.2.2.2.2.2.1
def pO (h : Ph) : Nat → Bool := h.2.2.2.2.2.2.1
def pN (h : Ph) : Nat → UInt64 := h.2.2.2.2.2.2.2.1
def pS (h : Ph) : UInt64 := h.2.2.2.2.2.2.2.2.1
def pL (h : Ph) : UInt64 := h.2.2.2.2.2.2.2.2.2
def atj (h : Ph) (j d : Nat) : Bool := decide (pA h d = j) || decide (pB h d = j)
def oth (h : Ph) (j d : Nat) : Nat := if pA h d = j then pB h d else pA h d
def hasD (h : Ph) (j : Nat) : Bool := decide (ctF (atj h j) (pD h) ≠ 0)
def pulV (h : Ph) (P : Nat → UInt64) (j : Nat) : UInt64 := accF FP.dconst0 (atj h j) (fun d => FP.dmul (pE h d) (P (oth h j d))) (pD h)
def wgE (h : Ph) (j : Nat) : UInt64 := accF FP.dconst0 (atj h j) (pE h) (pD h)
def opAt (h : Ph) (j m : Nat) : Bool := pO h m && decide (pJ h m = j)
def wgt (h : Ph) (g : Nat → UInt64) (j : Nat) : UInt64 := accF (wgE h j) (opAt h j) (fun m => FP.dmul (g m) 4620693217682128896) (pM h)
def floV (h : Ph) (P : Nat → UInt64) (j : Nat) : UInt64 := accF FP.dconst0 (atj h j) (fun d => FP.dmul (pE h d) (FP.dsub (P (oth h j d)) (P j))) (pD h)
def hldV (h : Ph) (fl : UInt64) : UInt64 := FP.dsub FP.dconst0 (FP.dsub (pS h) (FP.dmul (pL h) fl))
/-- above 0 it is 0 -/
def na (x : UInt64) : UInt64 := if Op.cmpValue (FP.dcmp x FP.dconst0) .l ≤ 0 then x else FP.dconst0
/-- one joint of a round -/
def stJ (h : Ph) (g : Nat → UInt64) (j : Nat) (s : (Nat → UInt64) × UInt64) : (Nat → UInt64) × UInt64 :=
  if hasD h j then (vf_upd s.1 j (FP.ddiv (pulV h s.1 j) (wgt h g j)), mx s.2 (mg (FP.dsub (FP.ddiv (pulV h s.1 j) (wgt h g j)) (s.1 j)))) else s
def rdN (h : Ph) (g : Nat → UInt64) (s : (Nat → UInt64) × UInt64) : Nat → (Nat → UInt64) × UInt64
  | 0 => s
  | i + 1 => stJ h g (i + 1) (rdN h g s i)
/-- a round: pressures and the fan's flow; its change -/
def rdP (h : Ph) (g : Nat → UInt64) (s : (Nat → UInt64) × UInt64) : Nat → UInt64 := (rdN h g (vf_upd s.1 0 (na (hldV h s.2)), FP.dconst0) 9).1
def rdC (h : Ph) (g : Nat → UInt64) (s : (Nat → UInt64) × UInt64) : UInt64 := (rdN h g (vf_upd s.1 0 (na (hldV h s.2)), FP.dconst0) 9).2
def rdF (h : Ph) (g : Nat → UInt64) (s : (Nat → UInt64) × UInt64) : UInt64 := nb (floV h (rdP h g s) 0)
def rdS (h : Ph) (g : Nat → UInt64) (s : (Nat → UInt64) × UInt64) : (Nat → UInt64) × UInt64 := (rdP h g s, rdF h g s)
/-- k rounds -/
def itR (h : Ph) (g : Nat → UInt64) (s : (Nat → UInt64) × UInt64) : Nat → (Nat → UInt64) × UInt64
  | 0 => s
  | k + 1 => rdS h g (itR h g s k)
/-- the change of the k-th round is small -/
def smC (x : UInt64) : Bool := decide (Op.cmpValue (FP.dcmp x 4517110426252607488) .g < 0)
/-- the first of k, k+1 .. that p names, f tries -/
def srch (p : Nat → Bool) : Nat → Nat → Option Nat
  | 0, _ => none
  | f + 1, k => if p k then some k else srch p f (k + 1)
def seK (h : Ph) (g : Nat → UInt64) (s : (Nat → UInt64) × UInt64) : Option Nat := srch (fun k => smC (rdC h g (itR h g s (k - 1)))) 100 1
/-- what a machine draws -/
def drV (h : Ph) (P g : Nat → UInt64) (m : Nat) : UInt64 := if pO h m then nb (FP.dmul (FP.dmul (g m) 4620693217682128896) (FP.dsub FP.dconst0 (P (pJ h m)))) else FP.dconst0
/-- draws more than its need -/
def ovr (h : Ph) (P g : Nat → UInt64) (m : Nat) : Bool := pO h m && decide (0 < Op.cmpValue (FP.dcmp (drV h P g m) (pN h m)) .l)
def far (h : Ph) (P g : Nat → UInt64) (m : Nat) : Bool := decide (0 < Op.cmpValue (FP.dcmp (FP.dmul (drV h P g m) 4652007308841189376) (FP.dmul (pN h m) 4652016104934211584)) .l)
/-- the gates closed, machine by machine; whether one was far above -/
def clG (h : Ph) (P g : Nat → UInt64) : Nat → (Nat → UInt64)
  | 0 => g
  | m + 1 => if ovr h P g m then vf_upd (clG h P g m) m (FP.ddiv (FP.dmul (g m) (pN h m)) (drV h P g m)) else clG h P g m
def clB (h : Ph) (P g : Nat → UInt64) : Nat → Bool
  | 0 => false
  | m + 1 => if ovr h P g m then (clB h P g m || far h P g m) else clB h P g m
