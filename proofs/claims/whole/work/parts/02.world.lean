/-! the world of all places: what is where, in words of values only -/
abbrev gK : Type := va_G × (Nat → ClassId) × (Nat → Nat)
abbrev gS : Type := (Nat → Int32) × (Nat → UInt64) × (Nat → Nat → Int32) × (Nat → Nat → UInt64) × (Nat → Int64)
def sN (σ : gS) (k : Nat) : Int32 := σ.1 k
def sD (σ : gS) (k : Nat) : UInt64 := σ.2.1 k
def sI (σ : gS) (k : Nat) : Nat → Int32 := σ.2.2.1 k
def sF (σ : gS) (k : Nat) : Nat → UInt64 := σ.2.2.2.1 k
def sL (σ : gS) : Nat → Int64 := σ.2.2.2.2
def uN (σ : gS) (k : Nat) (x : Int32) : gS := (va_up σ.1 k x, σ.2.1, σ.2.2.1, σ.2.2.2.1, σ.2.2.2.2)
def uD (σ : gS) (k : Nat) (x : UInt64) : gS := (σ.1, va_up σ.2.1 k x, σ.2.2.1, σ.2.2.2.1, σ.2.2.2.2)
def uI (σ : gS) (k : Nat) (f : Nat → Int32) : gS := (σ.1, σ.2.1, va_up σ.2.2.1 k f, σ.2.2.2.1, σ.2.2.2.2)
def uF (σ : gS) (k : Nat) (f : Nat → UInt64) : gS := (σ.1, σ.2.1, σ.2.2.1, va_up σ.2.2.2.1 k f, σ.2.2.2.2)
def uL (σ : gS) (f : Nat → Int64) : gS := (σ.1, σ.2.1, σ.2.2.1, σ.2.2.2.1, f)
theorem sN_uN (σ : gS) (k j : Nat) (x : Int32) : sN (uN σ k x) j = if j = k then x else sN σ j := rfl
theorem sN_uD (σ : gS) (k j : Nat) (x : UInt64) : sN (uD σ k x) j = sN σ j := rfl
theorem sN_uI (σ : gS) (k j : Nat) (x : Nat → Int32) : sN (uI σ k x) j = sN σ j := rfl
theorem sN_uF (σ : gS) (k j : Nat) (x : Nat → UInt64) : sN (uF σ k x) j = sN σ j := rfl
theorem sN_uL (σ : gS) (j : Nat) (f : Nat → Int64) : sN (uL σ f) j = sN σ j := rfl
theorem sL_uN (σ : gS) (k : Nat) (x : Int32) : sL (uN σ k x) = sL σ := rfl
theorem sN_self (σ : gS) (k : Nat) (x : Int32) : sN (uN σ k x) k = x := if_pos rfl
theorem sN_ne (σ : gS) {k j : Nat} (x : Int32) (h : j ≠ k) : sN (uN σ k x) j = sN σ j := if_neg h
theorem sD_uN (σ : gS) (k j : Nat) (x : Int32) : sD (uN σ k x) j = sD σ j := rfl
theorem sD_uD (σ : gS) (k j : Nat) (x : UInt64) : sD (uD σ k x) j = if j = k then x else sD σ j := rfl
theorem sD_uI (σ : gS) (k j : Nat) (x : Nat → Int32) : sD (uI σ k x) j = sD σ j := rfl
theorem sD_uF (σ : gS) (k j : Nat) (x : Nat → UInt64) : sD (uF σ k x) j = sD σ j := rfl
theorem sD_uL (σ : gS) (j : Nat) (f : Nat → Int64) : sD (uL σ f) j = sD σ j := rfl
theorem sL_uD (σ : gS) (k : Nat) (x : UInt64) : sL (uD σ k x) = sL σ := rfl
theorem sD_self (σ : gS) (k : Nat) (x : UInt64) : sD (uD σ k x) k = x := if_pos rfl
theorem sD_ne (σ : gS) {k j : Nat} (x : UInt64) (h : j ≠ k) : sD (uD σ k x) j = sD σ j := if_neg h
theorem sI_uN (σ : gS) (k j : Nat) (x : Int32) : sI (uN σ k x) j = sI σ j := rfl
theorem sI_uD (σ : gS) (k j : Nat) (x : UInt64) : sI (uD σ k x) j = sI σ j := rfl
theorem sI_uI (σ : gS) (k j : Nat) (x : Nat → Int32) : sI (uI σ k x) j = if j = k then x else sI σ j := rfl
theorem sI_uF (σ : gS) (k j : Nat) (x : Nat → UInt64) : sI (uF σ k x) j = sI σ j := rfl
theorem sI_uL (σ : gS) (j : Nat) (f : Nat → Int64) : sI (uL σ f) j = sI σ j := rfl
theorem sL_uI (σ : gS) (k : Nat) (x : Nat → Int32) : sL (uI σ k x) = sL σ := rfl
theorem sI_self (σ : gS) (k : Nat) (x : Nat → Int32) : sI (uI σ k x) k = x := if_pos rfl
theorem sI_ne (σ : gS) {k j : Nat} (x : Nat → Int32) (h : j ≠ k) : sI (uI σ k x) j = sI σ j := if_neg h
theorem sF_uN (σ : gS) (k j : Nat) (x : Int32) : sF (uN σ k x) j = sF σ j := rfl
theorem sF_uD (σ : gS) (k j : Nat) (x : UInt64) : sF (uD σ k x) j = sF σ j := rfl
theorem sF_uI (σ : gS) (k j : Nat) (x : Nat → Int32) : sF (uI σ k x) j = sF σ j := rfl
theorem sF_uF (σ : gS) (k j : Nat) (x : Nat → UInt64) : sF (uF σ k x) j = if j = k then x else sF σ j := rfl
theorem sF_uL (σ : gS) (j : Nat) (f : Nat → Int64) : sF (uL σ f) j = sF σ j := rfl
theorem sL_uF (σ : gS) (k : Nat) (x : Nat → UInt64) : sL (uF σ k x) = sL σ := rfl
theorem sF_self (σ : gS) (k : Nat) (x : Nat → UInt64) : sF (uF σ k x) k = x := if_pos rfl
theorem sF_ne (σ : gS) {k j : Nat} (x : Nat → UInt64) (h : j ≠ k) : sF (uF σ k x) j = sF σ j := if_neg h
theorem sL_uL (σ : gS) (f : Nat → Int64) : sL (uL σ f) = f := rfl
def gRows (K : gK) : Nat → Option Nat := fun i => if i < 10 then some (K.2.2 (45 + i)) else none
def wld (K : gK) (σ : gS) : va_W := [(K.2.2 0, .inr (6, [.ref (K.2.2 1), .ref (K.2.2 2), .ref (K.2.2 3), .ref (K.2.2 4), .ref (K.2.2 5), .int (sN σ 0), .int (sN σ 1)])), (K.2.2 1, .inr (0, [.ref (K.2.2 2), .ref (K.2.2 3), .ref (K.2.2 6), .ref (K.2.2 7), .ref (K.2.2 8)])), (K.2.2 2, .inr (1, [.int (sN σ 2), .ref (K.2.2 9), .ref (K.2.2 10), .ref (K.2.2 11), .ref (K.2.2 12), .ref (K.2.2 13), .ref (K.2.2 14), .ref (K.2.2 15)])), (K.2.2 3, .inr (4, [.int (sN σ 3), .ref (K.2.2 16), .ref (K.2.2 17), .ref (K.2.2 18), .ref (K.2.2 19), .ref (K.2.2 20)])), (K.2.2 4, .inr (3, [.ref (K.2.2 21), .ref (K.2.2 22), .ref (K.2.2 23)])), (K.2.2 5, .inr (5, [.int (sN σ 4), .ref (K.2.2 24), .ref (K.2.2 25), .ref (K.2.2 26)])), (K.2.2 6, .inr (2, [.double (sD σ 0), .double (sD σ 1), .double (sD σ 2)])), (K.2.2 7, .inl (K.2.1 0, 10, .inr (.inr (.inr (.inl (sF σ 7)))))), (K.2.2 8, .inl (K.2.1 0, 10, .inr (.inr (.inr (.inl (sF σ 8)))))), (K.2.2 9, .inl (K.2.1 1, 16, .inl (sI σ 9))), (K.2.2 10, .inl (K.2.1 1, 16, .inl (sI σ 10))), (K.2.2 11, .inl (K.2.1 0, 16, .inr (.inr (.inr (.inl (sF σ 11)))))), (K.2.2 12, .inl (K.2.1 0, 16, .inr (.inr (.inr (.inl (sF σ 12)))))), (K.2.2 13, .inl (K.2.1 0, 16, .inr (.inr (.inr (.inl (sF σ 13)))))), (K.2.2 14, .inl (K.2.1 3, 10, .inr (.inr (.inr (.inr (gRows K)))))), (K.2.2 15, .inl (K.2.1 1, 10, .inl (sI σ 15))), (K.2.2 16, .inl (K.2.1 1, 8, .inl (sI σ 16))), (K.2.2 17, .inl (K.2.1 0, 8, .inr (.inr (.inr (.inl (sF σ 17)))))), (K.2.2 18, .inl (K.2.1 0, 8, .inr (.inr (.inr (.inl (sF σ 18)))))), (K.2.2 19, .inl (K.2.1 2, 8, .inl (sI σ 19))), (K.2.2 20, .inl (K.2.1 1, 8, .inl (sI σ 20))), (K.2.2 21, .inl (K.2.1 0, 16, .inr (.inr (.inr (.inl (sF σ 21)))))), (K.2.2 22, .inl (K.2.1 0, 16, .inr (.inr (.inr (.inl (sF σ 22)))))), (K.2.2 23, .inl (K.2.1 2, 16, .inl (sI σ 23))), (K.2.2 24, .inl (K.2.1 0, 6, .inr (.inr (.inr (.inl (sF σ 24)))))), (K.2.2 25, .inl (K.2.1 1, 6, .inl (sI σ 25))), (K.2.2 26, .inl (K.2.1 1, 6, .inl (sI σ 26))), (K.2.2 27, .inr (7, [.int (sN σ 5), .int (sN σ 6), .int (sN σ 7), .ref (K.2.2 28), .ref (K.2.2 29), .ref (K.2.2 30), .ref (K.2.2 31), .ref (K.2.2 32), .ref (K.2.2 33), .ref (K.2.2 34), .int (sN σ 8), .ref (K.2.2 35), .ref (K.2.2 36), .ref (K.2.2 37), .ref (K.2.2 38), .ref (K.2.2 39), .double (sD σ 3), .double (sD σ 4), .ref (K.2.2 40), .double (sD σ 5), .int (sN σ 9), .int (sN σ 10), .ref (K.2.2 41), .ref (K.2.2 42)])), (K.2.2 28, .inl (K.2.1 1, 16, .inl (sI σ 28))), (K.2.2 29, .inl (K.2.1 1, 16, .inl (sI σ 29))), (K.2.2 30, .inl (K.2.1 0, 16, .inr (.inr (.inr (.inl (sF σ 30)))))), (K.2.2 31, .inl (K.2.1 0, 16, .inr (.inr (.inr (.inl (sF σ 31)))))), (K.2.2 32, .inl (K.2.1 0, 16, .inr (.inr (.inr (.inl (sF σ 32)))))), (K.2.2 33, .inl (K.2.1 2, 16, .inl (sI σ 33))), (K.2.2 34, .inl (K.2.1 0, 16, .inr (.inr (.inr (.inl (sF σ 34)))))), (K.2.2 35, .inl (K.2.1 1, 8, .inl (sI σ 35))), (K.2.2 36, .inl (K.2.1 0, 8, .inr (.inr (.inr (.inl (sF σ 36)))))), (K.2.2 37, .inl (K.2.1 2, 32, .inl (sI σ 37))), (K.2.2 38, .inl (K.2.1 0, 8, .inr (.inr (.inr (.inl (sF σ 38)))))), (K.2.2 39, .inl (K.2.1 2, 8, .inl (sI σ 39))), (K.2.2 40, .inl (K.2.1 0, 10, .inr (.inr (.inr (.inl (sF σ 40)))))), (K.2.2 41, .inl (K.2.1 0, 6, .inr (.inr (.inr (.inl (sF σ 41)))))), (K.2.2 42, .inl (K.2.1 1, 6, .inl (sI σ 42))), (K.2.2 43, .inl (K.2.1 4, 1, .inr (.inl (sL σ)))), (K.2.2 44, .inl (K.2.1 0, 1, .inr (.inr (.inr (.inl (sF σ 44)))))), (K.2.2 45, .inl (K.2.1 1, 16, .inl (sI σ 45))), (K.2.2 46, .inl (K.2.1 1, 16, .inl (sI σ 46))), (K.2.2 47, .inl (K.2.1 1, 16, .inl (sI σ 47))), (K.2.2 48, .inl (K.2.1 1, 16, .inl (sI σ 48))), (K.2.2 49, .inl (K.2.1 1, 16, .inl (sI σ 49))), (K.2.2 50, .inl (K.2.1 1, 16, .inl (sI σ 50))), (K.2.2 51, .inl (K.2.1 1, 16, .inl (sI σ 51))), (K.2.2 52, .inl (K.2.1 1, 16, .inl (sI σ 52))), (K.2.2 53, .inl (K.2.1 1, 16, .inl (sI σ 53))), (K.2.2 54, .inl (K.2.1 1, 16, .inl (sI σ 54)))]
def tyK (K : gK) : List (ClassId × FieldType) := [(K.2.1 0, .double), (K.2.1 1, .int), (K.2.1 2, .boolean), (K.2.1 3, .array .int), (K.2.1 4, .long)]
theorem wl0 {K : gK} {σ : gS} : (wld K σ)[0]? = some (K.2.2 0, .inr (6, [.ref (K.2.2 1), .ref (K.2.2 2), .ref (K.2.2 3), .ref (K.2.2 4), .ref (K.2.2 5), .int (sN σ 0), .int (sN σ 1)])) := rfl
theorem wl1 {K : gK} {σ : gS} : (wld K σ)[1]? = some (K.2.2 1, .inr (0, [.ref (K.2.2 2), .ref (K.2.2 3), .ref (K.2.2 6), .ref (K.2.2 7), .ref (K.2.2 8)])) := rfl
theorem wl2 {K : gK} {σ : gS} : (wld K σ)[2]? = some (K.2.2 2, .inr (1, [.int (sN σ 2), .ref (K.2.2 9), .ref (K.2.2 10), .ref (K.2.2 11), .ref (K.2.2 12), .ref (K.2.2 13), .ref (K.2.2 14), .ref (K.2.2 15)])) := rfl
theorem wl3 {K : gK} {σ : gS} : (wld K σ)[3]? = some (K.2.2 3, .inr (4, [.int (sN σ 3), .ref (K.2.2 16), .ref (K.2.2 17), .ref (K.2.2 18), .ref (K.2.2 19), .ref (K.2.2 20)])) := rfl
theorem wl4 {K : gK} {σ : gS} : (wld K σ)[4]? = some (K.2.2 4, .inr (3, [.ref (K.2.2 21), .ref (K.2.2 22), .ref (K.2.2 23)])) := rfl
theorem wl5 {K : gK} {σ : gS} : (wld K σ)[5]? = some (K.2.2 5, .inr (5, [.int (sN σ 4), .ref (K.2.2 24), .ref (K.2.2 25), .ref (K.2.2 26)])) := rfl
theorem wl6 {K : gK} {σ : gS} : (wld K σ)[6]? = some (K.2.2 6, .inr (2, [.double (sD σ 0), .double (sD σ 1), .double (sD σ 2)])) := rfl
theorem wl7 {K : gK} {σ : gS} : (wld K σ)[7]? = some (K.2.2 7, .inl (K.2.1 0, 10, .inr (.inr (.inr (.inl (sF σ 7)))))) := rfl
theorem wl8 {K : gK} {σ : gS} : (wld K σ)[8]? = some (K.2.2 8, .inl (K.2.1 0, 10, .inr (.inr (.inr (.inl (sF σ 8)))))) := rfl
theorem wl9 {K : gK} {σ : gS} : (wld K σ)[9]? = some (K.2.2 9, .inl (K.2.1 1, 16, .inl (sI σ 9))) := rfl
theorem wl10 {K : gK} {σ : gS} : (wld K σ)[10]? = some (K.2.2 10, .inl (K.2.1 1, 16, .inl (sI σ 10))) := rfl
theorem wl11 {K : gK} {σ : gS} : (wld K σ)[11]? = some (K.2.2 11, .inl (K.2.1 0, 16, .inr (.inr (.inr (.inl (sF σ 11)))))) := rfl
theorem wl12 {K : gK} {σ : gS} : (wld K σ)[12]? = some (K.2.2 12, .inl (K.2.1 0, 16, .inr (.inr (.inr (.inl (sF σ 12)))))) := rfl
theorem wl13 {K : gK} {σ : gS} : (wld K σ)[13]? = some (K.2.2 13, .inl (K.2.1 0, 16, .inr (.inr (.inr (.inl (sF σ 13)))))) := rfl
theorem wl14 {K : gK} {σ : gS} : (wld K σ)[14]? = some (K.2.2 14, .inl (K.2.1 3, 10, .inr (.inr (.inr (.inr (gRows K)))))) := rfl
theorem wl15 {K : gK} {σ : gS} : (wld K σ)[15]? = some (K.2.2 15, .inl (K.2.1 1, 10, .inl (sI σ 15))) := rfl
theorem wl16 {K : gK} {σ : gS} : (wld K σ)[16]? = some (K.2.2 16, .inl (K.2.1 1, 8, .inl (sI σ 16))) := rfl
theorem wl17 {K : gK} {σ : gS} : (wld K σ)[17]? = some (K.2.2 17, .inl (K.2.1 0, 8, .inr (.inr (.inr (.inl (sF σ 17)))))) := rfl
theorem wl18 {K : gK} {σ : gS} : (wld K σ)[18]? = some (K.2.2 18, .inl (K.2.1 0, 8, .inr (.inr (.inr (.inl (sF σ 18)))))) := rfl
theorem wl19 {K : gK} {σ : gS} : (wld K σ)[19]? = some (K.2.2 19, .inl (K.2.1 2, 8, .inl (sI σ 19))) := rfl
theorem wl20 {K : gK} {σ : gS} : (wld K σ)[20]? = some (K.2.2 20, .inl (K.2.1 1, 8, .inl (sI σ 20))) := rfl
theorem wl21 {K : gK} {σ : gS} : (wld K σ)[21]? = some (K.2.2 21, .inl (K.2.1 0, 16, .inr (.inr (.inr (.inl (sF σ 21)))))) := rfl
theorem wl22 {K : gK} {σ : gS} : (wld K σ)[22]? = some (K.2.2 22, .inl (K.2.1 0, 16, .inr (.inr (.inr (.inl (sF σ 22)))))) := rfl
theorem wl23 {K : gK} {σ : gS} : (wld K σ)[23]? = some (K.2.2 23, .inl (K.2.1 2, 16, .inl (sI σ 23))) := rfl
theorem wl24 {K : gK} {σ : gS} : (wld K σ)[24]? = some (K.2.2 24, .inl (K.2.1 0, 6, .inr (.inr (.inr (.inl (sF σ 24)))))) := rfl
theorem wl25 {K : gK} {σ : gS} : (wld K σ)[25]? = some (K.2.2 25, .inl (K.2.1 1, 6, .inl (sI σ 25))) := rfl
theorem wl26 {K : gK} {σ : gS} : (wld K σ)[26]? = some (K.2.2 26, .inl (K.2.1 1, 6, .inl (sI σ 26))) := rfl
theorem wl27 {K : gK} {σ : gS} : (wld K σ)[27]? = some (K.2.2 27, .inr (7, [.int (sN σ 5), .int (sN σ 6), .int (sN σ 7), .ref (K.2.2 28), .ref (K.2.2 29), .ref (K.2.2 30), .ref (K.2.2 31), .ref (K.2.2 32), .ref (K.2.2 33), .ref (K.2.2 34), .int (sN σ 8), .ref (K.2.2 35), .ref (K.2.2 36), .ref (K.2.2 37), .ref (K.2.2 38), .ref (K.2.2 39), .double (sD σ 3), .double (sD σ 4), .ref (K.2.2 40), .double (sD σ 5), .int (sN σ 9), .int (sN σ 10), .ref (K.2.2 41), .ref (K.2.2 42)])) := rfl
theorem wl28 {K : gK} {σ : gS} : (wld K σ)[28]? = some (K.2.2 28, .inl (K.2.1 1, 16, .inl (sI σ 28))) := rfl
theorem wl29 {K : gK} {σ : gS} : (wld K σ)[29]? = some (K.2.2 29, .inl (K.2.1 1, 16, .inl (sI σ 29))) := rfl
theorem wl30 {K : gK} {σ : gS} : (wld K σ)[30]? = some (K.2.2 30, .inl (K.2.1 0, 16, .inr (.inr (.inr (.inl (sF σ 30)))))) := rfl
theorem wl31 {K : gK} {σ : gS} : (wld K σ)[31]? = some (K.2.2 31, .inl (K.2.1 0, 16, .inr (.inr (.inr (.inl (sF σ 31)))))) := rfl
theorem wl32 {K : gK} {σ : gS} : (wld K σ)[32]? = some (K.2.2 32, .inl (K.2.1 0, 16, .inr (.inr (.inr (.inl (sF σ 32)))))) := rfl
theorem wl33 {K : gK} {σ : gS} : (wld K σ)[33]? = some (K.2.2 33, .inl (K.2.1 2, 16, .inl (sI σ 33))) := rfl
theorem wl34 {K : gK} {σ : gS} : (wld K σ)[34]? = some (K.2.2 34, .inl (K.2.1 0, 16, .inr (.inr (.inr (.inl (sF σ 34)))))) := rfl
theorem wl35 {K : gK} {σ : gS} : (wld K σ)[35]? = some (K.2.2 35, .inl (K.2.1 1, 8, .inl (sI σ 35))) := rfl
theorem wl36 {K : gK} {σ : gS} : (wld K σ)[36]? = some (K.2.2 36, .inl (K.2.1 0, 8, .inr (.inr (.inr (.inl (sF σ 36)))))) := rfl
theorem wl37 {K : gK} {σ : gS} : (wld K σ)[37]? = some (K.2.2 37, .inl (K.2.1 2, 32, .inl (sI σ 37))) := rfl
theorem wl38 {K : gK} {σ : gS} : (wld K σ)[38]? = some (K.2.2 38, .inl (K.2.1 0, 8, .inr (.inr (.inr (.inl (sF σ 38)))))) := rfl
theorem wl39 {K : gK} {σ : gS} : (wld K σ)[39]? = some (K.2.2 39, .inl (K.2.1 2, 8, .inl (sI σ 39))) := rfl
theorem wl40 {K : gK} {σ : gS} : (wld K σ)[40]? = some (K.2.2 40, .inl (K.2.1 0, 10, .inr (.inr (.inr (.inl (sF σ 40)))))) := rfl
theorem wl41 {K : gK} {σ : gS} : (wld K σ)[41]? = some (K.2.2 41, .inl (K.2.1 0, 6, .inr (.inr (.inr (.inl (sF σ 41)))))) := rfl
theorem wl42 {K : gK} {σ : gS} : (wld K σ)[42]? = some (K.2.2 42, .inl (K.2.1 1, 6, .inl (sI σ 42))) := rfl
theorem wl43 {K : gK} {σ : gS} : (wld K σ)[43]? = some (K.2.2 43, .inl (K.2.1 4, 1, .inr (.inl (sL σ)))) := rfl
theorem wl44 {K : gK} {σ : gS} : (wld K σ)[44]? = some (K.2.2 44, .inl (K.2.1 0, 1, .inr (.inr (.inr (.inl (sF σ 44)))))) := rfl
theorem wl45 {K : gK} {σ : gS} : (wld K σ)[45]? = some (K.2.2 45, .inl (K.2.1 1, 16, .inl (sI σ 45))) := rfl
theorem wl46 {K : gK} {σ : gS} : (wld K σ)[46]? = some (K.2.2 46, .inl (K.2.1 1, 16, .inl (sI σ 46))) := rfl
theorem wl47 {K : gK} {σ : gS} : (wld K σ)[47]? = some (K.2.2 47, .inl (K.2.1 1, 16, .inl (sI σ 47))) := rfl
theorem wl48 {K : gK} {σ : gS} : (wld K σ)[48]? = some (K.2.2 48, .inl (K.2.1 1, 16, .inl (sI σ 48))) := rfl
theorem wl49 {K : gK} {σ : gS} : (wld K σ)[49]? = some (K.2.2 49, .inl (K.2.1 1, 16, .inl (sI σ 49))) := rfl
theorem wl50 {K : gK} {σ : gS} : (wld K σ)[50]? = some (K.2.2 50, .inl (K.2.1 1, 16, .inl (sI σ 50))) := rfl
theorem wl51 {K : gK} {σ : gS} : (wld K σ)[51]? = some (K.2.2 51, .inl (K.2.1 1, 16, .inl (sI σ 51))) := rfl
theorem wl52 {K : gK} {σ : gS} : (wld K σ)[52]? = some (K.2.2 52, .inl (K.2.1 1, 16, .inl (sI σ 52))) := rfl
theorem wl53 {K : gK} {σ : gS} : (wld K σ)[53]? = some (K.2.2 53, .inl (K.2.1 1, 16, .inl (sI σ 53))) := rfl
theorem wl54 {K : gK} {σ : gS} : (wld K σ)[54]? = some (K.2.2 54, .inl (K.2.1 1, 16, .inl (sI σ 54))) := rfl
theorem wsN0 {K : gK} {σ : gS} {x : Int32} : (wld K σ).set 0 (K.2.2 0, .inr (6, List.set [.ref (K.2.2 1), .ref (K.2.2 2), .ref (K.2.2 3), .ref (K.2.2 4), .ref (K.2.2 5), .int (sN σ 0), .int (sN σ 1)] 5 (.int x))) = wld K (uN σ 0 x) := rfl
theorem wsN1 {K : gK} {σ : gS} {x : Int32} : (wld K σ).set 0 (K.2.2 0, .inr (6, List.set [.ref (K.2.2 1), .ref (K.2.2 2), .ref (K.2.2 3), .ref (K.2.2 4), .ref (K.2.2 5), .int (sN σ 0), .int (sN σ 1)] 6 (.int x))) = wld K (uN σ 1 x) := rfl
theorem wsN2 {K : gK} {σ : gS} {x : Int32} : (wld K σ).set 2 (K.2.2 2, .inr (1, List.set [.int (sN σ 2), .ref (K.2.2 9), .ref (K.2.2 10), .ref (K.2.2 11), .ref (K.2.2 12), .ref (K.2.2 13), .ref (K.2.2 14), .ref (K.2.2 15)] 0 (.int x))) = wld K (uN σ 2 x) := rfl
theorem wsN3 {K : gK} {σ : gS} {x : Int32} : (wld K σ).set 3 (K.2.2 3, .inr (4, List.set [.int (sN σ 3), .ref (K.2.2 16), .ref (K.2.2 17), .ref (K.2.2 18), .ref (K.2.2 19), .ref (K.2.2 20)] 0 (.int x))) = wld K (uN σ 3 x) := rfl
theorem wsN4 {K : gK} {σ : gS} {x : Int32} : (wld K σ).set 5 (K.2.2 5, .inr (5, List.set [.int (sN σ 4), .ref (K.2.2 24), .ref (K.2.2 25), .ref (K.2.2 26)] 0 (.int x))) = wld K (uN σ 4 x) := rfl
theorem wsD0 {K : gK} {σ : gS} {x : UInt64} : (wld K σ).set 6 (K.2.2 6, .inr (2, List.set [.double (sD σ 0), .double (sD σ 1), .double (sD σ 2)] 0 (.double x))) = wld K (uD σ 0 x) := rfl
theorem wsD1 {K : gK} {σ : gS} {x : UInt64} : (wld K σ).set 6 (K.2.2 6, .inr (2, List.set [.double (sD σ 0), .double (sD σ 1), .double (sD σ 2)] 1 (.double x))) = wld K (uD σ 1 x) := rfl
theorem wsD2 {K : gK} {σ : gS} {x : UInt64} : (wld K σ).set 6 (K.2.2 6, .inr (2, List.set [.double (sD σ 0), .double (sD σ 1), .double (sD σ 2)] 2 (.double x))) = wld K (uD σ 2 x) := rfl
theorem wsN5 {K : gK} {σ : gS} {x : Int32} : (wld K σ).set 27 (K.2.2 27, .inr (7, List.set [.int (sN σ 5), .int (sN σ 6), .int (sN σ 7), .ref (K.2.2 28), .ref (K.2.2 29), .ref (K.2.2 30), .ref (K.2.2 31), .ref (K.2.2 32), .ref (K.2.2 33), .ref (K.2.2 34), .int (sN σ 8), .ref (K.2.2 35), .ref (K.2.2 36), .ref (K.2.2 37), .ref (K.2.2 38), .ref (K.2.2 39), .double (sD σ 3), .double (sD σ 4), .ref (K.2.2 40), .double (sD σ 5), .int (sN σ 9), .int (sN σ 10), .ref (K.2.2 41), .ref (K.2.2 42)] 0 (.int x))) = wld K (uN σ 5 x) := rfl
theorem wsN6 {K : gK} {σ : gS} {x : Int32} : (wld K σ).set 27 (K.2.2 27, .inr (7, List.set [.int (sN σ 5), .int (sN σ 6), .int (sN σ 7), .ref (K.2.2 28), .ref (K.2.2 29), .ref (K.2.2 30), .ref (K.2.2 31), .ref (K.2.2 32), .ref (K.2.2 33), .ref (K.2.2 34), .int (sN σ 8), .ref (K.2.2 35), .ref (K.2.2 36), .ref (K.2.2 37), .ref (K.2.2 38), .ref (K.2.2 39), .double (sD σ 3), .double (sD σ 4), .ref (K.2.2 40), .double (sD σ 5), .int (sN σ 9), .int (sN σ 10), .ref (K.2.2 41), .ref (K.2.2 42)] 1 (.int x))) = wld K (uN σ 6 x) := rfl
theorem wsN7 {K : gK} {σ : gS} {x : Int32} : (wld K σ).set 27 (K.2.2 27, .inr (7, List.set [.int (sN σ 5), .int (sN σ 6), .int (sN σ 7), .ref (K.2.2 28), .ref (K.2.2 29), .ref (K.2.2 30), .ref (K.2.2 31), .ref (K.2.2 32), .ref (K.2.2 33), .ref (K.2.2 34), .int (sN σ 8), .ref (K.2.2 35), .ref (K.2.2 36), .ref (K.2.2 37), .ref (K.2.2 38), .ref (K.2.2 39), .double (sD σ 3), .double (sD σ 4), .ref (K.2.2 40), .double (sD σ 5), .int (sN σ 9), .int (sN σ 10), .ref (K.2.2 41), .ref (K.2.2 42)] 2 (.int x))) = wld K (uN σ 7 x) := rfl
theorem wsN8 {K : gK} {σ : gS} {x : Int32} : (wld K σ).set 27 (K.2.2 27, .inr (7, List.set [.int (sN σ 5), .int (sN σ 6), .int (sN σ 7), .ref (K.2.2 28), .ref (K.2.2 29), .ref (K.2.2 30), .ref (K.2.2 31), .ref (K.2.2 32), .ref (K.2.2 33), .ref (K.2.2 34), .int (sN σ 8), .ref (K.2.2 35), .ref (K.2.2 36), .ref (K.2.2 37), .ref (K.2.2 38), .ref (K.2.2 39), .double (sD σ 3), .double (sD σ 4), .ref (K.2.2 40), .double (sD σ 5), .int (sN σ 9), .int (sN σ 10), .ref (K.2.2 41), .ref (K.2.2 42)] 10 (.int x))) = wld K (uN σ 8 x) := rfl
theorem wsD3 {K : gK} {σ : gS} {x : UInt64} : (wld K σ).set 27 (K.2.2 27, .inr (7, List.set [.int (sN σ 5), .int (sN σ 6), .int (sN σ 7), .ref (K.2.2 28), .ref (K.2.2 29), .ref (K.2.2 30), .ref (K.2.2 31), .ref (K.2.2 32), .ref (K.2.2 33), .ref (K.2.2 34), .int (sN σ 8), .ref (K.2.2 35), .ref (K.2.2 36), .ref (K.2.2 37), .ref (K.2.2 38), .ref (K.2.2 39), .double (sD σ 3), .double (sD σ 4), .ref (K.2.2 40), .double (sD σ 5), .int (sN σ 9), .int (sN σ 10), .ref (K.2.2 41), .ref (K.2.2 42)] 16 (.double x))) = wld K (uD σ 3 x) := rfl
theorem wsD4 {K : gK} {σ : gS} {x : UInt64} : (wld K σ).set 27 (K.2.2 27, .inr (7, List.set [.int (sN σ 5), .int (sN σ 6), .int (sN σ 7), .ref (K.2.2 28), .ref (K.2.2 29), .ref (K.2.2 30), .ref (K.2.2 31), .ref (K.2.2 32), .ref (K.2.2 33), .ref (K.2.2 34), .int (sN σ 8), .ref (K.2.2 35), .ref (K.2.2 36), .ref (K.2.2 37), .ref (K.2.2 38), .ref (K.2.2 39), .double (sD σ 3), .double (sD σ 4), .ref (K.2.2 40), .double (sD σ 5), .int (sN σ 9), .int (sN σ 10), .ref (K.2.2 41), .ref (K.2.2 42)] 17 (.double x))) = wld K (uD σ 4 x) := rfl
theorem wsD5 {K : gK} {σ : gS} {x : UInt64} : (wld K σ).set 27 (K.2.2 27, .inr (7, List.set [.int (sN σ 5), .int (sN σ 6), .int (sN σ 7), .ref (K.2.2 28), .ref (K.2.2 29), .ref (K.2.2 30), .ref (K.2.2 31), .ref (K.2.2 32), .ref (K.2.2 33), .ref (K.2.2 34), .int (sN σ 8), .ref (K.2.2 35), .ref (K.2.2 36), .ref (K.2.2 37), .ref (K.2.2 38), .ref (K.2.2 39), .double (sD σ 3), .double (sD σ 4), .ref (K.2.2 40), .double (sD σ 5), .int (sN σ 9), .int (sN σ 10), .ref (K.2.2 41), .ref (K.2.2 42)] 19 (.double x))) = wld K (uD σ 5 x) := rfl
theorem wsN9 {K : gK} {σ : gS} {x : Int32} : (wld K σ).set 27 (K.2.2 27, .inr (7, List.set [.int (sN σ 5), .int (sN σ 6), .int (sN σ 7), .ref (K.2.2 28), .ref (K.2.2 29), .ref (K.2.2 30), .ref (K.2.2 31), .ref (K.2.2 32), .ref (K.2.2 33), .ref (K.2.2 34), .int (sN σ 8), .ref (K.2.2 35), .ref (K.2.2 36), .ref (K.2.2 37), .ref (K.2.2 38), .ref (K.2.2 39), .double (sD σ 3), .double (sD σ 4), .ref (K.2.2 40), .double (sD σ 5), .int (sN σ 9), .int (sN σ 10), .ref (K.2.2 41), .ref (K.2.2 42)] 20 (.int x))) = wld K (uN σ 9 x) := rfl
theorem wsN10 {K : gK} {σ : gS} {x : Int32} : (wld K σ).set 27 (K.2.2 27, .inr (7, List.set [.int (sN σ 5), .int (sN σ 6), .int (sN σ 7), .ref (K.2.2 28), .ref (K.2.2 29), .ref (K.2.2 30), .ref (K.2.2 31), .ref (K.2.2 32), .ref (K.2.2 33), .ref (K.2.2 34), .int (sN σ 8), .ref (K.2.2 35), .ref (K.2.2 36), .ref (K.2.2 37), .ref (K.2.2 38), .ref (K.2.2 39), .double (sD σ 3), .double (sD σ 4), .ref (K.2.2 40), .double (sD σ 5), .int (sN σ 9), .int (sN σ 10), .ref (K.2.2 41), .ref (K.2.2 42)] 21 (.int x))) = wld K (uN σ 10 x) := rfl
theorem wsA7 {K : gK} {σ : gS} {f : Nat → UInt64} : (wld K σ).set 7 (K.2.2 7, .inl (K.2.1 0, 10, .inr (.inr (.inr (.inl f))))) = wld K (uF σ 7 f) := rfl
theorem wsA8 {K : gK} {σ : gS} {f : Nat → UInt64} : (wld K σ).set 8 (K.2.2 8, .inl (K.2.1 0, 10, .inr (.inr (.inr (.inl f))))) = wld K (uF σ 8 f) := rfl
theorem wsA9 {K : gK} {σ : gS} {f : Nat → Int32} : (wld K σ).set 9 (K.2.2 9, .inl (K.2.1 1, 16, .inl f)) = wld K (uI σ 9 f) := rfl
theorem wsA10 {K : gK} {σ : gS} {f : Nat → Int32} : (wld K σ).set 10 (K.2.2 10, .inl (K.2.1 1, 16, .inl f)) = wld K (uI σ 10 f) := rfl
theorem wsA11 {K : gK} {σ : gS} {f : Nat → UInt64} : (wld K σ).set 11 (K.2.2 11, .inl (K.2.1 0, 16, .inr (.inr (.inr (.inl f))))) = wld K (uF σ 11 f) := rfl
theorem wsA12 {K : gK} {σ : gS} {f : Nat → UInt64} : (wld K σ).set 12 (K.2.2 12, .inl (K.2.1 0, 16, .inr (.inr (.inr (.inl f))))) = wld K (uF σ 12 f) := rfl
theorem wsA13 {K : gK} {σ : gS} {f : Nat → UInt64} : (wld K σ).set 13 (K.2.2 13, .inl (K.2.1 0, 16, .inr (.inr (.inr (.inl f))))) = wld K (uF σ 13 f) := rfl
theorem wsA15 {K : gK} {σ : gS} {f : Nat → Int32} : (wld K σ).set 15 (K.2.2 15, .inl (K.2.1 1, 10, .inl f)) = wld K (uI σ 15 f) := rfl
theorem wsA16 {K : gK} {σ : gS} {f : Nat → Int32} : (wld K σ).set 16 (K.2.2 16, .inl (K.2.1 1, 8, .inl f)) = wld K (uI σ 16 f) := rfl
theorem wsA17 {K : gK} {σ : gS} {f : Nat → UInt64} : (wld K σ).set 17 (K.2.2 17, .inl (K.2.1 0, 8, .inr (.inr (.inr (.inl f))))) = wld K (uF σ 17 f) := rfl
theorem wsA18 {K : gK} {σ : gS} {f : Nat → UInt64} : (wld K σ).set 18 (K.2.2 18, .inl (K.2.1 0, 8, .inr (.inr (.inr (.inl f))))) = wld K (uF σ 18 f) := rfl
theorem wsA19 {K : gK} {σ : gS} {f : Nat → Int32} : (wld K σ).set 19 (K.2.2 19, .inl (K.2.1 2, 8, .inl f)) = wld K (uI σ 19 f) := rfl
theorem wsA20 {K : gK} {σ : gS} {f : Nat → Int32} : (wld K σ).set 20 (K.2.2 20, .inl (K.2.1 1, 8, .inl f)) = wld K (uI σ 20 f) := rfl
theorem wsA21 {K : gK} {σ : gS} {f : Nat → UInt64} : (wld K σ).set 21 (K.2.2 21, .inl (K.2.1 0, 16, .inr (.inr (.inr (.inl f))))) = wld K (uF σ 21 f) := rfl
theorem wsA22 {K : gK} {σ : gS} {f : Nat → UInt64} : (wld K σ).set 22 (K.2.2 22, .inl (K.2.1 0, 16, .inr (.inr (.inr (.inl f))))) = wld K (uF σ 22 f) := rfl
theorem wsA23 {K : gK} {σ : gS} {f : Nat → Int32} : (wld K σ).set 23 (K.2.2 23, .inl (K.2.1 2, 16, .inl f)) = wld K (uI σ 23 f) := rfl
theorem wsA24 {K : gK} {σ : gS} {f : Nat → UInt64} : (wld K σ).set 24 (K.2.2 24, .inl (K.2.1 0, 6, .inr (.inr (.inr (.inl f))))) = wld K (uF σ 24 f) := rfl
theorem wsA25 {K : gK} {σ : gS} {f : Nat → Int32} : (wld K σ).set 25 (K.2.2 25, .inl (K.2.1 1, 6, .inl f)) = wld K (uI σ 25 f) := rfl
theorem wsA26 {K : gK} {σ : gS} {f : Nat → Int32} : (wld K σ).set 26 (K.2.2 26, .inl (K.2.1 1, 6, .inl f)) = wld K (uI σ 26 f) := rfl
theorem wsA28 {K : gK} {σ : gS} {f : Nat → Int32} : (wld K σ).set 28 (K.2.2 28, .inl (K.2.1 1, 16, .inl f)) = wld K (uI σ 28 f) := rfl
theorem wsA29 {K : gK} {σ : gS} {f : Nat → Int32} : (wld K σ).set 29 (K.2.2 29, .inl (K.2.1 1, 16, .inl f)) = wld K (uI σ 29 f) := rfl
theorem wsA30 {K : gK} {σ : gS} {f : Nat → UInt64} : (wld K σ).set 30 (K.2.2 30, .inl (K.2.1 0, 16, .inr (.inr (.inr (.inl f))))) = wld K (uF σ 30 f) := rfl
theorem wsA31 {K : gK} {σ : gS} {f : Nat → UInt64} : (wld K σ).set 31 (K.2.2 31, .inl (K.2.1 0, 16, .inr (.inr (.inr (.inl f))))) = wld K (uF σ 31 f) := rfl
theorem wsA32 {K : gK} {σ : gS} {f : Nat → UInt64} : (wld K σ).set 32 (K.2.2 32, .inl (K.2.1 0, 16, .inr (.inr (.inr (.inl f))))) = wld K (uF σ 32 f) := rfl
theorem wsA33 {K : gK} {σ : gS} {f : Nat → Int32} : (wld K σ).set 33 (K.2.2 33, .inl (K.2.1 2, 16, .inl f)) = wld K (uI σ 33 f) := rfl
theorem wsA34 {K : gK} {σ : gS} {f : Nat → UInt64} : (wld K σ).set 34 (K.2.2 34, .inl (K.2.1 0, 16, .inr (.inr (.inr (.inl f))))) = wld K (uF σ 34 f) := rfl
theorem wsA35 {K : gK} {σ : gS} {f : Nat → Int32} : (wld K σ).set 35 (K.2.2 35, .inl (K.2.1 1, 8, .inl f)) = wld K (uI σ 35 f) := rfl
theorem wsA36 {K : gK} {σ : gS} {f : Nat → UInt64} : (wld K σ).set 36 (K.2.2 36, .inl (K.2.1 0, 8, .inr (.inr (.inr (.inl f))))) = wld K (uF σ 36 f) := rfl
theorem wsA37 {K : gK} {σ : gS} {f : Nat → Int32} : (wld K σ).set 37 (K.2.2 37, .inl (K.2.1 2, 32, .inl f)) = wld K (uI σ 37 f) := rfl
theorem wsA38 {K : gK} {σ : gS} {f : Nat → UInt64} : (wld K σ).set 38 (K.2.2 38, .inl (K.2.1 0, 8, .inr (.inr (.inr (.inl f))))) = wld K (uF σ 38 f) := rfl
theorem wsA39 {K : gK} {σ : gS} {f : Nat → Int32} : (wld K σ).set 39 (K.2.2 39, .inl (K.2.1 2, 8, .inl f)) = wld K (uI σ 39 f) := rfl
theorem wsA40 {K : gK} {σ : gS} {f : Nat → UInt64} : (wld K σ).set 40 (K.2.2 40, .inl (K.2.1 0, 10, .inr (.inr (.inr (.inl f))))) = wld K (uF σ 40 f) := rfl
theorem wsA41 {K : gK} {σ : gS} {f : Nat → UInt64} : (wld K σ).set 41 (K.2.2 41, .inl (K.2.1 0, 6, .inr (.inr (.inr (.inl f))))) = wld K (uF σ 41 f) := rfl
theorem wsA42 {K : gK} {σ : gS} {f : Nat → Int32} : (wld K σ).set 42 (K.2.2 42, .inl (K.2.1 1, 6, .inl f)) = wld K (uI σ 42 f) := rfl
theorem wsA43 {K : gK} {σ : gS} {f : Nat → Int64} : (wld K σ).set 43 (K.2.2 43, .inl (K.2.1 4, 1, .inr (.inl f))) = wld K (uL σ f) := rfl
theorem wsA44 {K : gK} {σ : gS} {f : Nat → UInt64} : (wld K σ).set 44 (K.2.2 44, .inl (K.2.1 0, 1, .inr (.inr (.inr (.inl f))))) = wld K (uF σ 44 f) := rfl
theorem wsA45 {K : gK} {σ : gS} {f : Nat → Int32} : (wld K σ).set 45 (K.2.2 45, .inl (K.2.1 1, 16, .inl f)) = wld K (uI σ 45 f) := rfl
theorem wsA46 {K : gK} {σ : gS} {f : Nat → Int32} : (wld K σ).set 46 (K.2.2 46, .inl (K.2.1 1, 16, .inl f)) = wld K (uI σ 46 f) := rfl
theorem wsA47 {K : gK} {σ : gS} {f : Nat → Int32} : (wld K σ).set 47 (K.2.2 47, .inl (K.2.1 1, 16, .inl f)) = wld K (uI σ 47 f) := rfl
theorem wsA48 {K : gK} {σ : gS} {f : Nat → Int32} : (wld K σ).set 48 (K.2.2 48, .inl (K.2.1 1, 16, .inl f)) = wld K (uI σ 48 f) := rfl
theorem wsA49 {K : gK} {σ : gS} {f : Nat → Int32} : (wld K σ).set 49 (K.2.2 49, .inl (K.2.1 1, 16, .inl f)) = wld K (uI σ 49 f) := rfl
theorem wsA50 {K : gK} {σ : gS} {f : Nat → Int32} : (wld K σ).set 50 (K.2.2 50, .inl (K.2.1 1, 16, .inl f)) = wld K (uI σ 50 f) := rfl
theorem wsA51 {K : gK} {σ : gS} {f : Nat → Int32} : (wld K σ).set 51 (K.2.2 51, .inl (K.2.1 1, 16, .inl f)) = wld K (uI σ 51 f) := rfl
theorem wsA52 {K : gK} {σ : gS} {f : Nat → Int32} : (wld K σ).set 52 (K.2.2 52, .inl (K.2.1 1, 16, .inl f)) = wld K (uI σ 52 f) := rfl
theorem wsA53 {K : gK} {σ : gS} {f : Nat → Int32} : (wld K σ).set 53 (K.2.2 53, .inl (K.2.1 1, 16, .inl f)) = wld K (uI σ 53 f) := rfl
theorem wsA54 {K : gK} {σ : gS} {f : Nat → Int32} : (wld K σ).set 54 (K.2.2 54, .inl (K.2.1 1, 16, .inl f)) = wld K (uI σ 54 f) := rfl
theorem wl_row {K : gK} {σ : gS} {j : Nat} (h : j < 10) : (wld K σ)[45 + j]? = some (K.2.2 (45 + j), .inl (K.2.1 1, 16, .inl (sI σ (45 + j)))) := by
  rcases (show j = 0 ∨ j = 1 ∨ j = 2 ∨ j = 3 ∨ j = 4 ∨ j = 5 ∨ j = 6 ∨ j = 7 ∨ j = 8 ∨ j = 9 by omega) with rfl | rfl | rfl | rfl | rfl | rfl | rfl | rfl | rfl | rfl <;> rfl
theorem ws_row {K : gK} {σ : gS} {j : Nat} (h : j < 10) {f : Nat → Int32} : (wld K σ).set (45 + j) (K.2.2 (45 + j), .inl (K.2.1 1, 16, .inl f)) = wld K (uI σ (45 + j) f) := by
  rcases (show j = 0 ∨ j = 1 ∨ j = 2 ∨ j = 3 ∨ j = 4 ∨ j = 5 ∨ j = 6 ∨ j = 7 ∨ j = 8 ∨ j = 9 by omega) with rfl | rfl | rfl | rfl | rfl | rfl | rfl | rfl | rfl | rfl <;> rfl
theorem wl_adr {K : gK} {σ : gS} : (wld K σ).map Prod.fst = (List.range 55).map K.2.2 := rfl
theorem wl_at {K : gK} {σ : gS} {k : Nat} {q : Nat × va_E} (h : (wld K σ)[k]? = some q) : k < 55 ∧ q.1 = K.2.2 k := by
  have h1 : ((wld K σ).map Prod.fst)[k]? = some q.1 := by rw [List.getElem?_map, h]; rfl
  rw [wl_adr, List.getElem?_map] at h1
  by_cases hk : k < 55
  · rw [List.getElem?_range hk] at h1
    exact ⟨hk, (Option.some.inj h1).symm⟩
  · rw [List.getElem?_eq_none (by rw [List.length_range]; omega)] at h1
    cases h1
