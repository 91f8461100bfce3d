section
-- ===== PART A: goes FIRST, ahead of the names: the tables' words, and 'selects' of the private methods out of them =====
/-- a private method of a class that the tables say can be made, by its rows of tables_1 -/
def lw_okq (q : MethodName × Nat) : Prop := (q.1.cls ≠ "java/lang/invoke/MethodHandle" ∧ q.1.cls ≠ "java/lang/invoke/VarHandle") ∧ Cond.instantiable q.1.cls q.2 ∈ tables_1 ∧ Cond.privateMethod q.1 ∈ tables_1 ∧ Cond.instanceMethod q.1 ∈ tables_1
theorem lw_p0 : lw_okq (⟨"java/lang/Throwable", "fillInStackTrace", "(I)Ljava/lang/Throwable;"⟩, 6) := ⟨⟨by decide +kernel, by decide +kernel⟩, List.mem_of_getElem? (i := 260) (by decide +kernel), List.mem_of_getElem? (i := 258) (by decide +kernel), List.mem_of_getElem? (i := 259) (by decide +kernel)⟩
theorem lw_p1 : lw_okq (⟨"DuctBalance$Ducts", "setWidth", "(ID)V"⟩, 8) := ⟨⟨by decide +kernel, by decide +kernel⟩, List.mem_of_getElem? (i := 30) (by decide +kernel), List.mem_of_getElem? (i := 346) (by decide +kernel), List.mem_of_getElem? (i := 347) (by decide +kernel)⟩
theorem lw_p2 : lw_okq (⟨"DuctBalance$Ducts", "hangOn", "(II)V"⟩, 8) := ⟨⟨by decide +kernel, by decide +kernel⟩, List.mem_of_getElem? (i := 30) (by decide +kernel), List.mem_of_getElem? (i := 350) (by decide +kernel), List.mem_of_getElem? (i := 351) (by decide +kernel)⟩
theorem lw_p3 : lw_okq (⟨"DuctBalance$Air", "settle", "()I"⟩, 5) := ⟨⟨by decide +kernel, by decide +kernel⟩, List.mem_of_getElem? (i := 24) (by decide +kernel), List.mem_of_getElem? (i := 399) (by decide +kernel), List.mem_of_getElem? (i := 400) (by decide +kernel)⟩
theorem lw_p4 : lw_okq (⟨"DuctBalance$Air", "weighJoints", "()V"⟩, 5) := ⟨⟨by decide +kernel, by decide +kernel⟩, List.mem_of_getElem? (i := 24) (by decide +kernel), List.mem_of_getElem? (i := 403) (by decide +kernel), List.mem_of_getElem? (i := 404) (by decide +kernel)⟩
theorem lw_p5 : lw_okq (⟨"DuctBalance$Air", "weigh", "(I)D"⟩, 5) := ⟨⟨by decide +kernel, by decide +kernel⟩, List.mem_of_getElem? (i := 24) (by decide +kernel), List.mem_of_getElem? (i := 407) (by decide +kernel), List.mem_of_getElem? (i := 408) (by decide +kernel)⟩
theorem lw_p6 : lw_okq (⟨"DuctBalance$Air", "changeOfRound", "()D"⟩, 5) := ⟨⟨by decide +kernel, by decide +kernel⟩, List.mem_of_getElem? (i := 24) (by decide +kernel), List.mem_of_getElem? (i := 416) (by decide +kernel), List.mem_of_getElem? (i := 417) (by decide +kernel)⟩
theorem lw_p7 : lw_okq (⟨"DuctBalance$Air", "pull", "(I)D"⟩, 5) := ⟨⟨by decide +kernel, by decide +kernel⟩, List.mem_of_getElem? (i := 24) (by decide +kernel), List.mem_of_getElem? (i := 424) (by decide +kernel), List.mem_of_getElem? (i := 425) (by decide +kernel)⟩
theorem lw_p8 : lw_okq (⟨"DuctBalance$Air", "flowsTo", "(I)D"⟩, 5) := ⟨⟨by decide +kernel, by decide +kernel⟩, List.mem_of_getElem? (i := 24) (by decide +kernel), List.mem_of_getElem? (i := 435) (by decide +kernel), List.mem_of_getElem? (i := 436) (by decide +kernel)⟩
theorem lw_p9 : lw_okq (⟨"DuctBalance$Air", "closeGates", "()Z"⟩, 5) := ⟨⟨by decide +kernel, by decide +kernel⟩, List.mem_of_getElem? (i := 24) (by decide +kernel), List.mem_of_getElem? (i := 443) (by decide +kernel), List.mem_of_getElem? (i := 444) (by decide +kernel)⟩
theorem lw_p10 : lw_okq (⟨"DuctBalance$Leaks", "missing", "(ILDuctBalance$Air;)D"⟩, 3) := ⟨⟨by decide +kernel, by decide +kernel⟩, List.mem_of_getElem? (i := 148) (by decide +kernel), List.mem_of_getElem? (i := 547) (by decide +kernel), List.mem_of_getElem? (i := 548) (by decide +kernel)⟩
theorem lw_p11 : lw_okq (⟨"DuctBalanceModel", "isJoint", "(I)Z"⟩, 24) := ⟨⟨by decide +kernel, by decide +kernel⟩, List.mem_of_getElem? (i := 566) (by decide +kernel), List.mem_of_getElem? (i := 664) (by decide +kernel), List.mem_of_getElem? (i := 665) (by decide +kernel)⟩
theorem lw_p12 : lw_okq (⟨"DuctBalanceModel", "isMachine", "(I)Z"⟩, 24) := ⟨⟨by decide +kernel, by decide +kernel⟩, List.mem_of_getElem? (i := 566) (by decide +kernel), List.mem_of_getElem? (i := 680) (by decide +kernel), List.mem_of_getElem? (i := 681) (by decide +kernel)⟩
theorem lw_p13 : lw_okq (⟨"DuctBalanceModel", "solveNow", "(I)I"⟩, 24) := ⟨⟨by decide +kernel, by decide +kernel⟩, List.mem_of_getElem? (i := 566) (by decide +kernel), List.mem_of_getElem? (i := 692) (by decide +kernel), List.mem_of_getElem? (i := 693) (by decide +kernel)⟩
theorem lw_p14 : lw_okq (⟨"DuctBalanceModel", "round", "()D"⟩, 24) := ⟨⟨by decide +kernel, by decide +kernel⟩, List.mem_of_getElem? (i := 566) (by decide +kernel), List.mem_of_getElem? (i := 696) (by decide +kernel), List.mem_of_getElem? (i := 697) (by decide +kernel)⟩
theorem lw_p15 : lw_okq (⟨"DuctBalanceModel", "balance", "(I)D"⟩, 24) := ⟨⟨by decide +kernel, by decide +kernel⟩, List.mem_of_getElem? (i := 566) (by decide +kernel), List.mem_of_getElem? (i := 700) (by decide +kernel), List.mem_of_getElem? (i := 701) (by decide +kernel)⟩
def lw_privs_1 : List (MethodName × Nat) := [(⟨"java/lang/Throwable", "fillInStackTrace", "(I)Ljava/lang/Throwable;"⟩, 6), (⟨"DuctBalance$Ducts", "setWidth", "(ID)V"⟩, 8), (⟨"DuctBalance$Ducts", "hangOn", "(II)V"⟩, 8), (⟨"DuctBalance$Air", "settle", "()I"⟩, 5), (⟨"DuctBalance$Air", "weighJoints", "()V"⟩, 5), (⟨"DuctBalance$Air", "weigh", "(I)D"⟩, 5), (⟨"DuctBalance$Air", "changeOfRound", "()D"⟩, 5), (⟨"DuctBalance$Air", "pull", "(I)D"⟩, 5), (⟨"DuctBalance$Air", "flowsTo", "(I)D"⟩, 5), (⟨"DuctBalance$Air", "closeGates", "()Z"⟩, 5), (⟨"DuctBalance$Leaks", "missing", "(ILDuctBalance$Air;)D"⟩, 3), (⟨"DuctBalanceModel", "isJoint", "(I)Z"⟩, 24), (⟨"DuctBalanceModel", "isMachine", "(I)Z"⟩, 24), (⟨"DuctBalanceModel", "solveNow", "(I)I"⟩, 24), (⟨"DuctBalanceModel", "round", "()D"⟩, 24), (⟨"DuctBalanceModel", "balance", "(I)D"⟩, 24)]
theorem lw_r1 : ∀ q ∈ lw_privs_1, lw_okq q := List.forall_mem_cons.mpr ⟨lw_p0, List.forall_mem_cons.mpr ⟨lw_p1, List.forall_mem_cons.mpr ⟨lw_p2, List.forall_mem_cons.mpr ⟨lw_p3, List.forall_mem_cons.mpr ⟨lw_p4, List.forall_mem_cons.mpr ⟨lw_p5, List.forall_mem_cons.mpr ⟨lw_p6, List.forall_mem_cons.mpr ⟨lw_p7, List.forall_mem_cons.mpr ⟨lw_p8, List.forall_mem_cons.mpr ⟨lw_p9, List.forall_mem_cons.mpr ⟨lw_p10, List.forall_mem_cons.mpr ⟨lw_p11, List.forall_mem_cons.mpr ⟨lw_p12, List.forall_mem_cons.mpr ⟨lw_p13, List.forall_mem_cons.mpr ⟨lw_p14, List.forall_mem_cons.mpr ⟨lw_p15, fun _ h => absurd h List.not_mem_nil⟩⟩⟩⟩⟩⟩⟩⟩⟩⟩⟩⟩⟩⟩⟩⟩
theorem lw_p16 : lw_okq (⟨"DuctBalanceModel", "other", "(II)I"⟩, 24) := ⟨⟨by decide +kernel, by decide +kernel⟩, List.mem_of_getElem? (i := 566) (by decide +kernel), List.mem_of_getElem? (i := 704) (by decide +kernel), List.mem_of_getElem? (i := 705) (by decide +kernel)⟩
theorem lw_p17 : lw_okq (⟨"DuctBalanceModel", "ease", "(I)D"⟩, 24) := ⟨⟨by decide +kernel, by decide +kernel⟩, List.mem_of_getElem? (i := 566) (by decide +kernel), List.mem_of_getElem? (i := 708) (by decide +kernel), List.mem_of_getElem? (i := 709) (by decide +kernel)⟩
theorem lw_p18 : lw_okq (⟨"DuctBalanceModel", "close", "()Z"⟩, 24) := ⟨⟨by decide +kernel, by decide +kernel⟩, List.mem_of_getElem? (i := 566) (by decide +kernel), List.mem_of_getElem? (i := 714) (by decide +kernel), List.mem_of_getElem? (i := 715) (by decide +kernel)⟩
theorem lw_p19 : lw_okq (⟨"DuctBalanceModel", "drawOf", "(I)D"⟩, 24) := ⟨⟨by decide +kernel, by decide +kernel⟩, List.mem_of_getElem? (i := 566) (by decide +kernel), List.mem_of_getElem? (i := 718) (by decide +kernel), List.mem_of_getElem? (i := 719) (by decide +kernel)⟩
theorem lw_p20 : lw_okq (⟨"DuctBalanceModel", "isWrong", "(Z)Z"⟩, 24) := ⟨⟨by decide +kernel, by decide +kernel⟩, List.mem_of_getElem? (i := 566) (by decide +kernel), List.mem_of_getElem? (i := 727) (by decide +kernel), List.mem_of_getElem? (i := 728) (by decide +kernel)⟩
theorem lw_p21 : lw_okq (⟨"DuctBalanceModel", "flowOf", "(I)D"⟩, 24) := ⟨⟨by decide +kernel, by decide +kernel⟩, List.mem_of_getElem? (i := 566) (by decide +kernel), List.mem_of_getElem? (i := 731) (by decide +kernel), List.mem_of_getElem? (i := 732) (by decide +kernel)⟩
theorem lw_p22 : lw_okq (⟨"DuctBalanceModel", "speedOf", "(I)D"⟩, 24) := ⟨⟨by decide +kernel, by decide +kernel⟩, List.mem_of_getElem? (i := 566) (by decide +kernel), List.mem_of_getElem? (i := 739) (by decide +kernel), List.mem_of_getElem? (i := 740) (by decide +kernel)⟩
theorem lw_p23 : lw_okq (⟨"DuctBalanceModel", "sizeAt", "(I)I"⟩, 24) := ⟨⟨by decide +kernel, by decide +kernel⟩, List.mem_of_getElem? (i := 566) (by decide +kernel), List.mem_of_getElem? (i := 763) (by decide +kernel), List.mem_of_getElem? (i := 764) (by decide +kernel)⟩
theorem lw_p24 : lw_okq (⟨"DuctBalanceModel", "isEnough", "()Z"⟩, 24) := ⟨⟨by decide +kernel, by decide +kernel⟩, List.mem_of_getElem? (i := 566) (by decide +kernel), List.mem_of_getElem? (i := 767) (by decide +kernel), List.mem_of_getElem? (i := 768) (by decide +kernel)⟩
def lw_privs_2 : List (MethodName × Nat) := [(⟨"DuctBalanceModel", "other", "(II)I"⟩, 24), (⟨"DuctBalanceModel", "ease", "(I)D"⟩, 24), (⟨"DuctBalanceModel", "close", "()Z"⟩, 24), (⟨"DuctBalanceModel", "drawOf", "(I)D"⟩, 24), (⟨"DuctBalanceModel", "isWrong", "(Z)Z"⟩, 24), (⟨"DuctBalanceModel", "flowOf", "(I)D"⟩, 24), (⟨"DuctBalanceModel", "speedOf", "(I)D"⟩, 24), (⟨"DuctBalanceModel", "sizeAt", "(I)I"⟩, 24), (⟨"DuctBalanceModel", "isEnough", "()Z"⟩, 24)]
theorem lw_r2 : ∀ q ∈ lw_privs_2, lw_okq q := List.forall_mem_cons.mpr ⟨lw_p16, List.forall_mem_cons.mpr ⟨lw_p17, List.forall_mem_cons.mpr ⟨lw_p18, List.forall_mem_cons.mpr ⟨lw_p19, List.forall_mem_cons.mpr ⟨lw_p20, List.forall_mem_cons.mpr ⟨lw_p21, List.forall_mem_cons.mpr ⟨lw_p22, List.forall_mem_cons.mpr ⟨lw_p23, List.forall_mem_cons.mpr ⟨lw_p24, fun _ h => absurd h List.not_mem_nil⟩⟩⟩⟩⟩⟩⟩⟩⟩
def lw_privs : List (MethodName × Nat) := lw_privs_1 ++ (lw_privs_2)
def lw_tbl : List Cond := k2_sels lw_privs ++ tables_1
theorem lw_privs_ok : ∀ q ∈ lw_privs, lw_okq q := by
  show ∀ q ∈ lw_privs_1 ++ (lw_privs_2), lw_okq q
  exact List.forall_mem_append.mpr ⟨lw_r1, lw_r2⟩
/-- the streams that the claim lets the run draw from -/
abbrev lw_cs : List Choice := [Jvm.Choice.named "NaN.bits"]
theorem lw_bits : nanBits ∈ lw_cs := by first | decide | exact List.mem_cons_self | simp [lw_cs, nanBits]
-- ===== end of PART A; then your names; then what follows =====
end
section
/-! ===== BEGIN words of one list among another's, by their places ===== -/
theorem goodIn_r {big : List Cond} (ws : List Cond) (ps : List Nat) (hp : ws = ps.filterMap (fun i => big[i]?)) (h : ws.all goodWord = true) : GoodIn big ws := by
  intro w hw
  have h1 := List.all_eq_true.mp h w hw
  rw [hp] at hw
  obtain ⟨i, -, hi⟩ := List.mem_filterMap.mp hw
  have hm : w ∈ big := by first | exact List.mem_of_getElem? hi | exact List.getElem?_mem hi
  exact ⟨hm, good_of_word h1⟩
theorem goodIn_app {big a b : List Cond} (ha : GoodIn big a) (hb : GoodIn big b) : GoodIn big (a ++ b) := fun w h => (List.mem_append.mp h).elim (ha w) (hb w)
theorem goodIn_ca {big a b : List Cond} {c : Cond} (ha : GoodIn big (c :: a)) (hb : GoodIn big b) : GoodIn big (c :: (a ++ b)) := fun w h => (List.mem_cons.mp h).elim (fun e => ha w (List.mem_cons.mpr (Or.inl e))) (fun h => (List.mem_append.mp h).elim (fun h => ha w (List.mem_cons.mpr (Or.inr h))) (hb w))
theorem goodIn_sub {big ws : List Cond} (hm : ∀ w ∈ ws, w ∈ big) (h : ws.all goodWord = true) : GoodIn big ws := fun w hw => ⟨hm w hw, good_of_word (List.all_eq_true.mp h w hw)⟩
/-! ===== END ===== -/

/-! ===== BEGIN new T[n][m]: the outer array a place, the inner ones among the pooled ===== -/
/-- f, but v at every address of l -/
def vr_up {α : Type} (f : Nat → α) (l : List Nat) (v : α) : Nat → α := fun a => if a ∈ l then v else f a
theorem vr_up_in {α : Type} {f : Nat → α} {l : List Nat} {v : α} {a : Nat} (h : a ∈ l) : vr_up f l v a = v := if_pos h
theorem vr_up_ne {α : Type} {f : Nat → α} {l : List Nat} {v : α} {a : Nat} (h : a ∉ l) : vr_up f l v a = f a := if_neg h
theorem vr_rows {L l : List Nat} {f : Nat → va_E} {e : va_E} (h : ∀ a, a ∈ l → a ∉ L) : va_pl L f ++ l.map (fun a => (a, e)) = va_pl (L ++ l) (vr_up f l e) := by
  unfold va_pl
  rw [List.map_append]
  congr 1
  · apply List.map_congr_left
    intro a ha
    rw [vr_up_ne (fun q => h a q ha)]
  · apply List.map_congr_left
    intro a ha
    rw [vr_up_in ha]
theorem vr_lay {X rows : va_W} {x : Nat × va_E} {pl : va_W} {D : va_G} {cl : List vw_C} {H : Heap} (hP : va_P D cl (((X ++ pl) ++ [x]) ++ rows) H) : va_P D cl ((X ++ [x]) ++ (pl ++ rows)) H := by
  rw [List.append_assoc (X ++ pl)] at hP
  have h := va_P.swap hP
  rw [← List.append_assoc X] at h
  have h2 := va_P.swap h
  rw [List.append_assoc (X ++ [x])] at h2
  exact h2
theorem vr_layD {X rows : va_W} {x : Nat × va_E} {pl : va_W} {A : Nat → Prop} (hD : va_D A (((X ++ pl) ++ [x]) ++ rows)) : va_D A ((X ++ [x]) ++ (pl ++ rows)) := by
  rw [List.append_assoc (X ++ pl)] at hD
  have h := va_D.swap hD
  rw [← List.append_assoc X] at h
  have h2 := va_D.swap h
  rw [List.append_assoc (X ++ [x])] at h2
  exact h2
theorem vr_outer (c : ClassId) (N h0 : Nat) : ∀ i : Nat, Jvm.Free.Multi.outerC c N h0 i = arrV c N (fun j => va_rf (if j < i then some (h0 + 1 + j) else none))
  | 0 => by
    show ({ cls := c, slots := Array.replicate N .null, vm := .none } : Cell) = _
    rw [arrV_new]
    refine congrArg (arrV c N) (funext fun j => ?_)
    simp [va_rf]
  | i + 1 => by
    show (Jvm.Free.Multi.outerC c N h0 i).setSlot i (.ref (h0 + 1 + i)) = _
    rw [vr_outer c N h0 i, arrV_store]
    refine congrArg (arrV c N) (funext fun j => ?_)
    by_cases e : j = i
    · subst e
      simp [updV, va_rf]
    · by_cases h : j < i
      · simp [updV, e, h, Nat.lt_succ_of_lt h]
      · simp [updV, e, h, show ¬ j < i + 1 by omega]
/-- own row (wanting in the printed names): the class of the arrays over arrays of t is there -/
def va_AOA (t : FieldType) (U : State) : Prop := ∀ a : Array Value, (Cond.arrayOver (.array t)).before a U = true
theorem va_AOA.use {t : FieldType} {A : Array Value} {U : State} (h : va_AOA t U) : (Cond.arrayOver (.array t)).before A U = true := h A
section VGM
variable {p : Program} {l : Launch} {e : Env} {R : Room} {s : State} {m : MethodId} {args : Array Value} {below : List Frame} {meth : Method} {c : Code} {H : Heap} {locs : List Loc} {cells slots : Nat} {Q : State → Prop}
variable {cc : ByteArray} {pc : Nat} {ls : Array Slot} {rest : List Value} {D : va_G} {cl : List vw_C} {A : Nat → Prop} {a : Nat} {tys : List (ClassId × FieldType)} {ws : va_W} {H0 : Heap}
theorem va_mna {X : va_W} {L : List Nat} {f : Nat → va_E} {cc : ByteArray} (hexec : p.tables.exec = Jvm.exec) (hb : c.code = cc) {own : String} {index : Nat} {ty : FieldType} {cy : ClassId} (hown : s.vm.findClass own = some m.cls) (hclink : (Cond.classLink own index ("[" ++ (FieldType.array ty).toString)).before args s = true) (hover : va_AOA ty s) (harr : (Cond.arrayClass ty).before args s = true) (hcy : s.vm.findClass (FieldType.array ty).toString = some cy)
    (hK : va_K D cl tys s) (hP : va_P D cl (X ++ va_pl L f) H) (hD : va_D A (X ++ va_pl L f)) (hS : va_S A H0 H locs) (hA : ∀ q, H0.size ≤ q → A q) {n k : Int32} {N' K' : Nat} {z : vp_A} (hn : ¬ n < 0) (hk : ¬ k < 0) (hN : n.toNatClampNeg = N') (hM : k.toNatClampNeg = K')
    (hb1 : N' * 4 ≤ 536870912) (hb2 : K' * componentBytes ty ≤ 536870912) (hb3 : K' ≤ 536870912) (hdf : fits ty (defaultValue ty) = true) (hdd : (defaultValue ty).isDefault = true) (hcells : cells + (1 + N') ≤ R.cells) (hslots : slots + (N' + N' * K') ≤ R.slots) (hz : ∀ c : ClassId, Jvm.Free.Multi.innerC c K' (defaultValue ty) = vp_cell c z) (hdg : decode cc pc = .ok (.multianewarray index 2, 4))
    (kk : ∀ (q : Nat) (r : Nat → Nat) (cA : ClassId) (H1 : Heap), (∀ i j : Nat, i < N' → j < N' → r i = r j → i = j) → (∀ i : Nat, i < N' → r i ∉ L) → va_K D cl (tys ++ [(cA, .array ty)]) s →
      va_P D cl ((X ++ [(q, .inl (cA, N', .inr (.inr (.inr (.inr (fun i => if i < N' then some (r i) else none))))))]) ++ va_pl (L ++ (List.range N').map r) (vr_up f ((List.range N').map r) (.inl (cy, z)))) H1 → va_D A ((X ++ [(q, .inl (cA, N', .inr (.inr (.inr (.inr (fun i => if i < N' then some (r i) else none))))))]) ++ va_pl (L ++ (List.range N').map r) (vr_up f ((List.range N').map r) (.inl (cy, z)))) → va_S A H0 H1 locs →
      W p l e R s m args below meth c H1 locs (cells + 1 + N') (slots + N' + N' * K') Q (F0 m (pc + 4) ls (.ref q :: rest))) : W p l e R s m args below meth c H locs cells slots Q (F0 m pc ls (.int k :: .int n :: rest)) := by
  subst hN
  subst hM
  intro T hT Xs
  obtain ⟨vm₁, cA, comp, -, fA, fC, hO, -, X', step⟩ := Xs.multianewarray2F hexec hown hclink (va_AOA.use hover) harr (g := F0 m pc ls (.int k :: .int n :: rest)) rfl (by rw [hb]; exact hdg) rfl hn hk hb1 hb2 hb3 hdf hdd hcells hslots
  have ec : some cy = some comp := hcy.symm.trans fC
  cases ec
  generalize hF : Jvm.Free.Multi.fill (T.setVm vm₁) cA cy n.toNatClampNeg k.toNatClampNeg (defaultValue ty) n.toNatClampNeg = F at X' step
  have hTh : (T.setVm vm₁).heap = H := hT
  obtain ⟨f1, f2, -, -⟩ := Jvm.Free.Multi.fill_facts (T.setVm vm₁) cA cy n.toNatClampNeg k.toNatClampNeg (defaultValue ty) n.toNatClampNeg
  rw [hF, hTh] at f1 f2
  have hold : ∀ x : Nat, x < H.size → F.heap[x]? = H[x]? := fun x hx => by
    have := Jvm.Free.Multi.fill_old (T.setVm vm₁) cA cy n.toNatClampNeg k.toNatClampNeg (defaultValue ty) (a := x) (by rw [hTh]; exact hx) n.toNatClampNeg
    rw [hF, hTh] at this
    exact this
  have hrow : ∀ j : Nat, j < n.toNatClampNeg → F.heap[H.size + 1 + j]? = some (vp_cell cy z) := fun j hj => by
    have := Jvm.Free.Multi.fill_inner (T.setVm vm₁) cA cy n.toNatClampNeg k.toNatClampNeg (defaultValue ty) n.toNatClampNeg j hj
    rw [hF, hTh, hz] at this
    exact this
  have hout : Jvm.Free.Multi.outerC cA n.toNatClampNeg H.size n.toNatClampNeg = vp_cell cA (n.toNatClampNeg, .inr (.inr (.inr (.inr (fun i => if i < n.toNatClampNeg then some (H.size + 1 + i) else none))))) := by
    rw [vp_cell_q]
    exact vr_outer cA n.toNatClampNeg H.size n.toNatClampNeg
  rw [hout] at f2
  have hlt : ∀ a, a ∈ L → a < H.size := fun a ha => by
    obtain ⟨k9, hk9⟩ := va_pl_get (X := X) (f := f) ha
    exact (hP k9 _ hk9).lt
  have hnl : ∀ i : Nat, i < n.toNatClampNeg → H.size + 1 + i ∉ L := fun i _ h => by
    have := hlt _ h
    omega
  have hnm : ∀ a, a ∈ (List.range n.toNatClampNeg).map (fun i => H.size + 1 + i) → a ∉ L := fun a ha h => by
    obtain ⟨i, -, rfl⟩ := List.mem_map.mp ha
    have := hlt _ h
    omega
  have hP0 : va_P D cl (X ++ va_pl L f) F.heap := hP.kept (fun k9 x hx => hold x.1 ((hP k9 x hx).lt))
  have hP1 : va_P D cl ((X ++ va_pl L f) ++ [(H.size, .inl (cA, n.toNatClampNeg, .inr (.inr (.inr (.inr (fun i => if i < n.toNatClampNeg then some (H.size + 1 + i) else none))))))]) F.heap := hP0.app (fun k9 x hx => by
    have h0 : k9 < 1 := (List.getElem?_eq_some_iff.mp hx).1
    rw [show k9 = 0 by omega] at hx
    cases hx
    exact f2)
  have hP2 : va_P D cl (((X ++ va_pl L f) ++ [(H.size, .inl (cA, n.toNatClampNeg, .inr (.inr (.inr (.inr (fun i => if i < n.toNatClampNeg then some (H.size + 1 + i) else none))))))]) ++ ((List.range n.toNatClampNeg).map (fun i => H.size + 1 + i)).map (fun a => (a, .inl (cy, z)))) F.heap := hP1.app (fun k9 x hx => by
    obtain ⟨a, ha, rfl⟩ := List.mem_map.mp (List.mem_of_getElem? hx)
    obtain ⟨i, hi, rfl⟩ := List.mem_map.mp ha
    exact hrow i (List.mem_range.mp hi))
  have hD2 : va_D A (((X ++ va_pl L f) ++ [(H.size, .inl (cA, n.toNatClampNeg, .inr (.inr (.inr (.inr (fun i => if i < n.toNatClampNeg then some (H.size + 1 + i) else none))))))]) ++ ((List.range n.toNatClampNeg).map (fun i => H.size + 1 + i)).map (fun a => (a, .inl (cy, z)))) := by
    have hD1 := hD.push (e := .inl (cA, n.toNatClampNeg, .inr (.inr (.inr (.inr (fun i => if i < n.toNatClampNeg then some (H.size + 1 + i) else none)))))) hP rfl (hA _ hS.1)
    generalize hW1 : (X ++ va_pl L f) ++ [(H.size, .inl (cA, n.toNatClampNeg, .inr (.inr (.inr (.inr (fun i => if i < n.toNatClampNeg then some (H.size + 1 + i) else none))))))] = W1 at hD1 hP1 ⊢
    have hle : ∀ (k9 : Nat) (x : Nat × va_E), W1[k9]? = some x → x.1 ≤ H.size := fun k9 x hx => by
      rw [← hW1] at hx
      by_cases hl : k9 < (X ++ va_pl L f).length
      · rw [List.getElem?_append_left hl] at hx
        exact Nat.le_of_lt ((hP k9 x hx).lt)
      · rw [List.getElem?_append_right (by omega)] at hx
        have h0 : k9 - (X ++ va_pl L f).length < 1 := (List.getElem?_eq_some_iff.mp hx).1
        rw [show k9 - (X ++ va_pl L f).length = 0 by omega] at hx
        cases hx
        exact Nat.le_refl _
    have hr : ∀ (k9 : Nat) (x : Nat × va_E), (((List.range n.toNatClampNeg).map (fun i => H.size + 1 + i)).map (fun a => ((a, .inl (cy, z)) : Nat × va_E)))[k9]? = some x → x.1 = H.size + 1 + k9 := fun k9 x hx => by
      rw [List.getElem?_map, List.getElem?_map] at hx
      by_cases h9 : k9 < n.toNatClampNeg
      · rw [List.getElem?_range h9] at hx
        cases hx
        rfl
      · have hn0 : (List.range n.toNatClampNeg)[k9]? = none := List.getElem?_eq_none (by rw [List.length_range]; omega)
        rw [hn0] at hx
        cases hx
    refine ⟨fun i j x y hi hj hxy => ?_, fun k9 x hx => ?_⟩
    · by_cases h1 : i < W1.length <;> by_cases h2 : j < W1.length
      · rw [List.getElem?_append_left h1] at hi
        rw [List.getElem?_append_left h2] at hj
        exact hD1.1 i j x y hi hj hxy
      · rw [List.getElem?_append_left h1] at hi
        rw [List.getElem?_append_right (by omega)] at hj
        have := hle _ _ hi
        have := hr _ _ hj
        omega
      · rw [List.getElem?_append_right (by omega)] at hi
        rw [List.getElem?_append_left h2] at hj
        have := hle _ _ hj
        have := hr _ _ hi
        omega
      · rw [List.getElem?_append_right (by omega)] at hi hj
        have := hr _ _ hi
        have := hr _ _ hj
        omega
    · by_cases h1 : k9 < W1.length
      · rw [List.getElem?_append_left h1] at hx
        exact hD1.2 k9 x hx
      · rw [List.getElem?_append_right (by omega)] at hx
        have := hr _ _ hx
        exact hA _ (by have := hS.1; omega)
  have hAr : ArrOfT s cA (.array ty) := fun N9 z9 => by
    obtain ⟨-, k9, hk9, cm9, hkk9⟩ := (hO 0 0 0).1
    exact ⟨(fun q hq => by cases hq), k9, hk9, cm9, hkk9⟩
  have hK2 : va_K D cl (tys ++ [(cA, .array ty)]) s := ⟨hK.1, fun k9 x hx => by
    by_cases hl : k9 < tys.length
    · rw [List.getElem?_append_left hl] at hx
      exact hK.2 k9 x hx
    · rw [List.getElem?_append_right (by omega)] at hx
      have h0 : k9 - tys.length < 1 := (List.getElem?_eq_some_iff.mp hx).1
      rw [show k9 - tys.length = 0 by omega] at hx
      cases hx
      exact ⟨hAr, fA⟩⟩
  obtain ⟨t, a1, b1⟩ := kk H.size (fun i => H.size + 1 + i) cA F.heap (fun i j _ _ h => by have h9 : H.size + 1 + i = H.size + 1 + j := h; omega) hnl hK2 (by rw [← vr_rows hnm]; exact vr_lay hP2) (by rw [← vr_rows hnm]; exact vr_layD hD2) ⟨by rw [f1]; have := hS.1; omega, fun x h1 h2 => (hold x (Nat.lt_of_lt_of_le h1 hS.1)).trans (hS.2.1 x h1 h2), hS.2.2⟩ F rfl X'
  refine ⟨t, step t ?_, b1⟩
  have e : T.heap.size = H.size := by rw [hT]
  rw [e]
  exact a1
end VGM
/-! ===== END ===== -/

/-! ===== BEGIN exceptions that leave a method, and their catching by the caller (launches without stack traces) ===== -/
section VXA
/-! The laws vx_back, vx_callV, vx_callS, vx_callSW, vx_throw0, vx_throwS follow proofs of the library, with one case more: JvmDerived/Free/Laws.lean (Back.of_free), Shelf42/LK1.lean (callV, callS), Shelf/KitTraced.lean (throwNew0V, throwNewS). -/
/-- where a method has thrown q: the class by its name, the cell, what was written, the world -/
def vx_T (XC : String → State → State → Prop) (st : State) (q : Addr) (t : State) (mc ms : Nat) (free : Addr → Prop) : Prop :=
  ∃ (E : String) (ce : Cell) (L : List Loc), XC E st t ∧ t.heap[q]? = some ce ∧ ce.vm = .none ∧ st.vm.findClass E = some ce.cls ∧ st.WarmedH t.vm ∧ st.sameButNew ({ t with vm := st.vm } : State) L mc ms ∧ ∀ z ∈ L, free z.base
def vx_Q (Qc : Array Value → State → Outcome → State → Prop) (XC : String → State → State → Prop) (mc ms : Nat) (free : Addr → Prop) : Array Value → State → Outcome → State → Prop := fun a st o t =>
  (Qc a st o t ∧ ∃ L, FrameEnd st o t L mc ms ∧ ∀ q ∈ L, free q.base) ∨ ∃ q, o = .threw q ∧ vx_T XC st q t mc ms free
/-- a callee that returns or throws -/
def vx_Met (l : Launch) (y : MethodName) (ws : List Cond) (rm : Room) (Pc : Array Value → State → Prop) (Qc : Array Value → State → Outcome → State → Prop) (XC : String → State → State → Prop) (mc ms : Nat) (free : Addr → Prop) : Prop :=
  MetFree l y (headSpec ws rm) Pc (fun _ _ _ _ _ => True) (vx_Q Qc XC mc ms free)
def vx_Post (XC : String → State → State → Prop) (mc ms : Nat) (free : Addr → Prop) : Pt → Array Value → Addr → Pt → Prop := fun A a q B =>
  ∃ (g : JFrame) (mk : MethodId) (t : State) (L : List Loc) (E : String) (ce : Cell), B.U.heap = t.heap ∧ B.U.vm = t.vm ∧ XC E (A.U.calling g mk a) t ∧ t.heap[q]? = some ce ∧ ce.vm = .none ∧ A.U.vm.findClass E = some ce.cls ∧ B.locs = A.locs ++ L ∧ (∀ z ∈ L, free z.base) ∧ B.cells = A.cells + mc ∧ B.slots = A.slots + ms
def vx_Back (l : Launch) (R : Room) (p : Program) (e : Env) (below : List Frame) (s : State) (sargs : Array Value) (y : MethodName) (len W9 : Nat)
    (Pre : Pt → Array Value → Prop) (Post : Pt → Array Value → Option Value → Pt → Prop) (PostX : Pt → Array Value → Addr → Pt → Prop) : Prop :=
  ∀ (m : MethodId) (meth : Method) (c : Code) (A : Pt) (g : JFrame) (ig : Instr) (mk : MethodId) (a : Array Value),
    Stand p l e R s m sargs below meth c A.U A.locs A.cells A.slots → g.method = m → g.locals.size = c.maxLocals → decode c.code g.pc = .ok (ig, len) →
    2 * g.monitorRoom + (g.stack.map fun v => v.category).sum ≤ W9 → A.U.methodNamed? y = some mk → Pre A a →
    (∃ (v : Option Value) (B : Pt), Stand p l e R s m sargs below meth c B.U B.locs B.cells B.slots ∧ Post A a v B ∧
      Steps p.tables e below (doInvoke e (A.U.setTop g) [] mk a).1 (B.U.setTop { g with pc := g.pc + len, stack := v.toList ++ g.stack })) ∨
    (∃ (q : Addr) (B : Pt), Stand p l e R s m sargs below meth c B.U B.locs B.cells B.slots ∧ PostX A a q B ∧
      Steps p.tables e below (doInvoke e (A.U.setTop g) [] mk a).1 ((B.U.setTop g).pushFrame (.throwing q)))
section Payer
variable {l : Launch} {R : Room} {p : Program} {e : Env} {below : List Frame} {s : State} {sargs : Array Value} {y : MethodName} {len W9 : Nat}
theorem vx_back {ws : List Cond} {rm : Room} {Pc : Array Value → State → Prop} {Qc : Array Value → State → Outcome → State → Prop} {XC : String → State → State → Prop} {mc ms : Nat} {free : Addr → Prop} {bytes : ByteArray} {maxL : Nat} {ret : Option FieldType}
    (hM : vx_Met l y ws rm Pc Qc XC mc ms free) (hblind : FrameBlind Pc) (hrc : rm.cells = mc) (hrs : rm.slots = ms)
    (hframes : rm.frames + 1 ≤ R.frames) (hlocals : W9 + (maxL + 11) + rm.locals ≤ R.locals)
    (hws : ∀ w ∈ ws, ∀ a' U, s.WarmedH U.vm → w.before a' U = true) (hcode : Cond.code y bytes maxL ret ∈ ws) (hinit : ∀ a' U, s.WarmedH U.vm → (Cond.initialized y.cls).before a' U = true) :
    vx_Back l R p e below s sargs y len W9 (PreOf R mc ms Pc) (PostOf Qc mc ms free) (vx_Post XC mc ms free) := by
  intro m meth c A g ig mk a X hg hsize hdg hW hn hp
  have h1 : (headSpec ws rm).pre.before a A.U = true := atoms_intro fun w hw => hws w hw _ _ X.warmed
  have h2 : (Cond.code y bytes maxL ret).before a A.U = true := hws _ hcode _ _ X.warmed
  have h3 : (Cond.initialized y.cls).before a A.U = true := hinit _ _ X.warmed
  have h4 : A.cells + (headSpec ws rm).room.cells ≤ R.cells := by rw [show (headSpec ws rm).room.cells = mc from hrc]; exact hp.1
  have h5 : A.slots + (headSpec ws rm).room.slots ≤ R.slots := by rw [show (headSpec ws rm).room.slots = ms from hrs]; exact hp.2.1
  have hPc : Pc a (A.U.calling g mk a) := hblind _ _ _ _ hp.2.2
  obtain ⟨U, Ls, c0, s0⟩ := A
  dsimp only [Pt.U, Pt.locs, Pt.cells, Pt.slots] at h1 h2 h3 h4 h5 X hn hPc ⊢
  obtain ⟨methY, cY, hmY, hcY, -, hlY, -, -, -, -⟩ := Cond.code_spec hn h2
  obtain ⟨kY, hkY, -⟩ := className_of_methodNamed hn
  have hinitY : kY.init = .initialized := Cond.initialized_spec (findClass_of_methodNamed hn) hkY h3
  have h : At U g.method c below := by rw [hg]; exact X.here
  have hlocals9 : W9 + (maxL + 11) + (headSpec ws rm).room.locals ≤ R.locals := hlocals
  have happ : (headSpec ws rm).appliesLoose y e.platform (U.calling g mk a) = true :=
    Spec.appliesLoose_calling (g := g) h hdg hn hkY hinitY
      (X.room_calling (g := g) (R' := (headSpec ws rm).room) hsize hmY hcY hframes (by rw [hlY]; omega) h4 h5) h1
  obtain ⟨mid, hmid⟩ := h.above
  have hfr : (U.setTop g).frames = (.java g :: mid) ++ below := by rw [State.frames_setTop' g h.top, hmid]; rfl
  obtain ⟨o, s₂, hsteps, -, hend, hq⟩ := Steps.callFree hM p X.admits X.cas X.clock (acts := []) hfr happ hPc trivial
  have hq' : vx_Q Qc XC mc ms free a (U.calling g mk a) o s₂ := hq
  rw [State.frames_setTop' g h.top] at hend
  obtain ⟨g₀, hg0⟩ := Option.isSome_iff_exists.mp h.top
  obtain ⟨r, hr⟩ := State.topJava?_eq_some.mp hg0
  have hr' : (({ U with heap := s₂.heap, slotsUsed := s₂.slotsUsed } : State).setVm s₂.vm).frames = .java g₀ :: r := hr
  rcases hq' with ⟨hqc, L, hfe, hL⟩ | ⟨q, rfl, E, ce, L, hx, hce, hcv, hcl, hW₂, hsm, hL⟩
  · obtain ⟨⟨v, rfl⟩, hW₂, e2, q2, q3, q4, q5, q6⟩ := id hfe
    have e3 : s₂ = ({ (U.calling g mk a).setFrames s₂.frames with heap := s₂.heap, slotsUsed := s₂.slotsUsed } : State).setVm s₂.vm := by
      have : s₂ = ({ s₂ with vm := (U.calling g mk a).vm } : State).setVm s₂.vm := rfl
      rw [e2] at this
      exact this
    obtain ⟨c₂, i₂, len₂, hc₂, hd₂, hf₂⟩ := hend
    have hW' : U.WarmedH s₂.vm := hW₂
    have hcc : c₂ = c := by
      have h1 : s₂.code? g.method = U.code? g.method := by
        rw [State.code?_eq, State.code?_eq, hW'.alike.method?]
      exact Option.some.inj (hc₂.symm.trans (h1.trans h.code))
    subst hcc
    have hlen : len₂ = len := by rw [hdg] at hd₂; cases hd₂; rfl
    subst hlen
    have hs₂ : s₂ = (({ U with heap := s₂.heap, slotsUsed := s₂.slotsUsed } : State).setVm s₂.vm).setTop { g with pc := g.pc + len₂, stack := v.toList ++ g.stack } := by
      refine e3.trans ?_
      rw [hf₂, State.calling_eq h.top, State.setFrames_setFrames, State.setTop_of_frames _ hr', hr]
      rfl
    have hsame : U.sameButNew ({ U with heap := s₂.heap, slotsUsed := s₂.slotsUsed } : State) L mc ms := by
      refine ⟨?_, q2, q3, q4, q5, q6⟩
      obtain ⟨t, ht, -⟩ := State.frames_cons hr
      show ({ U with heap := s₂.heap, slotsUsed := s₂.slotsUsed } : State) = { U.setFrames U.frames with heap := s₂.heap, slotsUsed := s₂.slotsUsed }
      rw [State.setFrames_self ht]
    subst hg
    refine Or.inl ⟨v, ⟨(({ U with heap := s₂.heap, slotsUsed := s₂.slotsUsed } : State).setVm s₂.vm), Ls ++ L, c0 + mc, s0 + ms⟩,
      ⟨X.admits, X.cas, X.clock, X.frames, X.room, X.hears, X.method, X.code, (X.here.setHeapUsed s₂.heap s₂.slotsUsed).setVm hW'.alike, X.tail, State.WarmedH.trans X.warmed hW', X.limits, X.bytes, X.same.trans (hsame.setVm s.vm)⟩,
      ⟨g, mk, s₂, L, rfl, rfl, hqc, rfl, hL, rfl, rfl⟩, ?_⟩
    show Steps p.tables e below _ ((({ U with heap := s₂.heap, slotsUsed := s₂.slotsUsed } : State).setVm s₂.vm).setTop { g with pc := g.pc + len₂, stack := v.toList ++ g.stack })
    rw [← hs₂]
    exact hsteps
  · obtain ⟨e2, q2, q3, q4, q5, q6⟩ := id hsm
    have e3 : s₂ = ({ (U.calling g mk a).setFrames s₂.frames with heap := s₂.heap, slotsUsed := s₂.slotsUsed } : State).setVm s₂.vm := by
      have : s₂ = ({ s₂ with vm := (U.calling g mk a).vm } : State).setVm s₂.vm := rfl
      rw [e2] at this
      exact this
    have hf₂ : s₂.frames = .throwing q :: .java g :: U.frames.tail := hend
    have hW' : U.WarmedH s₂.vm := hW₂
    have hs₂ : s₂ = ((({ U with heap := s₂.heap, slotsUsed := s₂.slotsUsed } : State).setVm s₂.vm).setTop g).pushFrame (.throwing q) := by
      refine e3.trans ?_
      rw [hf₂, State.calling_eq h.top, State.setFrames_setFrames, State.pushFrame, State.frames_setTop _ hr', State.setTop_of_frames _ hr', State.setFrames_setFrames, hr]
      rfl
    have hsame : U.sameButNew ({ U with heap := s₂.heap, slotsUsed := s₂.slotsUsed } : State) L mc ms := by
      refine ⟨?_, q2, q3, q4, q5, q6⟩
      obtain ⟨t, ht, -⟩ := State.frames_cons hr
      show ({ U with heap := s₂.heap, slotsUsed := s₂.slotsUsed } : State) = { U.setFrames U.frames with heap := s₂.heap, slotsUsed := s₂.slotsUsed }
      rw [State.setFrames_self ht]
    subst hg
    refine Or.inr ⟨q, ⟨(({ U with heap := s₂.heap, slotsUsed := s₂.slotsUsed } : State).setVm s₂.vm), Ls ++ L, c0 + mc, s0 + ms⟩,
      ⟨X.admits, X.cas, X.clock, X.frames, X.room, X.hears, X.method, X.code, (X.here.setHeapUsed s₂.heap s₂.slotsUsed).setVm hW'.alike, X.tail, State.WarmedH.trans X.warmed hW', X.limits, X.bytes, X.same.trans (hsame.setVm s.vm)⟩,
      ⟨g, mk, s₂, L, E, ce, rfl, rfl, hx, hce, hcv, hcl, rfl, hL, rfl, rfl⟩, ?_⟩
    show Steps p.tables e below _ (((({ U with heap := s₂.heap, slotsUsed := s₂.slotsUsed } : State).setVm s₂.vm).setTop g).pushFrame (.throwing q))
    rw [← hs₂]
    exact hsteps
end Payer
section Calls
variable {p : Program} {l : Launch} {e : Env} {R : Room} {s : State} {m : MethodId} {args : Array Value} {below : List Frame} {meth : Method} {c : Code} {T : State} {locs : List Loc} {cells slots : Nat}
theorem vx_callV (X : Stand p l e R s m args below meth c T locs cells slots) (hexec : p.tables.exec = Jvm.exec) {own C : String} {index : Nat} {y : MethodName} {bytes : ByteArray} {maxL : Nat} {ret : Option FieldType}
    (hown : s.vm.findClass own = some m.cls) (hlink : (Cond.methodLink own index y).before args s = true) (hinst : (Cond.instanceMethod y).before args s = true) (hsel : (Cond.selects C y y).before args s = true)
    (hcode : (Cond.code y bytes maxL ret).before args s = true) (hy : y.cls ≠ "java/lang/invoke/MethodHandle" ∧ y.cls ≠ "java/lang/invoke/VarHandle")
    {W9 : Nat} {Pre : Pt → Array Value → Prop} {Post : Pt → Array Value → Option Value → Pt → Prop} {PostX : Pt → Array Value → Addr → Pt → Prop} (hK : vx_Back l R p e below s args y 3 W9 Pre Post PostX)
    {b : Addr} {cellB : Cell} (hcell : T.heap[b]? = some cellB) (hobj : cellB.vm.isStatics = false) (hcls : s.vm.findClass C = some cellB.cls)
    {g : JFrame} (hg : g.method = m) (hsize : g.locals.size = c.maxLocals) {argsL rest : List Value} (hlen : ∀ sig, parseMethodDescriptor y.desc = some sig → argsL.length = sig.parameters.length)
    (hstack : g.stack = argsL.reverse ++ .ref b :: rest) (hW : 2 * g.monitorRoom + (rest.map fun v => v.category).sum ≤ W9) (hdg : decode c.code g.pc = .ok (.invokevirtual index, 3))
    (hpre : ∀ vm₁, s.WarmedH vm₁ → Pre ⟨T.setVm vm₁, locs, cells, slots⟩ (Value.ref b :: argsL).toArray) :
    (∃ (v : Option Value) (vm₁ : Vm) (B : Pt), s.WarmedH vm₁ ∧ Stand p l e R s m args below meth c B.U B.locs B.cells B.slots ∧ Post ⟨T.setVm vm₁, locs, cells, slots⟩ (Value.ref b :: argsL).toArray v B ∧
      ∀ target, Steps p.tables e below (B.U.setTop { g with pc := g.pc + 3, stack := v.toList ++ rest }) target → Steps p.tables e below (T.setTop g) target) ∨
    (∃ (q : Addr) (vm₁ : Vm) (B : Pt), s.WarmedH vm₁ ∧ Stand p l e R s m args below meth c B.U B.locs B.cells B.slots ∧ PostX ⟨T.setVm vm₁, locs, cells, slots⟩ (Value.ref b :: argsL).toArray q B ∧
      Steps p.tables e below (T.setTop g) ((B.U.setTop { g with stack := rest }).pushFrame (.throwing q))) := by
  obtain ⟨mk, methM, hnamed, hmethM, hstM, habM⟩ := Cond.instanceMethod_spec hinst
  obtain ⟨methM', cM, hmethM', -, -, -, -, -, -, hsigM⟩ := Cond.code_spec hnamed hcode
  cases hmethM.symm.trans hmethM'
  obtain ⟨c2, r2, m2, q1, q2, q3, q4, kP, hkP, hkPi⟩ := Cond.selects_spec hsel
  cases hcls.symm.trans q1
  cases (State.methodFound?_of_named hnamed hy).symm.trans q2
  cases hnamed.symm.trans q3
  have hselP : selectMethod e.platform s.vm cellB.cls mk = .method mk := by rw [Launch.admits_selectMethod X.admits]; exact q4
  obtain ⟨vm₁, X₁, hstep₁⟩ := X.invokevirtual hexec hown hlink hnamed hmethM hstM hkP hkPi hy (a := b) (cell := cellB) hcell
    (fun z h => by rw [h] at hobj; cases hobj) hselP hmethM habM hkP hkPi (g := g) hg (argsL := argsL) (rest := rest) (hlen _ hsigM) hstack hdg
  rcases hK m meth c ⟨T.setVm vm₁, locs, cells, slots⟩ { g with stack := rest } (.invokevirtual index) mk (Value.ref b :: argsL).toArray X₁ hg hsize hdg hW (X₁.named hnamed) (hpre vm₁ X₁.warmed) with ⟨v, B, X', hpost, hsteps⟩ | ⟨q, B, X', hpost, hsteps⟩
  · exact Or.inl ⟨v, vm₁, B, X₁.warmed, X', hpost, fun target h => hstep₁ _ fun acts => by rw [doInvoke_state]; exact hsteps.trans h⟩
  · exact Or.inr ⟨q, vm₁, B, X₁.warmed, X', hpost, hstep₁ _ fun acts => by rw [doInvoke_state]; exact hsteps⟩
theorem vx_callS (X : Stand p l e R s m args below meth c T locs cells slots) (hexec : p.tables.exec = Jvm.exec) {own : String} {index : Nat} {y : MethodName} {bytes : ByteArray} {maxL : Nat} {ret : Option FieldType}
    (hown : s.vm.findClass own = some m.cls) (hlink : (Cond.methodLink own index y).before args s = true) (hstat : (Cond.static y).before args s = true) (hinit : (Cond.initialized y.cls).before args s = true)
    (hcode : (Cond.code y bytes maxL ret).before args s = true) (hy : y.cls ≠ "java/lang/invoke/MethodHandle" ∧ y.cls ≠ "java/lang/invoke/VarHandle")
    {W9 : Nat} {Pre : Pt → Array Value → Prop} {Post : Pt → Array Value → Option Value → Pt → Prop} {PostX : Pt → Array Value → Addr → Pt → Prop} (hK : vx_Back l R p e below s args y 3 W9 Pre Post PostX)
    {g : JFrame} (hg : g.method = m) (hsize : g.locals.size = c.maxLocals) {argsL rest : List Value} (hlen : ∀ sig, parseMethodDescriptor y.desc = some sig → argsL.length = sig.parameters.length)
    (hstack : g.stack = argsL.reverse ++ rest) (hW : 2 * g.monitorRoom + (rest.map fun v => v.category).sum ≤ W9) (hdg : decode c.code g.pc = .ok (.invokestatic index, 3))
    (hpre : ∀ vm₁, s.WarmedH vm₁ → Pre ⟨T.setVm vm₁, locs, cells, slots⟩ argsL.toArray) :
    (∃ (v : Option Value) (vm₁ : Vm) (B : Pt), s.WarmedH vm₁ ∧ Stand p l e R s m args below meth c B.U B.locs B.cells B.slots ∧ Post ⟨T.setVm vm₁, locs, cells, slots⟩ argsL.toArray v B ∧
      ∀ target, Steps p.tables e below (B.U.setTop { g with pc := g.pc + 3, stack := v.toList ++ rest }) target → Steps p.tables e below (T.setTop g) target) ∨
    (∃ (q : Addr) (vm₁ : Vm) (B : Pt), s.WarmedH vm₁ ∧ Stand p l e R s m args below meth c B.U B.locs B.cells B.slots ∧ PostX ⟨T.setVm vm₁, locs, cells, slots⟩ argsL.toArray q B ∧
      Steps p.tables e below (T.setTop g) ((B.U.setTop { g with stack := rest }).pushFrame (.throwing q))) := by
  obtain ⟨mk, hnamed⟩ := Cond.code_named hcode
  obtain ⟨methM, cM, hmethM, -, -, -, -, -, -, hsigM⟩ := Cond.code_spec hnamed hcode
  have hstatic : methM.isStatic = true := Cond.static_spec hnamed hmethM hstat
  obtain ⟨kP, hkP, -⟩ := className_of_methodNamed hnamed
  have hinitP : kP.init = .initialized := Cond.initialized_spec (findClass_of_methodNamed hnamed) hkP hinit
  obtain ⟨vm₁, X₁, hstep₁⟩ := X.invokestatic hexec hown hlink hnamed hmethM hstatic hkP hinitP hy (g := g) hg (argsL := argsL) (rest := rest) (hlen _ hsigM) hstack hdg
  rcases hK m meth c ⟨T.setVm vm₁, locs, cells, slots⟩ { g with stack := rest } (.invokestatic index) mk argsL.toArray X₁ hg hsize hdg hW (X₁.named hnamed) (hpre vm₁ X₁.warmed) with ⟨v, B, X', hpost, hsteps⟩ | ⟨q, B, X', hpost, hsteps⟩
  · exact Or.inl ⟨v, vm₁, B, X₁.warmed, X', hpost, fun target h => hstep₁ _ fun acts => by rw [doInvoke_state]; exact hsteps.trans h⟩
  · exact Or.inr ⟨q, vm₁, B, X₁.warmed, X', hpost, hstep₁ _ fun acts => by rw [doInvoke_state]; exact hsteps⟩
end Calls
theorem vx_cls {s : State} {T : State} {vm₁ : Vm} {E : String} {k : ClassId} (hW : s.WarmedH vm₁) (h : (T.setVm vm₁).vm.findClass E = some k) : s.vm.findClass E = some k := by
  have h1 : vm₁.findClass E = some k := h
  rw [hW.alike.findClass] at h1
  exact h1
/-- the method's frame g, with q thrown over it -/
def vx_W (p : Program) (l : Launch) (e : Env) (R : Room) (s : State) (m : MethodId) (args : Array Value) (below : List Frame) (meth : Method) (c : Code) (H : Heap) (locs : List Loc) (cells slots : Nat) (Q : State → Prop) (g : JFrame) (q : Addr) : Prop :=
  ∀ T : State, T.heap = H → Stand p l e R s m args below meth c T locs cells slots → ∃ t, Steps p.tables e below ((T.setTop g).pushFrame (.throwing q)) t ∧ Q t
def vx_Run (p : Program) (l : Launch) (e : Env) (R : Room) (s : State) (m : MethodId) (args : Array Value) (below : List Frame) (meth : Method) (c : Code) (H : Heap) (locs : List Loc) (cells slots mc ms : Nat) (g : JFrame) (rest : List Value) (Qa : State → Outcome → State → Prop) (XC : String → State → State → Prop) (free : Addr → Prop) : Prop :=
  ∀ T : State, T.heap = H → Stand p l e R s m args below meth c T locs cells slots →
    (∃ (v : Option Value) (st₀ t T' : State) (L : List Loc), st₀.heap = H ∧ Stand p l e R s m args below meth c T' (locs ++ L) (cells + mc) (slots + ms) ∧ (∀ q ∈ L, free q.base) ∧ T'.heap = t.heap ∧ T'.vm = t.vm ∧ Qa st₀ (.returned v) t ∧
      Goes p e below T g T' { g with pc := g.pc + 3, stack := v.toList ++ rest }) ∨
    (∃ (q : Addr) (st₀ t T' : State) (L : List Loc) (E : String) (ce : Cell), st₀.heap = H ∧ Stand p l e R s m args below meth c T' (locs ++ L) (cells + mc) (slots + ms) ∧ (∀ z ∈ L, free z.base) ∧ T'.heap = t.heap ∧ T'.vm = t.vm ∧ XC E st₀ t ∧ t.heap[q]? = some ce ∧ ce.vm = .none ∧ s.vm.findClass E = some ce.cls ∧
      Steps p.tables e below (T.setTop g) ((T'.setTop { g with stack := rest }).pushFrame (.throwing q)))
def vx_X {S : Type} (px : S → Prop) (B : String → S → State → Prop) (A : Nat → Prop) : String → State → State → Prop := fun E st t => ∃ u : S, px u ∧ B E u t ∧ va_F A st t
section Runs
variable {p : Program} {l : Launch} {e : Env} {R : Room} {s : State} {m : MethodId} {args : Array Value} {below : List Frame} {meth : Method} {c : Code} {H : Heap} {locs : List Loc} {cells slots : Nat}
variable {y : MethodName} {bytes cc : ByteArray} {maxL nL mc ms n index : Nat} {ret : Option FieldType} {ws : List Cond} {rm : Room} {Pc : Array Value → State → Prop} {Qc : Array Value → State → Outcome → State → Prop} {XC : String → State → State → Prop} {free : Addr → Prop} {Ts : List Cond} {own C : String} {b : Addr} {As rest : List Value} {g : JFrame}
theorem vx_callBack (cb : CallB R s args own index y bytes maxL ret ws rm mc ms n) (hM : vx_Met l y ws rm Pc Qc XC mc ms free) (hbl : FrameBlind Pc) : vx_Back l R p e below s args y 3 8 (PreOf R mc ms Pc) (PostOf Qc mc ms free) (vx_Post XC mc ms free) := by
  obtain ⟨hrc, hrs, hfr, hlo, hws, hcw, -, hini, -⟩ := cb
  exact vx_back (bytes := bytes) (maxL := maxL) (ret := ret) hM hbl hrc hrs hfr hlo hws hcw (fun a' U hW => word_at hW (Or.inl (by first | rfl | simp [Cond.onTables, Cond.keeps, Cond.steady])) hini)
theorem vx_runV (S : CallFix p m c cc nL s args Ts own) (hM : vx_Met l y ws rm Pc Qc XC mc ms free) (cw : CallW R s args own C index y bytes maxL ret ws rm mc ms n) (hp : PreV s H C b Pc As)
    (hg : g.method = m) (hn : As.length = n) (hsize : g.locals.size = nL) (hstack : g.stack = As.reverse ++ .ref b :: rest) (hW : 2 * g.monitorRoom + (rest.map fun v => v.category).sum ≤ 8) (hdg : decode cc g.pc = .ok (.invokevirtual index, 3)) (hf : cells + mc ≤ R.cells ∧ slots + ms ≤ R.slots) :
    vx_Run p l e R s m args below meth c H locs cells slots mc ms g rest (Qc (Value.ref b :: As).toArray) XC free := by
  have hK : vx_Back l R p e below s args y 3 8 (PreOf R mc ms Pc) (PostOf Qc mc ms free) (vx_Post XC mc ms free) := vx_callBack cw.1 hM hp.1
  obtain ⟨⟨-, -, -, -, -, -, hcode, -, hy, hlen, hl⟩, hin, hse⟩ := cw
  obtain ⟨hx, hb, hml, ho, -⟩ := S
  obtain ⟨-, ⟨cellB, hcB, hoB, hclB⟩, hPc⟩ := hp
  intro T hT X
  rcases vx_callV X hx (C := C) (bytes := bytes) (maxL := maxL) (ret := ret) ho hl hin hse hcode hy hK (by rw [hT]; exact hcB) hoB hclB hg (hsize.trans hml.symm) (argsL := As) (rest := rest) (fun sig h => hn.trans (hlen sig h)) hstack hW (by rw [hb]; exact hdg)
    (fun vm₁ hW₁ => ⟨hf.1, hf.2, hPc (T.setVm vm₁) hT hW₁⟩) with ⟨v, vm₁, ⟨U', l2, c2, s2⟩, hW₁, X', ⟨g', mk, t, L, e1, e2, hq, h1, hL, h2, h3⟩, st⟩ | ⟨q, vm₁, ⟨U', l2, c2, s2⟩, hW₁, X', ⟨g', mk, t, L, E, ce, e1, e2, hq, hce, hcv, hcl, h1, hL, h2, h3⟩, st⟩
  · dsimp only [Pt.U, Pt.locs, Pt.cells, Pt.slots] at X' e1 e2 h1 h2 h3 st
    subst h1; subst h2; subst h3
    exact Or.inl ⟨v, (T.setVm vm₁).calling g' mk (Value.ref b :: As).toArray, t, U', L, hT, X', hL, e1, e2, hq, st⟩
  · dsimp only [Pt.U, Pt.locs, Pt.cells, Pt.slots] at X' e1 e2 h1 h2 h3 st hcl
    subst h1; subst h2; subst h3
    exact Or.inr ⟨q, (T.setVm vm₁).calling g' mk (Value.ref b :: As).toArray, t, U', L, E, ce, hT, X', hL, e1, e2, hq, hce, hcv, vx_cls hW₁ hcl, st⟩
theorem vx_runS (S : CallFix p m c cc nL s args Ts own) (hM : vx_Met l y ws rm Pc Qc XC mc ms free) (cw : CallB R s args own index y bytes maxL ret ws rm mc ms n ∧ (Cond.static y).before args s = true) (hp : PreS s H Pc As)
    (hg : g.method = m) (hn : As.length = n) (hsize : g.locals.size = nL) (hstack : g.stack = As.reverse ++ rest) (hW : 2 * g.monitorRoom + (rest.map fun v => v.category).sum ≤ 8) (hdg : decode cc g.pc = .ok (.invokestatic index, 3)) (hf : cells + mc ≤ R.cells ∧ slots + ms ≤ R.slots) :
    vx_Run p l e R s m args below meth c H locs cells slots mc ms g rest (Qc As.toArray) XC free := by
  have hK : vx_Back l R p e below s args y 3 8 (PreOf R mc ms Pc) (PostOf Qc mc ms free) (vx_Post XC mc ms free) := vx_callBack cw.1 hM hp.1
  obtain ⟨⟨-, -, -, -, -, -, hcode, hini, hy, hlen, hl⟩, hstt⟩ := cw
  obtain ⟨hx, hb, hml, ho, -⟩ := S
  intro T hT X
  rcases vx_callS X hx (bytes := bytes) (maxL := maxL) (ret := ret) ho hl hstt hini hcode hy hK hg (hsize.trans hml.symm) (argsL := As) (rest := rest) (fun sig h => hn.trans (hlen sig h)) hstack hW (by rw [hb]; exact hdg)
    (fun vm₁ hW₁ => ⟨hf.1, hf.2, hp.2 (T.setVm vm₁) hT hW₁⟩) with ⟨v, vm₁, ⟨U', l2, c2, s2⟩, hW₁, X', ⟨g', mk, t, L, e1, e2, hq, h1, hL, h2, h3⟩, st⟩ | ⟨q, vm₁, ⟨U', l2, c2, s2⟩, hW₁, X', ⟨g', mk, t, L, E, ce, e1, e2, hq, hce, hcv, hcl, h1, hL, h2, h3⟩, st⟩
  · dsimp only [Pt.U, Pt.locs, Pt.cells, Pt.slots] at X' e1 e2 h1 h2 h3 st
    subst h1; subst h2; subst h3
    exact Or.inl ⟨v, (T.setVm vm₁).calling g' mk As.toArray, t, U', L, hT, X', hL, e1, e2, hq, st⟩
  · dsimp only [Pt.U, Pt.locs, Pt.cells, Pt.slots] at X' e1 e2 h1 h2 h3 st hcl
    subst h1; subst h2; subst h3
    exact Or.inr ⟨q, (T.setVm vm₁).calling g' mk As.toArray, t, U', L, E, ce, hT, X', hL, e1, e2, hq, hce, hcv, vx_cls hW₁ hcl, st⟩
end Runs
section Rows
variable {p : Program} {l : Launch} {e : Env} {R : Room} {s : State} {m : MethodId} {args : Array Value} {below : List Frame} {meth : Method} {c : Code} {H : Heap} {locs : List Loc} {cells slots : Nat} {Q : State → Prop}
variable {mc ms : Nat} {free : Addr → Prop} {A0 A1 : Nat → Prop} {H0 : Heap} {a : Array Value} {pc : Nat} {ls : Array Slot} {st0 rest : List Value}
theorem vx_keep {st₀ t T' : State} {L : List Loc} (h0 : st₀.heap = H) (e1 : T'.heap = t.heap) (hS : va_S A0 H0 H locs) (hA : ∀ q, q < H.size → A1 q → A0 q) (hf : ∀ q, free q → A0 q) (hL : ∀ q ∈ L, free q.base) (hF : va_F A1 st₀ t) :
    H.size ≤ T'.heap.size ∧ (∀ q : Nat, q < H.size → ¬ A1 q → T'.heap[q]? = H[q]?) ∧ va_S A0 H0 T'.heap (locs ++ L) := by
  obtain ⟨hz, hk⟩ := hF
  rw [h0] at hz hk
  exact ⟨by rw [e1]; exact hz, fun q h1 h2 => by rw [e1]; exact hk q h1 h2,
    ⟨Nat.le_trans hS.1 (by rw [e1]; exact hz), fun q h1 h2 => by rw [e1, hk q (Nat.lt_of_lt_of_le h1 hS.1) (fun z => h2 (hA q (Nat.lt_of_lt_of_le h1 hS.1) z))]; exact hS.2.1 q h1 h2, fun q hq => by
      rcases List.mem_append.mp hq with h | h
      · exact hS.2.2 q h
      · exact hf _ (hL q h)⟩⟩
theorem vx_calli {S SX : Type} {post : Int32 → S → Prop} {px : SX → Prop} {B : S → State → Prop} {BX : String → SX → State → Prop} {AX : Nat → Prop} (hr : vx_Run p l e R s m args below meth c H locs cells slots mc ms (F0 m pc ls st0) rest (va_Qi post B A1 a) (vx_X px BX AX) free) (hS : va_S A0 H0 H locs) (hA : ∀ q, q < H.size → A1 q → A0 q) (hf : ∀ q, free q → A0 q) (hAX : ∀ q, q < H.size → AX q → A0 q)
    (kx : ∀ (E : String) (ce : Cell) (q9 : Addr) (u : SX) (t : State) (H1 : Heap) (locs1 : List Loc), t.heap = H1 → s.vm.Alike t.vm → px u → BX E u t → H.size ≤ H1.size → (∀ q : Nat, q < H.size → ¬ AX q → H1[q]? = H[q]?) → va_S A0 H0 H1 locs1 → H1[q9]? = some ce → ce.vm = .none → s.vm.findClass E = some ce.cls → vx_W p l e R s m args below meth c H1 locs1 (cells + mc) (slots + ms) Q (F0 m pc ls rest) q9)
    (kk : ∀ (r : Int32) (u : S) (t : State) (H1 : Heap) (locs1 : List Loc), t.heap = H1 → s.vm.Alike t.vm → post r u → B u t → H.size ≤ H1.size → (∀ q : Nat, q < H.size → ¬ A1 q → H1[q]? = H[q]?) → va_S A0 H0 H1 locs1 → W p l e R s m args below meth c H1 locs1 (cells + mc) (slots + ms) Q (F0 m (pc + 3) ls (.int r :: rest))) : W p l e R s m args below meth c H locs cells slots Q (F0 m pc ls st0) := by
  intro T hT X
  rcases hr T hT X with ⟨v, st₀, t, T', L, h0, X', hL, e1, e2, ⟨⟨r, u, hv, hp, hb⟩, hF⟩, st⟩ | ⟨q, st₀, t, T', L, E, ce, h0, X', hL, e1, e2, ⟨u, hp, hb, hF⟩, hce, hcv, hcl, st⟩
  · cases hv
    obtain ⟨k1, k2, k3⟩ := vx_keep h0 e1 hS hA hf hL hF
    obtain ⟨t2, a1, b1⟩ := kk r u t T'.heap (locs ++ L) e1.symm (by rw [← e2]; exact X'.warmed.alike) hp hb k1 k2 k3 T' rfl X'
    exact ⟨t2, st t2 a1, b1⟩
  · obtain ⟨k1, k2, k3⟩ := vx_keep h0 e1 hS hAX hf hL hF
    obtain ⟨t2, a1, b1⟩ := kx E ce q u t T'.heap (locs ++ L) e1.symm (by rw [← e2]; exact X'.warmed.alike) hp hb k1 k2 k3 (by rw [e1]; exact hce) hcv hcl T' rfl X'
    exact ⟨t2, st.trans a1, b1⟩
theorem vx_calll {S SX : Type} {post : Int64 → S → Prop} {px : SX → Prop} {B : S → State → Prop} {BX : String → SX → State → Prop} {AX : Nat → Prop} (hr : vx_Run p l e R s m args below meth c H locs cells slots mc ms (F0 m pc ls st0) rest (va_Ql post B A1 a) (vx_X px BX AX) free) (hS : va_S A0 H0 H locs) (hA : ∀ q, q < H.size → A1 q → A0 q) (hf : ∀ q, free q → A0 q) (hAX : ∀ q, q < H.size → AX q → A0 q)
    (kx : ∀ (E : String) (ce : Cell) (q9 : Addr) (u : SX) (t : State) (H1 : Heap) (locs1 : List Loc), t.heap = H1 → s.vm.Alike t.vm → px u → BX E u t → H.size ≤ H1.size → (∀ q : Nat, q < H.size → ¬ AX q → H1[q]? = H[q]?) → va_S A0 H0 H1 locs1 → H1[q9]? = some ce → ce.vm = .none → s.vm.findClass E = some ce.cls → vx_W p l e R s m args below meth c H1 locs1 (cells + mc) (slots + ms) Q (F0 m pc ls rest) q9)
    (kk : ∀ (r : Int64) (u : S) (t : State) (H1 : Heap) (locs1 : List Loc), t.heap = H1 → s.vm.Alike t.vm → post r u → B u t → H.size ≤ H1.size → (∀ q : Nat, q < H.size → ¬ A1 q → H1[q]? = H[q]?) → va_S A0 H0 H1 locs1 → W p l e R s m args below meth c H1 locs1 (cells + mc) (slots + ms) Q (F0 m (pc + 3) ls (.long r :: rest))) : W p l e R s m args below meth c H locs cells slots Q (F0 m pc ls st0) := by
  intro T hT X
  rcases hr T hT X with ⟨v, st₀, t, T', L, h0, X', hL, e1, e2, ⟨⟨r, u, hv, hp, hb⟩, hF⟩, st⟩ | ⟨q, st₀, t, T', L, E, ce, h0, X', hL, e1, e2, ⟨u, hp, hb, hF⟩, hce, hcv, hcl, st⟩
  · cases hv
    obtain ⟨k1, k2, k3⟩ := vx_keep h0 e1 hS hA hf hL hF
    obtain ⟨t2, a1, b1⟩ := kk r u t T'.heap (locs ++ L) e1.symm (by rw [← e2]; exact X'.warmed.alike) hp hb k1 k2 k3 T' rfl X'
    exact ⟨t2, st t2 a1, b1⟩
  · obtain ⟨k1, k2, k3⟩ := vx_keep h0 e1 hS hAX hf hL hF
    obtain ⟨t2, a1, b1⟩ := kx E ce q u t T'.heap (locs ++ L) e1.symm (by rw [← e2]; exact X'.warmed.alike) hp hb k1 k2 k3 (by rw [e1]; exact hce) hcv hcl T' rfl X'
    exact ⟨t2, st.trans a1, b1⟩
theorem vx_callf {S SX : Type} {post : UInt32 → S → Prop} {px : SX → Prop} {B : S → State → Prop} {BX : String → SX → State → Prop} {AX : Nat → Prop} (hr : vx_Run p l e R s m args below meth c H locs cells slots mc ms (F0 m pc ls st0) rest (va_Qf post B A1 a) (vx_X px BX AX) free) (hS : va_S A0 H0 H locs) (hA : ∀ q, q < H.size → A1 q → A0 q) (hf : ∀ q, free q → A0 q) (hAX : ∀ q, q < H.size → AX q → A0 q)
    (kx : ∀ (E : String) (ce : Cell) (q9 : Addr) (u : SX) (t : State) (H1 : Heap) (locs1 : List Loc), t.heap = H1 → s.vm.Alike t.vm → px u → BX E u t → H.size ≤ H1.size → (∀ q : Nat, q < H.size → ¬ AX q → H1[q]? = H[q]?) → va_S A0 H0 H1 locs1 → H1[q9]? = some ce → ce.vm = .none → s.vm.findClass E = some ce.cls → vx_W p l e R s m args below meth c H1 locs1 (cells + mc) (slots + ms) Q (F0 m pc ls rest) q9)
    (kk : ∀ (r : UInt32) (u : S) (t : State) (H1 : Heap) (locs1 : List Loc), t.heap = H1 → s.vm.Alike t.vm → post r u → B u t → H.size ≤ H1.size → (∀ q : Nat, q < H.size → ¬ A1 q → H1[q]? = H[q]?) → va_S A0 H0 H1 locs1 → W p l e R s m args below meth c H1 locs1 (cells + mc) (slots + ms) Q (F0 m (pc + 3) ls (.float r :: rest))) : W p l e R s m args below meth c H locs cells slots Q (F0 m pc ls st0) := by
  intro T hT X
  rcases hr T hT X with ⟨v, st₀, t, T', L, h0, X', hL, e1, e2, ⟨⟨r, u, hv, hp, hb⟩, hF⟩, st⟩ | ⟨q, st₀, t, T', L, E, ce, h0, X', hL, e1, e2, ⟨u, hp, hb, hF⟩, hce, hcv, hcl, st⟩
  · cases hv
    obtain ⟨k1, k2, k3⟩ := vx_keep h0 e1 hS hA hf hL hF
    obtain ⟨t2, a1, b1⟩ := kk r u t T'.heap (locs ++ L) e1.symm (by rw [← e2]; exact X'.warmed.alike) hp hb k1 k2 k3 T' rfl X'
    exact ⟨t2, st t2 a1, b1⟩
  · obtain ⟨k1, k2, k3⟩ := vx_keep h0 e1 hS hAX hf hL hF
    obtain ⟨t2, a1, b1⟩ := kx E ce q u t T'.heap (locs ++ L) e1.symm (by rw [← e2]; exact X'.warmed.alike) hp hb k1 k2 k3 (by rw [e1]; exact hce) hcv hcl T' rfl X'
    exact ⟨t2, st.trans a1, b1⟩
theorem vx_calld {S SX : Type} {post : UInt64 → S → Prop} {px : SX → Prop} {B : S → State → Prop} {BX : String → SX → State → Prop} {AX : Nat → Prop} (hr : vx_Run p l e R s m args below meth c H locs cells slots mc ms (F0 m pc ls st0) rest (va_Qd post B A1 a) (vx_X px BX AX) free) (hS : va_S A0 H0 H locs) (hA : ∀ q, q < H.size → A1 q → A0 q) (hf : ∀ q, free q → A0 q) (hAX : ∀ q, q < H.size → AX q → A0 q)
    (kx : ∀ (E : String) (ce : Cell) (q9 : Addr) (u : SX) (t : State) (H1 : Heap) (locs1 : List Loc), t.heap = H1 → s.vm.Alike t.vm → px u → BX E u t → H.size ≤ H1.size → (∀ q : Nat, q < H.size → ¬ AX q → H1[q]? = H[q]?) → va_S A0 H0 H1 locs1 → H1[q9]? = some ce → ce.vm = .none → s.vm.findClass E = some ce.cls → vx_W p l e R s m args below meth c H1 locs1 (cells + mc) (slots + ms) Q (F0 m pc ls rest) q9)
    (kk : ∀ (r : UInt64) (u : S) (t : State) (H1 : Heap) (locs1 : List Loc), t.heap = H1 → s.vm.Alike t.vm → post r u → B u t → H.size ≤ H1.size → (∀ q : Nat, q < H.size → ¬ A1 q → H1[q]? = H[q]?) → va_S A0 H0 H1 locs1 → W p l e R s m args below meth c H1 locs1 (cells + mc) (slots + ms) Q (F0 m (pc + 3) ls (.double r :: rest))) : W p l e R s m args below meth c H locs cells slots Q (F0 m pc ls st0) := by
  intro T hT X
  rcases hr T hT X with ⟨v, st₀, t, T', L, h0, X', hL, e1, e2, ⟨⟨r, u, hv, hp, hb⟩, hF⟩, st⟩ | ⟨q, st₀, t, T', L, E, ce, h0, X', hL, e1, e2, ⟨u, hp, hb, hF⟩, hce, hcv, hcl, st⟩
  · cases hv
    obtain ⟨k1, k2, k3⟩ := vx_keep h0 e1 hS hA hf hL hF
    obtain ⟨t2, a1, b1⟩ := kk r u t T'.heap (locs ++ L) e1.symm (by rw [← e2]; exact X'.warmed.alike) hp hb k1 k2 k3 T' rfl X'
    exact ⟨t2, st t2 a1, b1⟩
  · obtain ⟨k1, k2, k3⟩ := vx_keep h0 e1 hS hAX hf hL hF
    obtain ⟨t2, a1, b1⟩ := kx E ce q u t T'.heap (locs ++ L) e1.symm (by rw [← e2]; exact X'.warmed.alike) hp hb k1 k2 k3 (by rw [e1]; exact hce) hcv hcl T' rfl X'
    exact ⟨t2, st.trans a1, b1⟩
theorem vx_callv {S SX : Type} {post : S → Prop} {px : SX → Prop} {B : S → State → Prop} {BX : String → SX → State → Prop} {AX : Nat → Prop} (hr : vx_Run p l e R s m args below meth c H locs cells slots mc ms (F0 m pc ls st0) rest (va_Qv post B A1 a) (vx_X px BX AX) free) (hS : va_S A0 H0 H locs) (hA : ∀ q, q < H.size → A1 q → A0 q) (hf : ∀ q, free q → A0 q) (hAX : ∀ q, q < H.size → AX q → A0 q)
    (kx : ∀ (E : String) (ce : Cell) (q9 : Addr) (u : SX) (t : State) (H1 : Heap) (locs1 : List Loc), t.heap = H1 → s.vm.Alike t.vm → px u → BX E u t → H.size ≤ H1.size → (∀ q : Nat, q < H.size → ¬ AX q → H1[q]? = H[q]?) → va_S A0 H0 H1 locs1 → H1[q9]? = some ce → ce.vm = .none → s.vm.findClass E = some ce.cls → vx_W p l e R s m args below meth c H1 locs1 (cells + mc) (slots + ms) Q (F0 m pc ls rest) q9)
    (kk : ∀ (u : S) (t : State) (H1 : Heap) (locs1 : List Loc), t.heap = H1 → s.vm.Alike t.vm → post u → B u t → H.size ≤ H1.size → (∀ q : Nat, q < H.size → ¬ A1 q → H1[q]? = H[q]?) → va_S A0 H0 H1 locs1 → W p l e R s m args below meth c H1 locs1 (cells + mc) (slots + ms) Q (F0 m (pc + 3) ls (rest))) : W p l e R s m args below meth c H locs cells slots Q (F0 m pc ls st0) := by
  intro T hT X
  rcases hr T hT X with ⟨v, st₀, t, T', L, h0, X', hL, e1, e2, ⟨⟨u, hv, hp, hb⟩, hF⟩, st⟩ | ⟨q, st₀, t, T', L, E, ce, h0, X', hL, e1, e2, ⟨u, hp, hb, hF⟩, hce, hcv, hcl, st⟩
  · cases hv
    obtain ⟨k1, k2, k3⟩ := vx_keep h0 e1 hS hA hf hL hF
    obtain ⟨t2, a1, b1⟩ := kk u t T'.heap (locs ++ L) e1.symm (by rw [← e2]; exact X'.warmed.alike) hp hb k1 k2 k3 T' rfl X'
    exact ⟨t2, st t2 a1, b1⟩
  · obtain ⟨k1, k2, k3⟩ := vx_keep h0 e1 hS hAX hf hL hF
    obtain ⟨t2, a1, b1⟩ := kx E ce q u t T'.heap (locs ++ L) e1.symm (by rw [← e2]; exact X'.warmed.alike) hp hb k1 k2 k3 (by rw [e1]; exact hce) hcv hcl T' rfl X'
    exact ⟨t2, st.trans a1, b1⟩
/-- caught by the row x of this method's table; the rows ahead don't take it -/
theorem vx_catch {own name : String} {E : String} {ce : Cell} {q : Addr} (hown : s.vm.findClass own = some m.cls) (pre : List ExceptionTableEntry) (x : ExceptionTableEntry) (suf : List ExceptionTableEntry) (hsplit : c.exceptionTable.toList = pre ++ x :: suf)
    (hpass : ∀ z ∈ pre, covers z pc = false ∨ (z.catchType ≠ 0 ∧ ∃ nm : String, (Cond.classLink own z.catchType nm).before args s = true ∧ va_Nc E nm s)) (hx : covers x pc = true) (h0 : x.catchType ≠ 0)
    (hlink : (Cond.classLink own x.catchType name).before args s = true) (hcast : (Cond.castable E name).before args s = true) (hcell : H[q]? = some ce) (hv : ce.vm = .none) (hcl : s.vm.findClass E = some ce.cls)
    (kk : W p l e R s m args below meth c H locs cells slots Q (F0 m x.handlerPc ls [.ref q])) : vx_W p l e R s m args below meth c H locs cells slots Q (F0 m pc ls rest) q := by
  intro T hT X
  have hpl : e.platform.magicAccessors = ({} : Platform).magicAccessors := by rw [X.admits.platform]
  obtain ⟨c3, c4, hc3, hc4, hasg⟩ := Cond.castable_spec hcast
  cases Option.some.inj (hc3.symm.trans hcl)
  obtain ⟨c5, hc5, hcl5⟩ := Cond.classLink_spec hown hlink e.platform hpl
  cases Option.some.inj (hc4.symm.trans hc5)
  obtain ⟨vm', X', st⟩ := X.thenCaughtThrough q (g := F0 m pc ls rest) rfl (Steps.refl _) (by rw [hT]; exact hcell) (by rw [hv]; rfl) (by obtain ⟨k9, h9, -⟩ := Vm.findClass_spec hcl; exact ⟨k9, h9⟩) pre x suf hsplit
    (fun z hz => by
      rcases hpass z hz with h | ⟨hz0, nm, hl1, hn1⟩
      · exact Or.inl h
      · obtain ⟨c6, hc6, hcl6⟩ := Cond.classLink_spec hown hl1 e.platform hpl
        obtain ⟨a8, b8, h1, h2, h3⟩ := hn1
        cases Option.some.inj (h1.symm.trans hcl)
        cases Option.some.inj (h2.symm.trans hc6)
        exact Or.inr ⟨hz0, _, hcl6, h3⟩) hx (Or.inr ⟨h0, c4, hcl5, hasg⟩)
  obtain ⟨t, a1, b1⟩ := kk (T.setVm vm') hT X'
  exact ⟨t, st.trans a1, b1⟩
end Rows
section Ends
variable {p : Program} {l : Launch} {e : Env} {R : Room} {s : State} {m : MethodId} {args : Array Value} {below : List Frame} {meth : Method} {c : Code} {H : Heap} {locs : List Loc} {cells slots : Nat} {Q : State → Prop}
variable {mc ms : Nat} {free : Addr → Prop} {A0 A1 : Nat → Prop} {H0 : Heap} {a : Array Value} {ls : Array Slot} {st0 rest : List Value}
variable {Qc : Array Value → State → Outcome → State → Prop} {XC : String → State → State → Prop}
/-- what a body that may throw owes at its end -/
def vx_MQ (below : List Frame) (Qc : Array Value → State → Outcome → State → Prop) (XC : String → State → State → Prop) (a : Array Value) (s : State) (mc ms : Nat) (free : Addr → Prop) : State → Prop := fun t =>
  ∃ o, t.status = .running ∧ Ended t below o ∧ vx_Q Qc XC mc ms free a s o t
theorem vx_ret {g : JFrame} {mc ms : Nat} (k : W p l e R s m args below meth c H locs cells slots (MQ below Qc args s mc ms free) g) : W p l e R s m args below meth c H locs cells slots (vx_MQ below Qc XC args s mc ms free) g := by
  intro T hT X
  obtain ⟨t, a1, o, b1, b2, b3, b4⟩ := k T hT X
  exact ⟨t, a1, o, b1, b2, Or.inl ⟨b3, b4⟩⟩
/-- not caught here: it goes on to the caller -/
theorem vx_widen {g : JFrame} {q : Addr} {k n : Nat} (h1 : cells ≤ k) (h2 : slots ≤ n) (kk : vx_W p l e R s m args below meth c H locs k n Q g q) : vx_W p l e R s m args below meth c H locs cells slots Q g q := fun T hT X => kk T hT (stand_widen X h1 h2)
theorem vx_out {pc : Nat} {E : String} {ce : Cell} {q : Addr} {mc ms : Nat} (hout : ∀ x ∈ c.exceptionTable.toList, covers x pc = false) (hlocks : meth.locks = false) (hcell : H[q]? = some ce) (hv : ce.vm = .none) (hcl : s.vm.findClass E = some ce.cls)
    (hx : ∀ t : State, t.heap = H → s.vm.Alike t.vm → XC E s t) (hf : ∀ z ∈ locs, free z.base) (hc : cells ≤ mc) (hs : slots ≤ ms) :
    vx_W p l e R s m args below meth c H locs cells slots (vx_MQ below Qc XC args s mc ms free) (F0 m pc ls rest) q := by
  intro T hT X
  obtain ⟨st1, hrun, hend, hW, hsm⟩ := X.leaveThrown q (g := F0 m pc ls rest) rfl rfl rfl hout hlocks
  have hcell9 : (T.setFrames (.throwing q :: below)).heap[q]? = some ce := by
    show T.heap[q]? = some ce
    rw [hT]; exact hcell
  exact ⟨_, st1, .threw q, hrun, hend, Or.inr ⟨q, rfl, E, ce, locs, hx _ hT hW.alike, hcell9, hv, hcl, hW, hsm.mono hc hs, hf⟩⟩
theorem vx_frame {U : State} {k n : Nat} (h : s.sameButNew ({ U with vm := s.vm } : State) locs k n) : s.heap.size ≤ U.heap.size ∧ ∀ q : Nat, q < s.heap.size → (∀ z ∈ locs, z.base ≠ q) → U.heap[q]? = s.heap[q]? := by
  obtain ⟨-, h2, -, -, -, h6⟩ := h
  refine ⟨h2, fun q hq hz => ?_⟩
  obtain ⟨c9, e1, e2, e3, e4⟩ := h6 q _ (Array.getElem?_eq_getElem hq)
  have hs : c9.slots = (s.heap[q]).slots := Array.ext_getElem? fun i => e4 i fun hm => hz _ hm rfl
  have h9 : c9 = s.heap[q] := by
    rw [hs] at e2
    exact e2
  have e5 : U.heap[q]? = some c9 := e1
  rw [e5, h9, Array.getElem?_eq_getElem hq]
/-- the words of a throw but the four that speak of the heap -/
def vx_no (w : Cond) : Bool := decide (w ≠ .isRef (.static Bundle.tN "UNASSIGNED_STACK" Bundle.steD)) && decide (w ≠ .isRef (.static Bundle.tN "SUPPRESSED_SENTINEL" Bundle.listD)) && decide (w ≠ .laysStatic Bundle.tN "UNASSIGNED_STACK" Bundle.steD) && decide (w ≠ .laysStatic Bundle.tN "SUPPRESSED_SENTINEL" Bundle.listD)
def vx_at0 (own : String) (ic : Nat) (X : String) (names : List String) : List Cond := (Bundle.ownAtoms0 own ic X names).filter vx_no
def vx_atS (own : String) (ic : Nat) (X : String) (names : List String) : List Cond := (Bundle.ownAtoms own ic X names).filter vx_no
/-- a word that the tables alone decide, or a good one -/
def vx_ot (w : Cond) : Bool := w.onTables || goodWord w
theorem vx_ot_at {args a' : Array Value} {s U : State} {w : Cond} (hW : s.WarmedH U.vm) (hvm : s.vm = U.vm) (hg : vx_ot w = true) (h : w.before args s = true) : w.before a' U = true := by
  simp only [vx_ot, Bool.or_eq_true] at hg
  rcases hg with hg | hg
  · exact va_tabs hg hvm h
  · exact word_at hW (good_of_word hg) h
/-- a list's words: the good ones out of the method's own list, the others by premises of their own -/
theorem vx_hat {args : Array Value} {s : State} {L B : List Cond} (h1 : ∀ w ∈ L.filter goodWord, w.before args s = true) (h2 : ∀ w ∈ L.filter (fun w => !goodWord w), w ∈ B) (h3 : ∀ w ∈ B, w.before args s = true) : ∀ w ∈ L, w.before args s = true := by
  intro w hw
  by_cases g : goodWord w = true
  · exact h1 w (List.mem_filter.mpr ⟨hw, g⟩)
  · refine h3 w (h2 w (List.mem_filter.mpr ⟨hw, ?_⟩))
    show (!goodWord w) = true
    cases hgw : goodWord w
    · rfl
    · exact absurd hgw g
theorem vx_c {args : Array Value} {s : State} {w : Cond} {B : List Cond} (h : w.before args s = true) (t : ∀ w ∈ B, w.before args s = true) : ∀ w' ∈ w :: B, w'.before args s = true := fun w' h' => (List.mem_cons.mp h').elim (fun e => by rw [e]; exact h) (t w')
theorem vx_n {args : Array Value} {s : State} : ∀ w ∈ ([] : List Cond), w.before args s = true := fun _ h => nomatch h
theorem vx_own {args : Array Value} {s : State} {L : List Cond} (h1 : ∀ w ∈ L.filter vx_no, w.before args s = true)
    (hU : (Cond.isRef (.static Bundle.tN "UNASSIGNED_STACK" Bundle.steD)).before args s = true) (hN : (Cond.isRef (.static Bundle.tN "SUPPRESSED_SENTINEL" Bundle.listD)).before args s = true)
    (lU : (Cond.laysStatic Bundle.tN "UNASSIGNED_STACK" Bundle.steD).before args s = true) (lN : (Cond.laysStatic Bundle.tN "SUPPRESSED_SENTINEL" Bundle.listD).before args s = true) : ∀ w ∈ L, w.before args s = true := by
  intro w hw
  by_cases e1 : w = .isRef (.static Bundle.tN "UNASSIGNED_STACK" Bundle.steD)
  · rw [e1]; exact hU
  · by_cases e2 : w = .isRef (.static Bundle.tN "SUPPRESSED_SENTINEL" Bundle.listD)
    · rw [e2]; exact hN
    · by_cases e3 : w = .laysStatic Bundle.tN "UNASSIGNED_STACK" Bundle.steD
      · rw [e3]; exact lU
      · by_cases e4 : w = .laysStatic Bundle.tN "SUPPRESSED_SENTINEL" Bundle.listD
        · rw [e4]; exact lN
        · exact h1 w (List.mem_filter.mpr ⟨hw, by unfold vx_no; rw [decide_eq_true e1, decide_eq_true e2, decide_eq_true e3, decide_eq_true e4]; rfl⟩)
/-- where a static field lies, its class's statics cell in H -/
def vx_L (C n d : String) (A : Nat → Prop) (U : State) (H : Heap) : Prop := ∃ (c : ClassId) (k : Class) (i : Nat) (f : Field) (a : Nat) (cell : Cell), U.vm.findClass C = some c ∧ U.fieldFound? C n d = some (c, k, i, f) ∧ f.isStatic = true ∧ k.statics = some a ∧ H[a]? = some cell ∧ cell.vm.isStatics = true ∧ cell.cls = c ∧ f.slot < cell.slots.size ∧ k.staticTypes[f.slot]? = some f.type ∧ ¬ A a
theorem vx_L.moved {C n d : String} {A : Nat → Prop} {u U : State} {H : Heap} (hvm : u.vm.Alike U.vm) (h : vx_L C n d A u H) : vx_L C n d A U H := by
  obtain ⟨c, k, i, f, a, cell, h1, h2, h3, h4, h5, h6, h7, h8, h9, h10⟩ := h
  obtain ⟨k', hi', he⟩ := State.fieldFound?_setVm hvm h2
  exact ⟨c, k', i, f, a, cell, by rw [hvm.findClass]; exact h1, hi', h3, by rw [he]; exact h4, h5, h6, h7, h8, by rw [he]; exact h9, h10⟩
theorem vx_L.kept {C n d : String} {A : Nat → Prop} {U : State} {H H1 : Heap} (h : vx_L C n d A U H) (hq : ∀ a : Nat, a < H.size → ¬ A a → H1[a]? = H[a]?) : vx_L C n d A U H1 := by
  obtain ⟨c, k, i, f, a, cell, h1, h2, h3, h4, h5, h6, h7, h8, h9, h10⟩ := h
  exact ⟨c, k, i, f, a, cell, h1, h2, h3, h4, by rw [hq a (Array.getElem?_eq_some_iff.mp h5).1 h10]; exact h5, h6, h7, h8, h9, h10⟩
theorem vx_L.narrow {C n d : String} {A B : Nat → Prop} {U : State} {H : Heap} (h : vx_L C n d A U H) (hAB : ∀ q, B q → A q) : vx_L C n d B U H := by
  obtain ⟨c, k, i, f, a, cell, h1, h2, h3, h4, h5, h6, h7, h8, h9, h10⟩ := h
  exact ⟨c, k, i, f, a, cell, h1, h2, h3, h4, h5, h6, h7, h8, h9, fun z => h10 (hAB _ z)⟩
theorem vx_L.word {C n d : String} {A : Nat → Prop} {s : State} {args : Array Value} (h : vx_L C n d A s s.heap) : (Cond.laysStatic C n d).before args s = true := by
  obtain ⟨c, k, i, f, a, cell, h1, h2, h3, h4, h5, h6, h7, h8, h9, -⟩ := h
  show (Cond.laysStatic C n d).holds args s none s [] = true
  exact Cond.laysStatic_of h1 h2 h3 h4 h5 h6 h7 h8 h9
/-- .. and what it holds: null or some reference -/
def vx_Zq (C n d : String) (A : Nat → Prop) (U : State) (H : Heap) : Prop := va_Zq C n d A U H ∧ vx_L C n d A U H
theorem vx_Zq.moved {C n d : String} {A : Nat → Prop} {u U : State} {H : Heap} (hvm : u.vm.Alike U.vm) (h : vx_Zq C n d A u H) : vx_Zq C n d A U H := ⟨va_Zq.moved hvm h.1, vx_L.moved hvm h.2⟩
theorem vx_Zq.kept {C n d : String} {A : Nat → Prop} {U : State} {H H1 : Heap} (h : vx_Zq C n d A U H) (hq : ∀ a : Nat, a < H.size → ¬ A a → H1[a]? = H[a]?) : vx_Zq C n d A U H1 := ⟨va_Zq.kept h.1 hq, vx_L.kept h.2 hq⟩
theorem vx_Zq.narrow {C n d : String} {A B : Nat → Prop} {U : State} {H : Heap} (h : vx_Zq C n d A U H) (hAB : ∀ q, B q → A q) : vx_Zq C n d B U H := ⟨va_Zq.narrow h.1 hAB, vx_L.narrow h.2 hAB⟩
theorem vx_Zqof {args : Array Value} {s : State} {C n d : String} {A : Nat → Prop} (hl : (Cond.laysStatic C n d).before args s = true) (hini : (Cond.initialized C).before args s = true) (h : (Cond.isRef (.static C n d)).before args s = true) (hA : ∀ a : Nat, a < s.heap.size → ¬ A a) : vx_Zq C n d A s s.heap := by
  refine ⟨va_Zqof hl hini h hA, ?_⟩
  obtain ⟨c, k, i, f, a, cell, h1, h2, h3, h4, h5, h6, h7, h8, h9⟩ := Cond.laysStatic_spec hl
  exact ⟨c, k, i, f, a, cell, h1, h2, h3, h4, h5, h6, h7, h8, h9, hA a (Array.getElem?_eq_some_iff.mp h5).1⟩
theorem vx_isRef {C n d : String} {v : Value} {A : Nat → Prop} {s : State} {args : Array Value} (h : va_Z C n d v A s s.heap) (hv : v.isRef = true) : (Cond.isRef (.static C n d)).before args s = true := by
  obtain ⟨cf, kf, fi, f, a, cell, h1, h2, h3, h4, h5, h6, h7, -⟩ := h
  have he : (Term.static C n d).eval args s none [] s = some v := by
    simp [Term.eval, State.fieldNamed?, h1, h2, h4, h5, h6, h7]
  simp only [Cond.before, Cond.holds, Cond.value, he]
  cases v <;> simp_all [Value.isRef]
theorem vx_isRefq {C n d : String} {A : Nat → Prop} {s : State} {args : Array Value} (h : va_Zq C n d A s s.heap) : (Cond.isRef (.static C n d)).before args s = true := by
  rcases h with h | ⟨t, h⟩
  · exact vx_isRef h rfl
  · exact vx_isRef h rfl
/-- the same frame, seen from here: as if the method were called anew in this heap -/
theorem vx_rebase {T : State} (X : Stand p l e R s m args below meth c T locs cells slots) {R' : Room} (hf : R'.frames ≤ R.frames) (hl : R'.locals ≤ R.locals) (hc : cells + R'.cells ≤ R.cells) (hs : slots + R'.slots ≤ R.slots) :
    Stand p l e R' ((T.setVm s.vm).setFrames (.invoking m args :: below)) m args below meth c T [] 0 0 := by
  have htop : (T.setVm s.vm).topJava?.isSome := X.here.top
  have hF : ((T.setVm s.vm).setFrames (.invoking m args :: below)).frames = .invoking m args :: below := State.frames_setFrames _ (State.cur_lt_of_top htop)
  obtain ⟨g₀, hg0⟩ := Option.isSome_iff_exists.mp htop
  obtain ⟨r, hr⟩ := State.topJava?_eq_some.mp hg0
  have hl9 : e.platform.stackLimits (T.setVm s.vm).me = e.platform.stackLimits s.me := X.limits
  have hb9 : (T.setVm s.vm).me.stackBytes = s.me.stackBytes := X.bytes
  refine ⟨X.admits, X.cas, X.clock, hF, ?_, X.hears, X.method, X.code, X.here, X.tail, X.warmed, ?_, ?_, ?_⟩
  · have h := X.room
    have hU : ((T.setVm s.vm).setFrames (.invoking m args :: below)).localsInUse = s.localsInUse := by
      rw [State.localsInUse_invoking hF (meth := meth) (c := c) X.method X.code, State.localsInUse_invoking X.frames X.method X.code]
    simp only [State.hasRoom, Bool.and_eq_true, decide_eq_true_eq] at h ⊢
    obtain ⟨⟨⟨⟨h1, h2, h3, h4, h5, h6⟩, h7⟩, h8⟩, h9⟩ := h
    rw [X.frames, List.length_cons] at h2 h3
    have q1 := X.heapSize
    have q2 := X.used
    simp only [hF, hU, List.length_cons, State.stackLimits_setFrames, State.stackBytes_setFrames, hl9, hb9]
    refine ⟨⟨⟨⟨by omega, by omega, by omega, by omega, by omega, h6⟩, ?_⟩, ?_⟩, X.book⟩
    · show T.heap.size + R'.cells ≤ e.platform.maxCells
      omega
    · show T.slotsUsed + R'.slots ≤ e.platform.maxSlots
      omega
  · rw [State.stackLimits_setFrames]; rfl
  · rw [State.stackBytes_setFrames]; rfl
  · refine ⟨?_, Nat.le_refl _, Nat.le_refl _, ?_, ?_, fun a c9 h9 => ⟨c9, h9, rfl, rfl, fun _ _ => rfl⟩⟩
    · obtain ⟨t, ht, -⟩ := State.frames_cons hr
      show T.setVm s.vm = { ((T.setVm s.vm).setFrames (.invoking m args :: below)).setFrames (T.setVm s.vm).frames with heap := T.heap, slotsUsed := T.slotsUsed }
      rw [State.setFrames_setFrames, State.setFrames_self ht]
      rfl
    · show T.slotsUsed = T.slotsUsed + ((T.heap.toList.drop T.heap.size).map (·.slots.size)).sum
      rw [List.drop_eq_nil_of_le (Nat.le_of_eq Array.length_toList)]
      rfl
    · show ((T.heap.toList.drop T.heap.size).map (·.slots.size)).sum ≤ 0
      rw [List.drop_eq_nil_of_le (Nat.le_of_eq Array.length_toList)]
      exact Nat.le_refl _
/-- 'throw new E()': new; dup; invokespecial; athrow -/
theorem vx_throw0 {cc : ByteArray} {pc : Nat} (hexec : p.tables.exec = Jvm.exec) (hb : c.code = cc) (hl : l.stackTraces = false) {own cls : String} {names : List String} {ik ic mc ms : Nat} {A : Nat → Prop}
    (hown : s.vm.findClass own = some m.cls) (hcls : Bundle.fit cls = true) (hnames : ∀ n ∈ names, Bundle.fit n = true)
    (hk : (Cond.classLink own ik cls).before args s = true) (hini : (Cond.initialized cls).before args s = true) (hat : ∀ w ∈ vx_at0 own ic cls names, w.before args s = true)
    (hgood : ∀ w ∈ Cond.classLink own ik cls :: Cond.initialized cls :: vx_at0 own ic cls names, vx_ot w = true)
    (hU : vx_Zq Bundle.tN "UNASSIGNED_STACK" Bundle.steD A s s.heap) (hN : vx_Zq Bundle.tN "SUPPRESSED_SENTINEL" Bundle.listD A s s.heap) (hS : va_S A s.heap H locs) (hsize : ls.size = c.maxLocals)
    (d0 : decode cc pc = .ok (.new ik, 3)) (d3 : decode cc (pc + 3) = .ok (.dup, 1)) (d4 : decode cc (pc + 4) = .ok (.invokespecial ic, 3)) (d7 : decode cc (pc + 7) = .ok (.athrow, 1))
    (hout : ∀ x ∈ c.exceptionTable.toList, covers x (pc + 7) = false)
    (hRframes : names.length + 3 < R.frames) (hRlocals : (rest.map fun v => v.category).sum + (13 * (names.length + 1) + 42) ≤ R.locals) (hRcells : cells + 1 ≤ R.cells) (hRslots : slots + 6 ≤ R.slots) (hlocks : meth.locks = false)
    (hx : ∀ t : State, s.vm.Alike t.vm → H.size ≤ t.heap.size → (∀ q : Nat, q < H.size → t.heap[q]? = H[q]?) → XC cls s t)
    (hf : ∀ z ∈ locs, free z.base) (hc : cells + 1 ≤ mc) (hs : slots + 6 ≤ ms) :
    W p l e R s m args below meth c H locs cells slots (vx_MQ below Qc XC args s mc ms free) (F0 m pc ls rest) := by
  intro T hT X
  have htr : e.platform.stackTraces = false := (show e.platform.stackTraces = l.stackTraces by rw [X.admits.platform]).trans hl
  have Y := vx_rebase X (R' := { frames := R.frames, locals := R.locals, cells := 1, slots := 6 }) (Nat.le_refl _) (Nat.le_refl _) hRcells hRslots
  obtain ⟨s', hA⟩ : ∃ z, z = (T.setVm s.vm).setFrames (.invoking m args :: below) := ⟨_, rfl⟩
  rw [← hA] at Y
  have hvm : s'.vm = s.vm := by rw [hA]; rfl
  have hhp : s'.heap = H := by rw [hA]; exact hT
  have hW0 : s.WarmedH s'.vm := by rw [hvm]; exact State.WarmedH.refl s
  have hat' : ∀ w ∈ vx_at0 own ic cls names, w.before args s' = true := fun w hw => vx_ot_at hW0 hvm.symm (hgood w (List.mem_cons_of_mem _ (List.mem_cons_of_mem _ hw))) (hat w hw)
  have hk' : (Cond.classLink own ik cls).before args s' = true := vx_ot_at hW0 hvm.symm (hgood _ List.mem_cons_self) hk
  have hini' : (Cond.initialized cls).before args s' = true := vx_ot_at hW0 hvm.symm (hgood _ (List.mem_cons_of_mem _ List.mem_cons_self)) hini
  have hU' : vx_Zq Bundle.tN "UNASSIGNED_STACK" Bundle.steD A s' s'.heap := by rw [hhp]; exact vx_Zq.moved hW0.alike (hU.kept hS.2.1)
  have hN' : vx_Zq Bundle.tN "SUPPRESSED_SENTINEL" Bundle.listD A s' s'.heap := by rw [hhp]; exact vx_Zq.moved hW0.alike (hN.kept hS.2.1)
  have h : ∀ w ∈ Bundle.ownAtoms0 own ic cls names, w.before args s' = true := vx_own hat' (vx_isRefq hU'.1) (vx_isRefq hN'.1) hU'.2.word hN'.2.word
  have hown' : s'.vm.findClass own = some m.cls := by rw [hvm]; exact hown
  have hins : (Cond.instantiable cls 6).before args s' = true := h _ (by simp [Bundle.ownAtoms0])
  obtain ⟨vm₁, cX, kX, hfX, hkX, -, -, X₁, st1⟩ := Y.newCold hexec (own := own) (C := cls) (index := ik) (n := 6) hown' hk' hins hini'
    (g := F0 m pc ls rest) rfl (by rw [hb]; exact d0) (Nat.le_refl _) (Nat.le_refl _)
  generalize hT1 : (T.setVm vm₁).pushCell { cls := cX, slots := kX.instanceTypes.map defaultValue, vm := .none } = T1 at X₁ st1
  have hcat : (Value.ref T.heap.size).category = 1 := rfl
  have hcellA : T1.heap[T.heap.size]? = some (freshCell cX kX) := by rw [← hT1]; exact State.heap_pushCell_size _ _
  have d3' : decode c.code (pc + 3) = .ok (.dup, 1) := by rw [hb]; exact d3
  obtain ⟨U, hsteps, hrun, hend, hW, hsame, ce, hce, hO⟩ := X₁.ctorThrow0 hexec htr (own := own) (cls := cls) (names := names) (ic := ic) hown' hcls hnames h (fun x hx => nomatch hx) hfX hkX hcellA (by rw [hhp, hT]; exact Nat.le_refl _)
    (g := { method := m, pc := pc + 4, locals := ls, stack := .ref T.heap.size :: .ref T.heap.size :: rest, locked := none }) rfl hsize rfl rfl (rest := rest) rfl
    (by rw [hb]; exact d4) (by rw [hb]; exact d7) hout hRframes (by simp only [List.map_cons, List.sum_cons, hcat]; omega) hlocks
  obtain ⟨f1, f2⟩ := vx_frame hsame
  rw [hhp] at f1 f2
  have hWs : s.WarmedH U.vm := State.WarmedH.trans hW0 hW
  have hcl : s.vm.findClass cls = some ce.cls := by
    have h9 := hO.cls
    rw [hvm] at h9
    exact h9
  have hall : s.sameButNew ({ U with vm := s.vm } : State) locs mc ms := by
    subst hA
    obtain ⟨e1, e2⟩ := hsame
    rw [State.setFrames_setFrames] at e1
    have h2 : (T.setVm s.vm).sameButNew ({ U with vm := s.vm } : State) [] (0 + 1) (0 + 6) := ⟨e1, e2⟩
    have h3 := X.same.trans h2
    rw [List.append_nil] at h3
    exact h3.mono hc hs
  refine ⟨U, ?_, .threw T.heap.size, hrun, hend, Or.inr ⟨T.heap.size, rfl, cls, ce, locs, hx U hWs.alike f1 (fun q hq => f2 q hq (fun z hz => nomatch hz)), hce, hO.vm, hcl, hWs, hall, hf⟩⟩
  refine st1 _ ?_
  show Steps p.tables e below (T1.setTop { method := m, pc := pc + 3, locals := ls, stack := .ref T.heap.size :: rest, locked := none }) _
  jvm_step X₁.here [X₁.here.top, hexec, d3', Value.category]
  exact hsteps
/-- 'throw new E("text")': new; dup; ldc; invokespecial; athrow -/
theorem vx_throwS {cc : ByteArray} {pc : Nat} (hexec : p.tables.exec = Jvm.exec) (hb : c.code = cc) (hl : l.stackTraces = false) {own cls text : String} {names : List String} {ik is ic mc ms sa : Nat} {A : Nat → Prop}
    (hown : s.vm.findClass own = some m.cls) (hcls : Bundle.fit cls = true) (hnames : ∀ n ∈ names, Bundle.fit n = true)
    (hk : (Cond.classLink own ik cls).before args s = true) (hini : (Cond.initialized cls).before args s = true) (hstr : vk_R own is text sa s) (hat : ∀ w ∈ vx_atS own ic cls names, w.before args s = true)
    (hgood : ∀ w ∈ Cond.classLink own ik cls :: Cond.initialized cls :: vx_atS own ic cls names, vx_ot w = true)
    (hU : vx_Zq Bundle.tN "UNASSIGNED_STACK" Bundle.steD A s s.heap) (hN : vx_Zq Bundle.tN "SUPPRESSED_SENTINEL" Bundle.listD A s s.heap) (hS : va_S A s.heap H locs) (hsize : ls.size = c.maxLocals)
    (d0 : decode cc pc = .ok (.new ik, 3)) (d3 : decode cc (pc + 3) = .ok (.dup, 1)) (d4 : decode cc (pc + 4) = .ok (.ldc is, 2)) (d6 : decode cc (pc + 6) = .ok (.invokespecial ic, 3)) (d9 : decode cc (pc + 9) = .ok (.athrow, 1))
    (hout : ∀ x ∈ c.exceptionTable.toList, covers x (pc + 9) = false)
    (hRframes : names.length + 3 < R.frames) (hRlocals : (rest.map fun v => v.category).sum + (13 * (names.length + 1) + 43) ≤ R.locals) (hRcells : cells + 1 ≤ R.cells) (hRslots : slots + 6 ≤ R.slots) (hlocks : meth.locks = false)
    (hx : ∀ t : State, s.vm.Alike t.vm → H.size ≤ t.heap.size → (∀ q : Nat, q < H.size → t.heap[q]? = H[q]?) → XC cls s t)
    (hf : ∀ z ∈ locs, free z.base) (hc : cells + 1 ≤ mc) (hs : slots + 6 ≤ ms) :
    W p l e R s m args below meth c H locs cells slots (vx_MQ below Qc XC args s mc ms free) (F0 m pc ls rest) := by
  intro T hT X
  have htr : e.platform.stackTraces = false := (show e.platform.stackTraces = l.stackTraces by rw [X.admits.platform]).trans hl
  have Y := vx_rebase X (R' := { frames := R.frames, locals := R.locals, cells := 1, slots := 6 }) (Nat.le_refl _) (Nat.le_refl _) hRcells hRslots
  obtain ⟨s', hA⟩ : ∃ z, z = (T.setVm s.vm).setFrames (.invoking m args :: below) := ⟨_, rfl⟩
  rw [← hA] at Y
  have hvm : s'.vm = s.vm := by rw [hA]; rfl
  have hhp : s'.heap = H := by rw [hA]; exact hT
  have hW0 : s.WarmedH s'.vm := by rw [hvm]; exact State.WarmedH.refl s
  have hat' : ∀ w ∈ vx_atS own ic cls names, w.before args s' = true := fun w hw => vx_ot_at hW0 hvm.symm (hgood w (List.mem_cons_of_mem _ (List.mem_cons_of_mem _ hw))) (hat w hw)
  have hk' : (Cond.classLink own ik cls).before args s' = true := vx_ot_at hW0 hvm.symm (hgood _ List.mem_cons_self) hk
  have hini' : (Cond.initialized cls).before args s' = true := vx_ot_at hW0 hvm.symm (hgood _ (List.mem_cons_of_mem _ List.mem_cons_self)) hini
  have hU' : vx_Zq Bundle.tN "UNASSIGNED_STACK" Bundle.steD A s' s'.heap := by rw [hhp]; exact vx_Zq.moved hW0.alike (hU.kept hS.2.1)
  have hN' : vx_Zq Bundle.tN "SUPPRESSED_SENTINEL" Bundle.listD A s' s'.heap := by rw [hhp]; exact vx_Zq.moved hW0.alike (hN.kept hS.2.1)
  have h : ∀ w ∈ Bundle.ownAtoms own ic cls names, w.before args s' = true := vx_own hat' (vx_isRefq hU'.1) (vx_isRefq hN'.1) hU'.2.word hN'.2.word
  have hown' : s'.vm.findClass own = some m.cls := by rw [hvm]; exact hown
  have hins : (Cond.instantiable cls 6).before args s' = true := h _ (by simp [Bundle.ownAtoms])
  obtain ⟨vm₁, cX, kX, hfX, hkX, -, -, X₁, st1⟩ := Y.newCold hexec (own := own) (C := cls) (index := ik) (n := 6) hown' hk' hins hini'
    (g := F0 m pc ls rest) rfl (by rw [hb]; exact d0) (Nat.le_refl _) (Nat.le_refl _)
  generalize hT1 : (T.setVm vm₁).pushCell { cls := cX, slots := kX.instanceTypes.map defaultValue, vm := .none } = T1 at X₁ st1
  have hcat : (Value.ref T.heap.size).category = 1 := rfl
  have hcellA : T1.heap[T.heap.size]? = some (freshCell cX kX) := by rw [← hT1]; exact State.heap_pushCell_size _ _
  have d3' : decode c.code (pc + 3) = .ok (.dup, 1) := by rw [hb]; exact d3
  have d4' : decode c.code (pc + 4) = .ok (.ldc is, 2) := by rw [hb]; exact d4
  have hstr' : vk_R own is text sa s' := vk_R.warm hW0 hstr
  obtain ⟨U, hsteps, hrun, hend, hW, hsame, ce, hce, hO⟩ := X₁.ctorThrowS hexec htr (own := own) (cls := cls) (names := names) (ic := ic) hown' hcls hnames h (fun x hx => nomatch hx) hfX hkX hcellA (by rw [hhp, hT]; exact Nat.le_refl _) (msg := .ref sa) rfl
    (g := { method := m, pc := pc + 6, locals := ls, stack := .ref sa :: .ref T.heap.size :: .ref T.heap.size :: rest, locked := none }) rfl hsize rfl rfl (rest := rest) rfl
    (by rw [hb]; exact d6) (by rw [hb]; exact d9) hout hRframes (by simp only [List.map_cons, List.sum_cons, hcat]; omega) hlocks
  obtain ⟨f1, f2⟩ := vx_frame hsame
  rw [hhp] at f1 f2
  have hWs : s.WarmedH U.vm := State.WarmedH.trans hW0 hW
  have hcl : s.vm.findClass cls = some ce.cls := by
    have h9 := hO.cls
    rw [hvm] at h9
    exact h9
  have hall : s.sameButNew ({ U with vm := s.vm } : State) locs mc ms := by
    subst hA
    obtain ⟨e1, e2⟩ := hsame
    rw [State.setFrames_setFrames] at e1
    have h2 : (T.setVm s.vm).sameButNew ({ U with vm := s.vm } : State) [] (0 + 1) (0 + 6) := ⟨e1, e2⟩
    have h3 := X.same.trans h2
    rw [List.append_nil] at h3
    exact h3.mono hc hs
  refine ⟨U, ?_, .threw T.heap.size, hrun, hend, Or.inr ⟨T.heap.size, rfl, cls, ce, locs, hx U hWs.alike f1 (fun q hq => f2 q hq (fun z hz => nomatch hz)), hce, hO.vm, hcl, hWs, hall, hf⟩⟩
  refine st1 _ ?_
  show Steps p.tables e below (T1.setTop { method := m, pc := pc + 3, locals := ls, stack := .ref T.heap.size :: rest, locked := none }) _
  jvm_step X₁.here [X₁.here.top, hexec, d3', Value.category]
  exact X₁.ldcString hexec (own := own) (text := text) (index := is) (a := sa) hown' hstr'.1 hstr'.2
    (g := { method := m, pc := pc + 4, locals := ls, stack := .ref T.heap.size :: .ref T.heap.size :: rest, locked := none }) rfl d4' _ hsteps
/-- 'throw new E("text")', the text by a wide index -/
theorem vx_throwSW {cc : ByteArray} {pc : Nat} (hexec : p.tables.exec = Jvm.exec) (hb : c.code = cc) (hl : l.stackTraces = false) {own cls text : String} {names : List String} {ik is ic mc ms sa : Nat} {A : Nat → Prop}
    (hown : s.vm.findClass own = some m.cls) (hcls : Bundle.fit cls = true) (hnames : ∀ n ∈ names, Bundle.fit n = true)
    (hk : (Cond.classLink own ik cls).before args s = true) (hini : (Cond.initialized cls).before args s = true) (hstr : vk_R own is text sa s) (hat : ∀ w ∈ vx_atS own ic cls names, w.before args s = true)
    (hgood : ∀ w ∈ Cond.classLink own ik cls :: Cond.initialized cls :: vx_atS own ic cls names, vx_ot w = true)
    (hU : vx_Zq Bundle.tN "UNASSIGNED_STACK" Bundle.steD A s s.heap) (hN : vx_Zq Bundle.tN "SUPPRESSED_SENTINEL" Bundle.listD A s s.heap) (hS : va_S A s.heap H locs) (hsize : ls.size = c.maxLocals)
    (d0 : decode cc pc = .ok (.new ik, 3)) (d3 : decode cc (pc + 3) = .ok (.dup, 1)) (d4 : decode cc (pc + 4) = .ok (.ldc_w is, 3)) (d7 : decode cc (pc + 7) = .ok (.invokespecial ic, 3)) (d10 : decode cc (pc + 10) = .ok (.athrow, 1))
    (hout : ∀ x ∈ c.exceptionTable.toList, covers x (pc + 10) = false)
    (hRframes : names.length + 3 < R.frames) (hRlocals : (rest.map fun v => v.category).sum + (13 * (names.length + 1) + 43) ≤ R.locals) (hRcells : cells + 1 ≤ R.cells) (hRslots : slots + 6 ≤ R.slots) (hlocks : meth.locks = false)
    (hx : ∀ t : State, s.vm.Alike t.vm → H.size ≤ t.heap.size → (∀ q : Nat, q < H.size → t.heap[q]? = H[q]?) → XC cls s t)
    (hf : ∀ z ∈ locs, free z.base) (hc : cells + 1 ≤ mc) (hs : slots + 6 ≤ ms) :
    W p l e R s m args below meth c H locs cells slots (vx_MQ below Qc XC args s mc ms free) (F0 m pc ls rest) := by
  intro T hT X
  have htr : e.platform.stackTraces = false := (show e.platform.stackTraces = l.stackTraces by rw [X.admits.platform]).trans hl
  have Y := vx_rebase X (R' := { frames := R.frames, locals := R.locals, cells := 1, slots := 6 }) (Nat.le_refl _) (Nat.le_refl _) hRcells hRslots
  obtain ⟨s', hA⟩ : ∃ z, z = (T.setVm s.vm).setFrames (.invoking m args :: below) := ⟨_, rfl⟩
  rw [← hA] at Y
  have hvm : s'.vm = s.vm := by rw [hA]; rfl
  have hhp : s'.heap = H := by rw [hA]; exact hT
  have hW0 : s.WarmedH s'.vm := by rw [hvm]; exact State.WarmedH.refl s
  have hat' : ∀ w ∈ vx_atS own ic cls names, w.before args s' = true := fun w hw => vx_ot_at hW0 hvm.symm (hgood w (List.mem_cons_of_mem _ (List.mem_cons_of_mem _ hw))) (hat w hw)
  have hk' : (Cond.classLink own ik cls).before args s' = true := vx_ot_at hW0 hvm.symm (hgood _ List.mem_cons_self) hk
  have hini' : (Cond.initialized cls).before args s' = true := vx_ot_at hW0 hvm.symm (hgood _ (List.mem_cons_of_mem _ List.mem_cons_self)) hini
  have hU' : vx_Zq Bundle.tN "UNASSIGNED_STACK" Bundle.steD A s' s'.heap := by rw [hhp]; exact vx_Zq.moved hW0.alike (hU.kept hS.2.1)
  have hN' : vx_Zq Bundle.tN "SUPPRESSED_SENTINEL" Bundle.listD A s' s'.heap := by rw [hhp]; exact vx_Zq.moved hW0.alike (hN.kept hS.2.1)
  have h : ∀ w ∈ Bundle.ownAtoms own ic cls names, w.before args s' = true := vx_own hat' (vx_isRefq hU'.1) (vx_isRefq hN'.1) hU'.2.word hN'.2.word
  have hown' : s'.vm.findClass own = some m.cls := by rw [hvm]; exact hown
  have hins : (Cond.instantiable cls 6).before args s' = true := h _ (by simp [Bundle.ownAtoms])
  obtain ⟨vm₁, cX, kX, hfX, hkX, -, -, X₁, st1⟩ := Y.newCold hexec (own := own) (C := cls) (index := ik) (n := 6) hown' hk' hins hini'
    (g := F0 m pc ls rest) rfl (by rw [hb]; exact d0) (Nat.le_refl _) (Nat.le_refl _)
  generalize hT1 : (T.setVm vm₁).pushCell { cls := cX, slots := kX.instanceTypes.map defaultValue, vm := .none } = T1 at X₁ st1
  have hcat : (Value.ref T.heap.size).category = 1 := rfl
  have hcellA : T1.heap[T.heap.size]? = some (freshCell cX kX) := by rw [← hT1]; exact State.heap_pushCell_size _ _
  have d3' : decode c.code (pc + 3) = .ok (.dup, 1) := by rw [hb]; exact d3
  have d4' : decode c.code (pc + 4) = .ok (.ldc_w is, 3) := by rw [hb]; exact d4
  have hstr' : vk_R own is text sa s' := vk_R.warm hW0 hstr
  obtain ⟨U, hsteps, hrun, hend, hW, hsame, ce, hce, hO⟩ := X₁.ctorThrowS hexec htr (own := own) (cls := cls) (names := names) (ic := ic) hown' hcls hnames h (fun x hx => nomatch hx) hfX hkX hcellA (by rw [hhp, hT]; exact Nat.le_refl _) (msg := .ref sa) rfl
    (g := { method := m, pc := pc + 7, locals := ls, stack := .ref sa :: .ref T.heap.size :: .ref T.heap.size :: rest, locked := none }) rfl hsize rfl rfl (rest := rest) rfl
    (by rw [hb]; exact d7) (by rw [hb]; exact d10) hout hRframes (by simp only [List.map_cons, List.sum_cons, hcat]; omega) hlocks
  obtain ⟨f1, f2⟩ := vx_frame hsame
  rw [hhp] at f1 f2
  have hWs : s.WarmedH U.vm := State.WarmedH.trans hW0 hW
  have hcl : s.vm.findClass cls = some ce.cls := by
    have h9 := hO.cls
    rw [hvm] at h9
    exact h9
  have hall : s.sameButNew ({ U with vm := s.vm } : State) locs mc ms := by
    subst hA
    obtain ⟨e1, e2⟩ := hsame
    rw [State.setFrames_setFrames] at e1
    have h2 : (T.setVm s.vm).sameButNew ({ U with vm := s.vm } : State) [] (0 + 1) (0 + 6) := ⟨e1, e2⟩
    have h3 := X.same.trans h2
    rw [List.append_nil] at h3
    exact h3.mono hc hs
  refine ⟨U, ?_, .threw T.heap.size, hrun, hend, Or.inr ⟨T.heap.size, rfl, cls, ce, locs, hx U hWs.alike f1 (fun q hq => f2 q hq (fun z hz => nomatch hz)), hce, hO.vm, hcl, hWs, hall, hf⟩⟩
  refine st1 _ ?_
  show Steps p.tables e below (T1.setTop { method := m, pc := pc + 3, locals := ls, stack := .ref T.heap.size :: rest, locked := none }) _
  jvm_step X₁.here [X₁.here.top, hexec, d3', Value.category]
  exact X₁.ldcStringW hexec (own := own) (text := text) (index := is) (a := sa) hown' hstr'.1 hstr'.2
    (g := { method := m, pc := pc + 4, locals := ls, stack := .ref T.heap.size :: .ref T.heap.size :: rest, locked := none }) rfl d4' _ hsteps
end Ends
section Bodies
variable {l : Launch}
theorem vx_ofW {y : MethodName} {ws ws' : List Cond} {rm : Room} {Pc : Array Value → State → Prop} {Qc : Array Value → State → Outcome → State → Prop} {XC : String → State → State → Prop} {mc ms : Nat} {free : Addr → Prop} {cc : ByteArray} {maxL : Nat} {ret : Option FieldType}
    (hy : plainName y.cls = true) (hw : ws = Cond.code y cc maxL ret :: ws')
    (body : ∀ p e s m args below meth c s₁, BodyLoose p l y (headSpec ws rm) cc maxL ret e s m args below meth c s₁ → c.maxLocals = maxL → (∀ x ∈ c.exceptionTable.toList, False) → Pc args s →
      W p l e (headSpec ws rm).room s m args below meth c s.heap [] 0 0 (vx_MQ below Qc XC args s mc ms free) (entryFrame m args maxL)) : vx_Met l y ws rm Pc Qc XC mc ms free := by
  refine MetFree.of_bodyS (code := cc) (maxLocals := maxL) (ret := ret) hy ?_ ?_
  · intro args s m h hn
    obtain ⟨meth, c, h1, h2, h3, h4, h5, h6, -, -⟩ := Cond.code_spec hn (atoms_spec (ws := ws) h _ (by rw [hw]; exact List.mem_cons_self))
    exact ⟨meth, c, h1, h2, h3, h4, h5, h6⟩
  · intro p e s m args below meth c s₁ B hml hP _
    have hh0 : s₁.heap = s.heap := by rw [B.state]; rfl
    have ht : ∀ x ∈ c.exceptionTable.toList, False := by
      obtain ⟨meth9, c9, h1, h2, -, -, -, -, h7, -⟩ := Cond.code_spec B.named (atoms_spec (ws := ws) B.pre _ (by rw [hw]; exact List.mem_cons_self))
      cases Option.some.inj (h1.symm.trans B.method)
      cases Option.some.inj (h2.symm.trans (Stand.of_body B).code)
      intro x hx
      rw [Array.isEmpty_iff.mp h7] at hx
      cases hx
    obtain ⟨t, a1, o, b1, b2, b3⟩ := body p e s m args below meth c s₁ B hml ht hP s₁ hh0 (Stand.of_body B)
    exact ⟨t, o, a1, b1, b2, b3⟩
/-- the table of a body with handlers -/
theorem vx_table {p : Program} {x y : MethodName} {S : Spec} {cc bytes : ByteArray} {maxL maxL' : Nat} {ret ret' : Option FieldType} {e : Env} {s s₁ : State} {m : MethodId} {args : Array Value} {below : List Frame} {meth : Method} {c : Code} {hh : List (Nat × Nat × Nat × Nat)}
    (B : BodyLoose p l y S cc maxL ret e s m args below meth c s₁) (h : (Cond.codeWith y bytes maxL' ret' hh).before args s = true) : c.exceptionTable.toList = tableOf hh := by
  obtain ⟨m9, meth9, c9, hn9, h1, h2, -, -, h6, -⟩ := Cond.codeWith_spec h
  cases Option.some.inj (hn9.symm.trans B.named)
  cases Option.some.inj (h1.symm.trans B.method)
  cases Option.some.inj (h2.symm.trans (Stand.of_body B).code)
  rw [← h6, table_eq]
end Bodies
end VXA
/-! ===== END ===== -/
/-! ===== BEGIN a static call of a method with an exception table ===== -/
section VXS
variable {p : Program} {l : Launch} {e : Env} {R : Room} {s : State} {m : MethodId} {args : Array Value} {below : List Frame} {meth : Method} {c : Code} {T : State} {H : Heap} {locs : List Loc} {cells slots : Nat}
abbrev vx_CSW (R : Room) (s : State) (args : Array Value) (own : String) (index : Nat) (y : MethodName) (bytes : ByteArray) (maxL : Nat) (ret : Option FieldType) (hh : List (Nat × Nat × Nat × Nat)) (ws : List Cond) (rm : Room) (mc ms n : Nat) : Prop :=
  (rm.cells = mc ∧ rm.slots = ms ∧ rm.frames + 1 ≤ R.frames ∧ 8 + (maxL + 11) + rm.locals ≤ R.locals ∧ (∀ w ∈ ws, ∀ (a' : Array Value) (U : State), s.WarmedH U.vm → w.before a' U = true) ∧ Cond.codeWith y bytes maxL ret hh ∈ ws) ∧
  (Cond.codeWith y bytes maxL ret hh).before args s = true ∧ (Cond.initialized y.cls).before args s = true ∧ (y.cls ≠ "java/lang/invoke/MethodHandle" ∧ y.cls ≠ "java/lang/invoke/VarHandle") ∧
  (∀ sig, parseMethodDescriptor y.desc = some sig → n = sig.parameters.length) ∧ (Cond.methodLink own index y).before args s = true ∧ (Cond.static y).before args s = true
theorem vx_cwSW {own : String} {index maxL mc ms : Nat} {y : MethodName} {bytes : ByteArray} {ret : Option FieldType} {hh : List (Nat × Nat × Nat × Nat)} {Ts ws ws' : List Cond} {rm : Room} (n : Nat) (ht : ∀ w ∈ Ts, w.before args s = true) (hT : GoodIn Ts (va_wsS own index y ws)) (hw : ws = Cond.codeWith y bytes maxL ret hh :: ws') (hrc : rm.cells = mc) (hrs : rm.slots = ms)
    (hd : y.cls ≠ "java/lang/invoke/MethodHandle" ∧ y.cls ≠ "java/lang/invoke/VarHandle" ∧ (parseMethodDescriptor y.desc).map (fun d => d.parameters.length) = some n) (hR : rm.frames + 1 ≤ R.frames ∧ 8 + (maxL + 11) + rm.locals ≤ R.locals) :
    vx_CSW R s args own index y bytes maxL ret hh ws rm mc ms n := by
  have ok : ∀ w ∈ va_wsS own index y ws, w.before args s = true := fun w h => ht w (hT w h).1
  have hG : GoodIn Ts ws := fun w h => hT w (by unfold va_wsS; exact List.mem_append_right _ h)
  have hc : Cond.codeWith y bytes maxL ret hh ∈ ws := by rw [hw]; exact List.mem_cons_self
  refine ⟨⟨hrc, hrs, hR.1, hR.2, pay_in ht hG, hc⟩, ht _ (hG _ hc).1, ok _ (by simp [va_wsS]), ⟨hd.1, hd.2.1⟩, fun sig h => ?_, ok _ (by simp [va_wsS]), ok _ (by simp [va_wsS])⟩
  have h2 := hd.2.2
  rw [h] at h2
  exact (Option.some.inj h2).symm
theorem vx_callSW (X : Stand p l e R s m args below meth c T locs cells slots) (hexec : p.tables.exec = Jvm.exec) {own : String} {index : Nat} {y : MethodName} {bytes : ByteArray} {maxL : Nat} {ret : Option FieldType} {hh : List (Nat × Nat × Nat × Nat)}
    (hown : s.vm.findClass own = some m.cls) (hlink : (Cond.methodLink own index y).before args s = true) (hstat : (Cond.static y).before args s = true) (hinit : (Cond.initialized y.cls).before args s = true)
    (hcode : (Cond.codeWith y bytes maxL ret hh).before args s = true) (hy : y.cls ≠ "java/lang/invoke/MethodHandle" ∧ y.cls ≠ "java/lang/invoke/VarHandle")
    {W9 : Nat} {Pre : Pt → Array Value → Prop} {Post : Pt → Array Value → Option Value → Pt → Prop} (hK : Back l R p e below s args y 3 W9 Pre Post)
    {g : JFrame} (hg : g.method = m) (hsize : g.locals.size = c.maxLocals) {argsL rest : List Value} (hlen : ∀ sig, parseMethodDescriptor y.desc = some sig → argsL.length = sig.parameters.length)
    (hstack : g.stack = argsL.reverse ++ rest) (hW : 2 * g.monitorRoom + (rest.map fun v => v.category).sum ≤ W9) (hdg : decode c.code g.pc = .ok (.invokestatic index, 3))
    (hpre : ∀ vm₁, s.WarmedH vm₁ → Pre ⟨T.setVm vm₁, locs, cells, slots⟩ argsL.toArray) :
    ∃ (v : Option Value) (vm₁ : Vm) (B : Pt), s.WarmedH vm₁ ∧ Stand p l e R s m args below meth c B.U B.locs B.cells B.slots ∧ Post ⟨T.setVm vm₁, locs, cells, slots⟩ argsL.toArray v B ∧
      ∀ target, Steps p.tables e below (B.U.setTop { g with pc := g.pc + 3, stack := v.toList ++ rest }) target → Steps p.tables e below (T.setTop g) target := by
  obtain ⟨mk, methM, cM, hnamed, hmethM, -, -, -, -, -, -, hsigM⟩ := Cond.codeWith_spec hcode
  have hstatic : methM.isStatic = true := Cond.static_spec hnamed hmethM hstat
  obtain ⟨kP, hkP, -⟩ := className_of_methodNamed hnamed
  have hinitP : kP.init = .initialized := Cond.initialized_spec (findClass_of_methodNamed hnamed) hkP hinit
  obtain ⟨vm₁, X₁, hstep₁⟩ := X.invokestatic hexec hown hlink hnamed hmethM hstatic hkP hinitP hy (g := g) hg (argsL := argsL) (rest := rest) (hlen _ hsigM) hstack hdg
  obtain ⟨v, B, X', hpost, hsteps⟩ := hK m meth c ⟨T.setVm vm₁, locs, cells, slots⟩ { g with stack := rest } (.invokestatic index) mk argsL.toArray X₁ hg hsize hdg hW (X₁.named hnamed) (hpre vm₁ X₁.warmed)
  exact ⟨v, vm₁, B, X₁.warmed, X', hpost, fun target h => hstep₁ _ fun acts => by rw [doInvoke_state]; exact hsteps.trans h⟩
theorem vx_runSW {y : MethodName} {bytes cc : ByteArray} {maxL nL mc ms n index : Nat} {ret : Option FieldType} {hh : List (Nat × Nat × Nat × Nat)} {ws : List Cond} {rm : Room} {Pc : Array Value → State → Prop} {Qc : Array Value → State → Outcome → State → Prop} {free : Addr → Prop} {Ts : List Cond} {own : String} {As rest : List Value} {g : JFrame}
    (S : CallFix p m c cc nL s args Ts own) (hM : Met l y ws rm Pc Qc mc ms free) (cw : vx_CSW R s args own index y bytes maxL ret hh ws rm mc ms n) (hp : PreS s H Pc As)
    (hg : g.method = m) (hn : As.length = n) (hsize : g.locals.size = nL) (hstack : g.stack = As.reverse ++ rest) (hW : 2 * g.monitorRoom + (rest.map fun v => v.category).sum ≤ 8) (hdg : decode cc g.pc = .ok (.invokestatic index, 3)) (hf : cells + mc ≤ R.cells ∧ slots + ms ≤ R.slots) :
    va_Run p l e R s m args below meth c H locs cells slots mc ms g rest (Qc As.toArray) (free) := by
  obtain ⟨⟨hrc, hrs, hfr, hlo, hws, hcw⟩, hcode, hini, hy, hlen, hl, hstt⟩ := cw
  have hK : Back l R p e below s args y 3 8 (PreOf R mc ms Pc) (PostOf Qc mc ms free) := va_backW (hh := hh) (bytes := bytes) (maxL := maxL) (ret := ret) hM hp.1 hrc hrs hfr hlo hws hcw (fun a' U hW => word_at hW (Or.inl (by first | rfl | simp [Cond.onTables, Cond.keeps, Cond.steady])) hini)
  obtain ⟨hx, hb, hml, ho, -⟩ := S
  intro T hT X
  obtain ⟨v, vm₁, ⟨U', l2, c2, s2⟩, hW₁, X', ⟨g', mk, t, L, e1, e2, hq, h1, hL, h2, h3⟩, st⟩ := vx_callSW X hx (hh := hh) (bytes := bytes) (maxL := maxL) (ret := ret) ho hl hstt hini hcode hy hK hg (hsize.trans hml.symm) (argsL := As) (rest := rest) (fun sig h => hn.trans (hlen sig h)) hstack hW (by rw [hb]; exact hdg)
    (fun vm₁ hW₁ => ⟨hf.1, hf.2, hp.2 (T.setVm vm₁) hT hW₁⟩)
  dsimp only [Pt.U, Pt.locs, Pt.cells, Pt.slots] at X' e1 e2 h1 h2 h3 st
  subst h1; subst h2; subst h3
  exact ⟨v, (T.setVm vm₁).calling g' mk As.toArray, t, U', L, hT, X', hL, e1, e2, hq, st⟩
/-- not caught here, past rows that name other classes: it goes on to the caller -/
theorem vx_outP {p : Program} {l : Launch} {e : Env} {R : Room} {s : State} {m : MethodId} {args : Array Value} {below : List Frame} {meth : Method} {c : Code} {H : Heap} {locs : List Loc} {cells slots : Nat} {free : Addr → Prop} {ls : Array Slot} {rest : List Value} {Qc : Array Value → State → Outcome → State → Prop} {XC : String → State → State → Prop}
    {pc : Nat} {own E : String} {ce : Cell} {q : Addr} {mc ms : Nat} (hown : s.vm.findClass own = some m.cls) (hlocks : meth.locks = false)
    (hpass : ∀ z ∈ c.exceptionTable.toList, covers z pc = false ∨ (z.catchType ≠ 0 ∧ ∃ nm : String, (Cond.classLink own z.catchType nm).before args s = true ∧ va_Nc E nm s)) (hcell : H[q]? = some ce) (hv : ce.vm = .none) (hcl : s.vm.findClass E = some ce.cls)
    (hx : ∀ t : State, t.heap = H → s.vm.Alike t.vm → XC E s t) (hf : ∀ z ∈ locs, free z.base) (hc : cells ≤ mc) (hs : slots ≤ ms) :
    vx_W p l e R s m args below meth c H locs cells slots (vx_MQ below Qc XC args s mc ms free) (F0 m pc ls rest) q := by
  intro T hT X
  have hpl : e.platform.magicAccessors = ({} : Platform).magicAccessors := by rw [X.admits.platform]
  obtain ⟨vm', hW', X', st⟩ := X.outThrough hlocks q (g := F0 m pc ls rest) rfl rfl rfl (cell := ce) (by rw [hT]; exact hcell) (by rw [hv]; rfl)
    (by obtain ⟨k9, h9, -⟩ := Vm.findClass_spec hcl; exact ⟨k9, h9⟩) (fun z hz => by
      rcases hpass z hz with h | ⟨hz0, nm, hl1, hn1⟩
      · exact Or.inl h
      · obtain ⟨c6, hc6, hcl6⟩ := Cond.classLink_spec hown hl1 e.platform hpl
        obtain ⟨a8, b8, h1, h2, h3⟩ := hn1
        cases Option.some.inj (h1.symm.trans hcl)
        cases Option.some.inj (h2.symm.trans hc6)
        exact Or.inr ⟨hz0, _, hcl6, h3⟩)
  obtain ⟨g₀, hfr⟩ := X'.frames_eq
  have hcell9 : ((T.setVm vm').setFrames (.throwing q :: below)).heap[q]? = some ce := by
    show T.heap[q]? = some ce
    rw [hT]; exact hcell
  have hend : Ended ((T.setVm vm').setFrames (.throwing q :: below)) below (.threw q) := State.frames_setFrames _ (State.cur_lt_of_frames hfr)
  refine ⟨(T.setVm vm').setFrames (.throwing q :: below), ?_, .threw q, X'.here.running, hend, Or.inr ⟨q, rfl, E, ce, locs, hx _ hT (X'.ends _).1.alike, hcell9, hv, hcl, (X'.ends _).1, (X'.ends _).2.mono hc hs, hf⟩⟩
  rw [X.pushThrowing_eq]
  exact st
/-- a thing of a world lies in the heap -/
theorem vx_lt {D : va_G} {cl : List vw_C} {ws : va_W} {H1 : Heap} (h : va_P D cl ws H1) {k : Nat} {q : Nat × va_E} (hk : ws[k]? = some q) : q.1 < H1.size := (h k q hk).lt
end VXS
/-! ===== END ===== -/
/-! ===== BEGIN methods with a table of their own: called by a name, returning or throwing ===== -/
section VXH
/-! vx_backW, vx_callVX, vx_callSX, vx_callVW, vx_runVW, vx_runVX, vx_runSX, vx_ofWH follow the same proofs as their sisters above (Free/Laws.lean, Shelf42/LK1.lean); vx_outP calls Shelf42/NT130.lean (outThrough). -/
section
variable {l : Launch} {R : Room} {p : Program} {e : Env} {below : List Frame} {s : State} {sargs : Array Value} {y : MethodName} {len W9 : Nat}
theorem vx_backW {ws : List Cond} {rm : Room} {Pc : Array Value → State → Prop} {Qc : Array Value → State → Outcome → State → Prop} {XC : String → State → State → Prop} {mc ms : Nat} {free : Addr → Prop} {bytes : ByteArray} {maxL : Nat} {ret : Option FieldType} {hh : List (Nat × Nat × Nat × Nat)}
    (hM : vx_Met l y ws rm Pc Qc XC mc ms free) (hblind : FrameBlind Pc) (hrc : rm.cells = mc) (hrs : rm.slots = ms)
    (hframes : rm.frames + 1 ≤ R.frames) (hlocals : W9 + (maxL + 11) + rm.locals ≤ R.locals)
    (hws : ∀ w ∈ ws, ∀ a' U, s.WarmedH U.vm → w.before a' U = true) (hcode : Cond.codeWith y bytes maxL ret hh ∈ ws) (hinit : ∀ a' U, s.WarmedH U.vm → (Cond.initialized y.cls).before a' U = true) :
    vx_Back l R p e below s sargs y len W9 (PreOf R mc ms Pc) (PostOf Qc mc ms free) (vx_Post XC mc ms free) := by
  intro m meth c A g ig mk a X hg hsize hdg hW hn hp
  have h1 : (headSpec ws rm).pre.before a A.U = true := atoms_intro fun w hw => hws w hw _ _ X.warmed
  have h2 : (Cond.codeWith y bytes maxL ret hh).before a A.U = true := hws _ hcode _ _ X.warmed
  have h3 : (Cond.initialized y.cls).before a A.U = true := hinit _ _ X.warmed
  have h4 : A.cells + (headSpec ws rm).room.cells ≤ R.cells := by rw [show (headSpec ws rm).room.cells = mc from hrc]; exact hp.1
  have h5 : A.slots + (headSpec ws rm).room.slots ≤ R.slots := by rw [show (headSpec ws rm).room.slots = ms from hrs]; exact hp.2.1
  have hPc : Pc a (A.U.calling g mk a) := hblind _ _ _ _ hp.2.2
  obtain ⟨U, Ls, c0, s0⟩ := A
  dsimp only [Pt.U, Pt.locs, Pt.cells, Pt.slots] at h1 h2 h3 h4 h5 X hn hPc ⊢
  obtain ⟨m9, methY, cY, hn9, hmY, hcY, -, hlY, -⟩ := Cond.codeWith_spec h2
  cases Option.some.inj (hn9.symm.trans hn)
  obtain ⟨kY, hkY, -⟩ := className_of_methodNamed hn
  have hinitY : kY.init = .initialized := Cond.initialized_spec (findClass_of_methodNamed hn) hkY h3
  have h : At U g.method c below := by rw [hg]; exact X.here
  have hlocals9 : W9 + (maxL + 11) + (headSpec ws rm).room.locals ≤ R.locals := hlocals
  have happ : (headSpec ws rm).appliesLoose y e.platform (U.calling g mk a) = true :=
    Spec.appliesLoose_calling (g := g) h hdg hn hkY hinitY
      (X.room_calling (g := g) (R' := (headSpec ws rm).room) hsize hmY hcY hframes (by rw [hlY]; omega) h4 h5) h1
  obtain ⟨mid, hmid⟩ := h.above
  have hfr : (U.setTop g).frames = (.java g :: mid) ++ below := by rw [State.frames_setTop' g h.top, hmid]; rfl
  obtain ⟨o, s₂, hsteps, -, hend, hq⟩ := Steps.callFree hM p X.admits X.cas X.clock (acts := []) hfr happ hPc trivial
  have hq' : vx_Q Qc XC mc ms free a (U.calling g mk a) o s₂ := hq
  rw [State.frames_setTop' g h.top] at hend
  obtain ⟨g₀, hg0⟩ := Option.isSome_iff_exists.mp h.top
  obtain ⟨r, hr⟩ := State.topJava?_eq_some.mp hg0
  have hr' : (({ U with heap := s₂.heap, slotsUsed := s₂.slotsUsed } : State).setVm s₂.vm).frames = .java g₀ :: r := hr
  rcases hq' with ⟨hqc, L, hfe, hL⟩ | ⟨q, rfl, E, ce, L, hx, hce, hcv, hcl, hW₂, hsm, hL⟩
  · obtain ⟨⟨v, rfl⟩, hW₂, e2, q2, q3, q4, q5, q6⟩ := id hfe
    have e3 : s₂ = ({ (U.calling g mk a).setFrames s₂.frames with heap := s₂.heap, slotsUsed := s₂.slotsUsed } : State).setVm s₂.vm := by
      have : s₂ = ({ s₂ with vm := (U.calling g mk a).vm } : State).setVm s₂.vm := rfl
      rw [e2] at this
      exact this
    obtain ⟨c₂, i₂, len₂, hc₂, hd₂, hf₂⟩ := hend
    have hW' : U.WarmedH s₂.vm := hW₂
    have hcc : c₂ = c := by
      have h1 : s₂.code? g.method = U.code? g.method := by
        rw [State.code?_eq, State.code?_eq, hW'.alike.method?]
      exact Option.some.inj (hc₂.symm.trans (h1.trans h.code))
    subst hcc
    have hlen : len₂ = len := by rw [hdg] at hd₂; cases hd₂; rfl
    subst hlen
    have hs₂ : s₂ = (({ U with heap := s₂.heap, slotsUsed := s₂.slotsUsed } : State).setVm s₂.vm).setTop { g with pc := g.pc + len₂, stack := v.toList ++ g.stack } := by
      refine e3.trans ?_
      rw [hf₂, State.calling_eq h.top, State.setFrames_setFrames, State.setTop_of_frames _ hr', hr]
      rfl
    have hsame : U.sameButNew ({ U with heap := s₂.heap, slotsUsed := s₂.slotsUsed } : State) L mc ms := by
      refine ⟨?_, q2, q3, q4, q5, q6⟩
      obtain ⟨t, ht, -⟩ := State.frames_cons hr
      show ({ U with heap := s₂.heap, slotsUsed := s₂.slotsUsed } : State) = { U.setFrames U.frames with heap := s₂.heap, slotsUsed := s₂.slotsUsed }
      rw [State.setFrames_self ht]
    subst hg
    refine Or.inl ⟨v, ⟨(({ U with heap := s₂.heap, slotsUsed := s₂.slotsUsed } : State).setVm s₂.vm), Ls ++ L, c0 + mc, s0 + ms⟩,
      ⟨X.admits, X.cas, X.clock, X.frames, X.room, X.hears, X.method, X.code, (X.here.setHeapUsed s₂.heap s₂.slotsUsed).setVm hW'.alike, X.tail, State.WarmedH.trans X.warmed hW', X.limits, X.bytes, X.same.trans (hsame.setVm s.vm)⟩,
      ⟨g, mk, s₂, L, rfl, rfl, hqc, rfl, hL, rfl, rfl⟩, ?_⟩
    show Steps p.tables e below _ ((({ U with heap := s₂.heap, slotsUsed := s₂.slotsUsed } : State).setVm s₂.vm).setTop { g with pc := g.pc + len₂, stack := v.toList ++ g.stack })
    rw [← hs₂]
    exact hsteps
  · obtain ⟨e2, q2, q3, q4, q5, q6⟩ := id hsm
    have e3 : s₂ = ({ (U.calling g mk a).setFrames s₂.frames with heap := s₂.heap, slotsUsed := s₂.slotsUsed } : State).setVm s₂.vm := by
      have : s₂ = ({ s₂ with vm := (U.calling g mk a).vm } : State).setVm s₂.vm := rfl
      rw [e2] at this
      exact this
    have hf₂ : s₂.frames = .throwing q :: .java g :: U.frames.tail := hend
    have hW' : U.WarmedH s₂.vm := hW₂
    have hs₂ : s₂ = ((({ U with heap := s₂.heap, slotsUsed := s₂.slotsUsed } : State).setVm s₂.vm).setTop g).pushFrame (.throwing q) := by
      refine e3.trans ?_
      rw [hf₂, State.calling_eq h.top, State.setFrames_setFrames, State.pushFrame, State.frames_setTop _ hr', State.setTop_of_frames _ hr', State.setFrames_setFrames, hr]
      rfl
    have hsame : U.sameButNew ({ U with heap := s₂.heap, slotsUsed := s₂.slotsUsed } : State) L mc ms := by
      refine ⟨?_, q2, q3, q4, q5, q6⟩
      obtain ⟨t, ht, -⟩ := State.frames_cons hr
      show ({ U with heap := s₂.heap, slotsUsed := s₂.slotsUsed } : State) = { U.setFrames U.frames with heap := s₂.heap, slotsUsed := s₂.slotsUsed }
      rw [State.setFrames_self ht]
    subst hg
    refine Or.inr ⟨q, ⟨(({ U with heap := s₂.heap, slotsUsed := s₂.slotsUsed } : State).setVm s₂.vm), Ls ++ L, c0 + mc, s0 + ms⟩,
      ⟨X.admits, X.cas, X.clock, X.frames, X.room, X.hears, X.method, X.code, (X.here.setHeapUsed s₂.heap s₂.slotsUsed).setVm hW'.alike, X.tail, State.WarmedH.trans X.warmed hW', X.limits, X.bytes, X.same.trans (hsame.setVm s.vm)⟩,
      ⟨g, mk, s₂, L, E, ce, rfl, rfl, hx, hce, hcv, hcl, rfl, hL, rfl, rfl⟩, ?_⟩
    show Steps p.tables e below _ (((({ U with heap := s₂.heap, slotsUsed := s₂.slotsUsed } : State).setVm s₂.vm).setTop g).pushFrame (.throwing q))
    rw [← hs₂]
    exact hsteps
end
variable {p : Program} {l : Launch} {e : Env} {R : Room} {s : State} {m : MethodId} {args : Array Value} {below : List Frame} {meth : Method} {c : Code} {T : State} {H : Heap} {locs : List Loc} {cells slots : Nat}
theorem vx_callVX (X : Stand p l e R s m args below meth c T locs cells slots) (hexec : p.tables.exec = Jvm.exec) {own C : String} {index : Nat} {y : MethodName} {bytes : ByteArray} {maxL : Nat} {ret : Option FieldType} {hh : List (Nat × Nat × Nat × Nat)}
    (hown : s.vm.findClass own = some m.cls) (hlink : (Cond.methodLink own index y).before args s = true) (hinst : (Cond.instanceMethod y).before args s = true) (hsel : (Cond.selects C y y).before args s = true)
    (hcode : (Cond.codeWith y bytes maxL ret hh).before args s = true) (hy : y.cls ≠ "java/lang/invoke/MethodHandle" ∧ y.cls ≠ "java/lang/invoke/VarHandle")
    {W9 : Nat} {Pre : Pt → Array Value → Prop} {Post : Pt → Array Value → Option Value → Pt → Prop} {PostX : Pt → Array Value → Addr → Pt → Prop} (hK : vx_Back l R p e below s args y 3 W9 Pre Post PostX)
    {b : Addr} {cellB : Cell} (hcell : T.heap[b]? = some cellB) (hobj : cellB.vm.isStatics = false) (hcls : s.vm.findClass C = some cellB.cls)
    {g : JFrame} (hg : g.method = m) (hsize : g.locals.size = c.maxLocals) {argsL rest : List Value} (hlen : ∀ sig, parseMethodDescriptor y.desc = some sig → argsL.length = sig.parameters.length)
    (hstack : g.stack = argsL.reverse ++ .ref b :: rest) (hW : 2 * g.monitorRoom + (rest.map fun v => v.category).sum ≤ W9) (hdg : decode c.code g.pc = .ok (.invokevirtual index, 3))
    (hpre : ∀ vm₁, s.WarmedH vm₁ → Pre ⟨T.setVm vm₁, locs, cells, slots⟩ (Value.ref b :: argsL).toArray) :
    (∃ (v : Option Value) (vm₁ : Vm) (B : Pt), s.WarmedH vm₁ ∧ Stand p l e R s m args below meth c B.U B.locs B.cells B.slots ∧ Post ⟨T.setVm vm₁, locs, cells, slots⟩ (Value.ref b :: argsL).toArray v B ∧
      ∀ target, Steps p.tables e below (B.U.setTop { g with pc := g.pc + 3, stack := v.toList ++ rest }) target → Steps p.tables e below (T.setTop g) target) ∨
    (∃ (q : Addr) (vm₁ : Vm) (B : Pt), s.WarmedH vm₁ ∧ Stand p l e R s m args below meth c B.U B.locs B.cells B.slots ∧ PostX ⟨T.setVm vm₁, locs, cells, slots⟩ (Value.ref b :: argsL).toArray q B ∧
      Steps p.tables e below (T.setTop g) ((B.U.setTop { g with stack := rest }).pushFrame (.throwing q))) := by
  obtain ⟨mk, methM, hnamed, hmethM, hstM, habM⟩ := Cond.instanceMethod_spec hinst
  obtain ⟨m8, methM', cM, hn8, hmethM', -, -, -, -, -, -, hsigM⟩ := Cond.codeWith_spec hcode
  cases Option.some.inj (hn8.symm.trans hnamed)
  cases hmethM.symm.trans hmethM'
  obtain ⟨c2, r2, m2, q1, q2, q3, q4, kP, hkP, hkPi⟩ := Cond.selects_spec hsel
  cases hcls.symm.trans q1
  cases (State.methodFound?_of_named hnamed hy).symm.trans q2
  cases hnamed.symm.trans q3
  have hselP : selectMethod e.platform s.vm cellB.cls mk = .method mk := by rw [Launch.admits_selectMethod X.admits]; exact q4
  obtain ⟨vm₁, X₁, hstep₁⟩ := X.invokevirtual hexec hown hlink hnamed hmethM hstM hkP hkPi hy (a := b) (cell := cellB) hcell
    (fun z h => by rw [h] at hobj; cases hobj) hselP hmethM habM hkP hkPi (g := g) hg (argsL := argsL) (rest := rest) (hlen _ hsigM) hstack hdg
  rcases hK m meth c ⟨T.setVm vm₁, locs, cells, slots⟩ { g with stack := rest } (.invokevirtual index) mk (Value.ref b :: argsL).toArray X₁ hg hsize hdg hW (X₁.named hnamed) (hpre vm₁ X₁.warmed) with ⟨v, B, X', hpost, hsteps⟩ | ⟨q, B, X', hpost, hsteps⟩
  · exact Or.inl ⟨v, vm₁, B, X₁.warmed, X', hpost, fun target h => hstep₁ _ fun acts => by rw [doInvoke_state]; exact hsteps.trans h⟩
  · exact Or.inr ⟨q, vm₁, B, X₁.warmed, X', hpost, hstep₁ _ fun acts => by rw [doInvoke_state]; exact hsteps⟩
theorem vx_callSX (X : Stand p l e R s m args below meth c T locs cells slots) (hexec : p.tables.exec = Jvm.exec) {own : String} {index : Nat} {y : MethodName} {bytes : ByteArray} {maxL : Nat} {ret : Option FieldType} {hh : List (Nat × Nat × Nat × Nat)}
    (hown : s.vm.findClass own = some m.cls) (hlink : (Cond.methodLink own index y).before args s = true) (hstat : (Cond.static y).before args s = true) (hinit : (Cond.initialized y.cls).before args s = true)
    (hcode : (Cond.codeWith y bytes maxL ret hh).before args s = true) (hy : y.cls ≠ "java/lang/invoke/MethodHandle" ∧ y.cls ≠ "java/lang/invoke/VarHandle")
    {W9 : Nat} {Pre : Pt → Array Value → Prop} {Post : Pt → Array Value → Option Value → Pt → Prop} {PostX : Pt → Array Value → Addr → Pt → Prop} (hK : vx_Back l R p e below s args y 3 W9 Pre Post PostX)
    {g : JFrame} (hg : g.method = m) (hsize : g.locals.size = c.maxLocals) {argsL rest : List Value} (hlen : ∀ sig, parseMethodDescriptor y.desc = some sig → argsL.length = sig.parameters.length)
    (hstack : g.stack = argsL.reverse ++ rest) (hW : 2 * g.monitorRoom + (rest.map fun v => v.category).sum ≤ W9) (hdg : decode c.code g.pc = .ok (.invokestatic index, 3))
    (hpre : ∀ vm₁, s.WarmedH vm₁ → Pre ⟨T.setVm vm₁, locs, cells, slots⟩ argsL.toArray) :
    (∃ (v : Option Value) (vm₁ : Vm) (B : Pt), s.WarmedH vm₁ ∧ Stand p l e R s m args below meth c B.U B.locs B.cells B.slots ∧ Post ⟨T.setVm vm₁, locs, cells, slots⟩ argsL.toArray v B ∧
      ∀ target, Steps p.tables e below (B.U.setTop { g with pc := g.pc + 3, stack := v.toList ++ rest }) target → Steps p.tables e below (T.setTop g) target) ∨
    (∃ (q : Addr) (vm₁ : Vm) (B : Pt), s.WarmedH vm₁ ∧ Stand p l e R s m args below meth c B.U B.locs B.cells B.slots ∧ PostX ⟨T.setVm vm₁, locs, cells, slots⟩ argsL.toArray q B ∧
      Steps p.tables e below (T.setTop g) ((B.U.setTop { g with stack := rest }).pushFrame (.throwing q))) := by
  obtain ⟨mk, methM, cM, hnamed, hmethM, -, -, -, -, -, -, hsigM⟩ := Cond.codeWith_spec hcode
  have hstatic : methM.isStatic = true := Cond.static_spec hnamed hmethM hstat
  obtain ⟨kP, hkP, -⟩ := className_of_methodNamed hnamed
  have hinitP : kP.init = .initialized := Cond.initialized_spec (findClass_of_methodNamed hnamed) hkP hinit
  obtain ⟨vm₁, X₁, hstep₁⟩ := X.invokestatic hexec hown hlink hnamed hmethM hstatic hkP hinitP hy (g := g) hg (argsL := argsL) (rest := rest) (hlen _ hsigM) hstack hdg
  rcases hK m meth c ⟨T.setVm vm₁, locs, cells, slots⟩ { g with stack := rest } (.invokestatic index) mk argsL.toArray X₁ hg hsize hdg hW (X₁.named hnamed) (hpre vm₁ X₁.warmed) with ⟨v, B, X', hpost, hsteps⟩ | ⟨q, B, X', hpost, hsteps⟩
  · exact Or.inl ⟨v, vm₁, B, X₁.warmed, X', hpost, fun target h => hstep₁ _ fun acts => by rw [doInvoke_state]; exact hsteps.trans h⟩
  · exact Or.inr ⟨q, vm₁, B, X₁.warmed, X', hpost, hstep₁ _ fun acts => by rw [doInvoke_state]; exact hsteps⟩
theorem vx_callVW (X : Stand p l e R s m args below meth c T locs cells slots) (hexec : p.tables.exec = Jvm.exec) {own C : String} {index : Nat} {y : MethodName} {bytes : ByteArray} {maxL : Nat} {ret : Option FieldType} {hh : List (Nat × Nat × Nat × Nat)}
    (hown : s.vm.findClass own = some m.cls) (hlink : (Cond.methodLink own index y).before args s = true) (hinst : (Cond.instanceMethod y).before args s = true) (hsel : (Cond.selects C y y).before args s = true)
    (hcode : (Cond.codeWith y bytes maxL ret hh).before args s = true) (hy : y.cls ≠ "java/lang/invoke/MethodHandle" ∧ y.cls ≠ "java/lang/invoke/VarHandle")
    {W9 : Nat} {Pre : Pt → Array Value → Prop} {Post : Pt → Array Value → Option Value → Pt → Prop} (hK : Back l R p e below s args y 3 W9 Pre Post)
    {b : Addr} {cellB : Cell} (hcell : T.heap[b]? = some cellB) (hobj : cellB.vm.isStatics = false) (hcls : s.vm.findClass C = some cellB.cls)
    {g : JFrame} (hg : g.method = m) (hsize : g.locals.size = c.maxLocals) {argsL rest : List Value} (hlen : ∀ sig, parseMethodDescriptor y.desc = some sig → argsL.length = sig.parameters.length)
    (hstack : g.stack = argsL.reverse ++ .ref b :: rest) (hW : 2 * g.monitorRoom + (rest.map fun v => v.category).sum ≤ W9) (hdg : decode c.code g.pc = .ok (.invokevirtual index, 3))
    (hpre : ∀ vm₁, s.WarmedH vm₁ → Pre ⟨T.setVm vm₁, locs, cells, slots⟩ (Value.ref b :: argsL).toArray) :
    ∃ (v : Option Value) (vm₁ : Vm) (B : Pt), s.WarmedH vm₁ ∧ Stand p l e R s m args below meth c B.U B.locs B.cells B.slots ∧ Post ⟨T.setVm vm₁, locs, cells, slots⟩ (Value.ref b :: argsL).toArray v B ∧
      ∀ target, Steps p.tables e below (B.U.setTop { g with pc := g.pc + 3, stack := v.toList ++ rest }) target → Steps p.tables e below (T.setTop g) target := by
  obtain ⟨mk, methM, hnamed, hmethM, hstM, habM⟩ := Cond.instanceMethod_spec hinst
  obtain ⟨m8, methM', cM, hn8, hmethM', -, -, -, -, -, -, hsigM⟩ := Cond.codeWith_spec hcode
  cases Option.some.inj (hn8.symm.trans hnamed)
  cases hmethM.symm.trans hmethM'
  obtain ⟨c2, r2, m2, q1, q2, q3, q4, kP, hkP, hkPi⟩ := Cond.selects_spec hsel
  cases hcls.symm.trans q1
  cases (State.methodFound?_of_named hnamed hy).symm.trans q2
  cases hnamed.symm.trans q3
  have hselP : selectMethod e.platform s.vm cellB.cls mk = .method mk := by rw [Launch.admits_selectMethod X.admits]; exact q4
  obtain ⟨vm₁, X₁, hstep₁⟩ := X.invokevirtual hexec hown hlink hnamed hmethM hstM hkP hkPi hy (a := b) (cell := cellB) hcell
    (fun z h => by rw [h] at hobj; cases hobj) hselP hmethM habM hkP hkPi (g := g) hg (argsL := argsL) (rest := rest) (hlen _ hsigM) hstack hdg
  obtain ⟨v, B, X', hpost, hsteps⟩ := hK m meth c ⟨T.setVm vm₁, locs, cells, slots⟩ { g with stack := rest } (.invokevirtual index) mk (Value.ref b :: argsL).toArray X₁ hg hsize hdg hW (X₁.named hnamed) (hpre vm₁ X₁.warmed)
  exact ⟨v, vm₁, B, X₁.warmed, X', hpost, fun target h => hstep₁ _ fun acts => by rw [doInvoke_state]; exact hsteps.trans h⟩
abbrev vx_CVW (R : Room) (s : State) (args : Array Value) (own C : String) (index : Nat) (y : MethodName) (bytes : ByteArray) (maxL : Nat) (ret : Option FieldType) (hh : List (Nat × Nat × Nat × Nat)) (ws : List Cond) (rm : Room) (mc ms n : Nat) : Prop :=
  (rm.cells = mc ∧ rm.slots = ms ∧ rm.frames + 1 ≤ R.frames ∧ 8 + (maxL + 11) + rm.locals ≤ R.locals ∧ (∀ w ∈ ws, ∀ (a' : Array Value) (U : State), s.WarmedH U.vm → w.before a' U = true) ∧ Cond.codeWith y bytes maxL ret hh ∈ ws) ∧
  (Cond.codeWith y bytes maxL ret hh).before args s = true ∧ (Cond.initialized y.cls).before args s = true ∧ (y.cls ≠ "java/lang/invoke/MethodHandle" ∧ y.cls ≠ "java/lang/invoke/VarHandle") ∧
  (∀ sig, parseMethodDescriptor y.desc = some sig → n = sig.parameters.length) ∧ (Cond.methodLink own index y).before args s = true ∧ (Cond.instanceMethod y).before args s = true ∧ (Cond.selects C y y).before args s = true
theorem vx_cwVW {own C : String} {index maxL mc ms : Nat} {y : MethodName} {bytes : ByteArray} {ret : Option FieldType} {hh : List (Nat × Nat × Nat × Nat)} {Ts ws ws' : List Cond} {rm : Room} (n : Nat) (ht : ∀ w ∈ Ts, w.before args s = true) (hT : GoodIn Ts (wsV own index C y ws)) (hw : ws = Cond.codeWith y bytes maxL ret hh :: ws') (hrc : rm.cells = mc) (hrs : rm.slots = ms)
    (hd : y.cls = C ∧ y.cls ≠ "java/lang/invoke/MethodHandle" ∧ y.cls ≠ "java/lang/invoke/VarHandle" ∧ (parseMethodDescriptor y.desc).map (fun d => d.parameters.length) = some n) (hR : rm.frames + 1 ≤ R.frames ∧ 8 + (maxL + 11) + rm.locals ≤ R.locals) :
    vx_CVW R s args own C index y bytes maxL ret hh ws rm mc ms n := by
  obtain ⟨hC, hd⟩ := hd
  subst hC
  have ok : ∀ w ∈ wsV own index y.cls y ws, w.before args s = true := fun w h => ht w (hT w h).1
  have hG : GoodIn Ts ws := fun w h => hT w (by unfold wsV; exact List.mem_append_right _ h)
  have hc : Cond.codeWith y bytes maxL ret hh ∈ ws := by rw [hw]; exact List.mem_cons_self
  refine ⟨⟨hrc, hrs, hR.1, hR.2, pay_in ht hG, hc⟩, ht _ (hG _ hc).1, ok _ (by simp [wsV]), ⟨hd.1, hd.2.1⟩, fun sig h => ?_, ok _ (by simp [wsV]), ok _ (by simp [wsV]), ok _ (by simp [wsV])⟩
  have h2 := hd.2.2
  rw [h] at h2
  exact (Option.some.inj h2).symm
theorem vx_runVW {y : MethodName} {bytes cc : ByteArray} {maxL nL mc ms n index : Nat} {ret : Option FieldType} {hh : List (Nat × Nat × Nat × Nat)} {ws : List Cond} {rm : Room} {Pc : Array Value → State → Prop} {Qc : Array Value → State → Outcome → State → Prop} {free : Addr → Prop} {Ts : List Cond} {own C : String} {b : Addr} {As rest : List Value} {g : JFrame}
    (S : CallFix p m c cc nL s args Ts own) (hM : Met l y ws rm Pc Qc mc ms free) (cw : vx_CVW R s args own C index y bytes maxL ret hh ws rm mc ms n) (hp : PreV s H C b Pc As)
    (hg : g.method = m) (hn : As.length = n) (hsize : g.locals.size = nL) (hstack : g.stack = As.reverse ++ .ref b :: rest) (hW : 2 * g.monitorRoom + (rest.map fun v => v.category).sum ≤ 8) (hdg : decode cc g.pc = .ok (.invokevirtual index, 3)) (hf : cells + mc ≤ R.cells ∧ slots + ms ≤ R.slots) :
    va_Run p l e R s m args below meth c H locs cells slots mc ms g rest (Qc (Value.ref b :: As).toArray) free := by
  obtain ⟨⟨hrc, hrs, hfr, hlo, hws, hcw⟩, hcode, hini, hy, hlen, hl, hin, hse⟩ := cw
  have hK : Back l R p e below s args y 3 8 (PreOf R mc ms Pc) (PostOf Qc mc ms free) := va_backW (hh := hh) (bytes := bytes) (maxL := maxL) (ret := ret) hM hp.1 hrc hrs hfr hlo hws hcw (fun a' U hW => word_at hW (Or.inl (by first | rfl | simp [Cond.onTables, Cond.keeps, Cond.steady])) hini)
  obtain ⟨hx, hb, hml, ho, -⟩ := S
  obtain ⟨-, ⟨cellB, hcB, hoB, hclB⟩, hPc⟩ := hp
  intro T hT X
  obtain ⟨v, vm₁, ⟨U', l2, c2, s2⟩, hW₁, X', ⟨g', mk, t, L, e1, e2, hq, h1, hL, h2, h3⟩, st⟩ := vx_callVW X hx (C := C) (hh := hh) (bytes := bytes) (maxL := maxL) (ret := ret) ho hl hin hse hcode hy hK (by rw [hT]; exact hcB) hoB hclB hg (hsize.trans hml.symm) (argsL := As) (rest := rest) (fun sig h => hn.trans (hlen sig h)) hstack hW (by rw [hb]; exact hdg)
    (fun vm₁ hW₁ => ⟨hf.1, hf.2, hPc (T.setVm vm₁) hT hW₁⟩)
  dsimp only [Pt.U, Pt.locs, Pt.cells, Pt.slots] at X' e1 e2 h1 h2 h3 st
  subst h1; subst h2; subst h3
  exact ⟨v, (T.setVm vm₁).calling g' mk (Value.ref b :: As).toArray, t, U', L, hT, X', hL, e1, e2, hq, st⟩
section
variable {y : MethodName} {bytes cc : ByteArray} {maxL nL mc ms n index : Nat} {ret : Option FieldType} {ws : List Cond} {rm : Room} {Pc : Array Value → State → Prop} {Qc : Array Value → State → Outcome → State → Prop} {XC : String → State → State → Prop} {free : Addr → Prop} {Ts : List Cond} {own C : String} {b : Addr} {As rest : List Value} {g : JFrame}
theorem vx_runVX {hh : List (Nat × Nat × Nat × Nat)} (S : CallFix p m c cc nL s args Ts own) (hM : vx_Met l y ws rm Pc Qc XC mc ms free) (cw : vx_CVW R s args own C index y bytes maxL ret hh ws rm mc ms n) (hp : PreV s H C b Pc As)
    (hg : g.method = m) (hn : As.length = n) (hsize : g.locals.size = nL) (hstack : g.stack = As.reverse ++ .ref b :: rest) (hW : 2 * g.monitorRoom + (rest.map fun v => v.category).sum ≤ 8) (hdg : decode cc g.pc = .ok (.invokevirtual index, 3)) (hf : cells + mc ≤ R.cells ∧ slots + ms ≤ R.slots) :
    vx_Run p l e R s m args below meth c H locs cells slots mc ms g rest (Qc (Value.ref b :: As).toArray) XC free := by
  obtain ⟨⟨hrc, hrs, hfr, hlo, hws, hcw⟩, hcode, hini, hy, hlen, hl, hin, hse⟩ := cw
  have hK : vx_Back l R p e below s args y 3 8 (PreOf R mc ms Pc) (PostOf Qc mc ms free) (vx_Post XC mc ms free) := vx_backW (hh := hh) (bytes := bytes) (maxL := maxL) (ret := ret) hM hp.1 hrc hrs hfr hlo hws hcw (fun a' U hW => word_at hW (Or.inl (by first | rfl | simp [Cond.onTables, Cond.keeps, Cond.steady])) hini)
  obtain ⟨hx, hb, hml, ho, -⟩ := S
  obtain ⟨-, ⟨cellB, hcB, hoB, hclB⟩, hPc⟩ := hp
  intro T hT X
  rcases vx_callVX X hx (C := C) (hh := hh) (bytes := bytes) (maxL := maxL) (ret := ret) ho hl hin hse hcode hy hK (by rw [hT]; exact hcB) hoB hclB hg (hsize.trans hml.symm) (argsL := As) (rest := rest) (fun sig h => hn.trans (hlen sig h)) hstack hW (by rw [hb]; exact hdg)
    (fun vm₁ hW₁ => ⟨hf.1, hf.2, hPc (T.setVm vm₁) hT hW₁⟩) with ⟨v, vm₁, ⟨U', l2, c2, s2⟩, hW₁, X', ⟨g', mk, t, L, e1, e2, hq, h1, hL, h2, h3⟩, st⟩ | ⟨q, vm₁, ⟨U', l2, c2, s2⟩, hW₁, X', ⟨g', mk, t, L, E, ce, e1, e2, hq, hce, hcv, hcl, h1, hL, h2, h3⟩, st⟩
  · dsimp only [Pt.U, Pt.locs, Pt.cells, Pt.slots] at X' e1 e2 h1 h2 h3 st
    subst h1; subst h2; subst h3
    exact Or.inl ⟨v, (T.setVm vm₁).calling g' mk (Value.ref b :: As).toArray, t, U', L, hT, X', hL, e1, e2, hq, st⟩
  · dsimp only [Pt.U, Pt.locs, Pt.cells, Pt.slots] at X' e1 e2 h1 h2 h3 st hcl
    subst h1; subst h2; subst h3
    exact Or.inr ⟨q, (T.setVm vm₁).calling g' mk (Value.ref b :: As).toArray, t, U', L, E, ce, hT, X', hL, e1, e2, hq, hce, hcv, vx_cls hW₁ hcl, st⟩
theorem vx_runSX {hh : List (Nat × Nat × Nat × Nat)} (S : CallFix p m c cc nL s args Ts own) (hM : vx_Met l y ws rm Pc Qc XC mc ms free) (cw : vx_CSW R s args own index y bytes maxL ret hh ws rm mc ms n) (hp : PreS s H Pc As)
    (hg : g.method = m) (hn : As.length = n) (hsize : g.locals.size = nL) (hstack : g.stack = As.reverse ++ rest) (hW : 2 * g.monitorRoom + (rest.map fun v => v.category).sum ≤ 8) (hdg : decode cc g.pc = .ok (.invokestatic index, 3)) (hf : cells + mc ≤ R.cells ∧ slots + ms ≤ R.slots) :
    vx_Run p l e R s m args below meth c H locs cells slots mc ms g rest (Qc As.toArray) XC free := by
  obtain ⟨⟨hrc, hrs, hfr, hlo, hws, hcw⟩, hcode, hini, hy, hlen, hl, hstt⟩ := cw
  have hK : vx_Back l R p e below s args y 3 8 (PreOf R mc ms Pc) (PostOf Qc mc ms free) (vx_Post XC mc ms free) := vx_backW (hh := hh) (bytes := bytes) (maxL := maxL) (ret := ret) hM hp.1 hrc hrs hfr hlo hws hcw (fun a' U hW => word_at hW (Or.inl (by first | rfl | simp [Cond.onTables, Cond.keeps, Cond.steady])) hini)
  obtain ⟨hx, hb, hml, ho, -⟩ := S
  intro T hT X
  rcases vx_callSX X hx (hh := hh) (bytes := bytes) (maxL := maxL) (ret := ret) ho hl hstt hini hcode hy hK hg (hsize.trans hml.symm) (argsL := As) (rest := rest) (fun sig h => hn.trans (hlen sig h)) hstack hW (by rw [hb]; exact hdg)
    (fun vm₁ hW₁ => ⟨hf.1, hf.2, hp.2 (T.setVm vm₁) hT hW₁⟩) with ⟨v, vm₁, ⟨U', l2, c2, s2⟩, hW₁, X', ⟨g', mk, t, L, e1, e2, hq, h1, hL, h2, h3⟩, st⟩ | ⟨q, vm₁, ⟨U', l2, c2, s2⟩, hW₁, X', ⟨g', mk, t, L, E, ce, e1, e2, hq, hce, hcv, hcl, h1, hL, h2, h3⟩, st⟩
  · dsimp only [Pt.U, Pt.locs, Pt.cells, Pt.slots] at X' e1 e2 h1 h2 h3 st
    subst h1; subst h2; subst h3
    exact Or.inl ⟨v, (T.setVm vm₁).calling g' mk As.toArray, t, U', L, hT, X', hL, e1, e2, hq, st⟩
  · dsimp only [Pt.U, Pt.locs, Pt.cells, Pt.slots] at X' e1 e2 h1 h2 h3 st hcl
    subst h1; subst h2; subst h3
    exact Or.inr ⟨q, (T.setVm vm₁).calling g' mk As.toArray, t, U', L, E, ce, hT, X', hL, e1, e2, hq, hce, hcv, vx_cls hW₁ hcl, st⟩
end
end VXH
theorem vx_ofWH {l : Launch} {y : MethodName} {ws ws' : List Cond} {rm : Room} {Pc : Array Value → State → Prop} {Qc : Array Value → State → Outcome → State → Prop} {XC : String → State → State → Prop} {mc ms : Nat} {free : Addr → Prop} {cc : ByteArray} {maxL : Nat} {ret : Option FieldType} {hh : List (Nat × Nat × Nat × Nat)}
    (hy : plainName y.cls = true) (hw : ws = Cond.codeWith y cc maxL ret hh :: ws')
    (body : ∀ p e s m args below meth c s₁, BodyLoose p l y (headSpec ws rm) cc maxL ret e s m args below meth c s₁ → c.maxLocals = maxL → Pc args s →
      W p l e (headSpec ws rm).room s m args below meth c s.heap [] 0 0 (vx_MQ below Qc XC args s mc ms free) (entryFrame m args maxL)) : vx_Met l y ws rm Pc Qc XC mc ms free := by
  refine MetFree.of_bodyS (code := cc) (maxLocals := maxL) (ret := ret) hy ?_ ?_
  · intro args s m h hn
    obtain ⟨m9, meth, c, hn9, h1, h2, h3, h4, -, h5, h6, -⟩ := Cond.codeWith_spec (atoms_spec (ws := ws) h _ (by rw [hw]; exact List.mem_cons_self))
    cases hn.symm.trans hn9
    exact ⟨meth, c, h1, h2, h3, h4, h5, h6⟩
  · intro p e s m args below meth c s₁ B hml hP _
    have hh0 : s₁.heap = s.heap := by rw [B.state]; rfl
    obtain ⟨t, a1, o, b1, b2, b3⟩ := body p e s m args below meth c s₁ B hml hP s₁ hh0 (Stand.of_body B)
    exact ⟨t, o, a1, b1, b2, b3⟩
/-! ===== END ===== -/
end
section
/-! ===== BEGIN printed: names, fields, word lists, decode rows ===== -/
def RX0 : String := "DuctBalance$Air"
def TX0 : u_T := fun k => match k with
  | 0 => ("DuctBalance$Air", "ducts", "LDuctBalance$Ducts;", true)
  | 1 => ("DuctBalance$Air", "machines", "LDuctBalance$Machines;", true)
  | 2 => ("DuctBalance$Air", "fan", "LDuctBalance$Fan;", true)
  | 3 => ("DuctBalance$Air", "pressure", "[D", true)
  | _ => ("DuctBalance$Air", "weight", "[D", true)
def tyX0 : Nat → FieldType := fun k => match k with
  | 0 => .object "DuctBalance$Ducts"
  | 1 => .object "DuctBalance$Machines"
  | 2 => .object "DuctBalance$Fan"
  | 3 => .array .double
  | _ => .array .double
abbrev wsX00 : List Cond := u_ws RX0 TX0 5
theorem nmX0 : ∀ a, a < 5 → ∀ b, b < 5 → a ≠ b → (TX0 a).2.1 ≠ (TX0 b).2.1 := by decide +kernel
theorem tyX0_ok : ∀ k, k < 5 → parseFieldDescriptor (TX0 k).2.2.1 = some (tyX0 k) := by decide +kernel
abbrev cX0_init : ByteArray := prog_2_method_1_code
def yX0_init : MethodName := ⟨RX0, "<init>", "()V"⟩
abbrev cX0_balance : ByteArray := prog_2_method_2_code
def yX0_balance : MethodName := ⟨RX0, "balance", "(I)I"⟩
abbrev cX0_settle : ByteArray := prog_2_method_3_code
def yX0_settle : MethodName := ⟨RX0, "settle", "()I"⟩
abbrev cX0_weighJoints : ByteArray := prog_2_method_4_code
def yX0_weighJoints : MethodName := ⟨RX0, "weighJoints", "()V"⟩
abbrev cX0_weigh : ByteArray := prog_2_method_5_code
def yX0_weigh : MethodName := ⟨RX0, "weigh", "(I)D"⟩
abbrev cX0_changeOfRound : ByteArray := prog_2_method_6_code
def yX0_changeOfRound : MethodName := ⟨RX0, "changeOfRound", "()D"⟩
abbrev cX0_pull : ByteArray := prog_2_method_7_code
def yX0_pull : MethodName := ⟨RX0, "pull", "(I)D"⟩
abbrev cX0_flowsTo : ByteArray := prog_2_method_8_code
def yX0_flowsTo : MethodName := ⟨RX0, "flowsTo", "(I)D"⟩
abbrev cX0_closeGates : ByteArray := prog_2_method_9_code
def yX0_closeGates : MethodName := ⟨RX0, "closeGates", "()Z"⟩
abbrev cX0_draw : ByteArray := prog_2_method_10_code
def yX0_draw : MethodName := ⟨RX0, "draw", "(I)D"⟩
abbrev cX0_residual : ByteArray := prog_2_method_11_code
def yX0_residual : MethodName := ⟨RX0, "residual", "(I)D"⟩
abbrev cX0_flow : ByteArray := prog_2_method_12_code
def yX0_flow : MethodName := ⟨RX0, "flow", "(I)D"⟩
abbrev cX0_speed : ByteArray := prog_2_method_13_code
def yX0_speed : MethodName := ⟨RX0, "speed", "(I)D"⟩
abbrev cX0_isEachSpeedAtLeast : ByteArray := prog_2_method_14_code
def yX0_isEachSpeedAtLeast : MethodName := ⟨RX0, "isEachSpeedAtLeast", "(D)Z"⟩
abbrev cX0_isEachMachineServed : ByteArray := prog_2_method_15_code
def yX0_isEachMachineServed : MethodName := ⟨RX0, "isEachMachineServed", "()Z"⟩
def RX1 : String := "DuctBalance$Ducts"
def TX1 : u_T := fun k => match k with
  | 0 => ("DuctBalance$Ducts", "told", "I", false)
  | 1 => ("DuctBalance$Ducts", "first", "[I", true)
  | 2 => ("DuctBalance$Ducts", "second", "[I", true)
  | 3 => ("DuctBalance$Ducts", "length", "[D", true)
  | 4 => ("DuctBalance$Ducts", "width", "[D", true)
  | 5 => ("DuctBalance$Ducts", "ease", "[D", true)
  | 6 => ("DuctBalance$Ducts", "ofJoint", "[[I", true)
  | _ => ("DuctBalance$Ducts", "ductsOfJoint", "[I", true)
def tyX1 : Nat → FieldType := fun k => match k with
  | 0 => .int
  | 1 => .array .int
  | 2 => .array .int
  | 3 => .array .double
  | 4 => .array .double
  | 5 => .array .double
  | 6 => .array (.array .int)
  | _ => .array .int
abbrev wsX10 : List Cond := u_ws RX1 TX1 8
theorem nmX1 : ∀ a, a < 8 → ∀ b, b < 8 → a ≠ b → (TX1 a).2.1 ≠ (TX1 b).2.1 := by decide +kernel
theorem tyX1_ok : ∀ k, k < 8 → parseFieldDescriptor (TX1 k).2.2.1 = some (tyX1 k) := by decide +kernel
abbrev cX1_init : ByteArray := prog_3_method_1_code
def yX1_init : MethodName := ⟨RX1, "<init>", "()V"⟩
abbrev cX1_add : ByteArray := prog_3_method_2_code
def yX1_add : MethodName := ⟨RX1, "add", "(IIDD)I"⟩
abbrev cX1_setWidths : ByteArray := prog_3_method_3_code
def yX1_setWidths : MethodName := ⟨RX1, "setWidths", "(D)V"⟩
abbrev cX1_otherEnd : ByteArray := prog_3_method_4_code
def yX1_otherEnd : MethodName := ⟨RX1, "otherEnd", "(II)I"⟩
abbrev cX1_hangOn : ByteArray := prog_3_method_5_code
def yX1_hangOn : MethodName := ⟨RX1, "hangOn", "(II)V"⟩
abbrev cX1_setWidth : ByteArray := prog_3_method_6_code
def yX1_setWidth : MethodName := ⟨RX1, "setWidth", "(ID)V"⟩
def RX2 : String := "DuctBalance$Fan"
def TX2 : u_T := fun k => match k with
  | 0 => ("DuctBalance$Fan", "strength", "D", false)
  | 1 => ("DuctBalance$Fan", "fall", "D", false)
  | _ => ("DuctBalance$Fan", "flow", "D", false)
def tyX2 : Nat → FieldType := fun k => match k with
  | 0 => .double
  | 1 => .double
  | _ => .double
abbrev wsX20 : List Cond := u_ws RX2 TX2 3
theorem nmX2 : ∀ a, a < 3 → ∀ b, b < 3 → a ≠ b → (TX2 a).2.1 ≠ (TX2 b).2.1 := by decide +kernel
theorem tyX2_ok : ∀ k, k < 3 → parseFieldDescriptor (TX2 k).2.2.1 = some (tyX2 k) := by decide +kernel
abbrev cX2_init : ByteArray := prog_4_method_1_code
def yX2_init : MethodName := ⟨RX2, "<init>", "()V"⟩
abbrev cX2_hold : ByteArray := prog_4_method_2_code
def yX2_hold : MethodName := ⟨RX2, "hold", "()D"⟩
def RX3 : String := "DuctBalance$Leaks"
def TX3 : u_T := fun k => match k with
  | 0 => ("DuctBalance$Leaks", "leak", "[D", true)
  | 1 => ("DuctBalance$Leaks", "reading", "[D", true)
  | _ => ("DuctBalance$Leaks", "isRead", "[Z", true)
def tyX3 : Nat → FieldType := fun k => match k with
  | 0 => .array .double
  | 1 => .array .double
  | _ => .array .boolean
abbrev wsX30 : List Cond := u_ws RX3 TX3 3
theorem nmX3 : ∀ a, a < 3 → ∀ b, b < 3 → a ≠ b → (TX3 a).2.1 ≠ (TX3 b).2.1 := by decide +kernel
theorem tyX3_ok : ∀ k, k < 3 → parseFieldDescriptor (TX3 k).2.2.1 = some (tyX3 k) := by decide +kernel
abbrev cX3_init : ByteArray := prog_5_method_1_code
def yX3_init : MethodName := ⟨RX3, "<init>", "()V"⟩
abbrev cX3_approach : ByteArray := prog_5_method_2_code
def yX3_approach : MethodName := ⟨RX3, "approach", "(LDuctBalance$Air;)V"⟩
abbrev cX3_sumOfSquares : ByteArray := prog_5_method_3_code
def yX3_sumOfSquares : MethodName := ⟨RX3, "sumOfSquares", "(LDuctBalance$Air;)D"⟩
abbrev cX3_missing : ByteArray := prog_5_method_4_code
def yX3_missing : MethodName := ⟨RX3, "missing", "(ILDuctBalance$Air;)D"⟩
def RX4 : String := "DuctBalance$Machines"
def TX4 : u_T := fun k => match k with
  | 0 => ("DuctBalance$Machines", "told", "I", false)
  | 1 => ("DuctBalance$Machines", "joint", "[I", true)
  | 2 => ("DuctBalance$Machines", "need", "[D", true)
  | 3 => ("DuctBalance$Machines", "gate", "[D", true)
  | 4 => ("DuctBalance$Machines", "isOpen", "[Z", true)
  | _ => ("DuctBalance$Machines", "cases", "[I", true)
def tyX4 : Nat → FieldType := fun k => match k with
  | 0 => .int
  | 1 => .array .int
  | 2 => .array .double
  | 3 => .array .double
  | 4 => .array .boolean
  | _ => .array .int
abbrev wsX40 : List Cond := u_ws RX4 TX4 6
theorem nmX4 : ∀ a, a < 6 → ∀ b, b < 6 → a ≠ b → (TX4 a).2.1 ≠ (TX4 b).2.1 := by decide +kernel
theorem tyX4_ok : ∀ k, k < 6 → parseFieldDescriptor (TX4 k).2.2.1 = some (tyX4 k) := by decide +kernel
abbrev cX4_init : ByteArray := prog_6_method_1_code
def yX4_init : MethodName := ⟨RX4, "<init>", "()V"⟩
abbrev cX4_add : ByteArray := prog_6_method_2_code
def yX4_add : MethodName := ⟨RX4, "add", "(ID)I"⟩
abbrev cX4_setUsed : ByteArray := prog_6_method_3_code
def yX4_setUsed : MethodName := ⟨RX4, "setUsed", "(IIZ)V"⟩
abbrev cX4_openFor : ByteArray := prog_6_method_4_code
def yX4_openFor : MethodName := ⟨RX4, "openFor", "(I)V"⟩
abbrev cX4_isOpenAt : ByteArray := prog_6_method_5_code
def yX4_isOpenAt : MethodName := ⟨RX4, "isOpenAt", "(II)Z"⟩
def RX5 : String := "DuctBalance$Sizes"
def TX5 : u_T := fun k => match k with
  | 0 => ("DuctBalance$Sizes", "told", "I", false)
  | 1 => ("DuctBalance$Sizes", "width", "[D", true)
  | 2 => ("DuctBalance$Sizes", "cents", "[I", true)
  | _ => ("DuctBalance$Sizes", "order", "[I", true)
def tyX5 : Nat → FieldType := fun k => match k with
  | 0 => .int
  | 1 => .array .double
  | 2 => .array .int
  | _ => .array .int
abbrev wsX50 : List Cond := u_ws RX5 TX5 4
theorem nmX5 : ∀ a, a < 4 → ∀ b, b < 4 → a ≠ b → (TX5 a).2.1 ≠ (TX5 b).2.1 := by decide +kernel
theorem tyX5_ok : ∀ k, k < 4 → parseFieldDescriptor (TX5 k).2.2.1 = some (tyX5 k) := by decide +kernel
abbrev cX5_init : ByteArray := prog_7_method_1_code
def yX5_init : MethodName := ⟨RX5, "<init>", "()V"⟩
abbrev cX5_add : ByteArray := prog_7_method_2_code
def yX5_add : MethodName := ⟨RX5, "add", "(DI)I"⟩
def RX6 : String := "DuctBalance"
def TX6 : u_T := fun k => match k with
  | 0 => ("DuctBalance", "air", "LDuctBalance$Air;", true)
  | 1 => ("DuctBalance", "ducts", "LDuctBalance$Ducts;", true)
  | 2 => ("DuctBalance", "machines", "LDuctBalance$Machines;", true)
  | 3 => ("DuctBalance", "leaks", "LDuctBalance$Leaks;", true)
  | 4 => ("DuctBalance", "sizes", "LDuctBalance$Sizes;", true)
  | 5 => ("DuctBalance", "joints", "I", false)
  | _ => ("DuctBalance", "solved", "Z", false)
def tyX6 : Nat → FieldType := fun k => match k with
  | 0 => .object "DuctBalance$Air"
  | 1 => .object "DuctBalance$Ducts"
  | 2 => .object "DuctBalance$Machines"
  | 3 => .object "DuctBalance$Leaks"
  | 4 => .object "DuctBalance$Sizes"
  | 5 => .int
  | _ => .boolean
abbrev wsX60 : List Cond := u_ws RX6 TX6 7
theorem nmX6 : ∀ a, a < 7 → ∀ b, b < 7 → a ≠ b → (TX6 a).2.1 ≠ (TX6 b).2.1 := by decide +kernel
theorem tyX6_ok : ∀ k, k < 7 → parseFieldDescriptor (TX6 k).2.2.1 = some (tyX6 k) := by decide +kernel
abbrev cX6_init : ByteArray := prog_1_method_1_code
def yX6_init : MethodName := ⟨RX6, "<init>", "()V"⟩
abbrev cX6_joint : ByteArray := prog_1_method_2_code
def yX6_joint : MethodName := ⟨RX6, "joint", "()I"⟩
abbrev cX6_duct : ByteArray := prog_1_method_3_code
def yX6_duct : MethodName := ⟨RX6, "duct", "(IIDD)I"⟩
abbrev cX6_machine : ByteArray := prog_1_method_4_code
def yX6_machine : MethodName := ⟨RX6, "machine", "(ID)I"⟩
abbrev cX6_use : ByteArray := prog_1_method_5_code
def yX6_use : MethodName := ⟨RX6, "use", "(IIZ)V"⟩
abbrev cX6_fan : ByteArray := prog_1_method_6_code
def yX6_fan : MethodName := ⟨RX6, "fan", "(DD)V"⟩
abbrev cX6_solve : ByteArray := prog_1_method_7_code
def yX6_solve : MethodName := ⟨RX6, "solve", "(I)I"⟩
abbrev cX6_at : ByteArray := prog_1_method_8_code
def yX6_at : MethodName := ⟨RX6, "at", "(II)D"⟩
abbrev cX6_of : ByteArray := prog_1_method_9_code
def yX6_of : MethodName := ⟨RX6, "of", "(II)D"⟩
abbrev cX6_draws : ByteArray := prog_1_method_10_code
def yX6_draws : MethodName := ⟨RX6, "draws", "(II)D"⟩
abbrev cX6_keeps : ByteArray := prog_1_method_11_code
def yX6_keeps : MethodName := ⟨RX6, "keeps", "(D)Z"⟩
abbrev cX6_list : ByteArray := prog_1_method_12_code
def yX6_list : MethodName := ⟨RX6, "list", "(DI)I"⟩
abbrev cX6_size : ByteArray := prog_1_method_13_code
def yX6_size : MethodName := ⟨RX6, "size", "(I)I"⟩
abbrev cX6_read : ByteArray := prog_1_method_14_code
def yX6_read : MethodName := ⟨RX6, "read", "(ID)V"⟩
abbrev cX6_fit : ByteArray := prog_1_method_15_code
def yX6_fit : MethodName := ⟨RX6, "fit", "(I)D"⟩
abbrev cX6_count : ByteArray := prog_1_method_16_code
def yX6_count : MethodName := ⟨RX6, "count", "(I)I"⟩
abbrev cX6_checkIndex : ByteArray := prog_1_method_17_code
def yX6_checkIndex : MethodName := ⟨RX6, "checkIndex", "(II)V"⟩
abbrev cX6_checkArgument : ByteArray := prog_1_method_18_code
def yX6_checkArgument : MethodName := ⟨RX6, "checkArgument", "(Z)V"⟩
abbrev cX6_checkState : ByteArray := prog_1_method_19_code
def yX6_checkState : MethodName := ⟨RX6, "checkState", "(Z)V"⟩
abbrev cX6_isWithin : ByteArray := prog_1_method_20_code
def yX6_isWithin : MethodName := ⟨RX6, "isWithin", "(DDD)Z"⟩
abbrev cX6_magnitude : ByteArray := prog_1_method_21_code
def yX6_magnitude : MethodName := ⟨RX6, "magnitude", "(D)D"⟩
abbrev cX6_notBelowZero : ByteArray := prog_1_method_22_code
def yX6_notBelowZero : MethodName := ⟨RX6, "notBelowZero", "(D)D"⟩
def RX7 : String := "DuctBalanceModel"
def TX7 : u_T := fun k => match k with
  | 0 => ("DuctBalanceModel", "thrown", "I", false)
  | 1 => ("DuctBalanceModel", "joints", "I", false)
  | 2 => ("DuctBalanceModel", "ducts", "I", false)
  | 3 => ("DuctBalanceModel", "froms", "[I", true)
  | 4 => ("DuctBalanceModel", "tos", "[I", true)
  | 5 => ("DuctBalanceModel", "lengths", "[D", true)
  | 6 => ("DuctBalanceModel", "widths", "[D", true)
  | 7 => ("DuctBalanceModel", "leaks", "[D", true)
  | 8 => ("DuctBalanceModel", "hasReading", "[Z", true)
  | 9 => ("DuctBalanceModel", "readings", "[D", true)
  | 10 => ("DuctBalanceModel", "machines", "I", false)
  | 11 => ("DuctBalanceModel", "stands", "[I", true)
  | 12 => ("DuctBalanceModel", "needs", "[D", true)
  | 13 => ("DuctBalanceModel", "used", "[Z", true)
  | 14 => ("DuctBalanceModel", "gates", "[D", true)
  | 15 => ("DuctBalanceModel", "open", "[Z", true)
  | 16 => ("DuctBalanceModel", "strength", "D", false)
  | 17 => ("DuctBalanceModel", "fall", "D", false)
  | 18 => ("DuctBalanceModel", "pressures", "[D", true)
  | 19 => ("DuctBalanceModel", "came", "D", false)
  | 20 => ("DuctBalanceModel", "solved", "Z", false)
  | 21 => ("DuctBalanceModel", "sizes", "I", false)
  | 22 => ("DuctBalanceModel", "sizeWidths", "[D", true)
  | _ => ("DuctBalanceModel", "sizeCents", "[I", true)
def tyX7 : Nat → FieldType := fun k => match k with
  | 0 => .int
  | 1 => .int
  | 2 => .int
  | 3 => .array .int
  | 4 => .array .int
  | 5 => .array .double
  | 6 => .array .double
  | 7 => .array .double
  | 8 => .array .boolean
  | 9 => .array .double
  | 10 => .int
  | 11 => .array .int
  | 12 => .array .double
  | 13 => .array .boolean
  | 14 => .array .double
  | 15 => .array .boolean
  | 16 => .double
  | 17 => .double
  | 18 => .array .double
  | 19 => .double
  | 20 => .boolean
  | 21 => .int
  | 22 => .array .double
  | _ => .array .int
abbrev wsX70 : List Cond := u_ws RX7 TX7 24
theorem nmX7 : ∀ a, a < 24 → ∀ b, b < 24 → a ≠ b → (TX7 a).2.1 ≠ (TX7 b).2.1 := by decide +kernel
theorem tyX7_ok : ∀ k, k < 24 → parseFieldDescriptor (TX7 k).2.2.1 = some (tyX7 k) := by decide +kernel
abbrev cX7_init : ByteArray := prog_9_method_1_code
def yX7_init : MethodName := ⟨RX7, "<init>", "()V"⟩
abbrev cX7_thrown : ByteArray := prog_9_method_2_code
def yX7_thrown : MethodName := ⟨RX7, "thrown", "()I"⟩
abbrev cX7_isIn : ByteArray := prog_9_method_3_code
def yX7_isIn : MethodName := ⟨RX7, "isIn", "(III)Z"⟩
abbrev cX7_between : ByteArray := prog_9_method_4_code
def yX7_between : MethodName := ⟨RX7, "between", "(DDD)Z"⟩
abbrev cX7_joint : ByteArray := prog_9_method_5_code
def yX7_joint : MethodName := ⟨RX7, "joint", "()I"⟩
abbrev cX7_isJoint : ByteArray := prog_9_method_6_code
def yX7_isJoint : MethodName := ⟨RX7, "isJoint", "(I)Z"⟩
abbrev cX7_duct : ByteArray := prog_9_method_7_code
def yX7_duct : MethodName := ⟨RX7, "duct", "(IIDD)I"⟩
abbrev cX7_machine : ByteArray := prog_9_method_8_code
def yX7_machine : MethodName := ⟨RX7, "machine", "(ID)I"⟩
abbrev cX7_isMachine : ByteArray := prog_9_method_9_code
def yX7_isMachine : MethodName := ⟨RX7, "isMachine", "(I)Z"⟩
abbrev cX7_use : ByteArray := prog_9_method_10_code
def yX7_use : MethodName := ⟨RX7, "use", "(IIZ)V"⟩
abbrev cX7_fan : ByteArray := prog_9_method_11_code
def yX7_fan : MethodName := ⟨RX7, "fan", "(DD)V"⟩
abbrev cX7_ease : ByteArray := prog_9_method_12_code
def yX7_ease : MethodName := ⟨RX7, "ease", "(I)D"⟩
abbrev cX7_other : ByteArray := prog_9_method_13_code
def yX7_other : MethodName := ⟨RX7, "other", "(II)I"⟩
abbrev cX7_balance : ByteArray := prog_9_method_14_code
def yX7_balance : MethodName := ⟨RX7, "balance", "(I)D"⟩
abbrev cX7_round : ByteArray := prog_9_method_15_code
def yX7_round : MethodName := ⟨RX7, "round", "()D"⟩
abbrev cX7_drawOf : ByteArray := prog_9_method_16_code
def yX7_drawOf : MethodName := ⟨RX7, "drawOf", "(I)D"⟩
abbrev cX7_close : ByteArray := prog_9_method_17_code
def yX7_close : MethodName := ⟨RX7, "close", "()Z"⟩
abbrev cX7_solveNow : ByteArray := prog_9_method_18_code
def yX7_solveNow : MethodName := ⟨RX7, "solveNow", "(I)I"⟩
abbrev cX7_solve : ByteArray := prog_9_method_19_code
def yX7_solve : MethodName := ⟨RX7, "solve", "(I)I"⟩
abbrev cX7_flowOf : ByteArray := prog_9_method_20_code
def yX7_flowOf : MethodName := ⟨RX7, "flowOf", "(I)D"⟩
abbrev cX7_isWrong : ByteArray := prog_9_method_21_code
def yX7_isWrong : MethodName := ⟨RX7, "isWrong", "(Z)Z"⟩
abbrev cX7_at : ByteArray := prog_9_method_22_code
def yX7_at : MethodName := ⟨RX7, "at", "(II)D"⟩
abbrev cX7_sizeOf : ByteArray := prog_9_method_23_code
def yX7_sizeOf : MethodName := ⟨RX7, "sizeOf", "(D)D"⟩
abbrev cX7_speedOf : ByteArray := prog_9_method_24_code
def yX7_speedOf : MethodName := ⟨RX7, "speedOf", "(I)D"⟩
abbrev cX7_of : ByteArray := prog_9_method_25_code
def yX7_of : MethodName := ⟨RX7, "of", "(II)D"⟩
abbrev cX7_draws : ByteArray := prog_9_method_26_code
def yX7_draws : MethodName := ⟨RX7, "draws", "(II)D"⟩
abbrev cX7_keeps : ByteArray := prog_9_method_27_code
def yX7_keeps : MethodName := ⟨RX7, "keeps", "(D)Z"⟩
abbrev cX7_list : ByteArray := prog_9_method_28_code
def yX7_list : MethodName := ⟨RX7, "list", "(DI)I"⟩
abbrev cX7_sizeAt : ByteArray := prog_9_method_29_code
def yX7_sizeAt : MethodName := ⟨RX7, "sizeAt", "(I)I"⟩
abbrev cX7_isEnough : ByteArray := prog_9_method_30_code
def yX7_isEnough : MethodName := ⟨RX7, "isEnough", "()Z"⟩
abbrev cX7_size : ByteArray := prog_9_method_31_code
def yX7_size : MethodName := ⟨RX7, "size", "(I)I"⟩
abbrev cX7_read : ByteArray := prog_9_method_32_code
def yX7_read : MethodName := ⟨RX7, "read", "(ID)V"⟩
abbrev cX7_fit : ByteArray := prog_9_method_33_code
def yX7_fit : MethodName := ⟨RX7, "fit", "(I)D"⟩
abbrev cX7_count : ByteArray := prog_9_method_34_code
def yX7_count : MethodName := ⟨RX7, "count", "(I)I"⟩
def RJ0 : String := "java/lang/String"
def TJ0 : u_T := fun k => match k with
  | _ => ("", "", "", false)
def tyJ0 : Nat → FieldType := fun k => match k with
  | _ => .int
abbrev wsJ00 : List Cond := u_ws RJ0 TJ0 0
theorem nmJ0 : ∀ a, a < 0 → ∀ b, b < 0 → a ≠ b → (TJ0 a).2.1 ≠ (TJ0 b).2.1 := by decide +kernel
theorem tyJ0_ok : ∀ k, k < 0 → parseFieldDescriptor (TJ0 k).2.2.1 = some (tyJ0 k) := by decide +kernel
def RL : String := "DuctBalanceLaw"
abbrev cL_joint : ByteArray := method_3_code
def yL_joint : MethodName := ⟨RL, "joint", "(LDuctBalance;[J)I"⟩
abbrev cL_duct : ByteArray := method_4_code
def yL_duct : MethodName := ⟨RL, "duct", "(LDuctBalance;IIDD[J)I"⟩
abbrev cL_machine : ByteArray := method_5_code
def yL_machine : MethodName := ⟨RL, "machine", "(LDuctBalance;ID[J)I"⟩
abbrev cL_use : ByteArray := method_6_code
def yL_use : MethodName := ⟨RL, "use", "(LDuctBalance;IIZ)I"⟩
abbrev cL_fan : ByteArray := method_7_code
def yL_fan : MethodName := ⟨RL, "fan", "(LDuctBalance;DD)I"⟩
abbrev cL_solve : ByteArray := method_8_code
def yL_solve : MethodName := ⟨RL, "solve", "(LDuctBalance;I[J)I"⟩
abbrev cL_at : ByteArray := method_9_code
def yL_at : MethodName := ⟨RL, "at", "(LDuctBalance;II[D)I"⟩
abbrev cL_of : ByteArray := method_10_code
def yL_of : MethodName := ⟨RL, "of", "(LDuctBalance;II[D)I"⟩
abbrev cL_draws : ByteArray := method_11_code
def yL_draws : MethodName := ⟨RL, "draws", "(LDuctBalance;II[D)I"⟩
abbrev cL_keeps : ByteArray := method_12_code
def yL_keeps : MethodName := ⟨RL, "keeps", "(LDuctBalance;D[J)I"⟩
abbrev cL_list : ByteArray := method_13_code
def yL_list : MethodName := ⟨RL, "list", "(LDuctBalance;DI[J)I"⟩
abbrev cL_size : ByteArray := method_14_code
def yL_size : MethodName := ⟨RL, "size", "(LDuctBalance;I[J)I"⟩
abbrev cL_read : ByteArray := method_15_code
def yL_read : MethodName := ⟨RL, "read", "(LDuctBalance;ID)I"⟩
abbrev cL_fit : ByteArray := method_16_code
def yL_fit : MethodName := ⟨RL, "fit", "(LDuctBalance;I[D)I"⟩
abbrev cL_count : ByteArray := method_17_code
def yL_count : MethodName := ⟨RL, "count", "(LDuctBalance;I[J)I"⟩
abbrev cL_law : ByteArray := code
def yL_law : MethodName := ⟨RL, "law", "([I)Z"⟩
def wsX1_init : List Cond := .code yX1_init cX1_init 1 none :: ([.methodLink RX1 3 objectInit, .instanceMethod objectInit, .code objectInit ⟨#[0xb1]⟩ 1 none, .fieldLink RX1 9 "DuctBalance$Ducts" "told" "I", .arrayClass .int, .fieldLink RX1 15 "DuctBalance$Ducts" "first" "[I", .fieldLink RX1 19 "DuctBalance$Ducts" "second" "[I", .arrayClass .double, .fieldLink RX1 22 "DuctBalance$Ducts" "length" "[D", .fieldLink RX1 26 "DuctBalance$Ducts" "width" "[D", .fieldLink RX1 29 "DuctBalance$Ducts" "ease" "[D", .classLink RX1 32 "[[I", .fieldLink RX1 34 "DuctBalance$Ducts" "ofJoint" "[[I", .fieldLink RX1 37 "DuctBalance$Ducts" "ductsOfJoint" "[I"] ++ wsX10)
def wsX4_init : List Cond := .code yX4_init cX4_init 1 none :: ([.methodLink RX4 3 objectInit, .instanceMethod objectInit, .code objectInit ⟨#[0xb1]⟩ 1 none, .fieldLink RX4 9 "DuctBalance$Machines" "told" "I", .arrayClass .int, .fieldLink RX4 15 "DuctBalance$Machines" "joint" "[I", .arrayClass .double, .fieldLink RX4 19 "DuctBalance$Machines" "need" "[D", .fieldLink RX4 23 "DuctBalance$Machines" "gate" "[D", .arrayClass .boolean, .fieldLink RX4 26 "DuctBalance$Machines" "isOpen" "[Z", .fieldLink RX4 30 "DuctBalance$Machines" "cases" "[I"] ++ wsX40)
def wsX2_init : List Cond := .code yX2_init cX2_init 1 none :: ([.methodLink RX2 1 objectInit, .instanceMethod objectInit, .code objectInit ⟨#[0xb1]⟩ 1 none, .constantDouble RX2 7 (4634204016564240384), .fieldLink RX2 9 "DuctBalance$Fan" "strength" "D", .constantDouble RX2 15 (4598175219545276416), .fieldLink RX2 17 "DuctBalance$Fan" "fall" "D", .fieldLink RX2 20 "DuctBalance$Fan" "flow" "D"] ++ wsX20)
def wsX0_init_r1 : List Cond := [Cond.methodLink RX0 3 objectInit, Cond.instanceMethod objectInit, Cond.code objectInit ⟨#[0xb1]⟩ 1 none, Cond.classLink RX0 9 RX1, Cond.instantiable RX1 8, Cond.initialized RX1, Cond.fieldLink RX0 12 "DuctBalance$Air" "ducts" "LDuctBalance$Ducts;", Cond.classLink RX0 18 RX4, Cond.instantiable RX4 6, Cond.initialized RX4, Cond.fieldLink RX0 21 "DuctBalance$Air" "machines" "LDuctBalance$Machines;", Cond.classLink RX0 25 RX2, Cond.instantiable RX2 3, Cond.initialized RX2, Cond.fieldLink RX0 28 "DuctBalance$Air" "fan" "LDuctBalance$Fan;", Cond.arrayClass .double, Cond.fieldLink RX0 32 "DuctBalance$Air" "pressure" "[D", Cond.fieldLink RX0 36 "DuctBalance$Air" "weight" "[D", Cond.instanceMethod yX1_init, Cond.code yX1_init cX1_init 1 none, Cond.methodLink RX1 3 objectInit, Cond.fieldLink RX1 9 "DuctBalance$Ducts" "told" "I", Cond.arrayClass .int, Cond.fieldLink RX1 15 "DuctBalance$Ducts" "first" "[I"]
def wsX0_init_r2 : List Cond := [Cond.fieldLink RX1 19 "DuctBalance$Ducts" "second" "[I", Cond.fieldLink RX1 22 "DuctBalance$Ducts" "length" "[D", Cond.fieldLink RX1 26 "DuctBalance$Ducts" "width" "[D", Cond.fieldLink RX1 29 "DuctBalance$Ducts" "ease" "[D", Cond.classLink RX1 32 "[[I", Cond.fieldLink RX1 34 "DuctBalance$Ducts" "ofJoint" "[[I", Cond.fieldLink RX1 37 "DuctBalance$Ducts" "ductsOfJoint" "[I", Cond.instanceMethod yX4_init, Cond.code yX4_init cX4_init 1 none, Cond.methodLink RX4 3 objectInit, Cond.fieldLink RX4 9 "DuctBalance$Machines" "told" "I", Cond.fieldLink RX4 15 "DuctBalance$Machines" "joint" "[I", Cond.fieldLink RX4 19 "DuctBalance$Machines" "need" "[D", Cond.fieldLink RX4 23 "DuctBalance$Machines" "gate" "[D", Cond.arrayClass .boolean, Cond.fieldLink RX4 26 "DuctBalance$Machines" "isOpen" "[Z", Cond.fieldLink RX4 30 "DuctBalance$Machines" "cases" "[I", Cond.instanceMethod yX2_init, Cond.code yX2_init cX2_init 1 none, Cond.methodLink RX2 1 objectInit, Cond.constantDouble RX2 7 (4634204016564240384), Cond.fieldLink RX2 9 "DuctBalance$Fan" "strength" "D", Cond.constantDouble RX2 15 (4598175219545276416), Cond.fieldLink RX2 17 "DuctBalance$Fan" "fall" "D"]
def wsX0_init_r3 : List Cond := [Cond.fieldLink RX2 20 "DuctBalance$Fan" "flow" "D"]
def wsX0_init : List Cond := .code yX0_init cX0_init 1 none :: ((wsX0_init_r1 ++ (wsX0_init_r2 ++ wsX0_init_r3)) ++ wsX10 ++ wsX00 ++ wsX40 ++ wsX20)
def wsX4_openFor : List Cond := .code yX4_openFor cX4_openFor 3 none :: ([.fieldLink RX4 9 "DuctBalance$Machines" "told" "I", .fieldLink RX4 26 "DuctBalance$Machines" "isOpen" "[Z", .fieldLink RX4 30 "DuctBalance$Machines" "cases" "[I", .fieldLink RX4 23 "DuctBalance$Machines" "gate" "[D"] ++ wsX40)
def wsX4_isOpenAt : List Cond := .code yX4_isOpenAt cX4_isOpenAt 3 (some .boolean) :: ([.fieldLink RX4 26 "DuctBalance$Machines" "isOpen" "[Z", .fieldLink RX4 15 "DuctBalance$Machines" "joint" "[I"] ++ wsX40)
def wsX0_weigh : List Cond := .code yX0_weigh cX0_weigh 5 (some .double) :: ([.fieldLink RX0 12 "DuctBalance$Air" "ducts" "LDuctBalance$Ducts;", .fieldLink RX0 64 "DuctBalance$Ducts" "ductsOfJoint" "[I", .fieldLink RX0 72 "DuctBalance$Ducts" "ease" "[D", .fieldLink RX0 75 "DuctBalance$Ducts" "ofJoint" "[[I", .fieldLink RX0 21 "DuctBalance$Air" "machines" "LDuctBalance$Machines;", .fieldLink RX0 79 "DuctBalance$Machines" "told" "I", .fieldLink RX0 87 "DuctBalance$Machines" "gate" "[D", .constantDouble RX0 90 (4620693217682128896), .methodLink RX0 83 yX4_isOpenAt, .instanceMethod yX4_isOpenAt, .selects RX4 yX4_isOpenAt yX4_isOpenAt, .initialized RX4, .code yX4_isOpenAt cX4_isOpenAt 3 (some .boolean), .fieldLink RX4 26 "DuctBalance$Machines" "isOpen" "[Z", .fieldLink RX4 15 "DuctBalance$Machines" "joint" "[I"] ++ wsX00 ++ wsX10 ++ wsX40)
def wsX0_weighJoints : List Cond := .code yX0_weighJoints cX0_weighJoints 2 none :: ([.fieldLink RX0 36 "DuctBalance$Air" "weight" "[D", .fieldLink RX0 12 "DuctBalance$Air" "ducts" "LDuctBalance$Ducts;", .fieldLink RX0 64 "DuctBalance$Ducts" "ductsOfJoint" "[I", .methodLink RX0 68 yX0_weigh, .instanceMethod yX0_weigh, .selects RX0 yX0_weigh yX0_weigh, .initialized RX0, .code yX0_weigh cX0_weigh 5 (some .double), .fieldLink RX0 72 "DuctBalance$Ducts" "ease" "[D", .fieldLink RX0 75 "DuctBalance$Ducts" "ofJoint" "[[I", .fieldLink RX0 21 "DuctBalance$Air" "machines" "LDuctBalance$Machines;", .fieldLink RX0 79 "DuctBalance$Machines" "told" "I", .fieldLink RX0 87 "DuctBalance$Machines" "gate" "[D", .constantDouble RX0 90 (4620693217682128896), .methodLink RX0 83 yX4_isOpenAt, .instanceMethod yX4_isOpenAt, .selects RX4 yX4_isOpenAt yX4_isOpenAt, .initialized RX4, .code yX4_isOpenAt cX4_isOpenAt 3 (some .boolean), .fieldLink RX4 26 "DuctBalance$Machines" "isOpen" "[Z", .fieldLink RX4 15 "DuctBalance$Machines" "joint" "[I"] ++ wsX00 ++ wsX10 ++ wsX40)
def wsX2_hold : List Cond := .code yX2_hold cX2_hold 3 (some .double) :: ([.fieldLink RX2 9 "DuctBalance$Fan" "strength" "D", .fieldLink RX2 17 "DuctBalance$Fan" "fall" "D", .fieldLink RX2 20 "DuctBalance$Fan" "flow" "D"] ++ wsX20)
def wsX1_otherEnd : List Cond := .code yX1_otherEnd cX1_otherEnd 3 (some .int) :: ([.fieldLink RX1 15 "DuctBalance$Ducts" "first" "[I", .fieldLink RX1 19 "DuctBalance$Ducts" "second" "[I"] ++ wsX10)
def wsX0_pull : List Cond := .code yX0_pull cX0_pull 6 (some .double) :: ([.fieldLink RX0 12 "DuctBalance$Air" "ducts" "LDuctBalance$Ducts;", .fieldLink RX0 64 "DuctBalance$Ducts" "ductsOfJoint" "[I", .fieldLink RX0 75 "DuctBalance$Ducts" "ofJoint" "[[I", .fieldLink RX0 72 "DuctBalance$Ducts" "ease" "[D", .fieldLink RX0 32 "DuctBalance$Air" "pressure" "[D", .methodLink RX0 108 yX1_otherEnd, .instanceMethod yX1_otherEnd, .selects RX1 yX1_otherEnd yX1_otherEnd, .initialized RX1, .code yX1_otherEnd cX1_otherEnd 3 (some .int), .fieldLink RX1 15 "DuctBalance$Ducts" "first" "[I", .fieldLink RX1 19 "DuctBalance$Ducts" "second" "[I"] ++ wsX00 ++ wsX10)
def wsX6_magnitude : List Cond := .code yX6_magnitude cX6_magnitude 2 (some .double) :: ([])
def wsX0_flowsTo : List Cond := .code yX0_flowsTo cX0_flowsTo 6 (some .double) :: ([.fieldLink RX0 12 "DuctBalance$Air" "ducts" "LDuctBalance$Ducts;", .fieldLink RX0 64 "DuctBalance$Ducts" "ductsOfJoint" "[I", .fieldLink RX0 75 "DuctBalance$Ducts" "ofJoint" "[[I", .fieldLink RX0 72 "DuctBalance$Ducts" "ease" "[D", .fieldLink RX0 32 "DuctBalance$Air" "pressure" "[D", .methodLink RX0 108 yX1_otherEnd, .instanceMethod yX1_otherEnd, .selects RX1 yX1_otherEnd yX1_otherEnd, .initialized RX1, .code yX1_otherEnd cX1_otherEnd 3 (some .int), .fieldLink RX1 15 "DuctBalance$Ducts" "first" "[I", .fieldLink RX1 19 "DuctBalance$Ducts" "second" "[I"] ++ wsX00 ++ wsX10)
def wsX6_notBelowZero : List Cond := .code yX6_notBelowZero cX6_notBelowZero 2 (some .double) :: ([])
def wsX0_changeOfRound_r1 : List Cond := [Cond.fieldLink RX0 32 "DuctBalance$Air" "pressure" "[D", Cond.fieldLink RX0 28 "DuctBalance$Air" "fan" "LDuctBalance$Fan;", Cond.fieldLink RX0 36 "DuctBalance$Air" "weight" "[D", Cond.fieldLink RX0 43 "DuctBalance$Fan" "flow" "D", Cond.methodLink RX0 92 yX2_hold, Cond.instanceMethod yX2_hold, Cond.selects RX2 yX2_hold yX2_hold, Cond.initialized RX2, Cond.code yX2_hold cX2_hold 3 (some .double), Cond.fieldLink RX2 9 "DuctBalance$Fan" "strength" "D", Cond.fieldLink RX2 17 "DuctBalance$Fan" "fall" "D", Cond.fieldLink RX2 20 "DuctBalance$Fan" "flow" "D", Cond.methodLink RX0 95 yX0_pull, Cond.instanceMethod yX0_pull, Cond.selects RX0 yX0_pull yX0_pull, Cond.initialized RX0, Cond.code yX0_pull cX0_pull 6 (some .double), Cond.fieldLink RX0 12 "DuctBalance$Air" "ducts" "LDuctBalance$Ducts;", Cond.fieldLink RX0 64 "DuctBalance$Ducts" "ductsOfJoint" "[I", Cond.fieldLink RX0 75 "DuctBalance$Ducts" "ofJoint" "[[I", Cond.fieldLink RX0 72 "DuctBalance$Ducts" "ease" "[D", Cond.methodLink RX0 108 yX1_otherEnd, Cond.instanceMethod yX1_otherEnd, Cond.selects RX1 yX1_otherEnd yX1_otherEnd]
def wsX0_changeOfRound_r2 : List Cond := [Cond.initialized RX1, Cond.code yX1_otherEnd cX1_otherEnd 3 (some .int), Cond.fieldLink RX1 15 "DuctBalance$Ducts" "first" "[I", Cond.fieldLink RX1 19 "DuctBalance$Ducts" "second" "[I", Cond.static yX6_magnitude, Cond.initialized RX6, Cond.code yX6_magnitude cX6_magnitude 2 (some .double), Cond.methodLink RX0 102 yX0_flowsTo, Cond.instanceMethod yX0_flowsTo, Cond.selects RX0 yX0_flowsTo yX0_flowsTo, Cond.code yX0_flowsTo cX0_flowsTo 6 (some .double), Cond.static yX6_notBelowZero, Cond.code yX6_notBelowZero cX6_notBelowZero 2 (some .double)]
def wsX0_changeOfRound : List Cond := .code yX0_changeOfRound cX0_changeOfRound 8 (some .double) :: ((wsX0_changeOfRound_r1 ++ wsX0_changeOfRound_r2) ++ wsX00 ++ wsX20 ++ wsX10)
def wsX0_settle_r1 : List Cond := [Cond.constantDouble RX0 62 (4517110426252607488), Cond.methodLink RX0 55 yX0_weighJoints, Cond.instanceMethod yX0_weighJoints, Cond.selects RX0 yX0_weighJoints yX0_weighJoints, Cond.initialized RX0, Cond.code yX0_weighJoints cX0_weighJoints 2 none, Cond.fieldLink RX0 36 "DuctBalance$Air" "weight" "[D", Cond.fieldLink RX0 12 "DuctBalance$Air" "ducts" "LDuctBalance$Ducts;", Cond.fieldLink RX0 64 "DuctBalance$Ducts" "ductsOfJoint" "[I", Cond.methodLink RX0 68 yX0_weigh, Cond.instanceMethod yX0_weigh, Cond.selects RX0 yX0_weigh yX0_weigh, Cond.code yX0_weigh cX0_weigh 5 (some .double), Cond.fieldLink RX0 72 "DuctBalance$Ducts" "ease" "[D", Cond.fieldLink RX0 75 "DuctBalance$Ducts" "ofJoint" "[[I", Cond.fieldLink RX0 21 "DuctBalance$Air" "machines" "LDuctBalance$Machines;", Cond.fieldLink RX0 79 "DuctBalance$Machines" "told" "I", Cond.fieldLink RX0 87 "DuctBalance$Machines" "gate" "[D", Cond.constantDouble RX0 90 (4620693217682128896), Cond.methodLink RX0 83 yX4_isOpenAt, Cond.instanceMethod yX4_isOpenAt, Cond.selects RX4 yX4_isOpenAt yX4_isOpenAt, Cond.initialized RX4, Cond.code yX4_isOpenAt cX4_isOpenAt 3 (some .boolean)]
def wsX0_settle_r2 : List Cond := [Cond.fieldLink RX4 26 "DuctBalance$Machines" "isOpen" "[Z", Cond.fieldLink RX4 15 "DuctBalance$Machines" "joint" "[I", Cond.methodLink RX0 58 yX0_changeOfRound, Cond.instanceMethod yX0_changeOfRound, Cond.selects RX0 yX0_changeOfRound yX0_changeOfRound, Cond.code yX0_changeOfRound cX0_changeOfRound 8 (some .double), Cond.fieldLink RX0 32 "DuctBalance$Air" "pressure" "[D", Cond.fieldLink RX0 28 "DuctBalance$Air" "fan" "LDuctBalance$Fan;", Cond.fieldLink RX0 43 "DuctBalance$Fan" "flow" "D", Cond.methodLink RX0 92 yX2_hold, Cond.instanceMethod yX2_hold, Cond.selects RX2 yX2_hold yX2_hold, Cond.initialized RX2, Cond.code yX2_hold cX2_hold 3 (some .double), Cond.fieldLink RX2 9 "DuctBalance$Fan" "strength" "D", Cond.fieldLink RX2 17 "DuctBalance$Fan" "fall" "D", Cond.fieldLink RX2 20 "DuctBalance$Fan" "flow" "D", Cond.methodLink RX0 95 yX0_pull, Cond.instanceMethod yX0_pull, Cond.selects RX0 yX0_pull yX0_pull, Cond.code yX0_pull cX0_pull 6 (some .double), Cond.methodLink RX0 108 yX1_otherEnd, Cond.instanceMethod yX1_otherEnd, Cond.selects RX1 yX1_otherEnd yX1_otherEnd]
def wsX0_settle_r3 : List Cond := [Cond.initialized RX1, Cond.code yX1_otherEnd cX1_otherEnd 3 (some .int), Cond.fieldLink RX1 15 "DuctBalance$Ducts" "first" "[I", Cond.fieldLink RX1 19 "DuctBalance$Ducts" "second" "[I", Cond.static yX6_magnitude, Cond.initialized RX6, Cond.code yX6_magnitude cX6_magnitude 2 (some .double), Cond.methodLink RX0 102 yX0_flowsTo, Cond.instanceMethod yX0_flowsTo, Cond.selects RX0 yX0_flowsTo yX0_flowsTo, Cond.code yX0_flowsTo cX0_flowsTo 6 (some .double), Cond.static yX6_notBelowZero, Cond.code yX6_notBelowZero cX6_notBelowZero 2 (some .double)]
def wsX0_settle : List Cond := .code yX0_settle cX0_settle 2 (some .int) :: ((wsX0_settle_r1 ++ (wsX0_settle_r2 ++ wsX0_settle_r3)) ++ wsX00 ++ wsX10 ++ wsX40 ++ wsX20)
def wsX0_draw : List Cond := .code yX0_draw cX0_draw 2 (some .double) :: ([.fieldLink RX0 21 "DuctBalance$Air" "machines" "LDuctBalance$Machines;", .fieldLink RX0 118 "DuctBalance$Machines" "isOpen" "[Z", .fieldLink RX0 87 "DuctBalance$Machines" "gate" "[D", .constantDouble RX0 90 (4620693217682128896), .fieldLink RX0 32 "DuctBalance$Air" "pressure" "[D", .fieldLink RX0 126 "DuctBalance$Machines" "joint" "[I", .static yX6_notBelowZero, .initialized RX6, .code yX6_notBelowZero cX6_notBelowZero 2 (some .double)] ++ wsX00 ++ wsX40)
def wsX0_closeGates : List Cond := .code yX0_closeGates cX0_closeGates 7 (some .boolean) :: ([.fieldLink RX0 21 "DuctBalance$Air" "machines" "LDuctBalance$Machines;", .fieldLink RX0 79 "DuctBalance$Machines" "told" "I", .fieldLink RX0 115 "DuctBalance$Machines" "need" "[D", .fieldLink RX0 118 "DuctBalance$Machines" "isOpen" "[Z", .fieldLink RX0 87 "DuctBalance$Machines" "gate" "[D", .constantDouble RX0 122 (4652007308841189376), .constantDouble RX0 124 (4652016104934211584), .methodLink RX0 112 yX0_draw, .instanceMethod yX0_draw, .selects RX0 yX0_draw yX0_draw, .initialized RX0, .code yX0_draw cX0_draw 2 (some .double), .constantDouble RX0 90 (4620693217682128896), .fieldLink RX0 32 "DuctBalance$Air" "pressure" "[D", .fieldLink RX0 126 "DuctBalance$Machines" "joint" "[I", .static yX6_notBelowZero, .initialized RX6, .code yX6_notBelowZero cX6_notBelowZero 2 (some .double)] ++ wsX00 ++ wsX40)
def wsX0_balance_r1 : List Cond := [Cond.fieldLink RX0 21 "DuctBalance$Air" "machines" "LDuctBalance$Machines;", Cond.fieldLink RX0 28 "DuctBalance$Air" "fan" "LDuctBalance$Fan;", Cond.fieldLink RX0 43 "DuctBalance$Fan" "flow" "D", Cond.fieldLink RX0 32 "DuctBalance$Air" "pressure" "[D", Cond.methodLink RX0 39 yX4_openFor, Cond.instanceMethod yX4_openFor, Cond.selects RX4 yX4_openFor yX4_openFor, Cond.initialized RX4, Cond.code yX4_openFor cX4_openFor 3 none, Cond.fieldLink RX4 9 "DuctBalance$Machines" "told" "I", Cond.fieldLink RX4 26 "DuctBalance$Machines" "isOpen" "[Z", Cond.fieldLink RX4 30 "DuctBalance$Machines" "cases" "[I", Cond.fieldLink RX4 23 "DuctBalance$Machines" "gate" "[D", Cond.methodLink RX0 47 yX0_settle, Cond.instanceMethod yX0_settle, Cond.selects RX0 yX0_settle yX0_settle, Cond.initialized RX0, Cond.code yX0_settle cX0_settle 2 (some .int), Cond.constantDouble RX0 62 (4517110426252607488), Cond.methodLink RX0 55 yX0_weighJoints, Cond.instanceMethod yX0_weighJoints, Cond.selects RX0 yX0_weighJoints yX0_weighJoints, Cond.code yX0_weighJoints cX0_weighJoints 2 none, Cond.fieldLink RX0 36 "DuctBalance$Air" "weight" "[D"]
def wsX0_balance_r2 : List Cond := [Cond.fieldLink RX0 12 "DuctBalance$Air" "ducts" "LDuctBalance$Ducts;", Cond.fieldLink RX0 64 "DuctBalance$Ducts" "ductsOfJoint" "[I", Cond.methodLink RX0 68 yX0_weigh, Cond.instanceMethod yX0_weigh, Cond.selects RX0 yX0_weigh yX0_weigh, Cond.code yX0_weigh cX0_weigh 5 (some .double), Cond.fieldLink RX0 72 "DuctBalance$Ducts" "ease" "[D", Cond.fieldLink RX0 75 "DuctBalance$Ducts" "ofJoint" "[[I", Cond.fieldLink RX0 79 "DuctBalance$Machines" "told" "I", Cond.fieldLink RX0 87 "DuctBalance$Machines" "gate" "[D", Cond.constantDouble RX0 90 (4620693217682128896), Cond.methodLink RX0 83 yX4_isOpenAt, Cond.instanceMethod yX4_isOpenAt, Cond.selects RX4 yX4_isOpenAt yX4_isOpenAt, Cond.code yX4_isOpenAt cX4_isOpenAt 3 (some .boolean), Cond.fieldLink RX4 15 "DuctBalance$Machines" "joint" "[I", Cond.methodLink RX0 58 yX0_changeOfRound, Cond.instanceMethod yX0_changeOfRound, Cond.selects RX0 yX0_changeOfRound yX0_changeOfRound, Cond.code yX0_changeOfRound cX0_changeOfRound 8 (some .double), Cond.methodLink RX0 92 yX2_hold, Cond.instanceMethod yX2_hold, Cond.selects RX2 yX2_hold yX2_hold, Cond.initialized RX2]
def wsX0_balance_r3 : List Cond := [Cond.code yX2_hold cX2_hold 3 (some .double), Cond.fieldLink RX2 9 "DuctBalance$Fan" "strength" "D", Cond.fieldLink RX2 17 "DuctBalance$Fan" "fall" "D", Cond.fieldLink RX2 20 "DuctBalance$Fan" "flow" "D", Cond.methodLink RX0 95 yX0_pull, Cond.instanceMethod yX0_pull, Cond.selects RX0 yX0_pull yX0_pull, Cond.code yX0_pull cX0_pull 6 (some .double), Cond.methodLink RX0 108 yX1_otherEnd, Cond.instanceMethod yX1_otherEnd, Cond.selects RX1 yX1_otherEnd yX1_otherEnd, Cond.initialized RX1, Cond.code yX1_otherEnd cX1_otherEnd 3 (some .int), Cond.fieldLink RX1 15 "DuctBalance$Ducts" "first" "[I", Cond.fieldLink RX1 19 "DuctBalance$Ducts" "second" "[I", Cond.static yX6_magnitude, Cond.initialized RX6, Cond.code yX6_magnitude cX6_magnitude 2 (some .double), Cond.methodLink RX0 102 yX0_flowsTo, Cond.instanceMethod yX0_flowsTo, Cond.selects RX0 yX0_flowsTo yX0_flowsTo, Cond.code yX0_flowsTo cX0_flowsTo 6 (some .double), Cond.static yX6_notBelowZero, Cond.code yX6_notBelowZero cX6_notBelowZero 2 (some .double)]
def wsX0_balance_r4 : List Cond := [Cond.methodLink RX0 51 yX0_closeGates, Cond.instanceMethod yX0_closeGates, Cond.selects RX0 yX0_closeGates yX0_closeGates, Cond.code yX0_closeGates cX0_closeGates 7 (some .boolean), Cond.fieldLink RX0 115 "DuctBalance$Machines" "need" "[D", Cond.fieldLink RX0 118 "DuctBalance$Machines" "isOpen" "[Z", Cond.constantDouble RX0 122 (4652007308841189376), Cond.constantDouble RX0 124 (4652016104934211584), Cond.methodLink RX0 112 yX0_draw, Cond.instanceMethod yX0_draw, Cond.selects RX0 yX0_draw yX0_draw, Cond.code yX0_draw cX0_draw 2 (some .double), Cond.fieldLink RX0 126 "DuctBalance$Machines" "joint" "[I"]
def wsX0_balance : List Cond := .code yX0_balance cX0_balance 6 (some .int) :: ((wsX0_balance_r1 ++ (wsX0_balance_r2 ++ (wsX0_balance_r3 ++ wsX0_balance_r4))) ++ wsX00 ++ wsX20 ++ wsX40 ++ wsX10)
def wsX0_residual_r1 : List Cond := [Cond.fieldLink RX0 21 "DuctBalance$Air" "machines" "LDuctBalance$Machines;", Cond.fieldLink RX0 79 "DuctBalance$Machines" "told" "I", Cond.methodLink RX0 102 yX0_flowsTo, Cond.instanceMethod yX0_flowsTo, Cond.selects RX0 yX0_flowsTo yX0_flowsTo, Cond.initialized RX0, Cond.code yX0_flowsTo cX0_flowsTo 6 (some .double), Cond.fieldLink RX0 12 "DuctBalance$Air" "ducts" "LDuctBalance$Ducts;", Cond.fieldLink RX0 64 "DuctBalance$Ducts" "ductsOfJoint" "[I", Cond.fieldLink RX0 75 "DuctBalance$Ducts" "ofJoint" "[[I", Cond.fieldLink RX0 72 "DuctBalance$Ducts" "ease" "[D", Cond.fieldLink RX0 32 "DuctBalance$Air" "pressure" "[D", Cond.methodLink RX0 108 yX1_otherEnd, Cond.instanceMethod yX1_otherEnd, Cond.selects RX1 yX1_otherEnd yX1_otherEnd, Cond.initialized RX1, Cond.code yX1_otherEnd cX1_otherEnd 3 (some .int), Cond.fieldLink RX1 15 "DuctBalance$Ducts" "first" "[I", Cond.fieldLink RX1 19 "DuctBalance$Ducts" "second" "[I", Cond.methodLink RX0 83 yX4_isOpenAt, Cond.instanceMethod yX4_isOpenAt, Cond.selects RX4 yX4_isOpenAt yX4_isOpenAt, Cond.initialized RX4, Cond.code yX4_isOpenAt cX4_isOpenAt 3 (some .boolean)]
def wsX0_residual_r2 : List Cond := [Cond.fieldLink RX4 26 "DuctBalance$Machines" "isOpen" "[Z", Cond.fieldLink RX4 15 "DuctBalance$Machines" "joint" "[I", Cond.methodLink RX0 112 yX0_draw, Cond.instanceMethod yX0_draw, Cond.selects RX0 yX0_draw yX0_draw, Cond.code yX0_draw cX0_draw 2 (some .double), Cond.fieldLink RX0 118 "DuctBalance$Machines" "isOpen" "[Z", Cond.fieldLink RX0 87 "DuctBalance$Machines" "gate" "[D", Cond.constantDouble RX0 90 (4620693217682128896), Cond.fieldLink RX0 126 "DuctBalance$Machines" "joint" "[I", Cond.static yX6_notBelowZero, Cond.initialized RX6, Cond.code yX6_notBelowZero cX6_notBelowZero 2 (some .double)]
def wsX0_residual : List Cond := .code yX0_residual cX0_residual 5 (some .double) :: ((wsX0_residual_r1 ++ wsX0_residual_r2) ++ wsX00 ++ wsX40 ++ wsX10)
def wsX0_flow : List Cond := .code yX0_flow cX0_flow 2 (some .double) :: ([.fieldLink RX0 12 "DuctBalance$Air" "ducts" "LDuctBalance$Ducts;", .fieldLink RX0 72 "DuctBalance$Ducts" "ease" "[D", .fieldLink RX0 32 "DuctBalance$Air" "pressure" "[D", .fieldLink RX0 129 "DuctBalance$Ducts" "first" "[I", .fieldLink RX0 132 "DuctBalance$Ducts" "second" "[I"] ++ wsX00 ++ wsX10)
def wsX0_speed : List Cond := .code yX0_speed cX0_speed 2 (some .double) :: ([.fieldLink RX0 12 "DuctBalance$Air" "ducts" "LDuctBalance$Ducts;", .fieldLink RX0 137 "DuctBalance$Ducts" "width" "[D", .methodLink RX0 135 yX0_flow, .instanceMethod yX0_flow, .selects RX0 yX0_flow yX0_flow, .initialized RX0, .code yX0_flow cX0_flow 2 (some .double), .fieldLink RX0 72 "DuctBalance$Ducts" "ease" "[D", .fieldLink RX0 32 "DuctBalance$Air" "pressure" "[D", .fieldLink RX0 129 "DuctBalance$Ducts" "first" "[I", .fieldLink RX0 132 "DuctBalance$Ducts" "second" "[I", .static yX6_magnitude, .initialized RX6, .code yX6_magnitude cX6_magnitude 2 (some .double)] ++ wsX00 ++ wsX10)
def wsX0_isEachSpeedAtLeast : List Cond := .code yX0_isEachSpeedAtLeast cX0_isEachSpeedAtLeast 4 (some .boolean) :: ([.fieldLink RX0 12 "DuctBalance$Air" "ducts" "LDuctBalance$Ducts;", .fieldLink RX0 140 "DuctBalance$Ducts" "told" "I", .methodLink RX0 141 yX0_speed, .instanceMethod yX0_speed, .selects RX0 yX0_speed yX0_speed, .initialized RX0, .code yX0_speed cX0_speed 2 (some .double), .fieldLink RX0 137 "DuctBalance$Ducts" "width" "[D", .methodLink RX0 135 yX0_flow, .instanceMethod yX0_flow, .selects RX0 yX0_flow yX0_flow, .code yX0_flow cX0_flow 2 (some .double), .fieldLink RX0 72 "DuctBalance$Ducts" "ease" "[D", .fieldLink RX0 32 "DuctBalance$Air" "pressure" "[D", .fieldLink RX0 129 "DuctBalance$Ducts" "first" "[I", .fieldLink RX0 132 "DuctBalance$Ducts" "second" "[I", .static yX6_magnitude, .initialized RX6, .code yX6_magnitude cX6_magnitude 2 (some .double)] ++ wsX00 ++ wsX10)
def wsX0_isEachMachineServed : List Cond := .code yX0_isEachMachineServed cX0_isEachMachineServed 2 (some .boolean) :: ([.fieldLink RX0 21 "DuctBalance$Air" "machines" "LDuctBalance$Machines;", .fieldLink RX0 79 "DuctBalance$Machines" "told" "I", .fieldLink RX0 118 "DuctBalance$Machines" "isOpen" "[Z", .fieldLink RX0 115 "DuctBalance$Machines" "need" "[D", .constantDouble RX0 144 (4606619468846596096), .methodLink RX0 112 yX0_draw, .instanceMethod yX0_draw, .selects RX0 yX0_draw yX0_draw, .initialized RX0, .code yX0_draw cX0_draw 2 (some .double), .fieldLink RX0 87 "DuctBalance$Machines" "gate" "[D", .constantDouble RX0 90 (4620693217682128896), .fieldLink RX0 32 "DuctBalance$Air" "pressure" "[D", .fieldLink RX0 126 "DuctBalance$Machines" "joint" "[I", .static yX6_notBelowZero, .initialized RX6, .code yX6_notBelowZero cX6_notBelowZero 2 (some .double)] ++ wsX00 ++ wsX40)
def wsX1_setWidth : List Cond := .code yX1_setWidth cX1_setWidth 4 none :: ([.fieldLink RX1 26 "DuctBalance$Ducts" "width" "[D", .fieldLink RX1 29 "DuctBalance$Ducts" "ease" "[D", .fieldLink RX1 22 "DuctBalance$Ducts" "length" "[D"] ++ wsX10)
def wsX1_hangOn : List Cond := .code yX1_hangOn cX1_hangOn 3 none :: ([.fieldLink RX1 34 "DuctBalance$Ducts" "ofJoint" "[[I", .fieldLink RX1 37 "DuctBalance$Ducts" "ductsOfJoint" "[I"] ++ wsX10)
def wsX1_add : List Cond := .code yX1_add cX1_add 8 (some .int) :: ([.fieldLink RX1 9 "DuctBalance$Ducts" "told" "I", .fieldLink RX1 15 "DuctBalance$Ducts" "first" "[I", .fieldLink RX1 19 "DuctBalance$Ducts" "second" "[I", .fieldLink RX1 22 "DuctBalance$Ducts" "length" "[D", .methodLink RX1 40 yX1_setWidth, .instanceMethod yX1_setWidth, .selects RX1 yX1_setWidth yX1_setWidth, .initialized RX1, .code yX1_setWidth cX1_setWidth 4 none, .fieldLink RX1 26 "DuctBalance$Ducts" "width" "[D", .fieldLink RX1 29 "DuctBalance$Ducts" "ease" "[D", .methodLink RX1 44 yX1_hangOn, .instanceMethod yX1_hangOn, .selects RX1 yX1_hangOn yX1_hangOn, .code yX1_hangOn cX1_hangOn 3 none, .fieldLink RX1 34 "DuctBalance$Ducts" "ofJoint" "[[I", .fieldLink RX1 37 "DuctBalance$Ducts" "ductsOfJoint" "[I"] ++ wsX10)
def wsX1_setWidths : List Cond := .code yX1_setWidths cX1_setWidths 4 none :: ([.fieldLink RX1 9 "DuctBalance$Ducts" "told" "I", .methodLink RX1 40 yX1_setWidth, .instanceMethod yX1_setWidth, .selects RX1 yX1_setWidth yX1_setWidth, .initialized RX1, .code yX1_setWidth cX1_setWidth 4 none, .fieldLink RX1 26 "DuctBalance$Ducts" "width" "[D", .fieldLink RX1 29 "DuctBalance$Ducts" "ease" "[D", .fieldLink RX1 22 "DuctBalance$Ducts" "length" "[D"] ++ wsX10)
def wsX3_init : List Cond := .code yX3_init cX3_init 1 none :: ([.methodLink RX3 3 objectInit, .instanceMethod objectInit, .code objectInit ⟨#[0xb1]⟩ 1 none, .arrayClass .double, .fieldLink RX3 9 "DuctBalance$Leaks" "leak" "[D", .fieldLink RX3 15 "DuctBalance$Leaks" "reading" "[D", .arrayClass .boolean, .fieldLink RX3 18 "DuctBalance$Leaks" "isRead" "[Z"] ++ wsX30)
def wsX3_missing : List Cond := .code yX3_missing cX3_missing 3 (some .double) :: ([.fieldLink RX3 15 "DuctBalance$Leaks" "reading" "[D", .fieldLink RX3 9 "DuctBalance$Leaks" "leak" "[D", .methodLink RX3 32 yX0_flow, .instanceMethod yX0_flow, .selects RX0 yX0_flow yX0_flow, .initialized RX0, .code yX0_flow cX0_flow 2 (some .double), .fieldLink RX0 12 "DuctBalance$Air" "ducts" "LDuctBalance$Ducts;", .fieldLink RX0 72 "DuctBalance$Ducts" "ease" "[D", .fieldLink RX0 32 "DuctBalance$Air" "pressure" "[D", .fieldLink RX0 129 "DuctBalance$Ducts" "first" "[I", .fieldLink RX0 132 "DuctBalance$Ducts" "second" "[I", .static yX6_magnitude, .initialized RX6, .code yX6_magnitude cX6_magnitude 2 (some .double)] ++ wsX30 ++ wsX00 ++ wsX10)
def wsX3_approach : List Cond := .code yX3_approach cX3_approach 3 none :: ([.fieldLink RX3 18 "DuctBalance$Leaks" "isRead" "[Z", .fieldLink RX3 9 "DuctBalance$Leaks" "leak" "[D", .constantDouble RX3 26 (4611686018427387904), .methodLink RX3 22 yX3_missing, .instanceMethod yX3_missing, .selects RX3 yX3_missing yX3_missing, .initialized RX3, .code yX3_missing cX3_missing 3 (some .double), .fieldLink RX3 15 "DuctBalance$Leaks" "reading" "[D", .methodLink RX3 32 yX0_flow, .instanceMethod yX0_flow, .selects RX0 yX0_flow yX0_flow, .initialized RX0, .code yX0_flow cX0_flow 2 (some .double), .fieldLink RX0 12 "DuctBalance$Air" "ducts" "LDuctBalance$Ducts;", .fieldLink RX0 72 "DuctBalance$Ducts" "ease" "[D", .fieldLink RX0 32 "DuctBalance$Air" "pressure" "[D", .fieldLink RX0 129 "DuctBalance$Ducts" "first" "[I", .fieldLink RX0 132 "DuctBalance$Ducts" "second" "[I", .static yX6_magnitude, .initialized RX6, .code yX6_magnitude cX6_magnitude 2 (some .double), .static yX6_notBelowZero, .code yX6_notBelowZero cX6_notBelowZero 2 (some .double)] ++ wsX30 ++ wsX00 ++ wsX10)
def wsX3_sumOfSquares : List Cond := .code yX3_sumOfSquares cX3_sumOfSquares 7 (some .double) :: ([.fieldLink RX3 18 "DuctBalance$Leaks" "isRead" "[Z", .methodLink RX3 22 yX3_missing, .instanceMethod yX3_missing, .selects RX3 yX3_missing yX3_missing, .initialized RX3, .code yX3_missing cX3_missing 3 (some .double), .fieldLink RX3 15 "DuctBalance$Leaks" "reading" "[D", .fieldLink RX3 9 "DuctBalance$Leaks" "leak" "[D", .methodLink RX3 32 yX0_flow, .instanceMethod yX0_flow, .selects RX0 yX0_flow yX0_flow, .initialized RX0, .code yX0_flow cX0_flow 2 (some .double), .fieldLink RX0 12 "DuctBalance$Air" "ducts" "LDuctBalance$Ducts;", .fieldLink RX0 72 "DuctBalance$Ducts" "ease" "[D", .fieldLink RX0 32 "DuctBalance$Air" "pressure" "[D", .fieldLink RX0 129 "DuctBalance$Ducts" "first" "[I", .fieldLink RX0 132 "DuctBalance$Ducts" "second" "[I", .static yX6_magnitude, .initialized RX6, .code yX6_magnitude cX6_magnitude 2 (some .double)] ++ wsX30 ++ wsX00 ++ wsX10)
def wsX4_add : List Cond := .code yX4_add cX4_add 5 (some .int) :: ([.fieldLink RX4 9 "DuctBalance$Machines" "told" "I", .fieldLink RX4 15 "DuctBalance$Machines" "joint" "[I", .fieldLink RX4 19 "DuctBalance$Machines" "need" "[D"] ++ wsX40)
def wsX4_setUsed : List Cond := .code yX4_setUsed cX4_setUsed 5 none :: ([.fieldLink RX4 30 "DuctBalance$Machines" "cases" "[I"] ++ wsX40)
def wsX5_init : List Cond := .code yX5_init cX5_init 1 none :: ([.methodLink RX5 3 objectInit, .instanceMethod objectInit, .code objectInit ⟨#[0xb1]⟩ 1 none, .fieldLink RX5 9 "DuctBalance$Sizes" "told" "I", .arrayClass .double, .fieldLink RX5 15 "DuctBalance$Sizes" "width" "[D", .arrayClass .int, .fieldLink RX5 19 "DuctBalance$Sizes" "cents" "[I", .fieldLink RX5 23 "DuctBalance$Sizes" "order" "[I"] ++ wsX50)
def wsX5_add : List Cond := .code yX5_add cX5_add 6 (some .int) :: ([.fieldLink RX5 9 "DuctBalance$Sizes" "told" "I", .fieldLink RX5 15 "DuctBalance$Sizes" "width" "[D", .fieldLink RX5 19 "DuctBalance$Sizes" "cents" "[I", .fieldLink RX5 23 "DuctBalance$Sizes" "order" "[I"] ++ wsX50)
def wsX6_init_r1 : List Cond := [Cond.methodLink RX6 1 objectInit, Cond.instanceMethod objectInit, Cond.code objectInit ⟨#[0xb1]⟩ 1 none, Cond.classLink RX6 7 RX0, Cond.instantiable RX0 5, Cond.initialized RX0, Cond.fieldLink RX6 10 "DuctBalance" "air" "LDuctBalance$Air;", Cond.fieldLink RX6 16 "DuctBalance$Air" "ducts" "LDuctBalance$Ducts;", Cond.fieldLink RX6 20 "DuctBalance" "ducts" "LDuctBalance$Ducts;", Cond.fieldLink RX6 21 "DuctBalance$Air" "machines" "LDuctBalance$Machines;", Cond.fieldLink RX6 25 "DuctBalance" "machines" "LDuctBalance$Machines;", Cond.classLink RX6 26 RX3, Cond.instantiable RX3 3, Cond.initialized RX3, Cond.fieldLink RX6 29 "DuctBalance" "leaks" "LDuctBalance$Leaks;", Cond.classLink RX6 33 RX5, Cond.instantiable RX5 4, Cond.initialized RX5, Cond.fieldLink RX6 36 "DuctBalance" "sizes" "LDuctBalance$Sizes;", Cond.fieldLink RX6 40 "DuctBalance" "joints" "I", Cond.fieldLink RX6 44 "DuctBalance" "solved" "Z", Cond.instanceMethod yX0_init, Cond.code yX0_init cX0_init 1 none, Cond.methodLink RX0 3 objectInit]
def wsX6_init_r2 : List Cond := [Cond.classLink RX0 9 RX1, Cond.instantiable RX1 8, Cond.initialized RX1, Cond.fieldLink RX0 12 "DuctBalance$Air" "ducts" "LDuctBalance$Ducts;", Cond.classLink RX0 18 RX4, Cond.instantiable RX4 6, Cond.initialized RX4, Cond.fieldLink RX0 21 "DuctBalance$Air" "machines" "LDuctBalance$Machines;", Cond.classLink RX0 25 RX2, Cond.instantiable RX2 3, Cond.initialized RX2, Cond.fieldLink RX0 28 "DuctBalance$Air" "fan" "LDuctBalance$Fan;", Cond.arrayClass .double, Cond.fieldLink RX0 32 "DuctBalance$Air" "pressure" "[D", Cond.fieldLink RX0 36 "DuctBalance$Air" "weight" "[D", Cond.instanceMethod yX1_init, Cond.code yX1_init cX1_init 1 none, Cond.methodLink RX1 3 objectInit, Cond.fieldLink RX1 9 "DuctBalance$Ducts" "told" "I", Cond.arrayClass .int, Cond.fieldLink RX1 15 "DuctBalance$Ducts" "first" "[I", Cond.fieldLink RX1 19 "DuctBalance$Ducts" "second" "[I", Cond.fieldLink RX1 22 "DuctBalance$Ducts" "length" "[D", Cond.fieldLink RX1 26 "DuctBalance$Ducts" "width" "[D"]
def wsX6_init_r3 : List Cond := [Cond.fieldLink RX1 29 "DuctBalance$Ducts" "ease" "[D", Cond.classLink RX1 32 "[[I", Cond.fieldLink RX1 34 "DuctBalance$Ducts" "ofJoint" "[[I", Cond.fieldLink RX1 37 "DuctBalance$Ducts" "ductsOfJoint" "[I", Cond.instanceMethod yX4_init, Cond.code yX4_init cX4_init 1 none, Cond.methodLink RX4 3 objectInit, Cond.fieldLink RX4 9 "DuctBalance$Machines" "told" "I", Cond.fieldLink RX4 15 "DuctBalance$Machines" "joint" "[I", Cond.fieldLink RX4 19 "DuctBalance$Machines" "need" "[D", Cond.fieldLink RX4 23 "DuctBalance$Machines" "gate" "[D", Cond.arrayClass .boolean, Cond.fieldLink RX4 26 "DuctBalance$Machines" "isOpen" "[Z", Cond.fieldLink RX4 30 "DuctBalance$Machines" "cases" "[I", Cond.instanceMethod yX2_init, Cond.code yX2_init cX2_init 1 none, Cond.methodLink RX2 1 objectInit, Cond.constantDouble RX2 7 (4634204016564240384), Cond.fieldLink RX2 9 "DuctBalance$Fan" "strength" "D", Cond.constantDouble RX2 15 (4598175219545276416), Cond.fieldLink RX2 17 "DuctBalance$Fan" "fall" "D", Cond.fieldLink RX2 20 "DuctBalance$Fan" "flow" "D", Cond.instanceMethod yX3_init, Cond.code yX3_init cX3_init 1 none]
def wsX6_init_r4 : List Cond := [Cond.methodLink RX3 3 objectInit, Cond.fieldLink RX3 9 "DuctBalance$Leaks" "leak" "[D", Cond.fieldLink RX3 15 "DuctBalance$Leaks" "reading" "[D", Cond.fieldLink RX3 18 "DuctBalance$Leaks" "isRead" "[Z", Cond.instanceMethod yX5_init, Cond.code yX5_init cX5_init 1 none, Cond.methodLink RX5 3 objectInit, Cond.fieldLink RX5 9 "DuctBalance$Sizes" "told" "I", Cond.fieldLink RX5 15 "DuctBalance$Sizes" "width" "[D", Cond.fieldLink RX5 19 "DuctBalance$Sizes" "cents" "[I", Cond.fieldLink RX5 23 "DuctBalance$Sizes" "order" "[I"]
def wsX6_init : List Cond := .code yX6_init cX6_init 1 none :: ((wsX6_init_r1 ++ (wsX6_init_r2 ++ (wsX6_init_r3 ++ wsX6_init_r4))) ++ wsX00 ++ wsX60 ++ wsX30 ++ wsX50 ++ wsX10 ++ wsX40 ++ wsX20)
def wsX6_checkState : List Cond := .code yX6_checkState cX6_checkState 1 none :: ([.classLink RX6 184 "java/lang/IllegalStateException", .initialized "java/lang/IllegalStateException"] ++ (vx_atS RX6 188 "java/lang/IllegalStateException" ["java/lang/RuntimeException", "java/lang/Exception"]).filter goodWord)
def wsX6_joint : List Cond := .code yX6_joint cX6_joint 1 (some .int) :: ([.fieldLink RX6 40 "DuctBalance" "joints" "I", .fieldLink RX6 44 "DuctBalance" "solved" "Z", .methodLink RX6 48 yX6_checkState, .static yX6_checkState, .initialized RX6, .code yX6_checkState cX6_checkState 1 none, .classLink RX6 184 "java/lang/IllegalStateException", .initialized "java/lang/IllegalStateException"] ++ wsX60 ++ (vx_atS RX6 188 "java/lang/IllegalStateException" ["java/lang/RuntimeException", "java/lang/Exception"]).filter goodWord)
def wsX6_checkIndex : List Cond := .code yX6_checkIndex cX6_checkIndex 2 none :: ([.classLink RX6 172 "java/lang/IndexOutOfBoundsException", .initialized "java/lang/IndexOutOfBoundsException"] ++ (vx_atS RX6 176 "java/lang/IndexOutOfBoundsException" ["java/lang/RuntimeException", "java/lang/Exception"]).filter goodWord)
def wsX6_isWithin : List Cond := .code yX6_isWithin cX6_isWithin 6 (some .boolean) :: ([])
def wsX6_checkArgument : List Cond := .code yX6_checkArgument cX6_checkArgument 1 none :: ([.classLink RX6 179 "java/lang/IllegalArgumentException", .initialized "java/lang/IllegalArgumentException"] ++ (vx_atS RX6 183 "java/lang/IllegalArgumentException" ["java/lang/RuntimeException", "java/lang/Exception"]).filter goodWord)
def wsX6_duct_r1 : List Cond := [Cond.fieldLink RX6 40 "DuctBalance" "joints" "I", Cond.constantDouble RX6 56 (4593671619917905920), Cond.constantDouble RX6 58 (4636737291354636288), Cond.fieldLink RX6 20 "DuctBalance" "ducts" "LDuctBalance$Ducts;", Cond.fieldLink RX6 67 "DuctBalance$Ducts" "told" "I", Cond.fieldLink RX6 44 "DuctBalance" "solved" "Z", Cond.methodLink RX6 52 yX6_checkIndex, Cond.static yX6_checkIndex, Cond.initialized RX6, Cond.code yX6_checkIndex cX6_checkIndex 2 none, Cond.classLink RX6 172 "java/lang/IndexOutOfBoundsException", Cond.initialized "java/lang/IndexOutOfBoundsException", Cond.methodLink RX6 60 yX6_isWithin, Cond.static yX6_isWithin, Cond.code yX6_isWithin cX6_isWithin 6 (some .boolean), Cond.methodLink RX6 64 yX6_checkArgument, Cond.static yX6_checkArgument, Cond.code yX6_checkArgument cX6_checkArgument 1 none, Cond.classLink RX6 179 "java/lang/IllegalArgumentException", Cond.initialized "java/lang/IllegalArgumentException", Cond.methodLink RX6 48 yX6_checkState, Cond.static yX6_checkState, Cond.code yX6_checkState cX6_checkState 1 none, Cond.classLink RX6 184 "java/lang/IllegalStateException"]
def wsX6_duct_r2 : List Cond := [Cond.initialized "java/lang/IllegalStateException", Cond.methodLink RX6 72 yX1_add, Cond.instanceMethod yX1_add, Cond.selects RX1 yX1_add yX1_add, Cond.initialized RX1, Cond.code yX1_add cX1_add 8 (some .int), Cond.fieldLink RX1 9 "DuctBalance$Ducts" "told" "I", Cond.fieldLink RX1 15 "DuctBalance$Ducts" "first" "[I", Cond.fieldLink RX1 19 "DuctBalance$Ducts" "second" "[I", Cond.fieldLink RX1 22 "DuctBalance$Ducts" "length" "[D", Cond.methodLink RX1 40 yX1_setWidth, Cond.instanceMethod yX1_setWidth, Cond.selects RX1 yX1_setWidth yX1_setWidth, Cond.code yX1_setWidth cX1_setWidth 4 none, Cond.fieldLink RX1 26 "DuctBalance$Ducts" "width" "[D", Cond.fieldLink RX1 29 "DuctBalance$Ducts" "ease" "[D", Cond.methodLink RX1 44 yX1_hangOn, Cond.instanceMethod yX1_hangOn, Cond.selects RX1 yX1_hangOn yX1_hangOn, Cond.code yX1_hangOn cX1_hangOn 3 none, Cond.fieldLink RX1 34 "DuctBalance$Ducts" "ofJoint" "[[I", Cond.fieldLink RX1 37 "DuctBalance$Ducts" "ductsOfJoint" "[I"]
def wsX6_duct : List Cond := .code yX6_duct cX6_duct 7 (some .int) :: ((wsX6_duct_r1 ++ wsX6_duct_r2) ++ wsX60 ++ wsX10 ++ (vx_atS RX6 176 "java/lang/IndexOutOfBoundsException" ["java/lang/RuntimeException", "java/lang/Exception"]).filter goodWord ++ (vx_atS RX6 183 "java/lang/IllegalArgumentException" ["java/lang/RuntimeException", "java/lang/Exception"]).filter goodWord ++ (vx_atS RX6 188 "java/lang/IllegalStateException" ["java/lang/RuntimeException", "java/lang/Exception"]).filter goodWord)
def wsX6_machine_r1 : List Cond := [Cond.fieldLink RX6 40 "DuctBalance" "joints" "I", Cond.constantDouble RX6 56 (4593671619917905920), Cond.constantDouble RX6 76 (4652007308841189376), Cond.fieldLink RX6 25 "DuctBalance" "machines" "LDuctBalance$Machines;", Cond.fieldLink RX6 78 "DuctBalance$Machines" "told" "I", Cond.fieldLink RX6 44 "DuctBalance" "solved" "Z", Cond.methodLink RX6 52 yX6_checkIndex, Cond.static yX6_checkIndex, Cond.initialized RX6, Cond.code yX6_checkIndex cX6_checkIndex 2 none, Cond.classLink RX6 172 "java/lang/IndexOutOfBoundsException", Cond.initialized "java/lang/IndexOutOfBoundsException", Cond.methodLink RX6 60 yX6_isWithin, Cond.static yX6_isWithin, Cond.code yX6_isWithin cX6_isWithin 6 (some .boolean), Cond.methodLink RX6 64 yX6_checkArgument, Cond.static yX6_checkArgument, Cond.code yX6_checkArgument cX6_checkArgument 1 none, Cond.classLink RX6 179 "java/lang/IllegalArgumentException", Cond.initialized "java/lang/IllegalArgumentException", Cond.methodLink RX6 48 yX6_checkState, Cond.static yX6_checkState, Cond.code yX6_checkState cX6_checkState 1 none, Cond.classLink RX6 184 "java/lang/IllegalStateException"]
def wsX6_machine_r2 : List Cond := [Cond.initialized "java/lang/IllegalStateException", Cond.methodLink RX6 81 yX4_add, Cond.instanceMethod yX4_add, Cond.selects RX4 yX4_add yX4_add, Cond.initialized RX4, Cond.code yX4_add cX4_add 5 (some .int), Cond.fieldLink RX4 9 "DuctBalance$Machines" "told" "I", Cond.fieldLink RX4 15 "DuctBalance$Machines" "joint" "[I", Cond.fieldLink RX4 19 "DuctBalance$Machines" "need" "[D"]
def wsX6_machine : List Cond := .code yX6_machine cX6_machine 4 (some .int) :: ((wsX6_machine_r1 ++ wsX6_machine_r2) ++ wsX60 ++ wsX40 ++ (vx_atS RX6 176 "java/lang/IndexOutOfBoundsException" ["java/lang/RuntimeException", "java/lang/Exception"]).filter goodWord ++ (vx_atS RX6 183 "java/lang/IllegalArgumentException" ["java/lang/RuntimeException", "java/lang/Exception"]).filter goodWord ++ (vx_atS RX6 188 "java/lang/IllegalStateException" ["java/lang/RuntimeException", "java/lang/Exception"]).filter goodWord)
def wsX6_use : List Cond := .code yX6_use cX6_use 4 none :: ([.fieldLink RX6 25 "DuctBalance" "machines" "LDuctBalance$Machines;", .fieldLink RX6 78 "DuctBalance$Machines" "told" "I", .fieldLink RX6 44 "DuctBalance" "solved" "Z", .methodLink RX6 52 yX6_checkIndex, .static yX6_checkIndex, .initialized RX6, .code yX6_checkIndex cX6_checkIndex 2 none, .classLink RX6 172 "java/lang/IndexOutOfBoundsException", .initialized "java/lang/IndexOutOfBoundsException", .methodLink RX6 84 yX4_setUsed, .instanceMethod yX4_setUsed, .selects RX4 yX4_setUsed yX4_setUsed, .initialized RX4, .code yX4_setUsed cX4_setUsed 5 none, .fieldLink RX4 30 "DuctBalance$Machines" "cases" "[I"] ++ wsX60 ++ wsX40 ++ (vx_atS RX6 176 "java/lang/IndexOutOfBoundsException" ["java/lang/RuntimeException", "java/lang/Exception"]).filter goodWord)
def wsX6_fan : List Cond := .code yX6_fan cX6_fan 5 none :: ([.constantDouble RX6 76 (4652007308841189376), .fieldLink RX6 44 "DuctBalance" "solved" "Z", .fieldLink RX6 10 "DuctBalance" "air" "LDuctBalance$Air;", .fieldLink RX6 88 "DuctBalance$Air" "fan" "LDuctBalance$Fan;", .fieldLink RX6 92 "DuctBalance$Fan" "strength" "D", .fieldLink RX6 98 "DuctBalance$Fan" "fall" "D", .methodLink RX6 60 yX6_isWithin, .static yX6_isWithin, .initialized RX6, .code yX6_isWithin cX6_isWithin 6 (some .boolean), .methodLink RX6 64 yX6_checkArgument, .static yX6_checkArgument, .code yX6_checkArgument cX6_checkArgument 1 none, .classLink RX6 179 "java/lang/IllegalArgumentException", .initialized "java/lang/IllegalArgumentException"] ++ wsX60 ++ wsX00 ++ wsX20 ++ (vx_atS RX6 183 "java/lang/IllegalArgumentException" ["java/lang/RuntimeException", "java/lang/Exception"]).filter goodWord)
def wsX6_solve_r1 : List Cond := [Cond.fieldLink RX6 10 "DuctBalance" "air" "LDuctBalance$Air;", Cond.fieldLink RX6 44 "DuctBalance" "solved" "Z", Cond.methodLink RX6 52 yX6_checkIndex, Cond.static yX6_checkIndex, Cond.initialized RX6, Cond.code yX6_checkIndex cX6_checkIndex 2 none, Cond.classLink RX6 172 "java/lang/IndexOutOfBoundsException", Cond.initialized "java/lang/IndexOutOfBoundsException", Cond.methodLink RX6 101 yX0_balance, Cond.instanceMethod yX0_balance, Cond.selects RX0 yX0_balance yX0_balance, Cond.initialized RX0, Cond.code yX0_balance cX0_balance 6 (some .int), Cond.fieldLink RX0 21 "DuctBalance$Air" "machines" "LDuctBalance$Machines;", Cond.fieldLink RX0 28 "DuctBalance$Air" "fan" "LDuctBalance$Fan;", Cond.fieldLink RX0 43 "DuctBalance$Fan" "flow" "D", Cond.fieldLink RX0 32 "DuctBalance$Air" "pressure" "[D", Cond.methodLink RX0 39 yX4_openFor, Cond.instanceMethod yX4_openFor, Cond.selects RX4 yX4_openFor yX4_openFor, Cond.initialized RX4, Cond.code yX4_openFor cX4_openFor 3 none, Cond.fieldLink RX4 9 "DuctBalance$Machines" "told" "I", Cond.fieldLink RX4 26 "DuctBalance$Machines" "isOpen" "[Z"]
def wsX6_solve_r2 : List Cond := [Cond.fieldLink RX4 30 "DuctBalance$Machines" "cases" "[I", Cond.fieldLink RX4 23 "DuctBalance$Machines" "gate" "[D", Cond.methodLink RX0 47 yX0_settle, Cond.instanceMethod yX0_settle, Cond.selects RX0 yX0_settle yX0_settle, Cond.code yX0_settle cX0_settle 2 (some .int), Cond.constantDouble RX0 62 (4517110426252607488), Cond.methodLink RX0 55 yX0_weighJoints, Cond.instanceMethod yX0_weighJoints, Cond.selects RX0 yX0_weighJoints yX0_weighJoints, Cond.code yX0_weighJoints cX0_weighJoints 2 none, Cond.fieldLink RX0 36 "DuctBalance$Air" "weight" "[D", Cond.fieldLink RX0 12 "DuctBalance$Air" "ducts" "LDuctBalance$Ducts;", Cond.fieldLink RX0 64 "DuctBalance$Ducts" "ductsOfJoint" "[I", Cond.methodLink RX0 68 yX0_weigh, Cond.instanceMethod yX0_weigh, Cond.selects RX0 yX0_weigh yX0_weigh, Cond.code yX0_weigh cX0_weigh 5 (some .double), Cond.fieldLink RX0 72 "DuctBalance$Ducts" "ease" "[D", Cond.fieldLink RX0 75 "DuctBalance$Ducts" "ofJoint" "[[I", Cond.fieldLink RX0 79 "DuctBalance$Machines" "told" "I", Cond.fieldLink RX0 87 "DuctBalance$Machines" "gate" "[D", Cond.constantDouble RX0 90 (4620693217682128896), Cond.methodLink RX0 83 yX4_isOpenAt]
def wsX6_solve_r3 : List Cond := [Cond.instanceMethod yX4_isOpenAt, Cond.selects RX4 yX4_isOpenAt yX4_isOpenAt, Cond.code yX4_isOpenAt cX4_isOpenAt 3 (some .boolean), Cond.fieldLink RX4 15 "DuctBalance$Machines" "joint" "[I", Cond.methodLink RX0 58 yX0_changeOfRound, Cond.instanceMethod yX0_changeOfRound, Cond.selects RX0 yX0_changeOfRound yX0_changeOfRound, Cond.code yX0_changeOfRound cX0_changeOfRound 8 (some .double), Cond.methodLink RX0 92 yX2_hold, Cond.instanceMethod yX2_hold, Cond.selects RX2 yX2_hold yX2_hold, Cond.initialized RX2, Cond.code yX2_hold cX2_hold 3 (some .double), Cond.fieldLink RX2 9 "DuctBalance$Fan" "strength" "D", Cond.fieldLink RX2 17 "DuctBalance$Fan" "fall" "D", Cond.fieldLink RX2 20 "DuctBalance$Fan" "flow" "D", Cond.methodLink RX0 95 yX0_pull, Cond.instanceMethod yX0_pull, Cond.selects RX0 yX0_pull yX0_pull, Cond.code yX0_pull cX0_pull 6 (some .double), Cond.methodLink RX0 108 yX1_otherEnd, Cond.instanceMethod yX1_otherEnd, Cond.selects RX1 yX1_otherEnd yX1_otherEnd, Cond.initialized RX1]
def wsX6_solve_r4 : List Cond := [Cond.code yX1_otherEnd cX1_otherEnd 3 (some .int), Cond.fieldLink RX1 15 "DuctBalance$Ducts" "first" "[I", Cond.fieldLink RX1 19 "DuctBalance$Ducts" "second" "[I", Cond.static yX6_magnitude, Cond.code yX6_magnitude cX6_magnitude 2 (some .double), Cond.methodLink RX0 102 yX0_flowsTo, Cond.instanceMethod yX0_flowsTo, Cond.selects RX0 yX0_flowsTo yX0_flowsTo, Cond.code yX0_flowsTo cX0_flowsTo 6 (some .double), Cond.static yX6_notBelowZero, Cond.code yX6_notBelowZero cX6_notBelowZero 2 (some .double), Cond.methodLink RX0 51 yX0_closeGates, Cond.instanceMethod yX0_closeGates, Cond.selects RX0 yX0_closeGates yX0_closeGates, Cond.code yX0_closeGates cX0_closeGates 7 (some .boolean), Cond.fieldLink RX0 115 "DuctBalance$Machines" "need" "[D", Cond.fieldLink RX0 118 "DuctBalance$Machines" "isOpen" "[Z", Cond.constantDouble RX0 122 (4652007308841189376), Cond.constantDouble RX0 124 (4652016104934211584), Cond.methodLink RX0 112 yX0_draw, Cond.instanceMethod yX0_draw, Cond.selects RX0 yX0_draw yX0_draw, Cond.code yX0_draw cX0_draw 2 (some .double), Cond.fieldLink RX0 126 "DuctBalance$Machines" "joint" "[I"]
def wsX6_solve : List Cond := .code yX6_solve cX6_solve 3 (some .int) :: ((wsX6_solve_r1 ++ (wsX6_solve_r2 ++ (wsX6_solve_r3 ++ wsX6_solve_r4))) ++ wsX60 ++ wsX00 ++ wsX20 ++ wsX40 ++ wsX10 ++ (vx_atS RX6 176 "java/lang/IndexOutOfBoundsException" ["java/lang/RuntimeException", "java/lang/Exception"]).filter goodWord)
def wsX6_at_r1 : List Cond := [Cond.fieldLink RX6 40 "DuctBalance" "joints" "I", Cond.fieldLink RX6 44 "DuctBalance" "solved" "Z", Cond.fieldLink RX6 10 "DuctBalance" "air" "LDuctBalance$Air;", Cond.fieldLink RX6 105 "DuctBalance$Air" "pressure" "[D", Cond.methodLink RX6 52 yX6_checkIndex, Cond.static yX6_checkIndex, Cond.initialized RX6, Cond.code yX6_checkIndex cX6_checkIndex 2 none, Cond.classLink RX6 172 "java/lang/IndexOutOfBoundsException", Cond.initialized "java/lang/IndexOutOfBoundsException", Cond.methodLink RX6 48 yX6_checkState, Cond.static yX6_checkState, Cond.code yX6_checkState cX6_checkState 1 none, Cond.classLink RX6 184 "java/lang/IllegalStateException", Cond.initialized "java/lang/IllegalStateException", Cond.methodLink RX6 109 yX0_residual, Cond.instanceMethod yX0_residual, Cond.selects RX0 yX0_residual yX0_residual, Cond.initialized RX0, Cond.code yX0_residual cX0_residual 5 (some .double), Cond.fieldLink RX0 21 "DuctBalance$Air" "machines" "LDuctBalance$Machines;", Cond.fieldLink RX0 79 "DuctBalance$Machines" "told" "I", Cond.methodLink RX0 102 yX0_flowsTo, Cond.instanceMethod yX0_flowsTo]
def wsX6_at_r2 : List Cond := [Cond.selects RX0 yX0_flowsTo yX0_flowsTo, Cond.code yX0_flowsTo cX0_flowsTo 6 (some .double), Cond.fieldLink RX0 12 "DuctBalance$Air" "ducts" "LDuctBalance$Ducts;", Cond.fieldLink RX0 64 "DuctBalance$Ducts" "ductsOfJoint" "[I", Cond.fieldLink RX0 75 "DuctBalance$Ducts" "ofJoint" "[[I", Cond.fieldLink RX0 72 "DuctBalance$Ducts" "ease" "[D", Cond.fieldLink RX0 32 "DuctBalance$Air" "pressure" "[D", Cond.methodLink RX0 108 yX1_otherEnd, Cond.instanceMethod yX1_otherEnd, Cond.selects RX1 yX1_otherEnd yX1_otherEnd, Cond.initialized RX1, Cond.code yX1_otherEnd cX1_otherEnd 3 (some .int), Cond.fieldLink RX1 15 "DuctBalance$Ducts" "first" "[I", Cond.fieldLink RX1 19 "DuctBalance$Ducts" "second" "[I", Cond.methodLink RX0 83 yX4_isOpenAt, Cond.instanceMethod yX4_isOpenAt, Cond.selects RX4 yX4_isOpenAt yX4_isOpenAt, Cond.initialized RX4, Cond.code yX4_isOpenAt cX4_isOpenAt 3 (some .boolean), Cond.fieldLink RX4 26 "DuctBalance$Machines" "isOpen" "[Z", Cond.fieldLink RX4 15 "DuctBalance$Machines" "joint" "[I", Cond.methodLink RX0 112 yX0_draw, Cond.instanceMethod yX0_draw, Cond.selects RX0 yX0_draw yX0_draw]
def wsX6_at_r3 : List Cond := [Cond.code yX0_draw cX0_draw 2 (some .double), Cond.fieldLink RX0 118 "DuctBalance$Machines" "isOpen" "[Z", Cond.fieldLink RX0 87 "DuctBalance$Machines" "gate" "[D", Cond.constantDouble RX0 90 (4620693217682128896), Cond.fieldLink RX0 126 "DuctBalance$Machines" "joint" "[I", Cond.static yX6_notBelowZero, Cond.code yX6_notBelowZero cX6_notBelowZero 2 (some .double)]
def wsX6_at : List Cond := .code yX6_at cX6_at 3 (some .double) :: ((wsX6_at_r1 ++ (wsX6_at_r2 ++ wsX6_at_r3)) ++ wsX60 ++ wsX00 ++ wsX40 ++ wsX10 ++ (vx_atS RX6 176 "java/lang/IndexOutOfBoundsException" ["java/lang/RuntimeException", "java/lang/Exception"]).filter goodWord ++ (vx_atS RX6 188 "java/lang/IllegalStateException" ["java/lang/RuntimeException", "java/lang/Exception"]).filter goodWord)
def wsX6_of_r1 : List Cond := [Cond.fieldLink RX6 20 "DuctBalance" "ducts" "LDuctBalance$Ducts;", Cond.fieldLink RX6 67 "DuctBalance$Ducts" "told" "I", Cond.fieldLink RX6 44 "DuctBalance" "solved" "Z", Cond.fieldLink RX6 10 "DuctBalance" "air" "LDuctBalance$Air;", Cond.fieldLink RX6 119 "DuctBalance$Ducts" "ease" "[D", Cond.fieldLink RX6 29 "DuctBalance" "leaks" "LDuctBalance$Leaks;", Cond.fieldLink RX6 122 "DuctBalance$Leaks" "leak" "[D", Cond.methodLink RX6 52 yX6_checkIndex, Cond.static yX6_checkIndex, Cond.initialized RX6, Cond.code yX6_checkIndex cX6_checkIndex 2 none, Cond.classLink RX6 172 "java/lang/IndexOutOfBoundsException", Cond.initialized "java/lang/IndexOutOfBoundsException", Cond.methodLink RX6 48 yX6_checkState, Cond.static yX6_checkState, Cond.code yX6_checkState cX6_checkState 1 none, Cond.classLink RX6 184 "java/lang/IllegalStateException", Cond.initialized "java/lang/IllegalStateException", Cond.methodLink RX6 113 yX0_flow, Cond.instanceMethod yX0_flow, Cond.selects RX0 yX0_flow yX0_flow, Cond.initialized RX0, Cond.code yX0_flow cX0_flow 2 (some .double), Cond.fieldLink RX0 12 "DuctBalance$Air" "ducts" "LDuctBalance$Ducts;"]
def wsX6_of_r2 : List Cond := [Cond.fieldLink RX0 72 "DuctBalance$Ducts" "ease" "[D", Cond.fieldLink RX0 32 "DuctBalance$Air" "pressure" "[D", Cond.fieldLink RX0 129 "DuctBalance$Ducts" "first" "[I", Cond.fieldLink RX0 132 "DuctBalance$Ducts" "second" "[I", Cond.methodLink RX6 116 yX0_speed, Cond.instanceMethod yX0_speed, Cond.selects RX0 yX0_speed yX0_speed, Cond.code yX0_speed cX0_speed 2 (some .double), Cond.fieldLink RX0 137 "DuctBalance$Ducts" "width" "[D", Cond.methodLink RX0 135 yX0_flow, Cond.static yX6_magnitude, Cond.code yX6_magnitude cX6_magnitude 2 (some .double)]
def wsX6_of : List Cond := .code yX6_of cX6_of 3 (some .double) :: ((wsX6_of_r1 ++ wsX6_of_r2) ++ wsX60 ++ wsX10 ++ wsX30 ++ wsX00 ++ (vx_atS RX6 176 "java/lang/IndexOutOfBoundsException" ["java/lang/RuntimeException", "java/lang/Exception"]).filter goodWord ++ (vx_atS RX6 188 "java/lang/IllegalStateException" ["java/lang/RuntimeException", "java/lang/Exception"]).filter goodWord)
def wsX6_draws_r1 : List Cond := [Cond.fieldLink RX6 25 "DuctBalance" "machines" "LDuctBalance$Machines;", Cond.fieldLink RX6 78 "DuctBalance$Machines" "told" "I", Cond.fieldLink RX6 44 "DuctBalance" "solved" "Z", Cond.fieldLink RX6 125 "DuctBalance$Machines" "gate" "[D", Cond.fieldLink RX6 10 "DuctBalance" "air" "LDuctBalance$Air;", Cond.methodLink RX6 52 yX6_checkIndex, Cond.static yX6_checkIndex, Cond.initialized RX6, Cond.code yX6_checkIndex cX6_checkIndex 2 none, Cond.classLink RX6 172 "java/lang/IndexOutOfBoundsException", Cond.initialized "java/lang/IndexOutOfBoundsException", Cond.methodLink RX6 48 yX6_checkState, Cond.static yX6_checkState, Cond.code yX6_checkState cX6_checkState 1 none, Cond.classLink RX6 184 "java/lang/IllegalStateException", Cond.initialized "java/lang/IllegalStateException", Cond.methodLink RX6 128 yX0_draw, Cond.instanceMethod yX0_draw, Cond.selects RX0 yX0_draw yX0_draw, Cond.initialized RX0, Cond.code yX0_draw cX0_draw 2 (some .double), Cond.fieldLink RX0 21 "DuctBalance$Air" "machines" "LDuctBalance$Machines;", Cond.fieldLink RX0 118 "DuctBalance$Machines" "isOpen" "[Z", Cond.fieldLink RX0 87 "DuctBalance$Machines" "gate" "[D"]
def wsX6_draws_r2 : List Cond := [Cond.constantDouble RX0 90 (4620693217682128896), Cond.fieldLink RX0 32 "DuctBalance$Air" "pressure" "[D", Cond.fieldLink RX0 126 "DuctBalance$Machines" "joint" "[I", Cond.static yX6_notBelowZero, Cond.code yX6_notBelowZero cX6_notBelowZero 2 (some .double)]
def wsX6_draws : List Cond := .code yX6_draws cX6_draws 3 (some .double) :: ((wsX6_draws_r1 ++ wsX6_draws_r2) ++ wsX60 ++ wsX40 ++ wsX00 ++ (vx_atS RX6 176 "java/lang/IndexOutOfBoundsException" ["java/lang/RuntimeException", "java/lang/Exception"]).filter goodWord ++ (vx_atS RX6 188 "java/lang/IllegalStateException" ["java/lang/RuntimeException", "java/lang/Exception"]).filter goodWord)
def wsX6_keeps_r1 : List Cond := [Cond.fieldLink RX6 44 "DuctBalance" "solved" "Z", Cond.fieldLink RX6 10 "DuctBalance" "air" "LDuctBalance$Air;", Cond.methodLink RX6 64 yX6_checkArgument, Cond.static yX6_checkArgument, Cond.initialized RX6, Cond.code yX6_checkArgument cX6_checkArgument 1 none, Cond.classLink RX6 179 "java/lang/IllegalArgumentException", Cond.initialized "java/lang/IllegalArgumentException", Cond.methodLink RX6 48 yX6_checkState, Cond.static yX6_checkState, Cond.code yX6_checkState cX6_checkState 1 none, Cond.classLink RX6 184 "java/lang/IllegalStateException", Cond.initialized "java/lang/IllegalStateException", Cond.methodLink RX6 131 yX0_isEachSpeedAtLeast, Cond.instanceMethod yX0_isEachSpeedAtLeast, Cond.selects RX0 yX0_isEachSpeedAtLeast yX0_isEachSpeedAtLeast, Cond.initialized RX0, Cond.code yX0_isEachSpeedAtLeast cX0_isEachSpeedAtLeast 4 (some .boolean), Cond.fieldLink RX0 12 "DuctBalance$Air" "ducts" "LDuctBalance$Ducts;", Cond.fieldLink RX0 140 "DuctBalance$Ducts" "told" "I", Cond.methodLink RX0 141 yX0_speed, Cond.instanceMethod yX0_speed, Cond.selects RX0 yX0_speed yX0_speed, Cond.code yX0_speed cX0_speed 2 (some .double)]
def wsX6_keeps_r2 : List Cond := [Cond.fieldLink RX0 137 "DuctBalance$Ducts" "width" "[D", Cond.methodLink RX0 135 yX0_flow, Cond.instanceMethod yX0_flow, Cond.selects RX0 yX0_flow yX0_flow, Cond.code yX0_flow cX0_flow 2 (some .double), Cond.fieldLink RX0 72 "DuctBalance$Ducts" "ease" "[D", Cond.fieldLink RX0 32 "DuctBalance$Air" "pressure" "[D", Cond.fieldLink RX0 129 "DuctBalance$Ducts" "first" "[I", Cond.fieldLink RX0 132 "DuctBalance$Ducts" "second" "[I", Cond.static yX6_magnitude, Cond.code yX6_magnitude cX6_magnitude 2 (some .double)]
def wsX6_keeps : List Cond := .code yX6_keeps cX6_keeps 3 (some .boolean) :: ((wsX6_keeps_r1 ++ wsX6_keeps_r2) ++ wsX60 ++ wsX00 ++ wsX10 ++ (vx_atS RX6 183 "java/lang/IllegalArgumentException" ["java/lang/RuntimeException", "java/lang/Exception"]).filter goodWord ++ (vx_atS RX6 188 "java/lang/IllegalStateException" ["java/lang/RuntimeException", "java/lang/Exception"]).filter goodWord)
def wsX6_list_r1 : List Cond := [Cond.constantDouble RX6 56 (4593671619917905920), Cond.constantDouble RX6 58 (4636737291354636288), Cond.constant RX6 135 (1000000), Cond.fieldLink RX6 36 "DuctBalance" "sizes" "LDuctBalance$Sizes;", Cond.fieldLink RX6 136 "DuctBalance$Sizes" "told" "I", Cond.methodLink RX6 60 yX6_isWithin, Cond.static yX6_isWithin, Cond.initialized RX6, Cond.code yX6_isWithin cX6_isWithin 6 (some .boolean), Cond.methodLink RX6 64 yX6_checkArgument, Cond.static yX6_checkArgument, Cond.code yX6_checkArgument cX6_checkArgument 1 none, Cond.classLink RX6 179 "java/lang/IllegalArgumentException", Cond.initialized "java/lang/IllegalArgumentException", Cond.methodLink RX6 48 yX6_checkState, Cond.static yX6_checkState, Cond.code yX6_checkState cX6_checkState 1 none, Cond.classLink RX6 184 "java/lang/IllegalStateException", Cond.initialized "java/lang/IllegalStateException", Cond.methodLink RX6 137 yX5_add, Cond.instanceMethod yX5_add, Cond.selects RX5 yX5_add yX5_add, Cond.initialized RX5, Cond.code yX5_add cX5_add 6 (some .int)]
def wsX6_list_r2 : List Cond := [Cond.fieldLink RX5 9 "DuctBalance$Sizes" "told" "I", Cond.fieldLink RX5 15 "DuctBalance$Sizes" "width" "[D", Cond.fieldLink RX5 19 "DuctBalance$Sizes" "cents" "[I", Cond.fieldLink RX5 23 "DuctBalance$Sizes" "order" "[I"]
def wsX6_list : List Cond := .code yX6_list cX6_list 4 (some .int) :: ((wsX6_list_r1 ++ wsX6_list_r2) ++ wsX60 ++ wsX50 ++ (vx_atS RX6 183 "java/lang/IllegalArgumentException" ["java/lang/RuntimeException", "java/lang/Exception"]).filter goodWord ++ (vx_atS RX6 188 "java/lang/IllegalStateException" ["java/lang/RuntimeException", "java/lang/Exception"]).filter goodWord)
def wsX6_size_r1 : List Cond := [Cond.fieldLink RX6 36 "DuctBalance" "sizes" "LDuctBalance$Sizes;", Cond.fieldLink RX6 136 "DuctBalance$Sizes" "told" "I", Cond.fieldLink RX6 140 "DuctBalance$Sizes" "order" "[I", Cond.fieldLink RX6 20 "DuctBalance" "ducts" "LDuctBalance$Ducts;", Cond.fieldLink RX6 144 "DuctBalance$Sizes" "width" "[D", Cond.fieldLink RX6 10 "DuctBalance" "air" "LDuctBalance$Air;", Cond.fieldLink RX6 44 "DuctBalance" "solved" "Z", Cond.methodLink RX6 52 yX6_checkIndex, Cond.static yX6_checkIndex, Cond.initialized RX6, Cond.code yX6_checkIndex cX6_checkIndex 2 none, Cond.classLink RX6 172 "java/lang/IndexOutOfBoundsException", Cond.initialized "java/lang/IndexOutOfBoundsException", Cond.methodLink RX6 48 yX6_checkState, Cond.static yX6_checkState, Cond.code yX6_checkState cX6_checkState 1 none, Cond.classLink RX6 184 "java/lang/IllegalStateException", Cond.initialized "java/lang/IllegalStateException", Cond.methodLink RX6 147 yX1_setWidths, Cond.instanceMethod yX1_setWidths, Cond.selects RX1 yX1_setWidths yX1_setWidths, Cond.initialized RX1, Cond.code yX1_setWidths cX1_setWidths 4 none, Cond.fieldLink RX1 9 "DuctBalance$Ducts" "told" "I"]
def wsX6_size_r2 : List Cond := [Cond.methodLink RX1 40 yX1_setWidth, Cond.instanceMethod yX1_setWidth, Cond.selects RX1 yX1_setWidth yX1_setWidth, Cond.code yX1_setWidth cX1_setWidth 4 none, Cond.fieldLink RX1 26 "DuctBalance$Ducts" "width" "[D", Cond.fieldLink RX1 29 "DuctBalance$Ducts" "ease" "[D", Cond.fieldLink RX1 22 "DuctBalance$Ducts" "length" "[D", Cond.methodLink RX6 101 yX0_balance, Cond.instanceMethod yX0_balance, Cond.selects RX0 yX0_balance yX0_balance, Cond.initialized RX0, Cond.code yX0_balance cX0_balance 6 (some .int), Cond.fieldLink RX0 21 "DuctBalance$Air" "machines" "LDuctBalance$Machines;", Cond.fieldLink RX0 28 "DuctBalance$Air" "fan" "LDuctBalance$Fan;", Cond.fieldLink RX0 43 "DuctBalance$Fan" "flow" "D", Cond.fieldLink RX0 32 "DuctBalance$Air" "pressure" "[D", Cond.methodLink RX0 39 yX4_openFor, Cond.instanceMethod yX4_openFor, Cond.selects RX4 yX4_openFor yX4_openFor, Cond.initialized RX4, Cond.code yX4_openFor cX4_openFor 3 none, Cond.fieldLink RX4 9 "DuctBalance$Machines" "told" "I", Cond.fieldLink RX4 26 "DuctBalance$Machines" "isOpen" "[Z", Cond.fieldLink RX4 30 "DuctBalance$Machines" "cases" "[I"]
def wsX6_size_r3 : List Cond := [Cond.fieldLink RX4 23 "DuctBalance$Machines" "gate" "[D", Cond.methodLink RX0 47 yX0_settle, Cond.instanceMethod yX0_settle, Cond.selects RX0 yX0_settle yX0_settle, Cond.code yX0_settle cX0_settle 2 (some .int), Cond.constantDouble RX0 62 (4517110426252607488), Cond.methodLink RX0 55 yX0_weighJoints, Cond.instanceMethod yX0_weighJoints, Cond.selects RX0 yX0_weighJoints yX0_weighJoints, Cond.code yX0_weighJoints cX0_weighJoints 2 none, Cond.fieldLink RX0 36 "DuctBalance$Air" "weight" "[D", Cond.fieldLink RX0 12 "DuctBalance$Air" "ducts" "LDuctBalance$Ducts;", Cond.fieldLink RX0 64 "DuctBalance$Ducts" "ductsOfJoint" "[I", Cond.methodLink RX0 68 yX0_weigh, Cond.instanceMethod yX0_weigh, Cond.selects RX0 yX0_weigh yX0_weigh, Cond.code yX0_weigh cX0_weigh 5 (some .double), Cond.fieldLink RX0 72 "DuctBalance$Ducts" "ease" "[D", Cond.fieldLink RX0 75 "DuctBalance$Ducts" "ofJoint" "[[I", Cond.fieldLink RX0 79 "DuctBalance$Machines" "told" "I", Cond.fieldLink RX0 87 "DuctBalance$Machines" "gate" "[D", Cond.constantDouble RX0 90 (4620693217682128896), Cond.methodLink RX0 83 yX4_isOpenAt, Cond.instanceMethod yX4_isOpenAt]
def wsX6_size_r4 : List Cond := [Cond.selects RX4 yX4_isOpenAt yX4_isOpenAt, Cond.code yX4_isOpenAt cX4_isOpenAt 3 (some .boolean), Cond.fieldLink RX4 15 "DuctBalance$Machines" "joint" "[I", Cond.methodLink RX0 58 yX0_changeOfRound, Cond.instanceMethod yX0_changeOfRound, Cond.selects RX0 yX0_changeOfRound yX0_changeOfRound, Cond.code yX0_changeOfRound cX0_changeOfRound 8 (some .double), Cond.methodLink RX0 92 yX2_hold, Cond.instanceMethod yX2_hold, Cond.selects RX2 yX2_hold yX2_hold, Cond.initialized RX2, Cond.code yX2_hold cX2_hold 3 (some .double), Cond.fieldLink RX2 9 "DuctBalance$Fan" "strength" "D", Cond.fieldLink RX2 17 "DuctBalance$Fan" "fall" "D", Cond.fieldLink RX2 20 "DuctBalance$Fan" "flow" "D", Cond.methodLink RX0 95 yX0_pull, Cond.instanceMethod yX0_pull, Cond.selects RX0 yX0_pull yX0_pull, Cond.code yX0_pull cX0_pull 6 (some .double), Cond.methodLink RX0 108 yX1_otherEnd, Cond.instanceMethod yX1_otherEnd, Cond.selects RX1 yX1_otherEnd yX1_otherEnd, Cond.code yX1_otherEnd cX1_otherEnd 3 (some .int), Cond.fieldLink RX1 15 "DuctBalance$Ducts" "first" "[I"]
def wsX6_size_r5 : List Cond := [Cond.fieldLink RX1 19 "DuctBalance$Ducts" "second" "[I", Cond.static yX6_magnitude, Cond.code yX6_magnitude cX6_magnitude 2 (some .double), Cond.methodLink RX0 102 yX0_flowsTo, Cond.instanceMethod yX0_flowsTo, Cond.selects RX0 yX0_flowsTo yX0_flowsTo, Cond.code yX0_flowsTo cX0_flowsTo 6 (some .double), Cond.static yX6_notBelowZero, Cond.code yX6_notBelowZero cX6_notBelowZero 2 (some .double), Cond.methodLink RX0 51 yX0_closeGates, Cond.instanceMethod yX0_closeGates, Cond.selects RX0 yX0_closeGates yX0_closeGates, Cond.code yX0_closeGates cX0_closeGates 7 (some .boolean), Cond.fieldLink RX0 115 "DuctBalance$Machines" "need" "[D", Cond.fieldLink RX0 118 "DuctBalance$Machines" "isOpen" "[Z", Cond.constantDouble RX0 122 (4652007308841189376), Cond.constantDouble RX0 124 (4652016104934211584), Cond.methodLink RX0 112 yX0_draw, Cond.instanceMethod yX0_draw, Cond.selects RX0 yX0_draw yX0_draw, Cond.code yX0_draw cX0_draw 2 (some .double), Cond.fieldLink RX0 126 "DuctBalance$Machines" "joint" "[I", Cond.methodLink RX6 151 yX0_isEachMachineServed, Cond.instanceMethod yX0_isEachMachineServed]
def wsX6_size_r6 : List Cond := [Cond.selects RX0 yX0_isEachMachineServed yX0_isEachMachineServed, Cond.code yX0_isEachMachineServed cX0_isEachMachineServed 2 (some .boolean), Cond.constantDouble RX0 144 (4606619468846596096)]
def wsX6_size : List Cond := .code yX6_size cX6_size 4 (some .int) :: ((wsX6_size_r1 ++ (wsX6_size_r2 ++ (wsX6_size_r3 ++ (wsX6_size_r4 ++ (wsX6_size_r5 ++ wsX6_size_r6))))) ++ wsX60 ++ wsX50 ++ wsX10 ++ wsX00 ++ wsX20 ++ wsX40 ++ (vx_atS RX6 176 "java/lang/IndexOutOfBoundsException" ["java/lang/RuntimeException", "java/lang/Exception"]).filter goodWord ++ (vx_atS RX6 188 "java/lang/IllegalStateException" ["java/lang/RuntimeException", "java/lang/Exception"]).filter goodWord)
def wsX6_read : List Cond := .code yX6_read cX6_read 4 none :: ([.fieldLink RX6 20 "DuctBalance" "ducts" "LDuctBalance$Ducts;", .fieldLink RX6 67 "DuctBalance$Ducts" "told" "I", .constantDouble RX6 155 (4666723172467343360), .fieldLink RX6 29 "DuctBalance" "leaks" "LDuctBalance$Leaks;", .fieldLink RX6 157 "DuctBalance$Leaks" "reading" "[D", .fieldLink RX6 160 "DuctBalance$Leaks" "isRead" "[Z", .methodLink RX6 52 yX6_checkIndex, .static yX6_checkIndex, .initialized RX6, .code yX6_checkIndex cX6_checkIndex 2 none, .classLink RX6 172 "java/lang/IndexOutOfBoundsException", .initialized "java/lang/IndexOutOfBoundsException", .methodLink RX6 60 yX6_isWithin, .static yX6_isWithin, .code yX6_isWithin cX6_isWithin 6 (some .boolean), .methodLink RX6 64 yX6_checkArgument, .static yX6_checkArgument, .code yX6_checkArgument cX6_checkArgument 1 none, .classLink RX6 179 "java/lang/IllegalArgumentException", .initialized "java/lang/IllegalArgumentException"] ++ wsX60 ++ wsX10 ++ wsX30 ++ (vx_atS RX6 176 "java/lang/IndexOutOfBoundsException" ["java/lang/RuntimeException", "java/lang/Exception"]).filter goodWord ++ (vx_atS RX6 183 "java/lang/IllegalArgumentException" ["java/lang/RuntimeException", "java/lang/Exception"]).filter goodWord)
def wsX6_fit_r1 : List Cond := [Cond.fieldLink RX6 44 "DuctBalance" "solved" "Z", Cond.fieldLink RX6 29 "DuctBalance" "leaks" "LDuctBalance$Leaks;", Cond.fieldLink RX6 10 "DuctBalance" "air" "LDuctBalance$Air;", Cond.methodLink RX6 64 yX6_checkArgument, Cond.static yX6_checkArgument, Cond.initialized RX6, Cond.code yX6_checkArgument cX6_checkArgument 1 none, Cond.classLink RX6 179 "java/lang/IllegalArgumentException", Cond.initialized "java/lang/IllegalArgumentException", Cond.methodLink RX6 48 yX6_checkState, Cond.static yX6_checkState, Cond.code yX6_checkState cX6_checkState 1 none, Cond.classLink RX6 184 "java/lang/IllegalStateException", Cond.initialized "java/lang/IllegalStateException", Cond.methodLink RX6 164 yX3_approach, Cond.instanceMethod yX3_approach, Cond.selects RX3 yX3_approach yX3_approach, Cond.initialized RX3, Cond.code yX3_approach cX3_approach 3 none, Cond.fieldLink RX3 18 "DuctBalance$Leaks" "isRead" "[Z", Cond.fieldLink RX3 9 "DuctBalance$Leaks" "leak" "[D", Cond.constantDouble RX3 26 (4611686018427387904), Cond.methodLink RX3 22 yX3_missing, Cond.instanceMethod yX3_missing]
def wsX6_fit_r2 : List Cond := [Cond.selects RX3 yX3_missing yX3_missing, Cond.code yX3_missing cX3_missing 3 (some .double), Cond.fieldLink RX3 15 "DuctBalance$Leaks" "reading" "[D", Cond.methodLink RX3 32 yX0_flow, Cond.instanceMethod yX0_flow, Cond.selects RX0 yX0_flow yX0_flow, Cond.initialized RX0, Cond.code yX0_flow cX0_flow 2 (some .double), Cond.fieldLink RX0 12 "DuctBalance$Air" "ducts" "LDuctBalance$Ducts;", Cond.fieldLink RX0 72 "DuctBalance$Ducts" "ease" "[D", Cond.fieldLink RX0 32 "DuctBalance$Air" "pressure" "[D", Cond.fieldLink RX0 129 "DuctBalance$Ducts" "first" "[I", Cond.fieldLink RX0 132 "DuctBalance$Ducts" "second" "[I", Cond.static yX6_magnitude, Cond.code yX6_magnitude cX6_magnitude 2 (some .double), Cond.static yX6_notBelowZero, Cond.code yX6_notBelowZero cX6_notBelowZero 2 (some .double), Cond.methodLink RX6 168 yX3_sumOfSquares, Cond.instanceMethod yX3_sumOfSquares, Cond.selects RX3 yX3_sumOfSquares yX3_sumOfSquares, Cond.code yX3_sumOfSquares cX3_sumOfSquares 7 (some .double)]
def wsX6_fit : List Cond := .code yX6_fit cX6_fit 3 (some .double) :: ((wsX6_fit_r1 ++ wsX6_fit_r2) ++ wsX60 ++ wsX30 ++ wsX00 ++ wsX10 ++ (vx_atS RX6 183 "java/lang/IllegalArgumentException" ["java/lang/RuntimeException", "java/lang/Exception"]).filter goodWord ++ (vx_atS RX6 188 "java/lang/IllegalStateException" ["java/lang/RuntimeException", "java/lang/Exception"]).filter goodWord)
def wsX6_count : List Cond := .code yX6_count cX6_count 2 (some .int) :: ([.fieldLink RX6 40 "DuctBalance" "joints" "I", .fieldLink RX6 20 "DuctBalance" "ducts" "LDuctBalance$Ducts;", .fieldLink RX6 67 "DuctBalance$Ducts" "told" "I", .fieldLink RX6 25 "DuctBalance" "machines" "LDuctBalance$Machines;", .fieldLink RX6 78 "DuctBalance$Machines" "told" "I", .fieldLink RX6 36 "DuctBalance" "sizes" "LDuctBalance$Sizes;", .fieldLink RX6 136 "DuctBalance$Sizes" "told" "I", .methodLink RX6 52 yX6_checkIndex, .static yX6_checkIndex, .initialized RX6, .code yX6_checkIndex cX6_checkIndex 2 none, .classLink RX6 172 "java/lang/IndexOutOfBoundsException", .initialized "java/lang/IndexOutOfBoundsException"] ++ wsX60 ++ wsX10 ++ wsX40 ++ wsX50 ++ (vx_atS RX6 176 "java/lang/IndexOutOfBoundsException" ["java/lang/RuntimeException", "java/lang/Exception"]).filter goodWord)
def wsX7_init_r1 : List Cond := [Cond.methodLink RX7 1 objectInit, Cond.instanceMethod objectInit, Cond.code objectInit ⟨#[0xb1]⟩ 1 none, Cond.fieldLink RX7 7 "DuctBalanceModel" "joints" "I", Cond.arrayClass .int, Cond.fieldLink RX7 13 "DuctBalanceModel" "froms" "[I", Cond.fieldLink RX7 17 "DuctBalanceModel" "tos" "[I", Cond.arrayClass .double, Cond.fieldLink RX7 20 "DuctBalanceModel" "lengths" "[D", Cond.fieldLink RX7 24 "DuctBalanceModel" "widths" "[D", Cond.fieldLink RX7 27 "DuctBalanceModel" "leaks" "[D", Cond.arrayClass .boolean, Cond.fieldLink RX7 30 "DuctBalanceModel" "hasReading" "[Z", Cond.fieldLink RX7 34 "DuctBalanceModel" "readings" "[D", Cond.fieldLink RX7 37 "DuctBalanceModel" "stands" "[I", Cond.fieldLink RX7 40 "DuctBalanceModel" "needs" "[D", Cond.fieldLink RX7 43 "DuctBalanceModel" "used" "[Z", Cond.fieldLink RX7 46 "DuctBalanceModel" "gates" "[D", Cond.fieldLink RX7 49 "DuctBalanceModel" "open" "[Z", Cond.constantDouble RX7 52 (4634204016564240384), Cond.fieldLink RX7 54 "DuctBalanceModel" "strength" "D", Cond.constantDouble RX7 58 (4598175219545276416), Cond.fieldLink RX7 60 "DuctBalanceModel" "fall" "D", Cond.fieldLink RX7 63 "DuctBalanceModel" "pressures" "[D"]
def wsX7_init_r2 : List Cond := [Cond.fieldLink RX7 66 "DuctBalanceModel" "sizeWidths" "[D", Cond.fieldLink RX7 69 "DuctBalanceModel" "sizeCents" "[I"]
def wsX7_init : List Cond := .code yX7_init cX7_init 1 none :: ((wsX7_init_r1 ++ wsX7_init_r2) ++ wsX70)
def wsX7_thrown : List Cond := .code yX7_thrown cX7_thrown 1 (some .int) :: ([.fieldLink RX7 72 "DuctBalanceModel" "thrown" "I"] ++ wsX70)
def wsX7_isIn : List Cond := .code yX7_isIn cX7_isIn 3 (some .boolean) :: ([])
def wsX7_between : List Cond := .code yX7_between cX7_between 6 (some .boolean) :: ([])
def wsX7_joint : List Cond := .code yX7_joint cX7_joint 1 (some .int) :: ([.fieldLink RX7 7 "DuctBalanceModel" "joints" "I", .fieldLink RX7 72 "DuctBalanceModel" "thrown" "I", .fieldLink RX7 75 "DuctBalanceModel" "solved" "Z"] ++ wsX70)
def wsX7_isJoint : List Cond := .code yX7_isJoint cX7_isJoint 2 (some .boolean) :: ([.fieldLink RX7 7 "DuctBalanceModel" "joints" "I", .methodLink RX7 79 yX7_isIn, .static yX7_isIn, .initialized RX7, .code yX7_isIn cX7_isIn 3 (some .boolean)] ++ wsX70)
def wsX7_duct : List Cond := .code yX7_duct cX7_duct 8 (some .int) :: ([.constantDouble RX7 83 (4593671619917905920), .constantDouble RX7 85 (4636737291354636288), .fieldLink RX7 95 "DuctBalanceModel" "ducts" "I", .fieldLink RX7 72 "DuctBalanceModel" "thrown" "I", .fieldLink RX7 13 "DuctBalanceModel" "froms" "[I", .fieldLink RX7 17 "DuctBalanceModel" "tos" "[I", .fieldLink RX7 20 "DuctBalanceModel" "lengths" "[D", .fieldLink RX7 24 "DuctBalanceModel" "widths" "[D", .fieldLink RX7 75 "DuctBalanceModel" "solved" "Z", .methodLink RX7 87 yX7_between, .static yX7_between, .initialized RX7, .code yX7_between cX7_between 6 (some .boolean), .methodLink RX7 91 yX7_isJoint, .instanceMethod yX7_isJoint, .selects RX7 yX7_isJoint yX7_isJoint, .code yX7_isJoint cX7_isJoint 2 (some .boolean), .fieldLink RX7 7 "DuctBalanceModel" "joints" "I", .methodLink RX7 79 yX7_isIn, .static yX7_isIn, .code yX7_isIn cX7_isIn 3 (some .boolean)] ++ wsX70)
def wsX7_machine : List Cond := .code yX7_machine cX7_machine 4 (some .int) :: ([.constantDouble RX7 83 (4593671619917905920), .constantDouble RX7 98 (4652007308841189376), .fieldLink RX7 100 "DuctBalanceModel" "machines" "I", .fieldLink RX7 72 "DuctBalanceModel" "thrown" "I", .fieldLink RX7 37 "DuctBalanceModel" "stands" "[I", .fieldLink RX7 40 "DuctBalanceModel" "needs" "[D", .fieldLink RX7 75 "DuctBalanceModel" "solved" "Z", .methodLink RX7 91 yX7_isJoint, .instanceMethod yX7_isJoint, .selects RX7 yX7_isJoint yX7_isJoint, .initialized RX7, .code yX7_isJoint cX7_isJoint 2 (some .boolean), .fieldLink RX7 7 "DuctBalanceModel" "joints" "I", .methodLink RX7 79 yX7_isIn, .static yX7_isIn, .code yX7_isIn cX7_isIn 3 (some .boolean), .methodLink RX7 87 yX7_between, .static yX7_between, .code yX7_between cX7_between 6 (some .boolean)] ++ wsX70)
def wsX7_isMachine : List Cond := .code yX7_isMachine cX7_isMachine 2 (some .boolean) :: ([.fieldLink RX7 100 "DuctBalanceModel" "machines" "I", .methodLink RX7 79 yX7_isIn, .static yX7_isIn, .initialized RX7, .code yX7_isIn cX7_isIn 3 (some .boolean)] ++ wsX70)
def wsX7_use : List Cond := .code yX7_use cX7_use 4 none :: ([.fieldLink RX7 72 "DuctBalanceModel" "thrown" "I", .fieldLink RX7 43 "DuctBalanceModel" "used" "[Z", .fieldLink RX7 75 "DuctBalanceModel" "solved" "Z", .methodLink RX7 79 yX7_isIn, .static yX7_isIn, .initialized RX7, .code yX7_isIn cX7_isIn 3 (some .boolean), .methodLink RX7 103 yX7_isMachine, .instanceMethod yX7_isMachine, .selects RX7 yX7_isMachine yX7_isMachine, .code yX7_isMachine cX7_isMachine 2 (some .boolean), .fieldLink RX7 100 "DuctBalanceModel" "machines" "I"] ++ wsX70)
def wsX7_fan : List Cond := .code yX7_fan cX7_fan 5 none :: ([.constantDouble RX7 98 (4652007308841189376), .fieldLink RX7 72 "DuctBalanceModel" "thrown" "I", .fieldLink RX7 54 "DuctBalanceModel" "strength" "D", .fieldLink RX7 60 "DuctBalanceModel" "fall" "D", .fieldLink RX7 75 "DuctBalanceModel" "solved" "Z", .methodLink RX7 87 yX7_between, .static yX7_between, .initialized RX7, .code yX7_between cX7_between 6 (some .boolean)] ++ wsX70)
def wsX7_ease : List Cond := .code yX7_ease cX7_ease 2 (some .double) :: ([.fieldLink RX7 24 "DuctBalanceModel" "widths" "[D", .fieldLink RX7 20 "DuctBalanceModel" "lengths" "[D"] ++ wsX70)
def wsX7_other : List Cond := .code yX7_other cX7_other 3 (some .int) :: ([.fieldLink RX7 13 "DuctBalanceModel" "froms" "[I", .fieldLink RX7 17 "DuctBalanceModel" "tos" "[I"] ++ wsX70)
def wsX7_balance : List Cond := .code yX7_balance cX7_balance 9 (some .double) :: ([.fieldLink RX7 95 "DuctBalanceModel" "ducts" "I", .fieldLink RX7 63 "DuctBalanceModel" "pressures" "[D", .fieldLink RX7 100 "DuctBalanceModel" "machines" "I", .fieldLink RX7 49 "DuctBalanceModel" "open" "[Z", .fieldLink RX7 37 "DuctBalanceModel" "stands" "[I", .fieldLink RX7 46 "DuctBalanceModel" "gates" "[D", .constantDouble RX7 114 (4620693217682128896), .methodLink RX7 106 yX7_other, .instanceMethod yX7_other, .selects RX7 yX7_other yX7_other, .initialized RX7, .code yX7_other cX7_other 3 (some .int), .fieldLink RX7 13 "DuctBalanceModel" "froms" "[I", .fieldLink RX7 17 "DuctBalanceModel" "tos" "[I", .methodLink RX7 110 yX7_ease, .instanceMethod yX7_ease, .selects RX7 yX7_ease yX7_ease, .code yX7_ease cX7_ease 2 (some .double), .fieldLink RX7 24 "DuctBalanceModel" "widths" "[D", .fieldLink RX7 20 "DuctBalanceModel" "lengths" "[D"] ++ wsX70)
def wsX7_round_r1 : List Cond := [Cond.fieldLink RX7 54 "DuctBalanceModel" "strength" "D", Cond.fieldLink RX7 60 "DuctBalanceModel" "fall" "D", Cond.fieldLink RX7 116 "DuctBalanceModel" "came" "D", Cond.fieldLink RX7 63 "DuctBalanceModel" "pressures" "[D", Cond.fieldLink RX7 7 "DuctBalanceModel" "joints" "I", Cond.fieldLink RX7 95 "DuctBalanceModel" "ducts" "I", Cond.methodLink RX7 119 yX7_balance, Cond.instanceMethod yX7_balance, Cond.selects RX7 yX7_balance yX7_balance, Cond.initialized RX7, Cond.code yX7_balance cX7_balance 9 (some .double), Cond.fieldLink RX7 100 "DuctBalanceModel" "machines" "I", Cond.fieldLink RX7 49 "DuctBalanceModel" "open" "[Z", Cond.fieldLink RX7 37 "DuctBalanceModel" "stands" "[I", Cond.fieldLink RX7 46 "DuctBalanceModel" "gates" "[D", Cond.constantDouble RX7 114 (4620693217682128896), Cond.methodLink RX7 106 yX7_other, Cond.instanceMethod yX7_other, Cond.selects RX7 yX7_other yX7_other, Cond.code yX7_other cX7_other 3 (some .int), Cond.fieldLink RX7 13 "DuctBalanceModel" "froms" "[I", Cond.fieldLink RX7 17 "DuctBalanceModel" "tos" "[I", Cond.methodLink RX7 110 yX7_ease, Cond.instanceMethod yX7_ease]
def wsX7_round_r2 : List Cond := [Cond.selects RX7 yX7_ease yX7_ease, Cond.code yX7_ease cX7_ease 2 (some .double), Cond.fieldLink RX7 24 "DuctBalanceModel" "widths" "[D", Cond.fieldLink RX7 20 "DuctBalanceModel" "lengths" "[D"]
def wsX7_round : List Cond := .code yX7_round cX7_round 10 (some .double) :: ((wsX7_round_r1 ++ wsX7_round_r2) ++ wsX70)
def wsX7_drawOf : List Cond := .code yX7_drawOf cX7_drawOf 4 (some .double) :: ([.fieldLink RX7 49 "DuctBalanceModel" "open" "[Z", .fieldLink RX7 46 "DuctBalanceModel" "gates" "[D", .constantDouble RX7 114 (4620693217682128896), .fieldLink RX7 63 "DuctBalanceModel" "pressures" "[D", .fieldLink RX7 37 "DuctBalanceModel" "stands" "[I"] ++ wsX70)
def wsX7_close : List Cond := .code yX7_close cX7_close 5 (some .boolean) :: ([.fieldLink RX7 100 "DuctBalanceModel" "machines" "I", .fieldLink RX7 49 "DuctBalanceModel" "open" "[Z", .fieldLink RX7 40 "DuctBalanceModel" "needs" "[D", .constantDouble RX7 98 (4652007308841189376), .constantDouble RX7 125 (4652016104934211584), .fieldLink RX7 46 "DuctBalanceModel" "gates" "[D", .methodLink RX7 122 yX7_drawOf, .instanceMethod yX7_drawOf, .selects RX7 yX7_drawOf yX7_drawOf, .initialized RX7, .code yX7_drawOf cX7_drawOf 4 (some .double), .constantDouble RX7 114 (4620693217682128896), .fieldLink RX7 63 "DuctBalanceModel" "pressures" "[D", .fieldLink RX7 37 "DuctBalanceModel" "stands" "[I"] ++ wsX70)
def wsX7_solveNow_r1 : List Cond := [Cond.fieldLink RX7 63 "DuctBalanceModel" "pressures" "[D", Cond.fieldLink RX7 49 "DuctBalanceModel" "open" "[Z", Cond.fieldLink RX7 100 "DuctBalanceModel" "machines" "I", Cond.fieldLink RX7 43 "DuctBalanceModel" "used" "[Z", Cond.fieldLink RX7 46 "DuctBalanceModel" "gates" "[D", Cond.fieldLink RX7 116 "DuctBalanceModel" "came" "D", Cond.fieldLink RX7 75 "DuctBalanceModel" "solved" "Z", Cond.constantDouble RX7 131 (4517110426252607488), Cond.methodLink RX7 127 yX7_round, Cond.instanceMethod yX7_round, Cond.selects RX7 yX7_round yX7_round, Cond.initialized RX7, Cond.code yX7_round cX7_round 10 (some .double), Cond.fieldLink RX7 54 "DuctBalanceModel" "strength" "D", Cond.fieldLink RX7 60 "DuctBalanceModel" "fall" "D", Cond.fieldLink RX7 7 "DuctBalanceModel" "joints" "I", Cond.fieldLink RX7 95 "DuctBalanceModel" "ducts" "I", Cond.methodLink RX7 119 yX7_balance, Cond.instanceMethod yX7_balance, Cond.selects RX7 yX7_balance yX7_balance, Cond.code yX7_balance cX7_balance 9 (some .double), Cond.fieldLink RX7 37 "DuctBalanceModel" "stands" "[I", Cond.constantDouble RX7 114 (4620693217682128896), Cond.methodLink RX7 106 yX7_other]
def wsX7_solveNow_r2 : List Cond := [Cond.instanceMethod yX7_other, Cond.selects RX7 yX7_other yX7_other, Cond.code yX7_other cX7_other 3 (some .int), Cond.fieldLink RX7 13 "DuctBalanceModel" "froms" "[I", Cond.fieldLink RX7 17 "DuctBalanceModel" "tos" "[I", Cond.methodLink RX7 110 yX7_ease, Cond.instanceMethod yX7_ease, Cond.selects RX7 yX7_ease yX7_ease, Cond.code yX7_ease cX7_ease 2 (some .double), Cond.fieldLink RX7 24 "DuctBalanceModel" "widths" "[D", Cond.fieldLink RX7 20 "DuctBalanceModel" "lengths" "[D", Cond.methodLink RX7 133 yX7_close, Cond.instanceMethod yX7_close, Cond.selects RX7 yX7_close yX7_close, Cond.code yX7_close cX7_close 5 (some .boolean), Cond.fieldLink RX7 40 "DuctBalanceModel" "needs" "[D", Cond.constantDouble RX7 98 (4652007308841189376), Cond.constantDouble RX7 125 (4652016104934211584), Cond.methodLink RX7 122 yX7_drawOf, Cond.instanceMethod yX7_drawOf, Cond.selects RX7 yX7_drawOf yX7_drawOf, Cond.code yX7_drawOf cX7_drawOf 4 (some .double)]
def wsX7_solveNow : List Cond := .code yX7_solveNow cX7_solveNow 8 (some .int) :: ((wsX7_solveNow_r1 ++ wsX7_solveNow_r2) ++ wsX70)
def wsX7_solve_r1 : List Cond := [Cond.fieldLink RX7 72 "DuctBalanceModel" "thrown" "I", Cond.methodLink RX7 79 yX7_isIn, Cond.static yX7_isIn, Cond.initialized RX7, Cond.code yX7_isIn cX7_isIn 3 (some .boolean), Cond.methodLink RX7 137 yX7_solveNow, Cond.instanceMethod yX7_solveNow, Cond.selects RX7 yX7_solveNow yX7_solveNow, Cond.code yX7_solveNow cX7_solveNow 8 (some .int), Cond.fieldLink RX7 63 "DuctBalanceModel" "pressures" "[D", Cond.fieldLink RX7 49 "DuctBalanceModel" "open" "[Z", Cond.fieldLink RX7 100 "DuctBalanceModel" "machines" "I", Cond.fieldLink RX7 43 "DuctBalanceModel" "used" "[Z", Cond.fieldLink RX7 46 "DuctBalanceModel" "gates" "[D", Cond.fieldLink RX7 116 "DuctBalanceModel" "came" "D", Cond.fieldLink RX7 75 "DuctBalanceModel" "solved" "Z", Cond.constantDouble RX7 131 (4517110426252607488), Cond.methodLink RX7 127 yX7_round, Cond.instanceMethod yX7_round, Cond.selects RX7 yX7_round yX7_round, Cond.code yX7_round cX7_round 10 (some .double), Cond.fieldLink RX7 54 "DuctBalanceModel" "strength" "D", Cond.fieldLink RX7 60 "DuctBalanceModel" "fall" "D", Cond.fieldLink RX7 7 "DuctBalanceModel" "joints" "I"]
def wsX7_solve_r2 : List Cond := [Cond.fieldLink RX7 95 "DuctBalanceModel" "ducts" "I", Cond.methodLink RX7 119 yX7_balance, Cond.instanceMethod yX7_balance, Cond.selects RX7 yX7_balance yX7_balance, Cond.code yX7_balance cX7_balance 9 (some .double), Cond.fieldLink RX7 37 "DuctBalanceModel" "stands" "[I", Cond.constantDouble RX7 114 (4620693217682128896), Cond.methodLink RX7 106 yX7_other, Cond.instanceMethod yX7_other, Cond.selects RX7 yX7_other yX7_other, Cond.code yX7_other cX7_other 3 (some .int), Cond.fieldLink RX7 13 "DuctBalanceModel" "froms" "[I", Cond.fieldLink RX7 17 "DuctBalanceModel" "tos" "[I", Cond.methodLink RX7 110 yX7_ease, Cond.instanceMethod yX7_ease, Cond.selects RX7 yX7_ease yX7_ease, Cond.code yX7_ease cX7_ease 2 (some .double), Cond.fieldLink RX7 24 "DuctBalanceModel" "widths" "[D", Cond.fieldLink RX7 20 "DuctBalanceModel" "lengths" "[D", Cond.methodLink RX7 133 yX7_close, Cond.instanceMethod yX7_close, Cond.selects RX7 yX7_close yX7_close, Cond.code yX7_close cX7_close 5 (some .boolean), Cond.fieldLink RX7 40 "DuctBalanceModel" "needs" "[D"]
def wsX7_solve_r3 : List Cond := [Cond.constantDouble RX7 98 (4652007308841189376), Cond.constantDouble RX7 125 (4652016104934211584), Cond.methodLink RX7 122 yX7_drawOf, Cond.instanceMethod yX7_drawOf, Cond.selects RX7 yX7_drawOf yX7_drawOf, Cond.code yX7_drawOf cX7_drawOf 4 (some .double)]
def wsX7_solve : List Cond := .code yX7_solve cX7_solve 2 (some .int) :: ((wsX7_solve_r1 ++ (wsX7_solve_r2 ++ wsX7_solve_r3)) ++ wsX70)
def wsX7_flowOf : List Cond := .code yX7_flowOf cX7_flowOf 2 (some .double) :: ([.fieldLink RX7 63 "DuctBalanceModel" "pressures" "[D", .fieldLink RX7 13 "DuctBalanceModel" "froms" "[I", .fieldLink RX7 17 "DuctBalanceModel" "tos" "[I", .methodLink RX7 110 yX7_ease, .instanceMethod yX7_ease, .selects RX7 yX7_ease yX7_ease, .initialized RX7, .code yX7_ease cX7_ease 2 (some .double), .fieldLink RX7 24 "DuctBalanceModel" "widths" "[D", .fieldLink RX7 20 "DuctBalanceModel" "lengths" "[D"] ++ wsX70)
def wsX7_isWrong : List Cond := .code yX7_isWrong cX7_isWrong 2 (some .boolean) :: ([.fieldLink RX7 75 "DuctBalanceModel" "solved" "Z", .fieldLink RX7 72 "DuctBalanceModel" "thrown" "I"] ++ wsX70)
def wsX7_at_r1 : List Cond := [Cond.fieldLink RX7 63 "DuctBalanceModel" "pressures" "[D", Cond.fieldLink RX7 95 "DuctBalanceModel" "ducts" "I", Cond.fieldLink RX7 17 "DuctBalanceModel" "tos" "[I", Cond.fieldLink RX7 13 "DuctBalanceModel" "froms" "[I", Cond.fieldLink RX7 100 "DuctBalanceModel" "machines" "I", Cond.fieldLink RX7 49 "DuctBalanceModel" "open" "[Z", Cond.fieldLink RX7 37 "DuctBalanceModel" "stands" "[I", Cond.methodLink RX7 91 yX7_isJoint, Cond.instanceMethod yX7_isJoint, Cond.selects RX7 yX7_isJoint yX7_isJoint, Cond.initialized RX7, Cond.code yX7_isJoint cX7_isJoint 2 (some .boolean), Cond.fieldLink RX7 7 "DuctBalanceModel" "joints" "I", Cond.methodLink RX7 79 yX7_isIn, Cond.static yX7_isIn, Cond.code yX7_isIn cX7_isIn 3 (some .boolean), Cond.methodLink RX7 141 yX7_isWrong, Cond.instanceMethod yX7_isWrong, Cond.selects RX7 yX7_isWrong yX7_isWrong, Cond.code yX7_isWrong cX7_isWrong 2 (some .boolean), Cond.fieldLink RX7 75 "DuctBalanceModel" "solved" "Z", Cond.fieldLink RX7 72 "DuctBalanceModel" "thrown" "I", Cond.methodLink RX7 145 yX7_flowOf, Cond.instanceMethod yX7_flowOf]
def wsX7_at_r2 : List Cond := [Cond.selects RX7 yX7_flowOf yX7_flowOf, Cond.code yX7_flowOf cX7_flowOf 2 (some .double), Cond.methodLink RX7 110 yX7_ease, Cond.instanceMethod yX7_ease, Cond.selects RX7 yX7_ease yX7_ease, Cond.code yX7_ease cX7_ease 2 (some .double), Cond.fieldLink RX7 24 "DuctBalanceModel" "widths" "[D", Cond.fieldLink RX7 20 "DuctBalanceModel" "lengths" "[D", Cond.methodLink RX7 122 yX7_drawOf, Cond.instanceMethod yX7_drawOf, Cond.selects RX7 yX7_drawOf yX7_drawOf, Cond.code yX7_drawOf cX7_drawOf 4 (some .double), Cond.fieldLink RX7 46 "DuctBalanceModel" "gates" "[D", Cond.constantDouble RX7 114 (4620693217682128896)]
def wsX7_at : List Cond := .code yX7_at cX7_at 6 (some .double) :: ((wsX7_at_r1 ++ wsX7_at_r2) ++ wsX70)
def wsX7_sizeOf : List Cond := .code yX7_sizeOf cX7_sizeOf 2 (some .double) :: ([])
def wsX7_speedOf : List Cond := .code yX7_speedOf cX7_speedOf 2 (some .double) :: ([.fieldLink RX7 24 "DuctBalanceModel" "widths" "[D", .methodLink RX7 145 yX7_flowOf, .instanceMethod yX7_flowOf, .selects RX7 yX7_flowOf yX7_flowOf, .initialized RX7, .code yX7_flowOf cX7_flowOf 2 (some .double), .fieldLink RX7 63 "DuctBalanceModel" "pressures" "[D", .fieldLink RX7 13 "DuctBalanceModel" "froms" "[I", .fieldLink RX7 17 "DuctBalanceModel" "tos" "[I", .methodLink RX7 110 yX7_ease, .instanceMethod yX7_ease, .selects RX7 yX7_ease yX7_ease, .code yX7_ease cX7_ease 2 (some .double), .fieldLink RX7 20 "DuctBalanceModel" "lengths" "[D", .methodLink RX7 148 yX7_sizeOf, .static yX7_sizeOf, .code yX7_sizeOf cX7_sizeOf 2 (some .double)] ++ wsX70)
def wsX7_of_r1 : List Cond := [Cond.fieldLink RX7 95 "DuctBalanceModel" "ducts" "I", Cond.fieldLink RX7 27 "DuctBalanceModel" "leaks" "[D", Cond.methodLink RX7 79 yX7_isIn, Cond.static yX7_isIn, Cond.initialized RX7, Cond.code yX7_isIn cX7_isIn 3 (some .boolean), Cond.methodLink RX7 141 yX7_isWrong, Cond.instanceMethod yX7_isWrong, Cond.selects RX7 yX7_isWrong yX7_isWrong, Cond.code yX7_isWrong cX7_isWrong 2 (some .boolean), Cond.fieldLink RX7 75 "DuctBalanceModel" "solved" "Z", Cond.fieldLink RX7 72 "DuctBalanceModel" "thrown" "I", Cond.methodLink RX7 145 yX7_flowOf, Cond.instanceMethod yX7_flowOf, Cond.selects RX7 yX7_flowOf yX7_flowOf, Cond.code yX7_flowOf cX7_flowOf 2 (some .double), Cond.fieldLink RX7 63 "DuctBalanceModel" "pressures" "[D", Cond.fieldLink RX7 13 "DuctBalanceModel" "froms" "[I", Cond.fieldLink RX7 17 "DuctBalanceModel" "tos" "[I", Cond.methodLink RX7 110 yX7_ease, Cond.instanceMethod yX7_ease, Cond.selects RX7 yX7_ease yX7_ease, Cond.code yX7_ease cX7_ease 2 (some .double), Cond.fieldLink RX7 24 "DuctBalanceModel" "widths" "[D"]
def wsX7_of_r2 : List Cond := [Cond.fieldLink RX7 20 "DuctBalanceModel" "lengths" "[D", Cond.methodLink RX7 152 yX7_speedOf, Cond.instanceMethod yX7_speedOf, Cond.selects RX7 yX7_speedOf yX7_speedOf, Cond.code yX7_speedOf cX7_speedOf 2 (some .double), Cond.methodLink RX7 148 yX7_sizeOf, Cond.static yX7_sizeOf, Cond.code yX7_sizeOf cX7_sizeOf 2 (some .double)]
def wsX7_of : List Cond := .code yX7_of cX7_of 3 (some .double) :: ((wsX7_of_r1 ++ wsX7_of_r2) ++ wsX70)
def wsX7_draws : List Cond := .code yX7_draws cX7_draws 3 (some .double) :: ([.fieldLink RX7 46 "DuctBalanceModel" "gates" "[D", .methodLink RX7 103 yX7_isMachine, .instanceMethod yX7_isMachine, .selects RX7 yX7_isMachine yX7_isMachine, .initialized RX7, .code yX7_isMachine cX7_isMachine 2 (some .boolean), .fieldLink RX7 100 "DuctBalanceModel" "machines" "I", .methodLink RX7 79 yX7_isIn, .static yX7_isIn, .code yX7_isIn cX7_isIn 3 (some .boolean), .methodLink RX7 141 yX7_isWrong, .instanceMethod yX7_isWrong, .selects RX7 yX7_isWrong yX7_isWrong, .code yX7_isWrong cX7_isWrong 2 (some .boolean), .fieldLink RX7 75 "DuctBalanceModel" "solved" "Z", .fieldLink RX7 72 "DuctBalanceModel" "thrown" "I", .methodLink RX7 122 yX7_drawOf, .instanceMethod yX7_drawOf, .selects RX7 yX7_drawOf yX7_drawOf, .code yX7_drawOf cX7_drawOf 4 (some .double), .fieldLink RX7 49 "DuctBalanceModel" "open" "[Z", .constantDouble RX7 114 (4620693217682128896), .fieldLink RX7 63 "DuctBalanceModel" "pressures" "[D", .fieldLink RX7 37 "DuctBalanceModel" "stands" "[I"] ++ wsX70)
def wsX7_keeps : List Cond := .code yX7_keeps cX7_keeps 5 (some .boolean) :: ([.fieldLink RX7 75 "DuctBalanceModel" "solved" "Z", .fieldLink RX7 72 "DuctBalanceModel" "thrown" "I", .fieldLink RX7 95 "DuctBalanceModel" "ducts" "I", .methodLink RX7 152 yX7_speedOf, .instanceMethod yX7_speedOf, .selects RX7 yX7_speedOf yX7_speedOf, .initialized RX7, .code yX7_speedOf cX7_speedOf 2 (some .double), .fieldLink RX7 24 "DuctBalanceModel" "widths" "[D", .methodLink RX7 145 yX7_flowOf, .instanceMethod yX7_flowOf, .selects RX7 yX7_flowOf yX7_flowOf, .code yX7_flowOf cX7_flowOf 2 (some .double), .fieldLink RX7 63 "DuctBalanceModel" "pressures" "[D", .fieldLink RX7 13 "DuctBalanceModel" "froms" "[I", .fieldLink RX7 17 "DuctBalanceModel" "tos" "[I", .methodLink RX7 110 yX7_ease, .instanceMethod yX7_ease, .selects RX7 yX7_ease yX7_ease, .code yX7_ease cX7_ease 2 (some .double), .fieldLink RX7 20 "DuctBalanceModel" "lengths" "[D", .methodLink RX7 148 yX7_sizeOf, .static yX7_sizeOf, .code yX7_sizeOf cX7_sizeOf 2 (some .double)] ++ wsX70)
def wsX7_list : List Cond := .code yX7_list cX7_list 4 (some .int) :: ([.constantDouble RX7 83 (4593671619917905920), .constantDouble RX7 85 (4636737291354636288), .constant RX7 155 (1000000), .fieldLink RX7 156 "DuctBalanceModel" "sizes" "I", .fieldLink RX7 72 "DuctBalanceModel" "thrown" "I", .fieldLink RX7 66 "DuctBalanceModel" "sizeWidths" "[D", .fieldLink RX7 69 "DuctBalanceModel" "sizeCents" "[I", .methodLink RX7 87 yX7_between, .static yX7_between, .initialized RX7, .code yX7_between cX7_between 6 (some .boolean), .methodLink RX7 79 yX7_isIn, .static yX7_isIn, .code yX7_isIn cX7_isIn 3 (some .boolean)] ++ wsX70)
def wsX7_sizeAt : List Cond := .code yX7_sizeAt cX7_sizeAt 5 (some .int) :: ([.fieldLink RX7 156 "DuctBalanceModel" "sizes" "I", .fieldLink RX7 69 "DuctBalanceModel" "sizeCents" "[I"] ++ wsX70)
def wsX7_isEnough : List Cond := .code yX7_isEnough cX7_isEnough 3 (some .boolean) :: ([.fieldLink RX7 100 "DuctBalanceModel" "machines" "I", .fieldLink RX7 49 "DuctBalanceModel" "open" "[Z", .fieldLink RX7 40 "DuctBalanceModel" "needs" "[D", .constantDouble RX7 159 (4606619468846596096), .methodLink RX7 122 yX7_drawOf, .instanceMethod yX7_drawOf, .selects RX7 yX7_drawOf yX7_drawOf, .initialized RX7, .code yX7_drawOf cX7_drawOf 4 (some .double), .fieldLink RX7 46 "DuctBalanceModel" "gates" "[D", .constantDouble RX7 114 (4620693217682128896), .fieldLink RX7 63 "DuctBalanceModel" "pressures" "[D", .fieldLink RX7 37 "DuctBalanceModel" "stands" "[I"] ++ wsX70)
def wsX7_size_r1 : List Cond := [Cond.fieldLink RX7 156 "DuctBalanceModel" "sizes" "I", Cond.fieldLink RX7 72 "DuctBalanceModel" "thrown" "I", Cond.fieldLink RX7 95 "DuctBalanceModel" "ducts" "I", Cond.fieldLink RX7 24 "DuctBalanceModel" "widths" "[D", Cond.fieldLink RX7 66 "DuctBalanceModel" "sizeWidths" "[D", Cond.methodLink RX7 79 yX7_isIn, Cond.static yX7_isIn, Cond.initialized RX7, Cond.code yX7_isIn cX7_isIn 3 (some .boolean), Cond.methodLink RX7 161 yX7_sizeAt, Cond.instanceMethod yX7_sizeAt, Cond.selects RX7 yX7_sizeAt yX7_sizeAt, Cond.code yX7_sizeAt cX7_sizeAt 5 (some .int), Cond.fieldLink RX7 69 "DuctBalanceModel" "sizeCents" "[I", Cond.methodLink RX7 137 yX7_solveNow, Cond.instanceMethod yX7_solveNow, Cond.selects RX7 yX7_solveNow yX7_solveNow, Cond.code yX7_solveNow cX7_solveNow 8 (some .int), Cond.fieldLink RX7 63 "DuctBalanceModel" "pressures" "[D", Cond.fieldLink RX7 49 "DuctBalanceModel" "open" "[Z", Cond.fieldLink RX7 100 "DuctBalanceModel" "machines" "I", Cond.fieldLink RX7 43 "DuctBalanceModel" "used" "[Z", Cond.fieldLink RX7 46 "DuctBalanceModel" "gates" "[D", Cond.fieldLink RX7 116 "DuctBalanceModel" "came" "D"]
def wsX7_size_r2 : List Cond := [Cond.fieldLink RX7 75 "DuctBalanceModel" "solved" "Z", Cond.constantDouble RX7 131 (4517110426252607488), Cond.methodLink RX7 127 yX7_round, Cond.instanceMethod yX7_round, Cond.selects RX7 yX7_round yX7_round, Cond.code yX7_round cX7_round 10 (some .double), Cond.fieldLink RX7 54 "DuctBalanceModel" "strength" "D", Cond.fieldLink RX7 60 "DuctBalanceModel" "fall" "D", Cond.fieldLink RX7 7 "DuctBalanceModel" "joints" "I", Cond.methodLink RX7 119 yX7_balance, Cond.instanceMethod yX7_balance, Cond.selects RX7 yX7_balance yX7_balance, Cond.code yX7_balance cX7_balance 9 (some .double), Cond.fieldLink RX7 37 "DuctBalanceModel" "stands" "[I", Cond.constantDouble RX7 114 (4620693217682128896), Cond.methodLink RX7 106 yX7_other, Cond.instanceMethod yX7_other, Cond.selects RX7 yX7_other yX7_other, Cond.code yX7_other cX7_other 3 (some .int), Cond.fieldLink RX7 13 "DuctBalanceModel" "froms" "[I", Cond.fieldLink RX7 17 "DuctBalanceModel" "tos" "[I", Cond.methodLink RX7 110 yX7_ease, Cond.instanceMethod yX7_ease, Cond.selects RX7 yX7_ease yX7_ease]
def wsX7_size_r3 : List Cond := [Cond.code yX7_ease cX7_ease 2 (some .double), Cond.fieldLink RX7 20 "DuctBalanceModel" "lengths" "[D", Cond.methodLink RX7 133 yX7_close, Cond.instanceMethod yX7_close, Cond.selects RX7 yX7_close yX7_close, Cond.code yX7_close cX7_close 5 (some .boolean), Cond.fieldLink RX7 40 "DuctBalanceModel" "needs" "[D", Cond.constantDouble RX7 98 (4652007308841189376), Cond.constantDouble RX7 125 (4652016104934211584), Cond.methodLink RX7 122 yX7_drawOf, Cond.instanceMethod yX7_drawOf, Cond.selects RX7 yX7_drawOf yX7_drawOf, Cond.code yX7_drawOf cX7_drawOf 4 (some .double), Cond.methodLink RX7 164 yX7_isEnough, Cond.instanceMethod yX7_isEnough, Cond.selects RX7 yX7_isEnough yX7_isEnough, Cond.code yX7_isEnough cX7_isEnough 3 (some .boolean), Cond.constantDouble RX7 159 (4606619468846596096)]
def wsX7_size : List Cond := .code yX7_size cX7_size 5 (some .int) :: ((wsX7_size_r1 ++ (wsX7_size_r2 ++ wsX7_size_r3)) ++ wsX70)
def wsX7_read : List Cond := .code yX7_read cX7_read 4 none :: ([.fieldLink RX7 95 "DuctBalanceModel" "ducts" "I", .constantDouble RX7 167 (4666723172467343360), .fieldLink RX7 72 "DuctBalanceModel" "thrown" "I", .fieldLink RX7 30 "DuctBalanceModel" "hasReading" "[Z", .fieldLink RX7 34 "DuctBalanceModel" "readings" "[D", .methodLink RX7 79 yX7_isIn, .static yX7_isIn, .initialized RX7, .code yX7_isIn cX7_isIn 3 (some .boolean), .methodLink RX7 87 yX7_between, .static yX7_between, .code yX7_between cX7_between 6 (some .boolean)] ++ wsX70)
def wsX7_fit_r1 : List Cond := [Cond.fieldLink RX7 75 "DuctBalanceModel" "solved" "Z", Cond.fieldLink RX7 72 "DuctBalanceModel" "thrown" "I", Cond.fieldLink RX7 95 "DuctBalanceModel" "ducts" "I", Cond.fieldLink RX7 30 "DuctBalanceModel" "hasReading" "[Z", Cond.fieldLink RX7 27 "DuctBalanceModel" "leaks" "[D", Cond.fieldLink RX7 34 "DuctBalanceModel" "readings" "[D", Cond.constantDouble RX7 169 (4611686018427387904), Cond.methodLink RX7 79 yX7_isIn, Cond.static yX7_isIn, Cond.initialized RX7, Cond.code yX7_isIn cX7_isIn 3 (some .boolean), Cond.methodLink RX7 145 yX7_flowOf, Cond.instanceMethod yX7_flowOf, Cond.selects RX7 yX7_flowOf yX7_flowOf, Cond.code yX7_flowOf cX7_flowOf 2 (some .double), Cond.fieldLink RX7 63 "DuctBalanceModel" "pressures" "[D", Cond.fieldLink RX7 13 "DuctBalanceModel" "froms" "[I", Cond.fieldLink RX7 17 "DuctBalanceModel" "tos" "[I", Cond.methodLink RX7 110 yX7_ease, Cond.instanceMethod yX7_ease, Cond.selects RX7 yX7_ease yX7_ease, Cond.code yX7_ease cX7_ease 2 (some .double), Cond.fieldLink RX7 24 "DuctBalanceModel" "widths" "[D", Cond.fieldLink RX7 20 "DuctBalanceModel" "lengths" "[D"]
def wsX7_fit_r2 : List Cond := [Cond.methodLink RX7 148 yX7_sizeOf, Cond.static yX7_sizeOf, Cond.code yX7_sizeOf cX7_sizeOf 2 (some .double)]
def wsX7_fit : List Cond := .code yX7_fit cX7_fit 7 (some .double) :: ((wsX7_fit_r1 ++ wsX7_fit_r2) ++ wsX70)
def wsX7_count : List Cond := .code yX7_count cX7_count 2 (some .int) :: ([.fieldLink RX7 72 "DuctBalanceModel" "thrown" "I", .fieldLink RX7 7 "DuctBalanceModel" "joints" "I", .fieldLink RX7 95 "DuctBalanceModel" "ducts" "I", .fieldLink RX7 100 "DuctBalanceModel" "machines" "I", .fieldLink RX7 156 "DuctBalanceModel" "sizes" "I", .methodLink RX7 79 yX7_isIn, .static yX7_isIn, .initialized RX7, .code yX7_isIn cX7_isIn 3 (some .boolean)] ++ wsX70)
def wsL_joint : List Cond := .codeWith yL_joint cL_joint 3 (some .int) [(0, 8, 11, 13)] :: ([.classLink RL 13 "java/lang/IllegalStateException", .methodLink RL 7 yX6_joint, .instanceMethod yX6_joint, .selects RX6 yX6_joint yX6_joint, .initialized RX6, .code yX6_joint cX6_joint 1 (some .int), .fieldLink RX6 40 "DuctBalance" "joints" "I", .fieldLink RX6 44 "DuctBalance" "solved" "Z", .methodLink RX6 48 yX6_checkState, .static yX6_checkState, .code yX6_checkState cX6_checkState 1 none, .classLink RX6 184 "java/lang/IllegalStateException", .initialized "java/lang/IllegalStateException"] ++ wsX60 ++ (vx_atS RX6 188 "java/lang/IllegalStateException" ["java/lang/RuntimeException", "java/lang/Exception"]).filter goodWord)
def wsL_duct_r1 : List Cond := [Cond.classLink RL 19 "java/lang/IndexOutOfBoundsException", Cond.classLink RL 21 "java/lang/IllegalArgumentException", Cond.classLink RL 13 "java/lang/IllegalStateException", Cond.methodLink RL 15 yX6_duct, Cond.instanceMethod yX6_duct, Cond.selects RX6 yX6_duct yX6_duct, Cond.initialized RX6, Cond.code yX6_duct cX6_duct 7 (some .int), Cond.fieldLink RX6 40 "DuctBalance" "joints" "I", Cond.constantDouble RX6 56 (4593671619917905920), Cond.constantDouble RX6 58 (4636737291354636288), Cond.fieldLink RX6 20 "DuctBalance" "ducts" "LDuctBalance$Ducts;", Cond.fieldLink RX6 67 "DuctBalance$Ducts" "told" "I", Cond.fieldLink RX6 44 "DuctBalance" "solved" "Z", Cond.methodLink RX6 52 yX6_checkIndex, Cond.static yX6_checkIndex, Cond.code yX6_checkIndex cX6_checkIndex 2 none, Cond.classLink RX6 172 "java/lang/IndexOutOfBoundsException", Cond.initialized "java/lang/IndexOutOfBoundsException", Cond.methodLink RX6 60 yX6_isWithin, Cond.static yX6_isWithin, Cond.code yX6_isWithin cX6_isWithin 6 (some .boolean), Cond.methodLink RX6 64 yX6_checkArgument, Cond.static yX6_checkArgument]
def wsL_duct_r2 : List Cond := [Cond.code yX6_checkArgument cX6_checkArgument 1 none, Cond.classLink RX6 179 "java/lang/IllegalArgumentException", Cond.initialized "java/lang/IllegalArgumentException", Cond.methodLink RX6 48 yX6_checkState, Cond.static yX6_checkState, Cond.code yX6_checkState cX6_checkState 1 none, Cond.classLink RX6 184 "java/lang/IllegalStateException", Cond.initialized "java/lang/IllegalStateException", Cond.methodLink RX6 72 yX1_add, Cond.instanceMethod yX1_add, Cond.selects RX1 yX1_add yX1_add, Cond.initialized RX1, Cond.code yX1_add cX1_add 8 (some .int), Cond.fieldLink RX1 9 "DuctBalance$Ducts" "told" "I", Cond.fieldLink RX1 15 "DuctBalance$Ducts" "first" "[I", Cond.fieldLink RX1 19 "DuctBalance$Ducts" "second" "[I", Cond.fieldLink RX1 22 "DuctBalance$Ducts" "length" "[D", Cond.methodLink RX1 40 yX1_setWidth, Cond.instanceMethod yX1_setWidth, Cond.selects RX1 yX1_setWidth yX1_setWidth, Cond.code yX1_setWidth cX1_setWidth 4 none, Cond.fieldLink RX1 26 "DuctBalance$Ducts" "width" "[D", Cond.fieldLink RX1 29 "DuctBalance$Ducts" "ease" "[D", Cond.methodLink RX1 44 yX1_hangOn]
def wsL_duct_r3 : List Cond := [Cond.instanceMethod yX1_hangOn, Cond.selects RX1 yX1_hangOn yX1_hangOn, Cond.code yX1_hangOn cX1_hangOn 3 none, Cond.fieldLink RX1 34 "DuctBalance$Ducts" "ofJoint" "[[I", Cond.fieldLink RX1 37 "DuctBalance$Ducts" "ductsOfJoint" "[I"]
def wsL_duct : List Cond := .codeWith yL_duct cL_duct 9 (some .int) [(0, 14, 17, 19), (0, 14, 21, 21), (0, 14, 25, 13)] :: ((wsL_duct_r1 ++ (wsL_duct_r2 ++ wsL_duct_r3)) ++ wsX60 ++ wsX10 ++ (vx_atS RX6 176 "java/lang/IndexOutOfBoundsException" ["java/lang/RuntimeException", "java/lang/Exception"]).filter goodWord ++ (vx_atS RX6 183 "java/lang/IllegalArgumentException" ["java/lang/RuntimeException", "java/lang/Exception"]).filter goodWord ++ (vx_atS RX6 188 "java/lang/IllegalStateException" ["java/lang/RuntimeException", "java/lang/Exception"]).filter goodWord)
def wsL_machine_r1 : List Cond := [Cond.classLink RL 19 "java/lang/IndexOutOfBoundsException", Cond.classLink RL 21 "java/lang/IllegalArgumentException", Cond.classLink RL 13 "java/lang/IllegalStateException", Cond.methodLink RL 23 yX6_machine, Cond.instanceMethod yX6_machine, Cond.selects RX6 yX6_machine yX6_machine, Cond.initialized RX6, Cond.code yX6_machine cX6_machine 4 (some .int), Cond.fieldLink RX6 40 "DuctBalance" "joints" "I", Cond.constantDouble RX6 56 (4593671619917905920), Cond.constantDouble RX6 76 (4652007308841189376), Cond.fieldLink RX6 25 "DuctBalance" "machines" "LDuctBalance$Machines;", Cond.fieldLink RX6 78 "DuctBalance$Machines" "told" "I", Cond.fieldLink RX6 44 "DuctBalance" "solved" "Z", Cond.methodLink RX6 52 yX6_checkIndex, Cond.static yX6_checkIndex, Cond.code yX6_checkIndex cX6_checkIndex 2 none, Cond.classLink RX6 172 "java/lang/IndexOutOfBoundsException", Cond.initialized "java/lang/IndexOutOfBoundsException", Cond.methodLink RX6 60 yX6_isWithin, Cond.static yX6_isWithin, Cond.code yX6_isWithin cX6_isWithin 6 (some .boolean), Cond.methodLink RX6 64 yX6_checkArgument, Cond.static yX6_checkArgument]
def wsL_machine_r2 : List Cond := [Cond.code yX6_checkArgument cX6_checkArgument 1 none, Cond.classLink RX6 179 "java/lang/IllegalArgumentException", Cond.initialized "java/lang/IllegalArgumentException", Cond.methodLink RX6 48 yX6_checkState, Cond.static yX6_checkState, Cond.code yX6_checkState cX6_checkState 1 none, Cond.classLink RX6 184 "java/lang/IllegalStateException", Cond.initialized "java/lang/IllegalStateException", Cond.methodLink RX6 81 yX4_add, Cond.instanceMethod yX4_add, Cond.selects RX4 yX4_add yX4_add, Cond.initialized RX4, Cond.code yX4_add cX4_add 5 (some .int), Cond.fieldLink RX4 9 "DuctBalance$Machines" "told" "I", Cond.fieldLink RX4 15 "DuctBalance$Machines" "joint" "[I", Cond.fieldLink RX4 19 "DuctBalance$Machines" "need" "[D"]
def wsL_machine : List Cond := .codeWith yL_machine cL_machine 6 (some .int) [(0, 11, 14, 19), (0, 11, 18, 21), (0, 11, 22, 13)] :: ((wsL_machine_r1 ++ wsL_machine_r2) ++ wsX60 ++ wsX40 ++ (vx_atS RX6 176 "java/lang/IndexOutOfBoundsException" ["java/lang/RuntimeException", "java/lang/Exception"]).filter goodWord ++ (vx_atS RX6 183 "java/lang/IllegalArgumentException" ["java/lang/RuntimeException", "java/lang/Exception"]).filter goodWord ++ (vx_atS RX6 188 "java/lang/IllegalStateException" ["java/lang/RuntimeException", "java/lang/Exception"]).filter goodWord)
def wsL_use : List Cond := .codeWith yL_use cL_use 5 (some .int) [(0, 7, 10, 19)] :: ([.classLink RL 19 "java/lang/IndexOutOfBoundsException", .methodLink RL 27 yX6_use, .instanceMethod yX6_use, .selects RX6 yX6_use yX6_use, .initialized RX6, .code yX6_use cX6_use 4 none, .fieldLink RX6 25 "DuctBalance" "machines" "LDuctBalance$Machines;", .fieldLink RX6 78 "DuctBalance$Machines" "told" "I", .fieldLink RX6 44 "DuctBalance" "solved" "Z", .methodLink RX6 52 yX6_checkIndex, .static yX6_checkIndex, .code yX6_checkIndex cX6_checkIndex 2 none, .classLink RX6 172 "java/lang/IndexOutOfBoundsException", .initialized "java/lang/IndexOutOfBoundsException", .methodLink RX6 84 yX4_setUsed, .instanceMethod yX4_setUsed, .selects RX4 yX4_setUsed yX4_setUsed, .initialized RX4, .code yX4_setUsed cX4_setUsed 5 none, .fieldLink RX4 30 "DuctBalance$Machines" "cases" "[I"] ++ wsX60 ++ wsX40 ++ (vx_atS RX6 176 "java/lang/IndexOutOfBoundsException" ["java/lang/RuntimeException", "java/lang/Exception"]).filter goodWord)
def wsL_fan : List Cond := .codeWith yL_fan cL_fan 6 (some .int) [(0, 6, 9, 21)] :: ([.classLink RL 21 "java/lang/IllegalArgumentException", .methodLink RL 31 yX6_fan, .instanceMethod yX6_fan, .selects RX6 yX6_fan yX6_fan, .initialized RX6, .code yX6_fan cX6_fan 5 none, .constantDouble RX6 76 (4652007308841189376), .fieldLink RX6 44 "DuctBalance" "solved" "Z", .fieldLink RX6 10 "DuctBalance" "air" "LDuctBalance$Air;", .fieldLink RX6 88 "DuctBalance$Air" "fan" "LDuctBalance$Fan;", .fieldLink RX6 92 "DuctBalance$Fan" "strength" "D", .fieldLink RX6 98 "DuctBalance$Fan" "fall" "D", .methodLink RX6 60 yX6_isWithin, .static yX6_isWithin, .code yX6_isWithin cX6_isWithin 6 (some .boolean), .methodLink RX6 64 yX6_checkArgument, .static yX6_checkArgument, .code yX6_checkArgument cX6_checkArgument 1 none, .classLink RX6 179 "java/lang/IllegalArgumentException", .initialized "java/lang/IllegalArgumentException"] ++ wsX60 ++ wsX00 ++ wsX20 ++ (vx_atS RX6 183 "java/lang/IllegalArgumentException" ["java/lang/RuntimeException", "java/lang/Exception"]).filter goodWord)
def wsL_solve_r1 : List Cond := [Cond.classLink RL 19 "java/lang/IndexOutOfBoundsException", Cond.methodLink RL 35 yX6_solve, Cond.instanceMethod yX6_solve, Cond.selects RX6 yX6_solve yX6_solve, Cond.initialized RX6, Cond.code yX6_solve cX6_solve 3 (some .int), Cond.fieldLink RX6 10 "DuctBalance" "air" "LDuctBalance$Air;", Cond.fieldLink RX6 44 "DuctBalance" "solved" "Z", Cond.methodLink RX6 52 yX6_checkIndex, Cond.static yX6_checkIndex, Cond.code yX6_checkIndex cX6_checkIndex 2 none, Cond.classLink RX6 172 "java/lang/IndexOutOfBoundsException", Cond.initialized "java/lang/IndexOutOfBoundsException", Cond.methodLink RX6 101 yX0_balance, Cond.instanceMethod yX0_balance, Cond.selects RX0 yX0_balance yX0_balance, Cond.initialized RX0, Cond.code yX0_balance cX0_balance 6 (some .int), Cond.fieldLink RX0 21 "DuctBalance$Air" "machines" "LDuctBalance$Machines;", Cond.fieldLink RX0 28 "DuctBalance$Air" "fan" "LDuctBalance$Fan;", Cond.fieldLink RX0 43 "DuctBalance$Fan" "flow" "D", Cond.fieldLink RX0 32 "DuctBalance$Air" "pressure" "[D", Cond.methodLink RX0 39 yX4_openFor, Cond.instanceMethod yX4_openFor]
def wsL_solve_r2 : List Cond := [Cond.selects RX4 yX4_openFor yX4_openFor, Cond.initialized RX4, Cond.code yX4_openFor cX4_openFor 3 none, Cond.fieldLink RX4 9 "DuctBalance$Machines" "told" "I", Cond.fieldLink RX4 26 "DuctBalance$Machines" "isOpen" "[Z", Cond.fieldLink RX4 30 "DuctBalance$Machines" "cases" "[I", Cond.fieldLink RX4 23 "DuctBalance$Machines" "gate" "[D", Cond.methodLink RX0 47 yX0_settle, Cond.instanceMethod yX0_settle, Cond.selects RX0 yX0_settle yX0_settle, Cond.code yX0_settle cX0_settle 2 (some .int), Cond.constantDouble RX0 62 (4517110426252607488), Cond.methodLink RX0 55 yX0_weighJoints, Cond.instanceMethod yX0_weighJoints, Cond.selects RX0 yX0_weighJoints yX0_weighJoints, Cond.code yX0_weighJoints cX0_weighJoints 2 none, Cond.fieldLink RX0 36 "DuctBalance$Air" "weight" "[D", Cond.fieldLink RX0 12 "DuctBalance$Air" "ducts" "LDuctBalance$Ducts;", Cond.fieldLink RX0 64 "DuctBalance$Ducts" "ductsOfJoint" "[I", Cond.methodLink RX0 68 yX0_weigh, Cond.instanceMethod yX0_weigh, Cond.selects RX0 yX0_weigh yX0_weigh, Cond.code yX0_weigh cX0_weigh 5 (some .double), Cond.fieldLink RX0 72 "DuctBalance$Ducts" "ease" "[D"]
def wsL_solve_r3 : List Cond := [Cond.fieldLink RX0 75 "DuctBalance$Ducts" "ofJoint" "[[I", Cond.fieldLink RX0 79 "DuctBalance$Machines" "told" "I", Cond.fieldLink RX0 87 "DuctBalance$Machines" "gate" "[D", Cond.constantDouble RX0 90 (4620693217682128896), Cond.methodLink RX0 83 yX4_isOpenAt, Cond.instanceMethod yX4_isOpenAt, Cond.selects RX4 yX4_isOpenAt yX4_isOpenAt, Cond.code yX4_isOpenAt cX4_isOpenAt 3 (some .boolean), Cond.fieldLink RX4 15 "DuctBalance$Machines" "joint" "[I", Cond.methodLink RX0 58 yX0_changeOfRound, Cond.instanceMethod yX0_changeOfRound, Cond.selects RX0 yX0_changeOfRound yX0_changeOfRound, Cond.code yX0_changeOfRound cX0_changeOfRound 8 (some .double), Cond.methodLink RX0 92 yX2_hold, Cond.instanceMethod yX2_hold, Cond.selects RX2 yX2_hold yX2_hold, Cond.initialized RX2, Cond.code yX2_hold cX2_hold 3 (some .double), Cond.fieldLink RX2 9 "DuctBalance$Fan" "strength" "D", Cond.fieldLink RX2 17 "DuctBalance$Fan" "fall" "D", Cond.fieldLink RX2 20 "DuctBalance$Fan" "flow" "D", Cond.methodLink RX0 95 yX0_pull, Cond.instanceMethod yX0_pull, Cond.selects RX0 yX0_pull yX0_pull]
def wsL_solve_r4 : List Cond := [Cond.code yX0_pull cX0_pull 6 (some .double), Cond.methodLink RX0 108 yX1_otherEnd, Cond.instanceMethod yX1_otherEnd, Cond.selects RX1 yX1_otherEnd yX1_otherEnd, Cond.initialized RX1, Cond.code yX1_otherEnd cX1_otherEnd 3 (some .int), Cond.fieldLink RX1 15 "DuctBalance$Ducts" "first" "[I", Cond.fieldLink RX1 19 "DuctBalance$Ducts" "second" "[I", Cond.static yX6_magnitude, Cond.code yX6_magnitude cX6_magnitude 2 (some .double), Cond.methodLink RX0 102 yX0_flowsTo, Cond.instanceMethod yX0_flowsTo, Cond.selects RX0 yX0_flowsTo yX0_flowsTo, Cond.code yX0_flowsTo cX0_flowsTo 6 (some .double), Cond.static yX6_notBelowZero, Cond.code yX6_notBelowZero cX6_notBelowZero 2 (some .double), Cond.methodLink RX0 51 yX0_closeGates, Cond.instanceMethod yX0_closeGates, Cond.selects RX0 yX0_closeGates yX0_closeGates, Cond.code yX0_closeGates cX0_closeGates 7 (some .boolean), Cond.fieldLink RX0 115 "DuctBalance$Machines" "need" "[D", Cond.fieldLink RX0 118 "DuctBalance$Machines" "isOpen" "[Z", Cond.constantDouble RX0 122 (4652007308841189376), Cond.constantDouble RX0 124 (4652016104934211584)]
def wsL_solve_r5 : List Cond := [Cond.methodLink RX0 112 yX0_draw, Cond.instanceMethod yX0_draw, Cond.selects RX0 yX0_draw yX0_draw, Cond.code yX0_draw cX0_draw 2 (some .double), Cond.fieldLink RX0 126 "DuctBalance$Machines" "joint" "[I"]
def wsL_solve : List Cond := .codeWith yL_solve cL_solve 4 (some .int) [(0, 9, 12, 19)] :: ((wsL_solve_r1 ++ (wsL_solve_r2 ++ (wsL_solve_r3 ++ (wsL_solve_r4 ++ wsL_solve_r5)))) ++ wsX60 ++ wsX00 ++ wsX20 ++ wsX40 ++ wsX10 ++ (vx_atS RX6 176 "java/lang/IndexOutOfBoundsException" ["java/lang/RuntimeException", "java/lang/Exception"]).filter goodWord)
def wsL_at_r1 : List Cond := [Cond.classLink RL 19 "java/lang/IndexOutOfBoundsException", Cond.classLink RL 13 "java/lang/IllegalStateException", Cond.methodLink RL 39 yX6_at, Cond.instanceMethod yX6_at, Cond.selects RX6 yX6_at yX6_at, Cond.initialized RX6, Cond.code yX6_at cX6_at 3 (some .double), Cond.fieldLink RX6 40 "DuctBalance" "joints" "I", Cond.fieldLink RX6 44 "DuctBalance" "solved" "Z", Cond.fieldLink RX6 10 "DuctBalance" "air" "LDuctBalance$Air;", Cond.fieldLink RX6 105 "DuctBalance$Air" "pressure" "[D", Cond.methodLink RX6 52 yX6_checkIndex, Cond.static yX6_checkIndex, Cond.code yX6_checkIndex cX6_checkIndex 2 none, Cond.classLink RX6 172 "java/lang/IndexOutOfBoundsException", Cond.initialized "java/lang/IndexOutOfBoundsException", Cond.methodLink RX6 48 yX6_checkState, Cond.static yX6_checkState, Cond.code yX6_checkState cX6_checkState 1 none, Cond.classLink RX6 184 "java/lang/IllegalStateException", Cond.initialized "java/lang/IllegalStateException", Cond.methodLink RX6 109 yX0_residual, Cond.instanceMethod yX0_residual, Cond.selects RX0 yX0_residual yX0_residual]
def wsL_at_r2 : List Cond := [Cond.initialized RX0, Cond.code yX0_residual cX0_residual 5 (some .double), Cond.fieldLink RX0 21 "DuctBalance$Air" "machines" "LDuctBalance$Machines;", Cond.fieldLink RX0 79 "DuctBalance$Machines" "told" "I", Cond.methodLink RX0 102 yX0_flowsTo, Cond.instanceMethod yX0_flowsTo, Cond.selects RX0 yX0_flowsTo yX0_flowsTo, Cond.code yX0_flowsTo cX0_flowsTo 6 (some .double), Cond.fieldLink RX0 12 "DuctBalance$Air" "ducts" "LDuctBalance$Ducts;", Cond.fieldLink RX0 64 "DuctBalance$Ducts" "ductsOfJoint" "[I", Cond.fieldLink RX0 75 "DuctBalance$Ducts" "ofJoint" "[[I", Cond.fieldLink RX0 72 "DuctBalance$Ducts" "ease" "[D", Cond.fieldLink RX0 32 "DuctBalance$Air" "pressure" "[D", Cond.methodLink RX0 108 yX1_otherEnd, Cond.instanceMethod yX1_otherEnd, Cond.selects RX1 yX1_otherEnd yX1_otherEnd, Cond.initialized RX1, Cond.code yX1_otherEnd cX1_otherEnd 3 (some .int), Cond.fieldLink RX1 15 "DuctBalance$Ducts" "first" "[I", Cond.fieldLink RX1 19 "DuctBalance$Ducts" "second" "[I", Cond.methodLink RX0 83 yX4_isOpenAt, Cond.instanceMethod yX4_isOpenAt, Cond.selects RX4 yX4_isOpenAt yX4_isOpenAt, Cond.initialized RX4]
def wsL_at_r3 : List Cond := [Cond.code yX4_isOpenAt cX4_isOpenAt 3 (some .boolean), Cond.fieldLink RX4 26 "DuctBalance$Machines" "isOpen" "[Z", Cond.fieldLink RX4 15 "DuctBalance$Machines" "joint" "[I", Cond.methodLink RX0 112 yX0_draw, Cond.instanceMethod yX0_draw, Cond.selects RX0 yX0_draw yX0_draw, Cond.code yX0_draw cX0_draw 2 (some .double), Cond.fieldLink RX0 118 "DuctBalance$Machines" "isOpen" "[Z", Cond.fieldLink RX0 87 "DuctBalance$Machines" "gate" "[D", Cond.constantDouble RX0 90 (4620693217682128896), Cond.fieldLink RX0 126 "DuctBalance$Machines" "joint" "[I", Cond.static yX6_notBelowZero, Cond.code yX6_notBelowZero cX6_notBelowZero 2 (some .double)]
def wsL_at : List Cond := .codeWith yL_at cL_at 5 (some .int) [(0, 9, 12, 19), (0, 9, 16, 13)] :: ((wsL_at_r1 ++ (wsL_at_r2 ++ wsL_at_r3)) ++ wsX60 ++ wsX00 ++ wsX40 ++ wsX10 ++ (vx_atS RX6 176 "java/lang/IndexOutOfBoundsException" ["java/lang/RuntimeException", "java/lang/Exception"]).filter goodWord ++ (vx_atS RX6 188 "java/lang/IllegalStateException" ["java/lang/RuntimeException", "java/lang/Exception"]).filter goodWord)
def wsL_of_r1 : List Cond := [Cond.classLink RL 19 "java/lang/IndexOutOfBoundsException", Cond.classLink RL 13 "java/lang/IllegalStateException", Cond.methodLink RL 43 yX6_of, Cond.instanceMethod yX6_of, Cond.selects RX6 yX6_of yX6_of, Cond.initialized RX6, Cond.code yX6_of cX6_of 3 (some .double), Cond.fieldLink RX6 20 "DuctBalance" "ducts" "LDuctBalance$Ducts;", Cond.fieldLink RX6 67 "DuctBalance$Ducts" "told" "I", Cond.fieldLink RX6 44 "DuctBalance" "solved" "Z", Cond.fieldLink RX6 10 "DuctBalance" "air" "LDuctBalance$Air;", Cond.fieldLink RX6 119 "DuctBalance$Ducts" "ease" "[D", Cond.fieldLink RX6 29 "DuctBalance" "leaks" "LDuctBalance$Leaks;", Cond.fieldLink RX6 122 "DuctBalance$Leaks" "leak" "[D", Cond.methodLink RX6 52 yX6_checkIndex, Cond.static yX6_checkIndex, Cond.code yX6_checkIndex cX6_checkIndex 2 none, Cond.classLink RX6 172 "java/lang/IndexOutOfBoundsException", Cond.initialized "java/lang/IndexOutOfBoundsException", Cond.methodLink RX6 48 yX6_checkState, Cond.static yX6_checkState, Cond.code yX6_checkState cX6_checkState 1 none, Cond.classLink RX6 184 "java/lang/IllegalStateException", Cond.initialized "java/lang/IllegalStateException"]
def wsL_of_r2 : List Cond := [Cond.methodLink RX6 113 yX0_flow, Cond.instanceMethod yX0_flow, Cond.selects RX0 yX0_flow yX0_flow, Cond.initialized RX0, Cond.code yX0_flow cX0_flow 2 (some .double), Cond.fieldLink RX0 12 "DuctBalance$Air" "ducts" "LDuctBalance$Ducts;", Cond.fieldLink RX0 72 "DuctBalance$Ducts" "ease" "[D", Cond.fieldLink RX0 32 "DuctBalance$Air" "pressure" "[D", Cond.fieldLink RX0 129 "DuctBalance$Ducts" "first" "[I", Cond.fieldLink RX0 132 "DuctBalance$Ducts" "second" "[I", Cond.methodLink RX6 116 yX0_speed, Cond.instanceMethod yX0_speed, Cond.selects RX0 yX0_speed yX0_speed, Cond.code yX0_speed cX0_speed 2 (some .double), Cond.fieldLink RX0 137 "DuctBalance$Ducts" "width" "[D", Cond.methodLink RX0 135 yX0_flow, Cond.static yX6_magnitude, Cond.code yX6_magnitude cX6_magnitude 2 (some .double)]
def wsL_of : List Cond := .codeWith yL_of cL_of 5 (some .int) [(0, 9, 12, 19), (0, 9, 16, 13)] :: ((wsL_of_r1 ++ wsL_of_r2) ++ wsX60 ++ wsX10 ++ wsX30 ++ wsX00 ++ (vx_atS RX6 176 "java/lang/IndexOutOfBoundsException" ["java/lang/RuntimeException", "java/lang/Exception"]).filter goodWord ++ (vx_atS RX6 188 "java/lang/IllegalStateException" ["java/lang/RuntimeException", "java/lang/Exception"]).filter goodWord)
def wsL_draws_r1 : List Cond := [Cond.classLink RL 19 "java/lang/IndexOutOfBoundsException", Cond.classLink RL 13 "java/lang/IllegalStateException", Cond.methodLink RL 46 yX6_draws, Cond.instanceMethod yX6_draws, Cond.selects RX6 yX6_draws yX6_draws, Cond.initialized RX6, Cond.code yX6_draws cX6_draws 3 (some .double), Cond.fieldLink RX6 25 "DuctBalance" "machines" "LDuctBalance$Machines;", Cond.fieldLink RX6 78 "DuctBalance$Machines" "told" "I", Cond.fieldLink RX6 44 "DuctBalance" "solved" "Z", Cond.fieldLink RX6 125 "DuctBalance$Machines" "gate" "[D", Cond.fieldLink RX6 10 "DuctBalance" "air" "LDuctBalance$Air;", Cond.methodLink RX6 52 yX6_checkIndex, Cond.static yX6_checkIndex, Cond.code yX6_checkIndex cX6_checkIndex 2 none, Cond.classLink RX6 172 "java/lang/IndexOutOfBoundsException", Cond.initialized "java/lang/IndexOutOfBoundsException", Cond.methodLink RX6 48 yX6_checkState, Cond.static yX6_checkState, Cond.code yX6_checkState cX6_checkState 1 none, Cond.classLink RX6 184 "java/lang/IllegalStateException", Cond.initialized "java/lang/IllegalStateException", Cond.methodLink RX6 128 yX0_draw, Cond.instanceMethod yX0_draw]
def wsL_draws_r2 : List Cond := [Cond.selects RX0 yX0_draw yX0_draw, Cond.initialized RX0, Cond.code yX0_draw cX0_draw 2 (some .double), Cond.fieldLink RX0 21 "DuctBalance$Air" "machines" "LDuctBalance$Machines;", Cond.fieldLink RX0 118 "DuctBalance$Machines" "isOpen" "[Z", Cond.fieldLink RX0 87 "DuctBalance$Machines" "gate" "[D", Cond.constantDouble RX0 90 (4620693217682128896), Cond.fieldLink RX0 32 "DuctBalance$Air" "pressure" "[D", Cond.fieldLink RX0 126 "DuctBalance$Machines" "joint" "[I", Cond.static yX6_notBelowZero, Cond.code yX6_notBelowZero cX6_notBelowZero 2 (some .double)]
def wsL_draws : List Cond := .codeWith yL_draws cL_draws 5 (some .int) [(0, 9, 12, 19), (0, 9, 16, 13)] :: ((wsL_draws_r1 ++ wsL_draws_r2) ++ wsX60 ++ wsX40 ++ wsX00 ++ (vx_atS RX6 176 "java/lang/IndexOutOfBoundsException" ["java/lang/RuntimeException", "java/lang/Exception"]).filter goodWord ++ (vx_atS RX6 188 "java/lang/IllegalStateException" ["java/lang/RuntimeException", "java/lang/Exception"]).filter goodWord)
def wsL_keeps_r1 : List Cond := [Cond.classLink RL 21 "java/lang/IllegalArgumentException", Cond.classLink RL 13 "java/lang/IllegalStateException", Cond.methodLink RL 49 yX6_keeps, Cond.instanceMethod yX6_keeps, Cond.selects RX6 yX6_keeps yX6_keeps, Cond.initialized RX6, Cond.code yX6_keeps cX6_keeps 3 (some .boolean), Cond.fieldLink RX6 44 "DuctBalance" "solved" "Z", Cond.fieldLink RX6 10 "DuctBalance" "air" "LDuctBalance$Air;", Cond.methodLink RX6 64 yX6_checkArgument, Cond.static yX6_checkArgument, Cond.code yX6_checkArgument cX6_checkArgument 1 none, Cond.classLink RX6 179 "java/lang/IllegalArgumentException", Cond.initialized "java/lang/IllegalArgumentException", Cond.methodLink RX6 48 yX6_checkState, Cond.static yX6_checkState, Cond.code yX6_checkState cX6_checkState 1 none, Cond.classLink RX6 184 "java/lang/IllegalStateException", Cond.initialized "java/lang/IllegalStateException", Cond.methodLink RX6 131 yX0_isEachSpeedAtLeast, Cond.instanceMethod yX0_isEachSpeedAtLeast, Cond.selects RX0 yX0_isEachSpeedAtLeast yX0_isEachSpeedAtLeast, Cond.initialized RX0, Cond.code yX0_isEachSpeedAtLeast cX0_isEachSpeedAtLeast 4 (some .boolean)]
def wsL_keeps_r2 : List Cond := [Cond.fieldLink RX0 12 "DuctBalance$Air" "ducts" "LDuctBalance$Ducts;", Cond.fieldLink RX0 140 "DuctBalance$Ducts" "told" "I", Cond.methodLink RX0 141 yX0_speed, Cond.instanceMethod yX0_speed, Cond.selects RX0 yX0_speed yX0_speed, Cond.code yX0_speed cX0_speed 2 (some .double), Cond.fieldLink RX0 137 "DuctBalance$Ducts" "width" "[D", Cond.methodLink RX0 135 yX0_flow, Cond.instanceMethod yX0_flow, Cond.selects RX0 yX0_flow yX0_flow, Cond.code yX0_flow cX0_flow 2 (some .double), Cond.fieldLink RX0 72 "DuctBalance$Ducts" "ease" "[D", Cond.fieldLink RX0 32 "DuctBalance$Air" "pressure" "[D", Cond.fieldLink RX0 129 "DuctBalance$Ducts" "first" "[I", Cond.fieldLink RX0 132 "DuctBalance$Ducts" "second" "[I", Cond.static yX6_magnitude, Cond.code yX6_magnitude cX6_magnitude 2 (some .double)]
def wsL_keeps : List Cond := .codeWith yL_keeps cL_keeps 5 (some .int) [(0, 16, 19, 21), (0, 16, 23, 13)] :: ((wsL_keeps_r1 ++ wsL_keeps_r2) ++ wsX60 ++ wsX00 ++ wsX10 ++ (vx_atS RX6 183 "java/lang/IllegalArgumentException" ["java/lang/RuntimeException", "java/lang/Exception"]).filter goodWord ++ (vx_atS RX6 188 "java/lang/IllegalStateException" ["java/lang/RuntimeException", "java/lang/Exception"]).filter goodWord)
def wsL_list_r1 : List Cond := [Cond.classLink RL 21 "java/lang/IllegalArgumentException", Cond.classLink RL 13 "java/lang/IllegalStateException", Cond.methodLink RL 53 yX6_list, Cond.instanceMethod yX6_list, Cond.selects RX6 yX6_list yX6_list, Cond.initialized RX6, Cond.code yX6_list cX6_list 4 (some .int), Cond.constantDouble RX6 56 (4593671619917905920), Cond.constantDouble RX6 58 (4636737291354636288), Cond.constant RX6 135 (1000000), Cond.fieldLink RX6 36 "DuctBalance" "sizes" "LDuctBalance$Sizes;", Cond.fieldLink RX6 136 "DuctBalance$Sizes" "told" "I", Cond.methodLink RX6 60 yX6_isWithin, Cond.static yX6_isWithin, Cond.code yX6_isWithin cX6_isWithin 6 (some .boolean), Cond.methodLink RX6 64 yX6_checkArgument, Cond.static yX6_checkArgument, Cond.code yX6_checkArgument cX6_checkArgument 1 none, Cond.classLink RX6 179 "java/lang/IllegalArgumentException", Cond.initialized "java/lang/IllegalArgumentException", Cond.methodLink RX6 48 yX6_checkState, Cond.static yX6_checkState, Cond.code yX6_checkState cX6_checkState 1 none, Cond.classLink RX6 184 "java/lang/IllegalStateException"]
def wsL_list_r2 : List Cond := [Cond.initialized "java/lang/IllegalStateException", Cond.methodLink RX6 137 yX5_add, Cond.instanceMethod yX5_add, Cond.selects RX5 yX5_add yX5_add, Cond.initialized RX5, Cond.code yX5_add cX5_add 6 (some .int), Cond.fieldLink RX5 9 "DuctBalance$Sizes" "told" "I", Cond.fieldLink RX5 15 "DuctBalance$Sizes" "width" "[D", Cond.fieldLink RX5 19 "DuctBalance$Sizes" "cents" "[I", Cond.fieldLink RX5 23 "DuctBalance$Sizes" "order" "[I"]
def wsL_list : List Cond := .codeWith yL_list cL_list 6 (some .int) [(0, 11, 14, 21), (0, 11, 18, 13)] :: ((wsL_list_r1 ++ wsL_list_r2) ++ wsX60 ++ wsX50 ++ (vx_atS RX6 183 "java/lang/IllegalArgumentException" ["java/lang/RuntimeException", "java/lang/Exception"]).filter goodWord ++ (vx_atS RX6 188 "java/lang/IllegalStateException" ["java/lang/RuntimeException", "java/lang/Exception"]).filter goodWord)
def wsL_size_r1 : List Cond := [Cond.classLink RL 19 "java/lang/IndexOutOfBoundsException", Cond.classLink RL 13 "java/lang/IllegalStateException", Cond.methodLink RL 57 yX6_size, Cond.instanceMethod yX6_size, Cond.selects RX6 yX6_size yX6_size, Cond.initialized RX6, Cond.code yX6_size cX6_size 4 (some .int), Cond.fieldLink RX6 36 "DuctBalance" "sizes" "LDuctBalance$Sizes;", Cond.fieldLink RX6 136 "DuctBalance$Sizes" "told" "I", Cond.fieldLink RX6 140 "DuctBalance$Sizes" "order" "[I", Cond.fieldLink RX6 20 "DuctBalance" "ducts" "LDuctBalance$Ducts;", Cond.fieldLink RX6 144 "DuctBalance$Sizes" "width" "[D", Cond.fieldLink RX6 10 "DuctBalance" "air" "LDuctBalance$Air;", Cond.fieldLink RX6 44 "DuctBalance" "solved" "Z", Cond.methodLink RX6 52 yX6_checkIndex, Cond.static yX6_checkIndex, Cond.code yX6_checkIndex cX6_checkIndex 2 none, Cond.classLink RX6 172 "java/lang/IndexOutOfBoundsException", Cond.initialized "java/lang/IndexOutOfBoundsException", Cond.methodLink RX6 48 yX6_checkState, Cond.static yX6_checkState, Cond.code yX6_checkState cX6_checkState 1 none, Cond.classLink RX6 184 "java/lang/IllegalStateException", Cond.initialized "java/lang/IllegalStateException"]
def wsL_size_r2 : List Cond := [Cond.methodLink RX6 147 yX1_setWidths, Cond.instanceMethod yX1_setWidths, Cond.selects RX1 yX1_setWidths yX1_setWidths, Cond.initialized RX1, Cond.code yX1_setWidths cX1_setWidths 4 none, Cond.fieldLink RX1 9 "DuctBalance$Ducts" "told" "I", Cond.methodLink RX1 40 yX1_setWidth, Cond.instanceMethod yX1_setWidth, Cond.selects RX1 yX1_setWidth yX1_setWidth, Cond.code yX1_setWidth cX1_setWidth 4 none, Cond.fieldLink RX1 26 "DuctBalance$Ducts" "width" "[D", Cond.fieldLink RX1 29 "DuctBalance$Ducts" "ease" "[D", Cond.fieldLink RX1 22 "DuctBalance$Ducts" "length" "[D", Cond.methodLink RX6 101 yX0_balance, Cond.instanceMethod yX0_balance, Cond.selects RX0 yX0_balance yX0_balance, Cond.initialized RX0, Cond.code yX0_balance cX0_balance 6 (some .int), Cond.fieldLink RX0 21 "DuctBalance$Air" "machines" "LDuctBalance$Machines;", Cond.fieldLink RX0 28 "DuctBalance$Air" "fan" "LDuctBalance$Fan;", Cond.fieldLink RX0 43 "DuctBalance$Fan" "flow" "D", Cond.fieldLink RX0 32 "DuctBalance$Air" "pressure" "[D", Cond.methodLink RX0 39 yX4_openFor, Cond.instanceMethod yX4_openFor]
def wsL_size_r3 : List Cond := [Cond.selects RX4 yX4_openFor yX4_openFor, Cond.initialized RX4, Cond.code yX4_openFor cX4_openFor 3 none, Cond.fieldLink RX4 9 "DuctBalance$Machines" "told" "I", Cond.fieldLink RX4 26 "DuctBalance$Machines" "isOpen" "[Z", Cond.fieldLink RX4 30 "DuctBalance$Machines" "cases" "[I", Cond.fieldLink RX4 23 "DuctBalance$Machines" "gate" "[D", Cond.methodLink RX0 47 yX0_settle, Cond.instanceMethod yX0_settle, Cond.selects RX0 yX0_settle yX0_settle, Cond.code yX0_settle cX0_settle 2 (some .int), Cond.constantDouble RX0 62 (4517110426252607488), Cond.methodLink RX0 55 yX0_weighJoints, Cond.instanceMethod yX0_weighJoints, Cond.selects RX0 yX0_weighJoints yX0_weighJoints, Cond.code yX0_weighJoints cX0_weighJoints 2 none, Cond.fieldLink RX0 36 "DuctBalance$Air" "weight" "[D", Cond.fieldLink RX0 12 "DuctBalance$Air" "ducts" "LDuctBalance$Ducts;", Cond.fieldLink RX0 64 "DuctBalance$Ducts" "ductsOfJoint" "[I", Cond.methodLink RX0 68 yX0_weigh, Cond.instanceMethod yX0_weigh, Cond.selects RX0 yX0_weigh yX0_weigh, Cond.code yX0_weigh cX0_weigh 5 (some .double), Cond.fieldLink RX0 72 "DuctBalance$Ducts" "ease" "[D"]
def wsL_size_r4 : List Cond := [Cond.fieldLink RX0 75 "DuctBalance$Ducts" "ofJoint" "[[I", Cond.fieldLink RX0 79 "DuctBalance$Machines" "told" "I", Cond.fieldLink RX0 87 "DuctBalance$Machines" "gate" "[D", Cond.constantDouble RX0 90 (4620693217682128896), Cond.methodLink RX0 83 yX4_isOpenAt, Cond.instanceMethod yX4_isOpenAt, Cond.selects RX4 yX4_isOpenAt yX4_isOpenAt, Cond.code yX4_isOpenAt cX4_isOpenAt 3 (some .boolean), Cond.fieldLink RX4 15 "DuctBalance$Machines" "joint" "[I", Cond.methodLink RX0 58 yX0_changeOfRound, Cond.instanceMethod yX0_changeOfRound, Cond.selects RX0 yX0_changeOfRound yX0_changeOfRound, Cond.code yX0_changeOfRound cX0_changeOfRound 8 (some .double), Cond.methodLink RX0 92 yX2_hold, Cond.instanceMethod yX2_hold, Cond.selects RX2 yX2_hold yX2_hold, Cond.initialized RX2, Cond.code yX2_hold cX2_hold 3 (some .double), Cond.fieldLink RX2 9 "DuctBalance$Fan" "strength" "D", Cond.fieldLink RX2 17 "DuctBalance$Fan" "fall" "D", Cond.fieldLink RX2 20 "DuctBalance$Fan" "flow" "D", Cond.methodLink RX0 95 yX0_pull, Cond.instanceMethod yX0_pull, Cond.selects RX0 yX0_pull yX0_pull]
def wsL_size_r5 : List Cond := [Cond.code yX0_pull cX0_pull 6 (some .double), Cond.methodLink RX0 108 yX1_otherEnd, Cond.instanceMethod yX1_otherEnd, Cond.selects RX1 yX1_otherEnd yX1_otherEnd, Cond.code yX1_otherEnd cX1_otherEnd 3 (some .int), Cond.fieldLink RX1 15 "DuctBalance$Ducts" "first" "[I", Cond.fieldLink RX1 19 "DuctBalance$Ducts" "second" "[I", Cond.static yX6_magnitude, Cond.code yX6_magnitude cX6_magnitude 2 (some .double), Cond.methodLink RX0 102 yX0_flowsTo, Cond.instanceMethod yX0_flowsTo, Cond.selects RX0 yX0_flowsTo yX0_flowsTo, Cond.code yX0_flowsTo cX0_flowsTo 6 (some .double), Cond.static yX6_notBelowZero, Cond.code yX6_notBelowZero cX6_notBelowZero 2 (some .double), Cond.methodLink RX0 51 yX0_closeGates, Cond.instanceMethod yX0_closeGates, Cond.selects RX0 yX0_closeGates yX0_closeGates, Cond.code yX0_closeGates cX0_closeGates 7 (some .boolean), Cond.fieldLink RX0 115 "DuctBalance$Machines" "need" "[D", Cond.fieldLink RX0 118 "DuctBalance$Machines" "isOpen" "[Z", Cond.constantDouble RX0 122 (4652007308841189376), Cond.constantDouble RX0 124 (4652016104934211584), Cond.methodLink RX0 112 yX0_draw]
def wsL_size_r6 : List Cond := [Cond.instanceMethod yX0_draw, Cond.selects RX0 yX0_draw yX0_draw, Cond.code yX0_draw cX0_draw 2 (some .double), Cond.fieldLink RX0 126 "DuctBalance$Machines" "joint" "[I", Cond.methodLink RX6 151 yX0_isEachMachineServed, Cond.instanceMethod yX0_isEachMachineServed, Cond.selects RX0 yX0_isEachMachineServed yX0_isEachMachineServed, Cond.code yX0_isEachMachineServed cX0_isEachMachineServed 2 (some .boolean), Cond.constantDouble RX0 144 (4606619468846596096)]
def wsL_size : List Cond := .codeWith yL_size cL_size 4 (some .int) [(0, 9, 12, 19), (0, 9, 15, 13)] :: ((wsL_size_r1 ++ (wsL_size_r2 ++ (wsL_size_r3 ++ (wsL_size_r4 ++ (wsL_size_r5 ++ wsL_size_r6))))) ++ wsX60 ++ wsX50 ++ wsX10 ++ wsX00 ++ wsX20 ++ wsX40 ++ (vx_atS RX6 176 "java/lang/IndexOutOfBoundsException" ["java/lang/RuntimeException", "java/lang/Exception"]).filter goodWord ++ (vx_atS RX6 188 "java/lang/IllegalStateException" ["java/lang/RuntimeException", "java/lang/Exception"]).filter goodWord)
def wsL_read_r1 : List Cond := [Cond.classLink RL 19 "java/lang/IndexOutOfBoundsException", Cond.classLink RL 21 "java/lang/IllegalArgumentException", Cond.methodLink RL 60 yX6_read, Cond.instanceMethod yX6_read, Cond.selects RX6 yX6_read yX6_read, Cond.initialized RX6, Cond.code yX6_read cX6_read 4 none, Cond.fieldLink RX6 20 "DuctBalance" "ducts" "LDuctBalance$Ducts;", Cond.fieldLink RX6 67 "DuctBalance$Ducts" "told" "I", Cond.constantDouble RX6 155 (4666723172467343360), Cond.fieldLink RX6 29 "DuctBalance" "leaks" "LDuctBalance$Leaks;", Cond.fieldLink RX6 157 "DuctBalance$Leaks" "reading" "[D", Cond.fieldLink RX6 160 "DuctBalance$Leaks" "isRead" "[Z", Cond.methodLink RX6 52 yX6_checkIndex, Cond.static yX6_checkIndex, Cond.code yX6_checkIndex cX6_checkIndex 2 none, Cond.classLink RX6 172 "java/lang/IndexOutOfBoundsException", Cond.initialized "java/lang/IndexOutOfBoundsException", Cond.methodLink RX6 60 yX6_isWithin, Cond.static yX6_isWithin, Cond.code yX6_isWithin cX6_isWithin 6 (some .boolean), Cond.methodLink RX6 64 yX6_checkArgument, Cond.static yX6_checkArgument, Cond.code yX6_checkArgument cX6_checkArgument 1 none]
def wsL_read_r2 : List Cond := [Cond.classLink RX6 179 "java/lang/IllegalArgumentException", Cond.initialized "java/lang/IllegalArgumentException"]
def wsL_read : List Cond := .codeWith yL_read cL_read 5 (some .int) [(0, 6, 9, 19), (0, 6, 13, 21)] :: ((wsL_read_r1 ++ wsL_read_r2) ++ wsX60 ++ wsX10 ++ wsX30 ++ (vx_atS RX6 176 "java/lang/IndexOutOfBoundsException" ["java/lang/RuntimeException", "java/lang/Exception"]).filter goodWord ++ (vx_atS RX6 183 "java/lang/IllegalArgumentException" ["java/lang/RuntimeException", "java/lang/Exception"]).filter goodWord)
def wsL_fit_r1 : List Cond := [Cond.classLink RL 21 "java/lang/IllegalArgumentException", Cond.classLink RL 13 "java/lang/IllegalStateException", Cond.methodLink RL 64 yX6_fit, Cond.instanceMethod yX6_fit, Cond.selects RX6 yX6_fit yX6_fit, Cond.initialized RX6, Cond.code yX6_fit cX6_fit 3 (some .double), Cond.fieldLink RX6 44 "DuctBalance" "solved" "Z", Cond.fieldLink RX6 29 "DuctBalance" "leaks" "LDuctBalance$Leaks;", Cond.fieldLink RX6 10 "DuctBalance" "air" "LDuctBalance$Air;", Cond.methodLink RX6 64 yX6_checkArgument, Cond.static yX6_checkArgument, Cond.code yX6_checkArgument cX6_checkArgument 1 none, Cond.classLink RX6 179 "java/lang/IllegalArgumentException", Cond.initialized "java/lang/IllegalArgumentException", Cond.methodLink RX6 48 yX6_checkState, Cond.static yX6_checkState, Cond.code yX6_checkState cX6_checkState 1 none, Cond.classLink RX6 184 "java/lang/IllegalStateException", Cond.initialized "java/lang/IllegalStateException", Cond.methodLink RX6 164 yX3_approach, Cond.instanceMethod yX3_approach, Cond.selects RX3 yX3_approach yX3_approach, Cond.initialized RX3]
def wsL_fit_r2 : List Cond := [Cond.code yX3_approach cX3_approach 3 none, Cond.fieldLink RX3 18 "DuctBalance$Leaks" "isRead" "[Z", Cond.fieldLink RX3 9 "DuctBalance$Leaks" "leak" "[D", Cond.constantDouble RX3 26 (4611686018427387904), Cond.methodLink RX3 22 yX3_missing, Cond.instanceMethod yX3_missing, Cond.selects RX3 yX3_missing yX3_missing, Cond.code yX3_missing cX3_missing 3 (some .double), Cond.fieldLink RX3 15 "DuctBalance$Leaks" "reading" "[D", Cond.methodLink RX3 32 yX0_flow, Cond.instanceMethod yX0_flow, Cond.selects RX0 yX0_flow yX0_flow, Cond.initialized RX0, Cond.code yX0_flow cX0_flow 2 (some .double), Cond.fieldLink RX0 12 "DuctBalance$Air" "ducts" "LDuctBalance$Ducts;", Cond.fieldLink RX0 72 "DuctBalance$Ducts" "ease" "[D", Cond.fieldLink RX0 32 "DuctBalance$Air" "pressure" "[D", Cond.fieldLink RX0 129 "DuctBalance$Ducts" "first" "[I", Cond.fieldLink RX0 132 "DuctBalance$Ducts" "second" "[I", Cond.static yX6_magnitude, Cond.code yX6_magnitude cX6_magnitude 2 (some .double), Cond.static yX6_notBelowZero, Cond.code yX6_notBelowZero cX6_notBelowZero 2 (some .double), Cond.methodLink RX6 168 yX3_sumOfSquares]
def wsL_fit_r3 : List Cond := [Cond.instanceMethod yX3_sumOfSquares, Cond.selects RX3 yX3_sumOfSquares yX3_sumOfSquares, Cond.code yX3_sumOfSquares cX3_sumOfSquares 7 (some .double)]
def wsL_fit : List Cond := .codeWith yL_fit cL_fit 4 (some .int) [(0, 8, 11, 21), (0, 8, 14, 13)] :: ((wsL_fit_r1 ++ (wsL_fit_r2 ++ wsL_fit_r3)) ++ wsX60 ++ wsX30 ++ wsX00 ++ wsX10 ++ (vx_atS RX6 183 "java/lang/IllegalArgumentException" ["java/lang/RuntimeException", "java/lang/Exception"]).filter goodWord ++ (vx_atS RX6 188 "java/lang/IllegalStateException" ["java/lang/RuntimeException", "java/lang/Exception"]).filter goodWord)
def wsL_count : List Cond := .codeWith yL_count cL_count 4 (some .int) [(0, 9, 12, 19)] :: ([.classLink RL 19 "java/lang/IndexOutOfBoundsException", .methodLink RL 68 yX6_count, .instanceMethod yX6_count, .selects RX6 yX6_count yX6_count, .initialized RX6, .code yX6_count cX6_count 2 (some .int), .fieldLink RX6 40 "DuctBalance" "joints" "I", .fieldLink RX6 20 "DuctBalance" "ducts" "LDuctBalance$Ducts;", .fieldLink RX6 67 "DuctBalance$Ducts" "told" "I", .fieldLink RX6 25 "DuctBalance" "machines" "LDuctBalance$Machines;", .fieldLink RX6 78 "DuctBalance$Machines" "told" "I", .fieldLink RX6 36 "DuctBalance" "sizes" "LDuctBalance$Sizes;", .fieldLink RX6 136 "DuctBalance$Sizes" "told" "I", .methodLink RX6 52 yX6_checkIndex, .static yX6_checkIndex, .code yX6_checkIndex cX6_checkIndex 2 none, .classLink RX6 172 "java/lang/IndexOutOfBoundsException", .initialized "java/lang/IndexOutOfBoundsException"] ++ wsX60 ++ wsX10 ++ wsX40 ++ wsX50 ++ (vx_atS RX6 176 "java/lang/IndexOutOfBoundsException" ["java/lang/RuntimeException", "java/lang/Exception"]).filter goodWord)
def wsL_law0_r1 : List Cond := [Cond.classLink RL 8 RX6, Cond.instantiable RX6 7, Cond.initialized RX6, Cond.classLink RL 72 RX7, Cond.instantiable RX7 24, Cond.initialized RX7, Cond.arrayClass .long, Cond.arrayClass .double, Cond.constantDouble RL 84 (4593671619917905920), Cond.methodLink RL 71 yX6_init, Cond.instanceMethod yX6_init, Cond.code yX6_init cX6_init 1 none, Cond.methodLink RX6 1 objectInit, Cond.instanceMethod objectInit, Cond.code objectInit ⟨#[0xb1]⟩ 1 none, Cond.classLink RX6 7 RX0, Cond.instantiable RX0 5, Cond.initialized RX0, Cond.fieldLink RX6 10 "DuctBalance" "air" "LDuctBalance$Air;", Cond.fieldLink RX6 16 "DuctBalance$Air" "ducts" "LDuctBalance$Ducts;", Cond.fieldLink RX6 20 "DuctBalance" "ducts" "LDuctBalance$Ducts;", Cond.fieldLink RX6 21 "DuctBalance$Air" "machines" "LDuctBalance$Machines;", Cond.fieldLink RX6 25 "DuctBalance" "machines" "LDuctBalance$Machines;", Cond.classLink RX6 26 RX3]
def wsL_law0_r2 : List Cond := [Cond.instantiable RX3 3, Cond.initialized RX3, Cond.fieldLink RX6 29 "DuctBalance" "leaks" "LDuctBalance$Leaks;", Cond.classLink RX6 33 RX5, Cond.instantiable RX5 4, Cond.initialized RX5, Cond.fieldLink RX6 36 "DuctBalance" "sizes" "LDuctBalance$Sizes;", Cond.fieldLink RX6 40 "DuctBalance" "joints" "I", Cond.fieldLink RX6 44 "DuctBalance" "solved" "Z", Cond.instanceMethod yX0_init, Cond.code yX0_init cX0_init 1 none, Cond.methodLink RX0 3 objectInit, Cond.classLink RX0 9 RX1, Cond.instantiable RX1 8, Cond.initialized RX1, Cond.fieldLink RX0 12 "DuctBalance$Air" "ducts" "LDuctBalance$Ducts;", Cond.classLink RX0 18 RX4, Cond.instantiable RX4 6, Cond.initialized RX4, Cond.fieldLink RX0 21 "DuctBalance$Air" "machines" "LDuctBalance$Machines;", Cond.classLink RX0 25 RX2, Cond.instantiable RX2 3, Cond.initialized RX2, Cond.fieldLink RX0 28 "DuctBalance$Air" "fan" "LDuctBalance$Fan;"]
def wsL_law0_r3 : List Cond := [Cond.fieldLink RX0 32 "DuctBalance$Air" "pressure" "[D", Cond.fieldLink RX0 36 "DuctBalance$Air" "weight" "[D", Cond.instanceMethod yX1_init, Cond.code yX1_init cX1_init 1 none, Cond.methodLink RX1 3 objectInit, Cond.fieldLink RX1 9 "DuctBalance$Ducts" "told" "I", Cond.arrayClass .int, Cond.fieldLink RX1 15 "DuctBalance$Ducts" "first" "[I", Cond.fieldLink RX1 19 "DuctBalance$Ducts" "second" "[I", Cond.fieldLink RX1 22 "DuctBalance$Ducts" "length" "[D", Cond.fieldLink RX1 26 "DuctBalance$Ducts" "width" "[D", Cond.fieldLink RX1 29 "DuctBalance$Ducts" "ease" "[D", Cond.classLink RX1 32 "[[I", Cond.fieldLink RX1 34 "DuctBalance$Ducts" "ofJoint" "[[I", Cond.fieldLink RX1 37 "DuctBalance$Ducts" "ductsOfJoint" "[I", Cond.instanceMethod yX4_init, Cond.code yX4_init cX4_init 1 none, Cond.methodLink RX4 3 objectInit, Cond.fieldLink RX4 9 "DuctBalance$Machines" "told" "I", Cond.fieldLink RX4 15 "DuctBalance$Machines" "joint" "[I", Cond.fieldLink RX4 19 "DuctBalance$Machines" "need" "[D", Cond.fieldLink RX4 23 "DuctBalance$Machines" "gate" "[D", Cond.arrayClass .boolean, Cond.fieldLink RX4 26 "DuctBalance$Machines" "isOpen" "[Z"]
def wsL_law0_r4 : List Cond := [Cond.fieldLink RX4 30 "DuctBalance$Machines" "cases" "[I", Cond.instanceMethod yX2_init, Cond.code yX2_init cX2_init 1 none, Cond.methodLink RX2 1 objectInit, Cond.constantDouble RX2 7 (4634204016564240384), Cond.fieldLink RX2 9 "DuctBalance$Fan" "strength" "D", Cond.constantDouble RX2 15 (4598175219545276416), Cond.fieldLink RX2 17 "DuctBalance$Fan" "fall" "D", Cond.fieldLink RX2 20 "DuctBalance$Fan" "flow" "D", Cond.instanceMethod yX3_init, Cond.code yX3_init cX3_init 1 none, Cond.methodLink RX3 3 objectInit, Cond.fieldLink RX3 9 "DuctBalance$Leaks" "leak" "[D", Cond.fieldLink RX3 15 "DuctBalance$Leaks" "reading" "[D", Cond.fieldLink RX3 18 "DuctBalance$Leaks" "isRead" "[Z", Cond.instanceMethod yX5_init, Cond.code yX5_init cX5_init 1 none, Cond.methodLink RX5 3 objectInit, Cond.fieldLink RX5 9 "DuctBalance$Sizes" "told" "I", Cond.fieldLink RX5 15 "DuctBalance$Sizes" "width" "[D", Cond.fieldLink RX5 19 "DuctBalance$Sizes" "cents" "[I", Cond.fieldLink RX5 23 "DuctBalance$Sizes" "order" "[I", Cond.methodLink RL 74 yX7_init, Cond.instanceMethod yX7_init]
def wsL_law0_r5 : List Cond := [Cond.code yX7_init cX7_init 1 none, Cond.methodLink RX7 1 objectInit, Cond.fieldLink RX7 7 "DuctBalanceModel" "joints" "I", Cond.fieldLink RX7 13 "DuctBalanceModel" "froms" "[I", Cond.fieldLink RX7 17 "DuctBalanceModel" "tos" "[I", Cond.fieldLink RX7 20 "DuctBalanceModel" "lengths" "[D", Cond.fieldLink RX7 24 "DuctBalanceModel" "widths" "[D", Cond.fieldLink RX7 27 "DuctBalanceModel" "leaks" "[D", Cond.fieldLink RX7 30 "DuctBalanceModel" "hasReading" "[Z", Cond.fieldLink RX7 34 "DuctBalanceModel" "readings" "[D", Cond.fieldLink RX7 37 "DuctBalanceModel" "stands" "[I", Cond.fieldLink RX7 40 "DuctBalanceModel" "needs" "[D", Cond.fieldLink RX7 43 "DuctBalanceModel" "used" "[Z", Cond.fieldLink RX7 46 "DuctBalanceModel" "gates" "[D", Cond.fieldLink RX7 49 "DuctBalanceModel" "open" "[Z", Cond.constantDouble RX7 52 (4634204016564240384), Cond.fieldLink RX7 54 "DuctBalanceModel" "strength" "D", Cond.constantDouble RX7 58 (4598175219545276416), Cond.fieldLink RX7 60 "DuctBalanceModel" "fall" "D", Cond.fieldLink RX7 63 "DuctBalanceModel" "pressures" "[D", Cond.fieldLink RX7 66 "DuctBalanceModel" "sizeWidths" "[D", Cond.fieldLink RX7 69 "DuctBalanceModel" "sizeCents" "[I", Cond.methodLink RL 75 yL_joint, Cond.static yL_joint]
def wsL_law0_r6 : List Cond := [Cond.initialized RL, Cond.codeWith yL_joint cL_joint 3 (some .int) [(0, 8, 11, 13)], Cond.classLink RL 13 "java/lang/IllegalStateException", Cond.methodLink RL 7 yX6_joint, Cond.instanceMethod yX6_joint, Cond.selects RX6 yX6_joint yX6_joint, Cond.code yX6_joint cX6_joint 1 (some .int), Cond.methodLink RX6 48 yX6_checkState, Cond.static yX6_checkState, Cond.code yX6_checkState cX6_checkState 1 none, Cond.classLink RX6 184 "java/lang/IllegalStateException", Cond.initialized "java/lang/IllegalStateException", Cond.methodLink RL 80 yX7_joint, Cond.instanceMethod yX7_joint, Cond.selects RX7 yX7_joint yX7_joint, Cond.code yX7_joint cX7_joint 1 (some .int), Cond.fieldLink RX7 72 "DuctBalanceModel" "thrown" "I", Cond.fieldLink RX7 75 "DuctBalanceModel" "solved" "Z", Cond.methodLink RL 81 yX7_thrown, Cond.instanceMethod yX7_thrown, Cond.selects RX7 yX7_thrown yX7_thrown, Cond.code yX7_thrown cX7_thrown 1 (some .int), Cond.methodLink RL 86 yL_duct, Cond.static yL_duct]
def wsL_law0_r7 : List Cond := [Cond.codeWith yL_duct cL_duct 9 (some .int) [(0, 14, 17, 19), (0, 14, 21, 21), (0, 14, 25, 13)], Cond.classLink RL 19 "java/lang/IndexOutOfBoundsException", Cond.classLink RL 21 "java/lang/IllegalArgumentException", Cond.methodLink RL 15 yX6_duct, Cond.instanceMethod yX6_duct, Cond.selects RX6 yX6_duct yX6_duct, Cond.code yX6_duct cX6_duct 7 (some .int), Cond.constantDouble RX6 56 (4593671619917905920), Cond.constantDouble RX6 58 (4636737291354636288), Cond.fieldLink RX6 67 "DuctBalance$Ducts" "told" "I", Cond.methodLink RX6 52 yX6_checkIndex, Cond.static yX6_checkIndex, Cond.code yX6_checkIndex cX6_checkIndex 2 none, Cond.classLink RX6 172 "java/lang/IndexOutOfBoundsException", Cond.initialized "java/lang/IndexOutOfBoundsException", Cond.methodLink RX6 60 yX6_isWithin, Cond.static yX6_isWithin, Cond.code yX6_isWithin cX6_isWithin 6 (some .boolean), Cond.methodLink RX6 64 yX6_checkArgument, Cond.static yX6_checkArgument, Cond.code yX6_checkArgument cX6_checkArgument 1 none, Cond.classLink RX6 179 "java/lang/IllegalArgumentException", Cond.initialized "java/lang/IllegalArgumentException", Cond.methodLink RX6 72 yX1_add]
def wsL_law0_r8 : List Cond := [Cond.instanceMethod yX1_add, Cond.selects RX1 yX1_add yX1_add, Cond.code yX1_add cX1_add 8 (some .int), Cond.methodLink RX1 40 yX1_setWidth, Cond.instanceMethod yX1_setWidth, Cond.selects RX1 yX1_setWidth yX1_setWidth, Cond.code yX1_setWidth cX1_setWidth 4 none, Cond.methodLink RX1 44 yX1_hangOn, Cond.instanceMethod yX1_hangOn, Cond.selects RX1 yX1_hangOn yX1_hangOn, Cond.code yX1_hangOn cX1_hangOn 3 none, Cond.methodLink RL 89 yX7_duct, Cond.instanceMethod yX7_duct, Cond.selects RX7 yX7_duct yX7_duct, Cond.code yX7_duct cX7_duct 8 (some .int), Cond.constantDouble RX7 83 (4593671619917905920), Cond.constantDouble RX7 85 (4636737291354636288), Cond.fieldLink RX7 95 "DuctBalanceModel" "ducts" "I", Cond.methodLink RX7 87 yX7_between, Cond.static yX7_between, Cond.code yX7_between cX7_between 6 (some .boolean), Cond.methodLink RX7 91 yX7_isJoint, Cond.instanceMethod yX7_isJoint, Cond.selects RX7 yX7_isJoint yX7_isJoint]
def wsL_law0_r9 : List Cond := [Cond.code yX7_isJoint cX7_isJoint 2 (some .boolean), Cond.methodLink RX7 79 yX7_isIn, Cond.static yX7_isIn, Cond.code yX7_isIn cX7_isIn 3 (some .boolean), Cond.methodLink RL 90 yL_machine, Cond.static yL_machine, Cond.codeWith yL_machine cL_machine 6 (some .int) [(0, 11, 14, 19), (0, 11, 18, 21), (0, 11, 22, 13)], Cond.methodLink RL 23 yX6_machine, Cond.instanceMethod yX6_machine, Cond.selects RX6 yX6_machine yX6_machine, Cond.code yX6_machine cX6_machine 4 (some .int), Cond.constantDouble RX6 76 (4652007308841189376), Cond.fieldLink RX6 78 "DuctBalance$Machines" "told" "I", Cond.methodLink RX6 81 yX4_add, Cond.instanceMethod yX4_add, Cond.selects RX4 yX4_add yX4_add, Cond.code yX4_add cX4_add 5 (some .int), Cond.methodLink RL 93 yX7_machine, Cond.instanceMethod yX7_machine, Cond.selects RX7 yX7_machine yX7_machine, Cond.code yX7_machine cX7_machine 4 (some .int), Cond.constantDouble RX7 98 (4652007308841189376), Cond.fieldLink RX7 100 "DuctBalanceModel" "machines" "I", Cond.methodLink RL 94 yL_use]
def wsL_law0_r10 : List Cond := [Cond.static yL_use, Cond.codeWith yL_use cL_use 5 (some .int) [(0, 7, 10, 19)], Cond.methodLink RL 27 yX6_use, Cond.instanceMethod yX6_use, Cond.selects RX6 yX6_use yX6_use, Cond.code yX6_use cX6_use 4 none, Cond.methodLink RX6 84 yX4_setUsed, Cond.instanceMethod yX4_setUsed, Cond.selects RX4 yX4_setUsed yX4_setUsed, Cond.code yX4_setUsed cX4_setUsed 5 none, Cond.methodLink RL 97 yX7_use, Cond.instanceMethod yX7_use, Cond.selects RX7 yX7_use yX7_use, Cond.code yX7_use cX7_use 4 none, Cond.methodLink RX7 103 yX7_isMachine, Cond.instanceMethod yX7_isMachine, Cond.selects RX7 yX7_isMachine yX7_isMachine, Cond.code yX7_isMachine cX7_isMachine 2 (some .boolean), Cond.methodLink RL 98 yL_fan, Cond.static yL_fan, Cond.codeWith yL_fan cL_fan 6 (some .int) [(0, 6, 9, 21)], Cond.methodLink RL 31 yX6_fan, Cond.instanceMethod yX6_fan, Cond.selects RX6 yX6_fan yX6_fan]
def wsL_law0_r11 : List Cond := [Cond.code yX6_fan cX6_fan 5 none, Cond.fieldLink RX6 88 "DuctBalance$Air" "fan" "LDuctBalance$Fan;", Cond.fieldLink RX6 92 "DuctBalance$Fan" "strength" "D", Cond.fieldLink RX6 98 "DuctBalance$Fan" "fall" "D", Cond.methodLink RL 101 yX7_fan, Cond.instanceMethod yX7_fan, Cond.selects RX7 yX7_fan yX7_fan, Cond.code yX7_fan cX7_fan 5 none, Cond.methodLink RL 102 yL_solve, Cond.static yL_solve, Cond.codeWith yL_solve cL_solve 4 (some .int) [(0, 9, 12, 19)], Cond.methodLink RL 35 yX6_solve, Cond.instanceMethod yX6_solve, Cond.selects RX6 yX6_solve yX6_solve, Cond.code yX6_solve cX6_solve 3 (some .int), Cond.methodLink RX6 101 yX0_balance, Cond.instanceMethod yX0_balance, Cond.selects RX0 yX0_balance yX0_balance, Cond.code yX0_balance cX0_balance 6 (some .int), Cond.fieldLink RX0 43 "DuctBalance$Fan" "flow" "D", Cond.methodLink RX0 39 yX4_openFor, Cond.instanceMethod yX4_openFor, Cond.selects RX4 yX4_openFor yX4_openFor, Cond.code yX4_openFor cX4_openFor 3 none]
def wsL_law0_r12 : List Cond := [Cond.methodLink RX0 47 yX0_settle, Cond.instanceMethod yX0_settle, Cond.selects RX0 yX0_settle yX0_settle, Cond.code yX0_settle cX0_settle 2 (some .int), Cond.constantDouble RX0 62 (4517110426252607488), Cond.methodLink RX0 55 yX0_weighJoints, Cond.instanceMethod yX0_weighJoints, Cond.selects RX0 yX0_weighJoints yX0_weighJoints, Cond.code yX0_weighJoints cX0_weighJoints 2 none, Cond.fieldLink RX0 64 "DuctBalance$Ducts" "ductsOfJoint" "[I", Cond.methodLink RX0 68 yX0_weigh, Cond.instanceMethod yX0_weigh, Cond.selects RX0 yX0_weigh yX0_weigh, Cond.code yX0_weigh cX0_weigh 5 (some .double), Cond.fieldLink RX0 72 "DuctBalance$Ducts" "ease" "[D", Cond.fieldLink RX0 75 "DuctBalance$Ducts" "ofJoint" "[[I", Cond.fieldLink RX0 79 "DuctBalance$Machines" "told" "I", Cond.fieldLink RX0 87 "DuctBalance$Machines" "gate" "[D", Cond.constantDouble RX0 90 (4620693217682128896), Cond.methodLink RX0 83 yX4_isOpenAt, Cond.instanceMethod yX4_isOpenAt, Cond.selects RX4 yX4_isOpenAt yX4_isOpenAt, Cond.code yX4_isOpenAt cX4_isOpenAt 3 (some .boolean), Cond.methodLink RX0 58 yX0_changeOfRound]
def wsL_law0_r13 : List Cond := [Cond.instanceMethod yX0_changeOfRound, Cond.selects RX0 yX0_changeOfRound yX0_changeOfRound, Cond.code yX0_changeOfRound cX0_changeOfRound 8 (some .double), Cond.methodLink RX0 92 yX2_hold, Cond.instanceMethod yX2_hold, Cond.selects RX2 yX2_hold yX2_hold, Cond.code yX2_hold cX2_hold 3 (some .double), Cond.methodLink RX0 95 yX0_pull, Cond.instanceMethod yX0_pull, Cond.selects RX0 yX0_pull yX0_pull, Cond.code yX0_pull cX0_pull 6 (some .double), Cond.methodLink RX0 108 yX1_otherEnd, Cond.instanceMethod yX1_otherEnd, Cond.selects RX1 yX1_otherEnd yX1_otherEnd, Cond.code yX1_otherEnd cX1_otherEnd 3 (some .int), Cond.static yX6_magnitude, Cond.code yX6_magnitude cX6_magnitude 2 (some .double), Cond.methodLink RX0 102 yX0_flowsTo, Cond.instanceMethod yX0_flowsTo, Cond.selects RX0 yX0_flowsTo yX0_flowsTo, Cond.code yX0_flowsTo cX0_flowsTo 6 (some .double), Cond.static yX6_notBelowZero, Cond.code yX6_notBelowZero cX6_notBelowZero 2 (some .double), Cond.methodLink RX0 51 yX0_closeGates]
def wsL_law0_r14 : List Cond := [Cond.instanceMethod yX0_closeGates, Cond.selects RX0 yX0_closeGates yX0_closeGates, Cond.code yX0_closeGates cX0_closeGates 7 (some .boolean), Cond.fieldLink RX0 115 "DuctBalance$Machines" "need" "[D", Cond.fieldLink RX0 118 "DuctBalance$Machines" "isOpen" "[Z", Cond.constantDouble RX0 122 (4652007308841189376), Cond.constantDouble RX0 124 (4652016104934211584), Cond.methodLink RX0 112 yX0_draw, Cond.instanceMethod yX0_draw, Cond.selects RX0 yX0_draw yX0_draw, Cond.code yX0_draw cX0_draw 2 (some .double), Cond.fieldLink RX0 126 "DuctBalance$Machines" "joint" "[I", Cond.methodLink RL 105 yX7_solve, Cond.instanceMethod yX7_solve, Cond.selects RX7 yX7_solve yX7_solve, Cond.code yX7_solve cX7_solve 2 (some .int), Cond.methodLink RX7 137 yX7_solveNow, Cond.instanceMethod yX7_solveNow, Cond.selects RX7 yX7_solveNow yX7_solveNow, Cond.code yX7_solveNow cX7_solveNow 8 (some .int), Cond.fieldLink RX7 116 "DuctBalanceModel" "came" "D", Cond.constantDouble RX7 131 (4517110426252607488), Cond.methodLink RX7 127 yX7_round, Cond.instanceMethod yX7_round]
def wsL_law0_r15 : List Cond := [Cond.selects RX7 yX7_round yX7_round, Cond.code yX7_round cX7_round 10 (some .double), Cond.methodLink RX7 119 yX7_balance, Cond.instanceMethod yX7_balance, Cond.selects RX7 yX7_balance yX7_balance, Cond.code yX7_balance cX7_balance 9 (some .double), Cond.constantDouble RX7 114 (4620693217682128896), Cond.methodLink RX7 106 yX7_other, Cond.instanceMethod yX7_other, Cond.selects RX7 yX7_other yX7_other, Cond.code yX7_other cX7_other 3 (some .int), Cond.methodLink RX7 110 yX7_ease, Cond.instanceMethod yX7_ease, Cond.selects RX7 yX7_ease yX7_ease, Cond.code yX7_ease cX7_ease 2 (some .double), Cond.methodLink RX7 133 yX7_close, Cond.instanceMethod yX7_close, Cond.selects RX7 yX7_close yX7_close, Cond.code yX7_close cX7_close 5 (some .boolean), Cond.constantDouble RX7 125 (4652016104934211584), Cond.methodLink RX7 122 yX7_drawOf, Cond.instanceMethod yX7_drawOf, Cond.selects RX7 yX7_drawOf yX7_drawOf, Cond.code yX7_drawOf cX7_drawOf 4 (some .double)]
def wsL_law0_r16 : List Cond := [Cond.methodLink RL 106 yL_at, Cond.static yL_at, Cond.codeWith yL_at cL_at 5 (some .int) [(0, 9, 12, 19), (0, 9, 16, 13)], Cond.methodLink RL 39 yX6_at, Cond.instanceMethod yX6_at, Cond.selects RX6 yX6_at yX6_at, Cond.code yX6_at cX6_at 3 (some .double), Cond.fieldLink RX6 105 "DuctBalance$Air" "pressure" "[D", Cond.methodLink RX6 109 yX0_residual, Cond.instanceMethod yX0_residual, Cond.selects RX0 yX0_residual yX0_residual, Cond.code yX0_residual cX0_residual 5 (some .double), Cond.methodLink RL 109 yX7_at, Cond.instanceMethod yX7_at, Cond.selects RX7 yX7_at yX7_at, Cond.code yX7_at cX7_at 6 (some .double), Cond.methodLink RX7 141 yX7_isWrong, Cond.instanceMethod yX7_isWrong, Cond.selects RX7 yX7_isWrong yX7_isWrong, Cond.code yX7_isWrong cX7_isWrong 2 (some .boolean), Cond.methodLink RX7 145 yX7_flowOf, Cond.instanceMethod yX7_flowOf, Cond.selects RX7 yX7_flowOf yX7_flowOf, Cond.code yX7_flowOf cX7_flowOf 2 (some .double)]
def wsL_law0_r17 : List Cond := [Cond.methodLink RL 110 yL_of, Cond.static yL_of, Cond.codeWith yL_of cL_of 5 (some .int) [(0, 9, 12, 19), (0, 9, 16, 13)], Cond.methodLink RL 43 yX6_of, Cond.instanceMethod yX6_of, Cond.selects RX6 yX6_of yX6_of, Cond.code yX6_of cX6_of 3 (some .double), Cond.fieldLink RX6 119 "DuctBalance$Ducts" "ease" "[D", Cond.fieldLink RX6 122 "DuctBalance$Leaks" "leak" "[D", Cond.methodLink RX6 113 yX0_flow, Cond.instanceMethod yX0_flow, Cond.selects RX0 yX0_flow yX0_flow, Cond.code yX0_flow cX0_flow 2 (some .double), Cond.fieldLink RX0 129 "DuctBalance$Ducts" "first" "[I", Cond.fieldLink RX0 132 "DuctBalance$Ducts" "second" "[I", Cond.methodLink RX6 116 yX0_speed, Cond.instanceMethod yX0_speed, Cond.selects RX0 yX0_speed yX0_speed, Cond.code yX0_speed cX0_speed 2 (some .double), Cond.fieldLink RX0 137 "DuctBalance$Ducts" "width" "[D", Cond.methodLink RX0 135 yX0_flow, Cond.methodLink RL 112 yX7_of, Cond.instanceMethod yX7_of, Cond.selects RX7 yX7_of yX7_of]
def wsL_law0_r18 : List Cond := [Cond.code yX7_of cX7_of 3 (some .double), Cond.methodLink RX7 152 yX7_speedOf, Cond.instanceMethod yX7_speedOf, Cond.selects RX7 yX7_speedOf yX7_speedOf, Cond.code yX7_speedOf cX7_speedOf 2 (some .double), Cond.methodLink RX7 148 yX7_sizeOf, Cond.static yX7_sizeOf, Cond.code yX7_sizeOf cX7_sizeOf 2 (some .double), Cond.methodLink RL 113 yL_draws, Cond.static yL_draws, Cond.codeWith yL_draws cL_draws 5 (some .int) [(0, 9, 12, 19), (0, 9, 16, 13)], Cond.methodLink RL 46 yX6_draws, Cond.instanceMethod yX6_draws, Cond.selects RX6 yX6_draws yX6_draws, Cond.code yX6_draws cX6_draws 3 (some .double), Cond.fieldLink RX6 125 "DuctBalance$Machines" "gate" "[D", Cond.methodLink RX6 128 yX0_draw, Cond.methodLink RL 115 yX7_draws, Cond.instanceMethod yX7_draws, Cond.selects RX7 yX7_draws yX7_draws, Cond.code yX7_draws cX7_draws 3 (some .double), Cond.methodLink RL 116 yL_keeps, Cond.static yL_keeps, Cond.codeWith yL_keeps cL_keeps 5 (some .int) [(0, 16, 19, 21), (0, 16, 23, 13)]]
def wsL_law0_r19 : List Cond := [Cond.methodLink RL 49 yX6_keeps, Cond.instanceMethod yX6_keeps, Cond.selects RX6 yX6_keeps yX6_keeps, Cond.code yX6_keeps cX6_keeps 3 (some .boolean), Cond.methodLink RX6 131 yX0_isEachSpeedAtLeast, Cond.instanceMethod yX0_isEachSpeedAtLeast, Cond.selects RX0 yX0_isEachSpeedAtLeast yX0_isEachSpeedAtLeast, Cond.code yX0_isEachSpeedAtLeast cX0_isEachSpeedAtLeast 4 (some .boolean), Cond.fieldLink RX0 140 "DuctBalance$Ducts" "told" "I", Cond.methodLink RX0 141 yX0_speed, Cond.methodLink RL 119 yX7_keeps, Cond.instanceMethod yX7_keeps, Cond.selects RX7 yX7_keeps yX7_keeps, Cond.code yX7_keeps cX7_keeps 5 (some .boolean), Cond.methodLink RL 120 yL_list, Cond.static yL_list, Cond.codeWith yL_list cL_list 6 (some .int) [(0, 11, 14, 21), (0, 11, 18, 13)], Cond.methodLink RL 53 yX6_list, Cond.instanceMethod yX6_list, Cond.selects RX6 yX6_list yX6_list, Cond.code yX6_list cX6_list 4 (some .int), Cond.constant RX6 135 (1000000), Cond.fieldLink RX6 136 "DuctBalance$Sizes" "told" "I", Cond.methodLink RX6 137 yX5_add]
def wsL_law0_r20 : List Cond := [Cond.instanceMethod yX5_add, Cond.selects RX5 yX5_add yX5_add, Cond.code yX5_add cX5_add 6 (some .int), Cond.methodLink RL 123 yX7_list, Cond.instanceMethod yX7_list, Cond.selects RX7 yX7_list yX7_list, Cond.code yX7_list cX7_list 4 (some .int), Cond.constant RX7 155 (1000000), Cond.fieldLink RX7 156 "DuctBalanceModel" "sizes" "I", Cond.methodLink RL 124 yL_size, Cond.static yL_size, Cond.codeWith yL_size cL_size 4 (some .int) [(0, 9, 12, 19), (0, 9, 15, 13)], Cond.methodLink RL 57 yX6_size, Cond.instanceMethod yX6_size, Cond.selects RX6 yX6_size yX6_size, Cond.code yX6_size cX6_size 4 (some .int), Cond.fieldLink RX6 140 "DuctBalance$Sizes" "order" "[I", Cond.fieldLink RX6 144 "DuctBalance$Sizes" "width" "[D", Cond.methodLink RX6 147 yX1_setWidths, Cond.instanceMethod yX1_setWidths, Cond.selects RX1 yX1_setWidths yX1_setWidths, Cond.code yX1_setWidths cX1_setWidths 4 none, Cond.methodLink RX6 151 yX0_isEachMachineServed, Cond.instanceMethod yX0_isEachMachineServed]
def wsL_law0_r21 : List Cond := [Cond.selects RX0 yX0_isEachMachineServed yX0_isEachMachineServed, Cond.code yX0_isEachMachineServed cX0_isEachMachineServed 2 (some .boolean), Cond.constantDouble RX0 144 (4606619468846596096), Cond.methodLink RL 126 yX7_size, Cond.instanceMethod yX7_size, Cond.selects RX7 yX7_size yX7_size, Cond.code yX7_size cX7_size 5 (some .int), Cond.methodLink RX7 161 yX7_sizeAt, Cond.instanceMethod yX7_sizeAt, Cond.selects RX7 yX7_sizeAt yX7_sizeAt, Cond.code yX7_sizeAt cX7_sizeAt 5 (some .int), Cond.methodLink RX7 164 yX7_isEnough, Cond.instanceMethod yX7_isEnough, Cond.selects RX7 yX7_isEnough yX7_isEnough, Cond.code yX7_isEnough cX7_isEnough 3 (some .boolean), Cond.constantDouble RX7 159 (4606619468846596096), Cond.methodLink RL 127 yL_read, Cond.static yL_read, Cond.codeWith yL_read cL_read 5 (some .int) [(0, 6, 9, 19), (0, 6, 13, 21)], Cond.methodLink RL 60 yX6_read, Cond.instanceMethod yX6_read, Cond.selects RX6 yX6_read yX6_read, Cond.code yX6_read cX6_read 4 none, Cond.constantDouble RX6 155 (4666723172467343360)]
def wsL_law0_r22 : List Cond := [Cond.fieldLink RX6 157 "DuctBalance$Leaks" "reading" "[D", Cond.fieldLink RX6 160 "DuctBalance$Leaks" "isRead" "[Z", Cond.methodLink RL 130 yX7_read, Cond.instanceMethod yX7_read, Cond.selects RX7 yX7_read yX7_read, Cond.code yX7_read cX7_read 4 none, Cond.constantDouble RX7 167 (4666723172467343360), Cond.methodLink RL 131 yL_fit, Cond.static yL_fit, Cond.codeWith yL_fit cL_fit 4 (some .int) [(0, 8, 11, 21), (0, 8, 14, 13)], Cond.methodLink RL 64 yX6_fit, Cond.instanceMethod yX6_fit, Cond.selects RX6 yX6_fit yX6_fit, Cond.code yX6_fit cX6_fit 3 (some .double), Cond.methodLink RX6 164 yX3_approach, Cond.instanceMethod yX3_approach, Cond.selects RX3 yX3_approach yX3_approach, Cond.code yX3_approach cX3_approach 3 none, Cond.constantDouble RX3 26 (4611686018427387904), Cond.methodLink RX3 22 yX3_missing, Cond.instanceMethod yX3_missing, Cond.selects RX3 yX3_missing yX3_missing, Cond.code yX3_missing cX3_missing 3 (some .double), Cond.methodLink RX3 32 yX0_flow]
def wsL_law0_r23 : List Cond := [Cond.methodLink RX6 168 yX3_sumOfSquares, Cond.instanceMethod yX3_sumOfSquares, Cond.selects RX3 yX3_sumOfSquares yX3_sumOfSquares, Cond.code yX3_sumOfSquares cX3_sumOfSquares 7 (some .double), Cond.methodLink RL 134 yX7_fit, Cond.instanceMethod yX7_fit, Cond.selects RX7 yX7_fit yX7_fit, Cond.code yX7_fit cX7_fit 7 (some .double), Cond.constantDouble RX7 169 (4611686018427387904), Cond.methodLink RL 135 yL_count, Cond.static yL_count, Cond.codeWith yL_count cL_count 4 (some .int) [(0, 9, 12, 19)], Cond.methodLink RL 68 yX6_count, Cond.instanceMethod yX6_count, Cond.selects RX6 yX6_count yX6_count, Cond.code yX6_count cX6_count 2 (some .int), Cond.methodLink RL 137 yX7_count, Cond.instanceMethod yX7_count, Cond.selects RX7 yX7_count yX7_count, Cond.code yX7_count cX7_count 2 (some .int)]
def wsL_law0 : List Cond := (wsL_law0_r1 ++ (wsL_law0_r2 ++ (wsL_law0_r3 ++ (wsL_law0_r4 ++ (wsL_law0_r5 ++ (wsL_law0_r6 ++ (wsL_law0_r7 ++ (wsL_law0_r8 ++ (wsL_law0_r9 ++ (wsL_law0_r10 ++ (wsL_law0_r11 ++ (wsL_law0_r12 ++ (wsL_law0_r13 ++ (wsL_law0_r14 ++ (wsL_law0_r15 ++ (wsL_law0_r16 ++ (wsL_law0_r17 ++ (wsL_law0_r18 ++ (wsL_law0_r19 ++ (wsL_law0_r20 ++ (wsL_law0_r21 ++ (wsL_law0_r22 ++ wsL_law0_r23)))))))))))))))))))))) ++ wsX60 ++ wsX70 ++ wsX00 ++ wsX30 ++ wsX50 ++ wsX10 ++ wsX40 ++ wsX20 ++ ([] : List Cond)
def wsL_law : List Cond := wsL_law0 ++ (vx_atS RX6 188 "java/lang/IllegalStateException" ["java/lang/RuntimeException", "java/lang/Exception"]).filter goodWord ++ (vx_atS RX6 176 "java/lang/IndexOutOfBoundsException" ["java/lang/RuntimeException", "java/lang/Exception"]).filter goodWord ++ (vx_atS RX6 183 "java/lang/IllegalArgumentException" ["java/lang/RuntimeException", "java/lang/Exception"]).filter goodWord
abbrev vwCl : List vw_C := [(RX0, TX0, 5), (RX1, TX1, 8), (RX2, TX2, 3), (RX3, TX3, 3), (RX4, TX4, 6), (RX5, TX5, 4), (RX6, TX6, 7), (RX7, TX7, 24)]
end
section
set_option maxRecDepth 20000 in
theorem ggX0_init_X1_init : GoodIn wsX0_init wsX1_init := goodIn_r _ [20, 21, 2, 3, 22, 23, 24, 25, 16, 26, 27, 28, 29, 30, 31, 50, 51, 52, 53, 54, 55, 56, 57] (by decide +kernel) (by decide +kernel)
set_option maxRecDepth 20000 in
theorem gX0_init_X1_init_n11 : GoodIn wsX0_init (wsX1_init) := ggX0_init_X1_init
set_option maxRecDepth 20000 in
theorem ggX0_init_X4_init : GoodIn wsX0_init wsX4_init := goodIn_r _ [33, 34, 2, 3, 35, 23, 36, 16, 37, 38, 39, 40, 41, 63, 64, 65, 66, 67, 68] (by decide +kernel) (by decide +kernel)
set_option maxRecDepth 20000 in
theorem gX0_init_X4_init_n20 : GoodIn wsX0_init (wsX4_init) := ggX0_init_X4_init
set_option maxRecDepth 20000 in
theorem ggX0_init_X2_init : GoodIn wsX0_init wsX2_init := goodIn_r _ [43, 44, 2, 3, 45, 46, 47, 48, 49, 69, 70, 71] (by decide +kernel) (by decide +kernel)
set_option maxRecDepth 20000 in
theorem gX0_init_X2_init_n27 : GoodIn wsX0_init (wsX2_init) := ggX0_init_X2_init
theorem dX0_init_0 : decode cX0_init 0 = .ok (.aload_n 0, 1) := by decide +kernel
theorem dX0_init_1 : decode cX0_init 1 = .ok (.invokespecial 3, 3) := by decide +kernel
theorem dX0_init_4 : decode cX0_init 4 = .ok (.aload_n 0, 1) := by decide +kernel
theorem dX0_init_5 : decode cX0_init 5 = .ok (.new 9, 3) := by decide +kernel
theorem dX0_init_8 : decode cX0_init 8 = .ok (.dup, 1) := by decide +kernel
theorem dX0_init_9 : decode cX0_init 9 = .ok (.invokespecial 11, 3) := by decide +kernel
theorem dX0_init_12 : decode cX0_init 12 = .ok (.putfield 12, 3) := by decide +kernel
theorem dX0_init_15 : decode cX0_init 15 = .ok (.aload_n 0, 1) := by decide +kernel
theorem dX0_init_16 : decode cX0_init 16 = .ok (.new 18, 3) := by decide +kernel
theorem dX0_init_19 : decode cX0_init 19 = .ok (.dup, 1) := by decide +kernel
theorem dX0_init_20 : decode cX0_init 20 = .ok (.invokespecial 20, 3) := by decide +kernel
theorem dX0_init_23 : decode cX0_init 23 = .ok (.putfield 21, 3) := by decide +kernel
theorem dX0_init_26 : decode cX0_init 26 = .ok (.aload_n 0, 1) := by decide +kernel
theorem dX0_init_27 : decode cX0_init 27 = .ok (.new 25, 3) := by decide +kernel
theorem dX0_init_30 : decode cX0_init 30 = .ok (.dup, 1) := by decide +kernel
theorem dX0_init_31 : decode cX0_init 31 = .ok (.invokespecial 27, 3) := by decide +kernel
theorem dX0_init_34 : decode cX0_init 34 = .ok (.putfield 28, 3) := by decide +kernel
theorem dX0_init_37 : decode cX0_init 37 = .ok (.aload_n 0, 1) := by decide +kernel
theorem dX0_init_38 : decode cX0_init 38 = .ok (.bipush 10, 2) := by decide +kernel
theorem dX0_init_40 : decode cX0_init 40 = .ok (.newarray .double, 2) := by decide +kernel
theorem dX0_init_42 : decode cX0_init 42 = .ok (.putfield 32, 3) := by decide +kernel
theorem dX0_init_45 : decode cX0_init 45 = .ok (.aload_n 0, 1) := by decide +kernel
theorem dX0_init_46 : decode cX0_init 46 = .ok (.bipush 10, 2) := by decide +kernel
theorem dX0_init_48 : decode cX0_init 48 = .ok (.newarray .double, 2) := by decide +kernel
theorem dX0_init_50 : decode cX0_init 50 = .ok (.putfield 36, 3) := by decide +kernel
theorem dX0_init_53 : decode cX0_init 53 = .ok (.return_, 1) := by decide +kernel
set_option maxRecDepth 20000 in
theorem ggX0_balance_X4_openFor : GoodIn wsX0_balance wsX4_openFor := goodIn_r _ [9, 10, 11, 12, 13, 94, 95, 96, 97, 98, 99] (by decide +kernel) (by decide +kernel)
set_option maxRecDepth 20000 in
theorem gX0_balance_X4_openFor : GoodIn wsX0_balance (wsV RX0 39 RX4 yX4_openFor wsX4_openFor) := goodIn_app (goodIn_of _ (by decide +kernel)) ggX0_balance_X4_openFor
set_option maxRecDepth 20000 in
theorem ggX0_balance_X0_settle : GoodIn wsX0_balance wsX0_settle := goodIn_r _ [18, 19, 20, 21, 22, 17, 23, 24, 25, 26, 27, 28, 29, 30, 31, 32, 1, 33, 34, 35, 36, 37, 38, 8, 39, 11, 40, 41, 42, 43, 44, 4, 2, 3, 45, 46, 47, 48, 49, 50, 51, 52, 53, 54, 55, 56, 57, 58, 59, 60, 61, 62, 63, 64, 65, 66, 67, 68, 69, 70, 71, 72, 86, 87, 88, 89, 90, 100, 101, 102, 103, 104, 105, 106, 107, 94, 95, 96, 97, 98, 99, 91, 92, 93] (by decide +kernel) (by decide +kernel)
set_option maxRecDepth 20000 in
theorem gX0_balance_X0_settle : GoodIn wsX0_balance (wsV RX0 47 RX0 yX0_settle wsX0_settle) := goodIn_app (goodIn_of _ (by decide +kernel)) ggX0_balance_X0_settle
set_option maxRecDepth 20000 in
theorem ggX0_balance_X0_closeGates : GoodIn wsX0_balance wsX0_closeGates := goodIn_r _ [76, 1, 33, 77, 78, 34, 79, 80, 81, 82, 83, 17, 84, 35, 4, 85, 71, 65, 72, 86, 87, 88, 89, 90, 94, 95, 96, 97, 98, 99] (by decide +kernel) (by decide +kernel)
set_option maxRecDepth 20000 in
theorem gX0_balance_X0_closeGates : GoodIn wsX0_balance (wsV RX0 51 RX0 yX0_closeGates wsX0_closeGates) := goodIn_app (goodIn_of _ (by decide +kernel)) ggX0_balance_X0_closeGates
theorem dX0_balance_0 : decode cX0_balance 0 = .ok (.aload_n 0, 1) := by decide +kernel
theorem dX0_balance_1 : decode cX0_balance 1 = .ok (.getfield 21, 3) := by decide +kernel
theorem dX0_balance_4 : decode cX0_balance 4 = .ok (.iload_n 1, 1) := by decide +kernel
theorem dX0_balance_5 : decode cX0_balance 5 = .ok (.invokevirtual 39, 3) := by decide +kernel
theorem dX0_balance_8 : decode cX0_balance 8 = .ok (.aload_n 0, 1) := by decide +kernel
theorem dX0_balance_9 : decode cX0_balance 9 = .ok (.getfield 28, 3) := by decide +kernel
theorem dX0_balance_12 : decode cX0_balance 12 = .ok (.dconst 0, 1) := by decide +kernel
theorem dX0_balance_13 : decode cX0_balance 13 = .ok (.putfield 43, 3) := by decide +kernel
theorem dX0_balance_16 : decode cX0_balance 16 = .ok (.iconst 0, 1) := by decide +kernel
theorem dX0_balance_17 : decode cX0_balance 17 = .ok (.istore_n 2, 1) := by decide +kernel
theorem dX0_balance_18 : decode cX0_balance 18 = .ok (.iload_n 2, 1) := by decide +kernel
theorem dX0_balance_19 : decode cX0_balance 19 = .ok (.bipush 10, 2) := by decide +kernel
theorem dX0_balance_21 : decode cX0_balance 21 = .ok (.if_icmp .ge 16, 3) := by decide +kernel
theorem dX0_balance_24 : decode cX0_balance 24 = .ok (.aload_n 0, 1) := by decide +kernel
theorem dX0_balance_25 : decode cX0_balance 25 = .ok (.getfield 32, 3) := by decide +kernel
theorem dX0_balance_28 : decode cX0_balance 28 = .ok (.iload_n 2, 1) := by decide +kernel
theorem dX0_balance_29 : decode cX0_balance 29 = .ok (.dconst 0, 1) := by decide +kernel
theorem dX0_balance_30 : decode cX0_balance 30 = .ok (.dastore, 1) := by decide +kernel
theorem dX0_balance_31 : decode cX0_balance 31 = .ok (.iinc 2 1, 3) := by decide +kernel
theorem dX0_balance_34 : decode cX0_balance 34 = .ok (.goto (-16), 3) := by decide +kernel
theorem dX0_balance_37 : decode cX0_balance 37 = .ok (.iconst 0, 1) := by decide +kernel
theorem dX0_balance_38 : decode cX0_balance 38 = .ok (.istore_n 2, 1) := by decide +kernel
theorem dX0_balance_39 : decode cX0_balance 39 = .ok (.iconst 1, 1) := by decide +kernel
theorem dX0_balance_40 : decode cX0_balance 40 = .ok (.istore_n 3, 1) := by decide +kernel
theorem dX0_balance_41 : decode cX0_balance 41 = .ok (.iconst 0, 1) := by decide +kernel
theorem dX0_balance_42 : decode cX0_balance 42 = .ok (.istore 4, 2) := by decide +kernel
theorem dX0_balance_44 : decode cX0_balance 44 = .ok (.iload 4, 2) := by decide +kernel
theorem dX0_balance_46 : decode cX0_balance 46 = .ok (.bipush 10, 2) := by decide +kernel
theorem dX0_balance_48 : decode cX0_balance 48 = .ok (.if_icmp .ge 37, 3) := by decide +kernel
theorem dX0_balance_51 : decode cX0_balance 51 = .ok (.iload_n 3, 1) := by decide +kernel
theorem dX0_balance_52 : decode cX0_balance 52 = .ok (.ifCond .eq 33, 3) := by decide +kernel
theorem dX0_balance_55 : decode cX0_balance 55 = .ok (.aload_n 0, 1) := by decide +kernel
theorem dX0_balance_56 : decode cX0_balance 56 = .ok (.invokevirtual 47, 3) := by decide +kernel
theorem dX0_balance_59 : decode cX0_balance 59 = .ok (.istore 5, 2) := by decide +kernel
theorem dX0_balance_61 : decode cX0_balance 61 = .ok (.iload 5, 2) := by decide +kernel
theorem dX0_balance_63 : decode cX0_balance 63 = .ok (.iconst (-1), 1) := by decide +kernel
theorem dX0_balance_64 : decode cX0_balance 64 = .ok (.if_icmp .ne 5, 3) := by decide +kernel
theorem dX0_balance_67 : decode cX0_balance 67 = .ok (.iconst (-1), 1) := by decide +kernel
theorem dX0_balance_68 : decode cX0_balance 68 = .ok (.ireturn, 1) := by decide +kernel
theorem dX0_balance_69 : decode cX0_balance 69 = .ok (.iload_n 2, 1) := by decide +kernel
theorem dX0_balance_70 : decode cX0_balance 70 = .ok (.iload 5, 2) := by decide +kernel
theorem dX0_balance_72 : decode cX0_balance 72 = .ok (.iadd, 1) := by decide +kernel
theorem dX0_balance_73 : decode cX0_balance 73 = .ok (.istore_n 2, 1) := by decide +kernel
theorem dX0_balance_74 : decode cX0_balance 74 = .ok (.aload_n 0, 1) := by decide +kernel
theorem dX0_balance_75 : decode cX0_balance 75 = .ok (.invokevirtual 51, 3) := by decide +kernel
theorem dX0_balance_78 : decode cX0_balance 78 = .ok (.istore_n 3, 1) := by decide +kernel
theorem dX0_balance_79 : decode cX0_balance 79 = .ok (.iinc 4 1, 3) := by decide +kernel
theorem dX0_balance_82 : decode cX0_balance 82 = .ok (.goto (-38), 3) := by decide +kernel
theorem dX0_balance_85 : decode cX0_balance 85 = .ok (.iload_n 2, 1) := by decide +kernel
theorem dX0_balance_86 : decode cX0_balance 86 = .ok (.ireturn, 1) := by decide +kernel
set_option maxRecDepth 20000 in
theorem ggX0_settle_X0_weighJoints : GoodIn wsX0_settle wsX0_weighJoints := goodIn_r _ [6, 7, 8, 9, 10, 11, 12, 5, 13, 14, 15, 16, 17, 18, 19, 20, 21, 22, 23, 24, 25, 26, 62, 63, 64, 65, 66, 67, 68, 69, 70, 71, 72, 73, 74, 75, 76, 77, 78, 79, 80] (by decide +kernel) (by decide +kernel)
set_option maxRecDepth 20000 in
theorem gX0_settle_X0_weighJoints : GoodIn wsX0_settle (wsV RX0 55 RX0 yX0_weighJoints wsX0_weighJoints) := goodIn_app (goodIn_of _ (by decide +kernel)) ggX0_settle_X0_weighJoints
set_option maxRecDepth 20000 in
theorem ggX0_settle_X0_changeOfRound : GoodIn wsX0_settle wsX0_changeOfRound := goodIn_r _ [30, 31, 32, 7, 33, 34, 35, 36, 37, 38, 39, 40, 41, 42, 43, 44, 5, 45, 8, 9, 15, 14, 46, 47, 48, 49, 50, 51, 52, 53, 54, 55, 56, 57, 58, 59, 60, 61, 62, 63, 64, 65, 66, 81, 82, 83, 67, 68, 69, 70, 71, 72, 73, 74] (by decide +kernel) (by decide +kernel)
set_option maxRecDepth 20000 in
theorem gX0_settle_X0_changeOfRound : GoodIn wsX0_settle (wsV RX0 58 RX0 yX0_changeOfRound wsX0_changeOfRound) := goodIn_app (goodIn_of _ (by decide +kernel)) ggX0_settle_X0_changeOfRound
theorem dX0_settle_0 : decode cX0_settle 0 = .ok (.aload_n 0, 1) := by decide +kernel
theorem dX0_settle_1 : decode cX0_settle 1 = .ok (.invokevirtual 55, 3) := by decide +kernel
theorem dX0_settle_4 : decode cX0_settle 4 = .ok (.iconst 1, 1) := by decide +kernel
theorem dX0_settle_5 : decode cX0_settle 5 = .ok (.istore_n 1, 1) := by decide +kernel
theorem dX0_settle_6 : decode cX0_settle 6 = .ok (.iload_n 1, 1) := by decide +kernel
theorem dX0_settle_7 : decode cX0_settle 7 = .ok (.bipush 100, 2) := by decide +kernel
theorem dX0_settle_9 : decode cX0_settle 9 = .ok (.if_icmp .gt 22, 3) := by decide +kernel
theorem dX0_settle_12 : decode cX0_settle 12 = .ok (.aload_n 0, 1) := by decide +kernel
theorem dX0_settle_13 : decode cX0_settle 13 = .ok (.invokevirtual 58, 3) := by decide +kernel
theorem dX0_settle_16 : decode cX0_settle 16 = .ok (.ldc2_w 62, 3) := by decide +kernel
theorem dX0_settle_19 : decode cX0_settle 19 = .ok (.dcmp .g, 1) := by decide +kernel
theorem dX0_settle_20 : decode cX0_settle 20 = .ok (.ifCond .ge 5, 3) := by decide +kernel
theorem dX0_settle_23 : decode cX0_settle 23 = .ok (.iload_n 1, 1) := by decide +kernel
theorem dX0_settle_24 : decode cX0_settle 24 = .ok (.ireturn, 1) := by decide +kernel
theorem dX0_settle_25 : decode cX0_settle 25 = .ok (.iinc 1 1, 3) := by decide +kernel
theorem dX0_settle_28 : decode cX0_settle 28 = .ok (.goto (-22), 3) := by decide +kernel
theorem dX0_settle_31 : decode cX0_settle 31 = .ok (.iconst (-1), 1) := by decide +kernel
theorem dX0_settle_32 : decode cX0_settle 32 = .ok (.ireturn, 1) := by decide +kernel
set_option maxRecDepth 20000 in
theorem ggX0_weighJoints_X0_weigh : GoodIn wsX0_weighJoints wsX0_weigh := goodIn_r _ [8, 2, 3, 9, 10, 11, 12, 13, 14, 15, 16, 17, 18, 19, 20, 21, 22, 23, 24, 25, 26, 27, 28, 29, 30, 31, 32, 33, 34, 35, 36, 37, 38, 39, 40] (by decide +kernel) (by decide +kernel)
set_option maxRecDepth 20000 in
theorem gX0_weighJoints_X0_weigh : GoodIn wsX0_weighJoints (wsV RX0 68 RX0 yX0_weigh wsX0_weigh) := goodIn_app (goodIn_of _ (by decide +kernel)) ggX0_weighJoints_X0_weigh
theorem dX0_weighJoints_0 : decode cX0_weighJoints 0 = .ok (.iconst 0, 1) := by decide +kernel
theorem dX0_weighJoints_1 : decode cX0_weighJoints 1 = .ok (.istore_n 1, 1) := by decide +kernel
theorem dX0_weighJoints_2 : decode cX0_weighJoints 2 = .ok (.iload_n 1, 1) := by decide +kernel
theorem dX0_weighJoints_3 : decode cX0_weighJoints 3 = .ok (.bipush 10, 2) := by decide +kernel
theorem dX0_weighJoints_5 : decode cX0_weighJoints 5 = .ok (.if_icmp .ge 36, 3) := by decide +kernel
theorem dX0_weighJoints_8 : decode cX0_weighJoints 8 = .ok (.aload_n 0, 1) := by decide +kernel
theorem dX0_weighJoints_9 : decode cX0_weighJoints 9 = .ok (.getfield 36, 3) := by decide +kernel
theorem dX0_weighJoints_12 : decode cX0_weighJoints 12 = .ok (.iload_n 1, 1) := by decide +kernel
theorem dX0_weighJoints_13 : decode cX0_weighJoints 13 = .ok (.aload_n 0, 1) := by decide +kernel
theorem dX0_weighJoints_14 : decode cX0_weighJoints 14 = .ok (.getfield 12, 3) := by decide +kernel
theorem dX0_weighJoints_17 : decode cX0_weighJoints 17 = .ok (.getfield 64, 3) := by decide +kernel
theorem dX0_weighJoints_20 : decode cX0_weighJoints 20 = .ok (.iload_n 1, 1) := by decide +kernel
theorem dX0_weighJoints_21 : decode cX0_weighJoints 21 = .ok (.iaload, 1) := by decide +kernel
theorem dX0_weighJoints_22 : decode cX0_weighJoints 22 = .ok (.ifCond .ne 7, 3) := by decide +kernel
theorem dX0_weighJoints_25 : decode cX0_weighJoints 25 = .ok (.dconst 0, 1) := by decide +kernel
theorem dX0_weighJoints_26 : decode cX0_weighJoints 26 = .ok (.goto 8, 3) := by decide +kernel
theorem dX0_weighJoints_29 : decode cX0_weighJoints 29 = .ok (.aload_n 0, 1) := by decide +kernel
theorem dX0_weighJoints_30 : decode cX0_weighJoints 30 = .ok (.iload_n 1, 1) := by decide +kernel
theorem dX0_weighJoints_31 : decode cX0_weighJoints 31 = .ok (.invokevirtual 68, 3) := by decide +kernel
theorem dX0_weighJoints_34 : decode cX0_weighJoints 34 = .ok (.dastore, 1) := by decide +kernel
theorem dX0_weighJoints_35 : decode cX0_weighJoints 35 = .ok (.iinc 1 1, 3) := by decide +kernel
theorem dX0_weighJoints_38 : decode cX0_weighJoints 38 = .ok (.goto (-36), 3) := by decide +kernel
theorem dX0_weighJoints_41 : decode cX0_weighJoints 41 = .ok (.return_, 1) := by decide +kernel
set_option maxRecDepth 20000 in
theorem ggX0_weigh_X4_isOpenAt : GoodIn wsX0_weigh wsX4_isOpenAt := goodIn_r _ [13, 14, 15, 29, 30, 31, 32, 33, 34] (by decide +kernel) (by decide +kernel)
set_option maxRecDepth 20000 in
theorem gX0_weigh_X4_isOpenAt : GoodIn wsX0_weigh (wsV RX0 83 RX4 yX4_isOpenAt wsX4_isOpenAt) := goodIn_app (goodIn_of _ (by decide +kernel)) ggX0_weigh_X4_isOpenAt
theorem dX0_weigh_0 : decode cX0_weigh 0 = .ok (.dconst 0, 1) := by decide +kernel
theorem dX0_weigh_1 : decode cX0_weigh 1 = .ok (.dstore_n 2, 1) := by decide +kernel
theorem dX0_weigh_2 : decode cX0_weigh 2 = .ok (.iconst 0, 1) := by decide +kernel
theorem dX0_weigh_3 : decode cX0_weigh 3 = .ok (.istore 4, 2) := by decide +kernel
theorem dX0_weigh_5 : decode cX0_weigh 5 = .ok (.iload 4, 2) := by decide +kernel
theorem dX0_weigh_7 : decode cX0_weigh 7 = .ok (.aload_n 0, 1) := by decide +kernel
theorem dX0_weigh_8 : decode cX0_weigh 8 = .ok (.getfield 12, 3) := by decide +kernel
theorem dX0_weigh_11 : decode cX0_weigh 11 = .ok (.getfield 64, 3) := by decide +kernel
theorem dX0_weigh_14 : decode cX0_weigh 14 = .ok (.iload_n 1, 1) := by decide +kernel
theorem dX0_weigh_15 : decode cX0_weigh 15 = .ok (.iaload, 1) := by decide +kernel
theorem dX0_weigh_16 : decode cX0_weigh 16 = .ok (.if_icmp .ge 32, 3) := by decide +kernel
theorem dX0_weigh_19 : decode cX0_weigh 19 = .ok (.dload_n 2, 1) := by decide +kernel
theorem dX0_weigh_20 : decode cX0_weigh 20 = .ok (.aload_n 0, 1) := by decide +kernel
theorem dX0_weigh_21 : decode cX0_weigh 21 = .ok (.getfield 12, 3) := by decide +kernel
theorem dX0_weigh_24 : decode cX0_weigh 24 = .ok (.getfield 72, 3) := by decide +kernel
theorem dX0_weigh_27 : decode cX0_weigh 27 = .ok (.aload_n 0, 1) := by decide +kernel
theorem dX0_weigh_28 : decode cX0_weigh 28 = .ok (.getfield 12, 3) := by decide +kernel
theorem dX0_weigh_31 : decode cX0_weigh 31 = .ok (.getfield 75, 3) := by decide +kernel
theorem dX0_weigh_34 : decode cX0_weigh 34 = .ok (.iload_n 1, 1) := by decide +kernel
theorem dX0_weigh_35 : decode cX0_weigh 35 = .ok (.aaload, 1) := by decide +kernel
theorem dX0_weigh_36 : decode cX0_weigh 36 = .ok (.iload 4, 2) := by decide +kernel
theorem dX0_weigh_38 : decode cX0_weigh 38 = .ok (.iaload, 1) := by decide +kernel
theorem dX0_weigh_39 : decode cX0_weigh 39 = .ok (.daload, 1) := by decide +kernel
theorem dX0_weigh_40 : decode cX0_weigh 40 = .ok (.dadd, 1) := by decide +kernel
theorem dX0_weigh_41 : decode cX0_weigh 41 = .ok (.dstore_n 2, 1) := by decide +kernel
theorem dX0_weigh_42 : decode cX0_weigh 42 = .ok (.iinc 4 1, 3) := by decide +kernel
theorem dX0_weigh_45 : decode cX0_weigh 45 = .ok (.goto (-40), 3) := by decide +kernel
theorem dX0_weigh_48 : decode cX0_weigh 48 = .ok (.iconst 0, 1) := by decide +kernel
theorem dX0_weigh_49 : decode cX0_weigh 49 = .ok (.istore 4, 2) := by decide +kernel
theorem dX0_weigh_51 : decode cX0_weigh 51 = .ok (.iload 4, 2) := by decide +kernel
theorem dX0_weigh_53 : decode cX0_weigh 53 = .ok (.aload_n 0, 1) := by decide +kernel
theorem dX0_weigh_54 : decode cX0_weigh 54 = .ok (.getfield 21, 3) := by decide +kernel
theorem dX0_weigh_57 : decode cX0_weigh 57 = .ok (.getfield 79, 3) := by decide +kernel
theorem dX0_weigh_60 : decode cX0_weigh 60 = .ok (.if_icmp .ge 39, 3) := by decide +kernel
theorem dX0_weigh_63 : decode cX0_weigh 63 = .ok (.aload_n 0, 1) := by decide +kernel
theorem dX0_weigh_64 : decode cX0_weigh 64 = .ok (.getfield 21, 3) := by decide +kernel
theorem dX0_weigh_67 : decode cX0_weigh 67 = .ok (.iload 4, 2) := by decide +kernel
theorem dX0_weigh_69 : decode cX0_weigh 69 = .ok (.iload_n 1, 1) := by decide +kernel
theorem dX0_weigh_70 : decode cX0_weigh 70 = .ok (.invokevirtual 83, 3) := by decide +kernel
theorem dX0_weigh_73 : decode cX0_weigh 73 = .ok (.ifCond .eq 20, 3) := by decide +kernel
theorem dX0_weigh_76 : decode cX0_weigh 76 = .ok (.dload_n 2, 1) := by decide +kernel
theorem dX0_weigh_77 : decode cX0_weigh 77 = .ok (.aload_n 0, 1) := by decide +kernel
theorem dX0_weigh_78 : decode cX0_weigh 78 = .ok (.getfield 21, 3) := by decide +kernel
theorem dX0_weigh_81 : decode cX0_weigh 81 = .ok (.getfield 87, 3) := by decide +kernel
theorem dX0_weigh_84 : decode cX0_weigh 84 = .ok (.iload 4, 2) := by decide +kernel
theorem dX0_weigh_86 : decode cX0_weigh 86 = .ok (.daload, 1) := by decide +kernel
theorem dX0_weigh_87 : decode cX0_weigh 87 = .ok (.ldc2_w 90, 3) := by decide +kernel
theorem dX0_weigh_90 : decode cX0_weigh 90 = .ok (.dmul, 1) := by decide +kernel
theorem dX0_weigh_91 : decode cX0_weigh 91 = .ok (.dadd, 1) := by decide +kernel
theorem dX0_weigh_92 : decode cX0_weigh 92 = .ok (.dstore_n 2, 1) := by decide +kernel
theorem dX0_weigh_93 : decode cX0_weigh 93 = .ok (.iinc 4 1, 3) := by decide +kernel
theorem dX0_weigh_96 : decode cX0_weigh 96 = .ok (.goto (-45), 3) := by decide +kernel
theorem dX0_weigh_99 : decode cX0_weigh 99 = .ok (.dload_n 2, 1) := by decide +kernel
theorem dX0_weigh_100 : decode cX0_weigh 100 = .ok (.dreturn, 1) := by decide +kernel
set_option maxRecDepth 20000 in
theorem ggX0_changeOfRound_X2_hold : GoodIn wsX0_changeOfRound wsX2_hold := goodIn_r _ [9, 10, 11, 12, 43, 44, 45] (by decide +kernel) (by decide +kernel)
set_option maxRecDepth 20000 in
theorem gX0_changeOfRound_X2_hold : GoodIn wsX0_changeOfRound (wsV RX0 92 RX2 yX2_hold wsX2_hold) := goodIn_app (goodIn_of _ (by decide +kernel)) ggX0_changeOfRound_X2_hold
set_option maxRecDepth 20000 in
theorem ggX0_changeOfRound_X0_pull : GoodIn wsX0_changeOfRound wsX0_pull := goodIn_r _ [17, 18, 19, 20, 21, 1, 22, 23, 24, 25, 26, 27, 28, 38, 39, 40, 41, 42, 46, 47, 48, 49, 50, 51, 52, 53] (by decide +kernel) (by decide +kernel)
set_option maxRecDepth 20000 in
theorem gX0_changeOfRound_X0_pull : GoodIn wsX0_changeOfRound (wsV RX0 95 RX0 yX0_pull wsX0_pull) := goodIn_app (goodIn_of _ (by decide +kernel)) ggX0_changeOfRound_X0_pull
set_option maxRecDepth 20000 in
theorem ggX0_changeOfRound_X6_magnitude : GoodIn wsX0_changeOfRound wsX6_magnitude := goodIn_r _ [31] (by decide +kernel) (by decide +kernel)
set_option maxRecDepth 20000 in
theorem gX0_changeOfRound_X6_magnitude_n98 : GoodIn wsX0_changeOfRound (wsX6_magnitude) := ggX0_changeOfRound_X6_magnitude
set_option maxRecDepth 20000 in
theorem ggX0_changeOfRound_X0_flowsTo : GoodIn wsX0_changeOfRound wsX0_flowsTo := goodIn_r _ [35, 18, 19, 20, 21, 1, 22, 23, 24, 25, 26, 27, 28, 38, 39, 40, 41, 42, 46, 47, 48, 49, 50, 51, 52, 53] (by decide +kernel) (by decide +kernel)
set_option maxRecDepth 20000 in
theorem gX0_changeOfRound_X0_flowsTo : GoodIn wsX0_changeOfRound (wsV RX0 102 RX0 yX0_flowsTo wsX0_flowsTo) := goodIn_app (goodIn_of _ (by decide +kernel)) ggX0_changeOfRound_X0_flowsTo
set_option maxRecDepth 20000 in
theorem ggX0_changeOfRound_X6_notBelowZero : GoodIn wsX0_changeOfRound wsX6_notBelowZero := goodIn_r _ [37] (by decide +kernel) (by decide +kernel)
set_option maxRecDepth 20000 in
theorem gX0_changeOfRound_X6_notBelowZero_n105 : GoodIn wsX0_changeOfRound (wsX6_notBelowZero) := ggX0_changeOfRound_X6_notBelowZero
theorem dX0_changeOfRound_0 : decode cX0_changeOfRound 0 = .ok (.dconst 0, 1) := by decide +kernel
theorem dX0_changeOfRound_1 : decode cX0_changeOfRound 1 = .ok (.dstore_n 1, 1) := by decide +kernel
theorem dX0_changeOfRound_2 : decode cX0_changeOfRound 2 = .ok (.aload_n 0, 1) := by decide +kernel
theorem dX0_changeOfRound_3 : decode cX0_changeOfRound 3 = .ok (.getfield 32, 3) := by decide +kernel
theorem dX0_changeOfRound_6 : decode cX0_changeOfRound 6 = .ok (.iconst 0, 1) := by decide +kernel
theorem dX0_changeOfRound_7 : decode cX0_changeOfRound 7 = .ok (.aload_n 0, 1) := by decide +kernel
theorem dX0_changeOfRound_8 : decode cX0_changeOfRound 8 = .ok (.getfield 28, 3) := by decide +kernel
theorem dX0_changeOfRound_11 : decode cX0_changeOfRound 11 = .ok (.invokevirtual 92, 3) := by decide +kernel
theorem dX0_changeOfRound_14 : decode cX0_changeOfRound 14 = .ok (.dastore, 1) := by decide +kernel
theorem dX0_changeOfRound_15 : decode cX0_changeOfRound 15 = .ok (.iconst 1, 1) := by decide +kernel
theorem dX0_changeOfRound_16 : decode cX0_changeOfRound 16 = .ok (.istore_n 3, 1) := by decide +kernel
theorem dX0_changeOfRound_17 : decode cX0_changeOfRound 17 = .ok (.iload_n 3, 1) := by decide +kernel
theorem dX0_changeOfRound_18 : decode cX0_changeOfRound 18 = .ok (.bipush 10, 2) := by decide +kernel
theorem dX0_changeOfRound_20 : decode cX0_changeOfRound 20 = .ok (.if_icmp .ge 74, 3) := by decide +kernel
theorem dX0_changeOfRound_23 : decode cX0_changeOfRound 23 = .ok (.aload_n 0, 1) := by decide +kernel
theorem dX0_changeOfRound_24 : decode cX0_changeOfRound 24 = .ok (.getfield 36, 3) := by decide +kernel
theorem dX0_changeOfRound_27 : decode cX0_changeOfRound 27 = .ok (.iload_n 3, 1) := by decide +kernel
theorem dX0_changeOfRound_28 : decode cX0_changeOfRound 28 = .ok (.daload, 1) := by decide +kernel
theorem dX0_changeOfRound_29 : decode cX0_changeOfRound 29 = .ok (.dconst 0, 1) := by decide +kernel
theorem dX0_changeOfRound_30 : decode cX0_changeOfRound 30 = .ok (.dcmp .l, 1) := by decide +kernel
theorem dX0_changeOfRound_31 : decode cX0_changeOfRound 31 = .ok (.ifCond .le 57, 3) := by decide +kernel
theorem dX0_changeOfRound_34 : decode cX0_changeOfRound 34 = .ok (.aload_n 0, 1) := by decide +kernel
theorem dX0_changeOfRound_35 : decode cX0_changeOfRound 35 = .ok (.getfield 32, 3) := by decide +kernel
theorem dX0_changeOfRound_38 : decode cX0_changeOfRound 38 = .ok (.iload_n 3, 1) := by decide +kernel
theorem dX0_changeOfRound_39 : decode cX0_changeOfRound 39 = .ok (.daload, 1) := by decide +kernel
theorem dX0_changeOfRound_40 : decode cX0_changeOfRound 40 = .ok (.dstore 4, 2) := by decide +kernel
theorem dX0_changeOfRound_42 : decode cX0_changeOfRound 42 = .ok (.aload_n 0, 1) := by decide +kernel
theorem dX0_changeOfRound_43 : decode cX0_changeOfRound 43 = .ok (.getfield 32, 3) := by decide +kernel
theorem dX0_changeOfRound_46 : decode cX0_changeOfRound 46 = .ok (.iload_n 3, 1) := by decide +kernel
theorem dX0_changeOfRound_47 : decode cX0_changeOfRound 47 = .ok (.aload_n 0, 1) := by decide +kernel
theorem dX0_changeOfRound_48 : decode cX0_changeOfRound 48 = .ok (.iload_n 3, 1) := by decide +kernel
theorem dX0_changeOfRound_49 : decode cX0_changeOfRound 49 = .ok (.invokevirtual 95, 3) := by decide +kernel
theorem dX0_changeOfRound_52 : decode cX0_changeOfRound 52 = .ok (.aload_n 0, 1) := by decide +kernel
theorem dX0_changeOfRound_53 : decode cX0_changeOfRound 53 = .ok (.getfield 36, 3) := by decide +kernel
theorem dX0_changeOfRound_56 : decode cX0_changeOfRound 56 = .ok (.iload_n 3, 1) := by decide +kernel
theorem dX0_changeOfRound_57 : decode cX0_changeOfRound 57 = .ok (.daload, 1) := by decide +kernel
theorem dX0_changeOfRound_58 : decode cX0_changeOfRound 58 = .ok (.ddiv, 1) := by decide +kernel
theorem dX0_changeOfRound_59 : decode cX0_changeOfRound 59 = .ok (.dastore, 1) := by decide +kernel
theorem dX0_changeOfRound_60 : decode cX0_changeOfRound 60 = .ok (.aload_n 0, 1) := by decide +kernel
theorem dX0_changeOfRound_61 : decode cX0_changeOfRound 61 = .ok (.getfield 32, 3) := by decide +kernel
theorem dX0_changeOfRound_64 : decode cX0_changeOfRound 64 = .ok (.iload_n 3, 1) := by decide +kernel
theorem dX0_changeOfRound_65 : decode cX0_changeOfRound 65 = .ok (.daload, 1) := by decide +kernel
theorem dX0_changeOfRound_66 : decode cX0_changeOfRound 66 = .ok (.dload 4, 2) := by decide +kernel
theorem dX0_changeOfRound_68 : decode cX0_changeOfRound 68 = .ok (.dsub, 1) := by decide +kernel
theorem dX0_changeOfRound_69 : decode cX0_changeOfRound 69 = .ok (.invokestatic 98, 3) := by decide +kernel
theorem dX0_changeOfRound_72 : decode cX0_changeOfRound 72 = .ok (.dstore 6, 2) := by decide +kernel
theorem dX0_changeOfRound_74 : decode cX0_changeOfRound 74 = .ok (.dload 6, 2) := by decide +kernel
theorem dX0_changeOfRound_76 : decode cX0_changeOfRound 76 = .ok (.dload_n 1, 1) := by decide +kernel
theorem dX0_changeOfRound_77 : decode cX0_changeOfRound 77 = .ok (.dcmp .l, 1) := by decide +kernel
theorem dX0_changeOfRound_78 : decode cX0_changeOfRound 78 = .ok (.ifCond .le 8, 3) := by decide +kernel
theorem dX0_changeOfRound_81 : decode cX0_changeOfRound 81 = .ok (.dload 6, 2) := by decide +kernel
theorem dX0_changeOfRound_83 : decode cX0_changeOfRound 83 = .ok (.goto 4, 3) := by decide +kernel
theorem dX0_changeOfRound_86 : decode cX0_changeOfRound 86 = .ok (.dload_n 1, 1) := by decide +kernel
theorem dX0_changeOfRound_87 : decode cX0_changeOfRound 87 = .ok (.dstore_n 1, 1) := by decide +kernel
theorem dX0_changeOfRound_88 : decode cX0_changeOfRound 88 = .ok (.iinc 3 1, 3) := by decide +kernel
theorem dX0_changeOfRound_91 : decode cX0_changeOfRound 91 = .ok (.goto (-74), 3) := by decide +kernel
theorem dX0_changeOfRound_94 : decode cX0_changeOfRound 94 = .ok (.aload_n 0, 1) := by decide +kernel
theorem dX0_changeOfRound_95 : decode cX0_changeOfRound 95 = .ok (.getfield 28, 3) := by decide +kernel
theorem dX0_changeOfRound_98 : decode cX0_changeOfRound 98 = .ok (.aload_n 0, 1) := by decide +kernel
theorem dX0_changeOfRound_99 : decode cX0_changeOfRound 99 = .ok (.iconst 0, 1) := by decide +kernel
theorem dX0_changeOfRound_100 : decode cX0_changeOfRound 100 = .ok (.invokevirtual 102, 3) := by decide +kernel
theorem dX0_changeOfRound_103 : decode cX0_changeOfRound 103 = .ok (.invokestatic 105, 3) := by decide +kernel
theorem dX0_changeOfRound_106 : decode cX0_changeOfRound 106 = .ok (.putfield 43, 3) := by decide +kernel
theorem dX0_changeOfRound_109 : decode cX0_changeOfRound 109 = .ok (.dload_n 1, 1) := by decide +kernel
theorem dX0_changeOfRound_110 : decode cX0_changeOfRound 110 = .ok (.dreturn, 1) := by decide +kernel
set_option maxRecDepth 20000 in
theorem ggX0_pull_X1_otherEnd : GoodIn wsX0_pull wsX1_otherEnd := goodIn_r _ [10, 11, 12, 18, 19, 20, 21, 22, 23, 24, 25] (by decide +kernel) (by decide +kernel)
set_option maxRecDepth 20000 in
theorem gX0_pull_X1_otherEnd : GoodIn wsX0_pull (wsV RX0 108 RX1 yX1_otherEnd wsX1_otherEnd) := goodIn_app (goodIn_of _ (by decide +kernel)) ggX0_pull_X1_otherEnd
theorem dX0_pull_0 : decode cX0_pull 0 = .ok (.dconst 0, 1) := by decide +kernel
theorem dX0_pull_1 : decode cX0_pull 1 = .ok (.dstore_n 2, 1) := by decide +kernel
theorem dX0_pull_2 : decode cX0_pull 2 = .ok (.iconst 0, 1) := by decide +kernel
theorem dX0_pull_3 : decode cX0_pull 3 = .ok (.istore 4, 2) := by decide +kernel
theorem dX0_pull_5 : decode cX0_pull 5 = .ok (.iload 4, 2) := by decide +kernel
theorem dX0_pull_7 : decode cX0_pull 7 = .ok (.aload_n 0, 1) := by decide +kernel
theorem dX0_pull_8 : decode cX0_pull 8 = .ok (.getfield 12, 3) := by decide +kernel
theorem dX0_pull_11 : decode cX0_pull 11 = .ok (.getfield 64, 3) := by decide +kernel
theorem dX0_pull_14 : decode cX0_pull 14 = .ok (.iload_n 1, 1) := by decide +kernel
theorem dX0_pull_15 : decode cX0_pull 15 = .ok (.iaload, 1) := by decide +kernel
theorem dX0_pull_16 : decode cX0_pull 16 = .ok (.if_icmp .ge 52, 3) := by decide +kernel
theorem dX0_pull_19 : decode cX0_pull 19 = .ok (.aload_n 0, 1) := by decide +kernel
theorem dX0_pull_20 : decode cX0_pull 20 = .ok (.getfield 12, 3) := by decide +kernel
theorem dX0_pull_23 : decode cX0_pull 23 = .ok (.getfield 75, 3) := by decide +kernel
theorem dX0_pull_26 : decode cX0_pull 26 = .ok (.iload_n 1, 1) := by decide +kernel
theorem dX0_pull_27 : decode cX0_pull 27 = .ok (.aaload, 1) := by decide +kernel
theorem dX0_pull_28 : decode cX0_pull 28 = .ok (.iload 4, 2) := by decide +kernel
theorem dX0_pull_30 : decode cX0_pull 30 = .ok (.iaload, 1) := by decide +kernel
theorem dX0_pull_31 : decode cX0_pull 31 = .ok (.istore 5, 2) := by decide +kernel
theorem dX0_pull_33 : decode cX0_pull 33 = .ok (.dload_n 2, 1) := by decide +kernel
theorem dX0_pull_34 : decode cX0_pull 34 = .ok (.aload_n 0, 1) := by decide +kernel
theorem dX0_pull_35 : decode cX0_pull 35 = .ok (.getfield 12, 3) := by decide +kernel
theorem dX0_pull_38 : decode cX0_pull 38 = .ok (.getfield 72, 3) := by decide +kernel
theorem dX0_pull_41 : decode cX0_pull 41 = .ok (.iload 5, 2) := by decide +kernel
theorem dX0_pull_43 : decode cX0_pull 43 = .ok (.daload, 1) := by decide +kernel
theorem dX0_pull_44 : decode cX0_pull 44 = .ok (.aload_n 0, 1) := by decide +kernel
theorem dX0_pull_45 : decode cX0_pull 45 = .ok (.getfield 32, 3) := by decide +kernel
theorem dX0_pull_48 : decode cX0_pull 48 = .ok (.aload_n 0, 1) := by decide +kernel
theorem dX0_pull_49 : decode cX0_pull 49 = .ok (.getfield 12, 3) := by decide +kernel
theorem dX0_pull_52 : decode cX0_pull 52 = .ok (.iload 5, 2) := by decide +kernel
theorem dX0_pull_54 : decode cX0_pull 54 = .ok (.iload_n 1, 1) := by decide +kernel
theorem dX0_pull_55 : decode cX0_pull 55 = .ok (.invokevirtual 108, 3) := by decide +kernel
theorem dX0_pull_58 : decode cX0_pull 58 = .ok (.daload, 1) := by decide +kernel
theorem dX0_pull_59 : decode cX0_pull 59 = .ok (.dmul, 1) := by decide +kernel
theorem dX0_pull_60 : decode cX0_pull 60 = .ok (.dadd, 1) := by decide +kernel
theorem dX0_pull_61 : decode cX0_pull 61 = .ok (.dstore_n 2, 1) := by decide +kernel
theorem dX0_pull_62 : decode cX0_pull 62 = .ok (.iinc 4 1, 3) := by decide +kernel
theorem dX0_pull_65 : decode cX0_pull 65 = .ok (.goto (-60), 3) := by decide +kernel
theorem dX0_pull_68 : decode cX0_pull 68 = .ok (.dload_n 2, 1) := by decide +kernel
theorem dX0_pull_69 : decode cX0_pull 69 = .ok (.dreturn, 1) := by decide +kernel
set_option maxRecDepth 20000 in
theorem ggX0_flowsTo_X1_otherEnd : GoodIn wsX0_flowsTo wsX1_otherEnd := goodIn_r _ [10, 11, 12, 18, 19, 20, 21, 22, 23, 24, 25] (by decide +kernel) (by decide +kernel)
set_option maxRecDepth 20000 in
theorem gX0_flowsTo_X1_otherEnd : GoodIn wsX0_flowsTo (wsV RX0 108 RX1 yX1_otherEnd wsX1_otherEnd) := goodIn_app (goodIn_of _ (by decide +kernel)) ggX0_flowsTo_X1_otherEnd
theorem dX0_flowsTo_0 : decode cX0_flowsTo 0 = .ok (.dconst 0, 1) := by decide +kernel
theorem dX0_flowsTo_1 : decode cX0_flowsTo 1 = .ok (.dstore_n 2, 1) := by decide +kernel
theorem dX0_flowsTo_2 : decode cX0_flowsTo 2 = .ok (.iconst 0, 1) := by decide +kernel
theorem dX0_flowsTo_3 : decode cX0_flowsTo 3 = .ok (.istore 4, 2) := by decide +kernel
theorem dX0_flowsTo_5 : decode cX0_flowsTo 5 = .ok (.iload 4, 2) := by decide +kernel
theorem dX0_flowsTo_7 : decode cX0_flowsTo 7 = .ok (.aload_n 0, 1) := by decide +kernel
theorem dX0_flowsTo_8 : decode cX0_flowsTo 8 = .ok (.getfield 12, 3) := by decide +kernel
theorem dX0_flowsTo_11 : decode cX0_flowsTo 11 = .ok (.getfield 64, 3) := by decide +kernel
theorem dX0_flowsTo_14 : decode cX0_flowsTo 14 = .ok (.iload_n 1, 1) := by decide +kernel
theorem dX0_flowsTo_15 : decode cX0_flowsTo 15 = .ok (.iaload, 1) := by decide +kernel
theorem dX0_flowsTo_16 : decode cX0_flowsTo 16 = .ok (.if_icmp .ge 59, 3) := by decide +kernel
theorem dX0_flowsTo_19 : decode cX0_flowsTo 19 = .ok (.aload_n 0, 1) := by decide +kernel
theorem dX0_flowsTo_20 : decode cX0_flowsTo 20 = .ok (.getfield 12, 3) := by decide +kernel
theorem dX0_flowsTo_23 : decode cX0_flowsTo 23 = .ok (.getfield 75, 3) := by decide +kernel
theorem dX0_flowsTo_26 : decode cX0_flowsTo 26 = .ok (.iload_n 1, 1) := by decide +kernel
theorem dX0_flowsTo_27 : decode cX0_flowsTo 27 = .ok (.aaload, 1) := by decide +kernel
theorem dX0_flowsTo_28 : decode cX0_flowsTo 28 = .ok (.iload 4, 2) := by decide +kernel
theorem dX0_flowsTo_30 : decode cX0_flowsTo 30 = .ok (.iaload, 1) := by decide +kernel
theorem dX0_flowsTo_31 : decode cX0_flowsTo 31 = .ok (.istore 5, 2) := by decide +kernel
theorem dX0_flowsTo_33 : decode cX0_flowsTo 33 = .ok (.dload_n 2, 1) := by decide +kernel
theorem dX0_flowsTo_34 : decode cX0_flowsTo 34 = .ok (.aload_n 0, 1) := by decide +kernel
theorem dX0_flowsTo_35 : decode cX0_flowsTo 35 = .ok (.getfield 12, 3) := by decide +kernel
theorem dX0_flowsTo_38 : decode cX0_flowsTo 38 = .ok (.getfield 72, 3) := by decide +kernel
theorem dX0_flowsTo_41 : decode cX0_flowsTo 41 = .ok (.iload 5, 2) := by decide +kernel
theorem dX0_flowsTo_43 : decode cX0_flowsTo 43 = .ok (.daload, 1) := by decide +kernel
theorem dX0_flowsTo_44 : decode cX0_flowsTo 44 = .ok (.aload_n 0, 1) := by decide +kernel
theorem dX0_flowsTo_45 : decode cX0_flowsTo 45 = .ok (.getfield 32, 3) := by decide +kernel
theorem dX0_flowsTo_48 : decode cX0_flowsTo 48 = .ok (.aload_n 0, 1) := by decide +kernel
theorem dX0_flowsTo_49 : decode cX0_flowsTo 49 = .ok (.getfield 12, 3) := by decide +kernel
theorem dX0_flowsTo_52 : decode cX0_flowsTo 52 = .ok (.iload 5, 2) := by decide +kernel
theorem dX0_flowsTo_54 : decode cX0_flowsTo 54 = .ok (.iload_n 1, 1) := by decide +kernel
theorem dX0_flowsTo_55 : decode cX0_flowsTo 55 = .ok (.invokevirtual 108, 3) := by decide +kernel
theorem dX0_flowsTo_58 : decode cX0_flowsTo 58 = .ok (.daload, 1) := by decide +kernel
theorem dX0_flowsTo_59 : decode cX0_flowsTo 59 = .ok (.aload_n 0, 1) := by decide +kernel
theorem dX0_flowsTo_60 : decode cX0_flowsTo 60 = .ok (.getfield 32, 3) := by decide +kernel
theorem dX0_flowsTo_63 : decode cX0_flowsTo 63 = .ok (.iload_n 1, 1) := by decide +kernel
theorem dX0_flowsTo_64 : decode cX0_flowsTo 64 = .ok (.daload, 1) := by decide +kernel
theorem dX0_flowsTo_65 : decode cX0_flowsTo 65 = .ok (.dsub, 1) := by decide +kernel
theorem dX0_flowsTo_66 : decode cX0_flowsTo 66 = .ok (.dmul, 1) := by decide +kernel
theorem dX0_flowsTo_67 : decode cX0_flowsTo 67 = .ok (.dadd, 1) := by decide +kernel
theorem dX0_flowsTo_68 : decode cX0_flowsTo 68 = .ok (.dstore_n 2, 1) := by decide +kernel
theorem dX0_flowsTo_69 : decode cX0_flowsTo 69 = .ok (.iinc 4 1, 3) := by decide +kernel
theorem dX0_flowsTo_72 : decode cX0_flowsTo 72 = .ok (.goto (-67), 3) := by decide +kernel
theorem dX0_flowsTo_75 : decode cX0_flowsTo 75 = .ok (.dload_n 2, 1) := by decide +kernel
theorem dX0_flowsTo_76 : decode cX0_flowsTo 76 = .ok (.dreturn, 1) := by decide +kernel
set_option maxRecDepth 20000 in
theorem ggX0_closeGates_X0_draw : GoodIn wsX0_closeGates wsX0_draw := goodIn_r _ [12, 1, 4, 5, 13, 14, 15, 16, 17, 18, 19, 20, 21, 22, 23, 24, 25, 26, 27, 28, 29] (by decide +kernel) (by decide +kernel)
set_option maxRecDepth 20000 in
theorem gX0_closeGates_X0_draw : GoodIn wsX0_closeGates (wsV RX0 112 RX0 yX0_draw wsX0_draw) := goodIn_app (goodIn_of _ (by decide +kernel)) ggX0_closeGates_X0_draw
theorem dX0_closeGates_0 : decode cX0_closeGates 0 = .ok (.iconst 0, 1) := by decide +kernel
theorem dX0_closeGates_1 : decode cX0_closeGates 1 = .ok (.istore_n 1, 1) := by decide +kernel
theorem dX0_closeGates_2 : decode cX0_closeGates 2 = .ok (.iconst 0, 1) := by decide +kernel
theorem dX0_closeGates_3 : decode cX0_closeGates 3 = .ok (.istore_n 2, 1) := by decide +kernel
theorem dX0_closeGates_4 : decode cX0_closeGates 4 = .ok (.iload_n 2, 1) := by decide +kernel
theorem dX0_closeGates_5 : decode cX0_closeGates 5 = .ok (.aload_n 0, 1) := by decide +kernel
theorem dX0_closeGates_6 : decode cX0_closeGates 6 = .ok (.getfield 21, 3) := by decide +kernel
theorem dX0_closeGates_9 : decode cX0_closeGates 9 = .ok (.getfield 79, 3) := by decide +kernel
theorem dX0_closeGates_12 : decode cX0_closeGates 12 = .ok (.if_icmp .ge 93, 3) := by decide +kernel
theorem dX0_closeGates_15 : decode cX0_closeGates 15 = .ok (.aload_n 0, 1) := by decide +kernel
theorem dX0_closeGates_16 : decode cX0_closeGates 16 = .ok (.iload_n 2, 1) := by decide +kernel
theorem dX0_closeGates_17 : decode cX0_closeGates 17 = .ok (.invokevirtual 112, 3) := by decide +kernel
theorem dX0_closeGates_20 : decode cX0_closeGates 20 = .ok (.dstore_n 3, 1) := by decide +kernel
theorem dX0_closeGates_21 : decode cX0_closeGates 21 = .ok (.aload_n 0, 1) := by decide +kernel
theorem dX0_closeGates_22 : decode cX0_closeGates 22 = .ok (.getfield 21, 3) := by decide +kernel
theorem dX0_closeGates_25 : decode cX0_closeGates 25 = .ok (.getfield 115, 3) := by decide +kernel
theorem dX0_closeGates_28 : decode cX0_closeGates 28 = .ok (.iload_n 2, 1) := by decide +kernel
theorem dX0_closeGates_29 : decode cX0_closeGates 29 = .ok (.daload, 1) := by decide +kernel
theorem dX0_closeGates_30 : decode cX0_closeGates 30 = .ok (.dstore 5, 2) := by decide +kernel
theorem dX0_closeGates_32 : decode cX0_closeGates 32 = .ok (.aload_n 0, 1) := by decide +kernel
theorem dX0_closeGates_33 : decode cX0_closeGates 33 = .ok (.getfield 21, 3) := by decide +kernel
theorem dX0_closeGates_36 : decode cX0_closeGates 36 = .ok (.getfield 118, 3) := by decide +kernel
theorem dX0_closeGates_39 : decode cX0_closeGates 39 = .ok (.iload_n 2, 1) := by decide +kernel
theorem dX0_closeGates_40 : decode cX0_closeGates 40 = .ok (.baload, 1) := by decide +kernel
theorem dX0_closeGates_41 : decode cX0_closeGates 41 = .ok (.ifCond .eq 58, 3) := by decide +kernel
theorem dX0_closeGates_44 : decode cX0_closeGates 44 = .ok (.dload_n 3, 1) := by decide +kernel
theorem dX0_closeGates_45 : decode cX0_closeGates 45 = .ok (.dload 5, 2) := by decide +kernel
theorem dX0_closeGates_47 : decode cX0_closeGates 47 = .ok (.dcmp .l, 1) := by decide +kernel
theorem dX0_closeGates_48 : decode cX0_closeGates 48 = .ok (.ifCond .le 51, 3) := by decide +kernel
theorem dX0_closeGates_51 : decode cX0_closeGates 51 = .ok (.aload_n 0, 1) := by decide +kernel
theorem dX0_closeGates_52 : decode cX0_closeGates 52 = .ok (.getfield 21, 3) := by decide +kernel
theorem dX0_closeGates_55 : decode cX0_closeGates 55 = .ok (.getfield 87, 3) := by decide +kernel
theorem dX0_closeGates_58 : decode cX0_closeGates 58 = .ok (.iload_n 2, 1) := by decide +kernel
theorem dX0_closeGates_59 : decode cX0_closeGates 59 = .ok (.aload_n 0, 1) := by decide +kernel
theorem dX0_closeGates_60 : decode cX0_closeGates 60 = .ok (.getfield 21, 3) := by decide +kernel
theorem dX0_closeGates_63 : decode cX0_closeGates 63 = .ok (.getfield 87, 3) := by decide +kernel
theorem dX0_closeGates_66 : decode cX0_closeGates 66 = .ok (.iload_n 2, 1) := by decide +kernel
theorem dX0_closeGates_67 : decode cX0_closeGates 67 = .ok (.daload, 1) := by decide +kernel
theorem dX0_closeGates_68 : decode cX0_closeGates 68 = .ok (.dload 5, 2) := by decide +kernel
theorem dX0_closeGates_70 : decode cX0_closeGates 70 = .ok (.dmul, 1) := by decide +kernel
theorem dX0_closeGates_71 : decode cX0_closeGates 71 = .ok (.dload_n 3, 1) := by decide +kernel
theorem dX0_closeGates_72 : decode cX0_closeGates 72 = .ok (.ddiv, 1) := by decide +kernel
theorem dX0_closeGates_73 : decode cX0_closeGates 73 = .ok (.dastore, 1) := by decide +kernel
theorem dX0_closeGates_74 : decode cX0_closeGates 74 = .ok (.iload_n 1, 1) := by decide +kernel
theorem dX0_closeGates_75 : decode cX0_closeGates 75 = .ok (.ifCond .ne 18, 3) := by decide +kernel
theorem dX0_closeGates_78 : decode cX0_closeGates 78 = .ok (.dload_n 3, 1) := by decide +kernel
theorem dX0_closeGates_79 : decode cX0_closeGates 79 = .ok (.ldc2_w 122, 3) := by decide +kernel
theorem dX0_closeGates_82 : decode cX0_closeGates 82 = .ok (.dmul, 1) := by decide +kernel
theorem dX0_closeGates_83 : decode cX0_closeGates 83 = .ok (.dload 5, 2) := by decide +kernel
theorem dX0_closeGates_85 : decode cX0_closeGates 85 = .ok (.ldc2_w 124, 3) := by decide +kernel
theorem dX0_closeGates_88 : decode cX0_closeGates 88 = .ok (.dmul, 1) := by decide +kernel
theorem dX0_closeGates_89 : decode cX0_closeGates 89 = .ok (.dcmp .l, 1) := by decide +kernel
theorem dX0_closeGates_90 : decode cX0_closeGates 90 = .ok (.ifCond .le 7, 3) := by decide +kernel
theorem dX0_closeGates_93 : decode cX0_closeGates 93 = .ok (.iconst 1, 1) := by decide +kernel
theorem dX0_closeGates_94 : decode cX0_closeGates 94 = .ok (.goto 4, 3) := by decide +kernel
theorem dX0_closeGates_97 : decode cX0_closeGates 97 = .ok (.iconst 0, 1) := by decide +kernel
theorem dX0_closeGates_98 : decode cX0_closeGates 98 = .ok (.istore_n 1, 1) := by decide +kernel
theorem dX0_closeGates_99 : decode cX0_closeGates 99 = .ok (.iinc 2 1, 3) := by decide +kernel
theorem dX0_closeGates_102 : decode cX0_closeGates 102 = .ok (.goto (-98), 3) := by decide +kernel
theorem dX0_closeGates_105 : decode cX0_closeGates 105 = .ok (.iload_n 1, 1) := by decide +kernel
theorem dX0_closeGates_106 : decode cX0_closeGates 106 = .ok (.ireturn, 1) := by decide +kernel
set_option maxRecDepth 20000 in
theorem ggX0_draw_X6_notBelowZero : GoodIn wsX0_draw wsX6_notBelowZero := goodIn_r _ [9] (by decide +kernel) (by decide +kernel)
set_option maxRecDepth 20000 in
theorem gX0_draw_X6_notBelowZero_n105 : GoodIn wsX0_draw (wsX6_notBelowZero) := ggX0_draw_X6_notBelowZero
theorem dX0_draw_0 : decode cX0_draw 0 = .ok (.aload_n 0, 1) := by decide +kernel
theorem dX0_draw_1 : decode cX0_draw 1 = .ok (.getfield 21, 3) := by decide +kernel
theorem dX0_draw_4 : decode cX0_draw 4 = .ok (.getfield 118, 3) := by decide +kernel
theorem dX0_draw_7 : decode cX0_draw 7 = .ok (.iload_n 1, 1) := by decide +kernel
theorem dX0_draw_8 : decode cX0_draw 8 = .ok (.baload, 1) := by decide +kernel
theorem dX0_draw_9 : decode cX0_draw 9 = .ok (.ifCond .ne 5, 3) := by decide +kernel
theorem dX0_draw_12 : decode cX0_draw 12 = .ok (.dconst 0, 1) := by decide +kernel
theorem dX0_draw_13 : decode cX0_draw 13 = .ok (.dreturn, 1) := by decide +kernel
theorem dX0_draw_14 : decode cX0_draw 14 = .ok (.aload_n 0, 1) := by decide +kernel
theorem dX0_draw_15 : decode cX0_draw 15 = .ok (.getfield 21, 3) := by decide +kernel
theorem dX0_draw_18 : decode cX0_draw 18 = .ok (.getfield 87, 3) := by decide +kernel
theorem dX0_draw_21 : decode cX0_draw 21 = .ok (.iload_n 1, 1) := by decide +kernel
theorem dX0_draw_22 : decode cX0_draw 22 = .ok (.daload, 1) := by decide +kernel
theorem dX0_draw_23 : decode cX0_draw 23 = .ok (.ldc2_w 90, 3) := by decide +kernel
theorem dX0_draw_26 : decode cX0_draw 26 = .ok (.dmul, 1) := by decide +kernel
theorem dX0_draw_27 : decode cX0_draw 27 = .ok (.dconst 0, 1) := by decide +kernel
theorem dX0_draw_28 : decode cX0_draw 28 = .ok (.aload_n 0, 1) := by decide +kernel
theorem dX0_draw_29 : decode cX0_draw 29 = .ok (.getfield 32, 3) := by decide +kernel
theorem dX0_draw_32 : decode cX0_draw 32 = .ok (.aload_n 0, 1) := by decide +kernel
theorem dX0_draw_33 : decode cX0_draw 33 = .ok (.getfield 21, 3) := by decide +kernel
theorem dX0_draw_36 : decode cX0_draw 36 = .ok (.getfield 126, 3) := by decide +kernel
theorem dX0_draw_39 : decode cX0_draw 39 = .ok (.iload_n 1, 1) := by decide +kernel
theorem dX0_draw_40 : decode cX0_draw 40 = .ok (.iaload, 1) := by decide +kernel
theorem dX0_draw_41 : decode cX0_draw 41 = .ok (.daload, 1) := by decide +kernel
theorem dX0_draw_42 : decode cX0_draw 42 = .ok (.dsub, 1) := by decide +kernel
theorem dX0_draw_43 : decode cX0_draw 43 = .ok (.dmul, 1) := by decide +kernel
theorem dX0_draw_44 : decode cX0_draw 44 = .ok (.invokestatic 105, 3) := by decide +kernel
theorem dX0_draw_47 : decode cX0_draw 47 = .ok (.dreturn, 1) := by decide +kernel
set_option maxRecDepth 20000 in
theorem ggX0_residual_X0_flowsTo : GoodIn wsX0_residual wsX0_flowsTo := goodIn_r _ [7, 8, 9, 10, 11, 12, 13, 14, 15, 16, 17, 18, 19, 38, 39, 40, 41, 42, 49, 50, 51, 52, 53, 54, 55, 56] (by decide +kernel) (by decide +kernel)
set_option maxRecDepth 20000 in
theorem gX0_residual_X0_flowsTo : GoodIn wsX0_residual (wsV RX0 102 RX0 yX0_flowsTo wsX0_flowsTo) := goodIn_app (goodIn_of _ (by decide +kernel)) ggX0_residual_X0_flowsTo
set_option maxRecDepth 20000 in
theorem ggX0_residual_X4_isOpenAt : GoodIn wsX0_residual wsX4_isOpenAt := goodIn_r _ [24, 25, 26, 43, 44, 45, 46, 47, 48] (by decide +kernel) (by decide +kernel)
set_option maxRecDepth 20000 in
theorem gX0_residual_X4_isOpenAt : GoodIn wsX0_residual (wsV RX0 83 RX4 yX4_isOpenAt wsX4_isOpenAt) := goodIn_app (goodIn_of _ (by decide +kernel)) ggX0_residual_X4_isOpenAt
set_option maxRecDepth 20000 in
theorem ggX0_residual_X0_draw : GoodIn wsX0_residual wsX0_draw := goodIn_r _ [30, 1, 31, 32, 33, 12, 34, 35, 36, 37, 38, 39, 40, 41, 42, 43, 44, 45, 46, 47, 48] (by decide +kernel) (by decide +kernel)
set_option maxRecDepth 20000 in
theorem gX0_residual_X0_draw : GoodIn wsX0_residual (wsV RX0 112 RX0 yX0_draw wsX0_draw) := goodIn_app (goodIn_of _ (by decide +kernel)) ggX0_residual_X0_draw
theorem dX0_residual_0 : decode cX0_residual 0 = .ok (.iload_n 1, 1) := by decide +kernel
theorem dX0_residual_1 : decode cX0_residual 1 = .ok (.ifCond .ne 5, 3) := by decide +kernel
theorem dX0_residual_4 : decode cX0_residual 4 = .ok (.dconst 0, 1) := by decide +kernel
theorem dX0_residual_5 : decode cX0_residual 5 = .ok (.dreturn, 1) := by decide +kernel
theorem dX0_residual_6 : decode cX0_residual 6 = .ok (.aload_n 0, 1) := by decide +kernel
theorem dX0_residual_7 : decode cX0_residual 7 = .ok (.iload_n 1, 1) := by decide +kernel
theorem dX0_residual_8 : decode cX0_residual 8 = .ok (.invokevirtual 102, 3) := by decide +kernel
theorem dX0_residual_11 : decode cX0_residual 11 = .ok (.dstore_n 2, 1) := by decide +kernel
theorem dX0_residual_12 : decode cX0_residual 12 = .ok (.iconst 0, 1) := by decide +kernel
theorem dX0_residual_13 : decode cX0_residual 13 = .ok (.istore 4, 2) := by decide +kernel
theorem dX0_residual_15 : decode cX0_residual 15 = .ok (.iload 4, 2) := by decide +kernel
theorem dX0_residual_17 : decode cX0_residual 17 = .ok (.aload_n 0, 1) := by decide +kernel
theorem dX0_residual_18 : decode cX0_residual 18 = .ok (.getfield 21, 3) := by decide +kernel
theorem dX0_residual_21 : decode cX0_residual 21 = .ok (.getfield 79, 3) := by decide +kernel
theorem dX0_residual_24 : decode cX0_residual 24 = .ok (.if_icmp .ge 31, 3) := by decide +kernel
theorem dX0_residual_27 : decode cX0_residual 27 = .ok (.aload_n 0, 1) := by decide +kernel
theorem dX0_residual_28 : decode cX0_residual 28 = .ok (.getfield 21, 3) := by decide +kernel
theorem dX0_residual_31 : decode cX0_residual 31 = .ok (.iload 4, 2) := by decide +kernel
theorem dX0_residual_33 : decode cX0_residual 33 = .ok (.iload_n 1, 1) := by decide +kernel
theorem dX0_residual_34 : decode cX0_residual 34 = .ok (.invokevirtual 83, 3) := by decide +kernel
theorem dX0_residual_37 : decode cX0_residual 37 = .ok (.ifCond .eq 12, 3) := by decide +kernel
theorem dX0_residual_40 : decode cX0_residual 40 = .ok (.dload_n 2, 1) := by decide +kernel
theorem dX0_residual_41 : decode cX0_residual 41 = .ok (.aload_n 0, 1) := by decide +kernel
theorem dX0_residual_42 : decode cX0_residual 42 = .ok (.iload 4, 2) := by decide +kernel
theorem dX0_residual_44 : decode cX0_residual 44 = .ok (.invokevirtual 112, 3) := by decide +kernel
theorem dX0_residual_47 : decode cX0_residual 47 = .ok (.dadd, 1) := by decide +kernel
theorem dX0_residual_48 : decode cX0_residual 48 = .ok (.dstore_n 2, 1) := by decide +kernel
theorem dX0_residual_49 : decode cX0_residual 49 = .ok (.iinc 4 1, 3) := by decide +kernel
theorem dX0_residual_52 : decode cX0_residual 52 = .ok (.goto (-37), 3) := by decide +kernel
theorem dX0_residual_55 : decode cX0_residual 55 = .ok (.dload_n 2, 1) := by decide +kernel
theorem dX0_residual_56 : decode cX0_residual 56 = .ok (.dreturn, 1) := by decide +kernel
theorem dX0_flow_0 : decode cX0_flow 0 = .ok (.aload_n 0, 1) := by decide +kernel
theorem dX0_flow_1 : decode cX0_flow 1 = .ok (.getfield 12, 3) := by decide +kernel
theorem dX0_flow_4 : decode cX0_flow 4 = .ok (.getfield 72, 3) := by decide +kernel
theorem dX0_flow_7 : decode cX0_flow 7 = .ok (.iload_n 1, 1) := by decide +kernel
theorem dX0_flow_8 : decode cX0_flow 8 = .ok (.daload, 1) := by decide +kernel
theorem dX0_flow_9 : decode cX0_flow 9 = .ok (.aload_n 0, 1) := by decide +kernel
theorem dX0_flow_10 : decode cX0_flow 10 = .ok (.getfield 32, 3) := by decide +kernel
theorem dX0_flow_13 : decode cX0_flow 13 = .ok (.aload_n 0, 1) := by decide +kernel
theorem dX0_flow_14 : decode cX0_flow 14 = .ok (.getfield 12, 3) := by decide +kernel
theorem dX0_flow_17 : decode cX0_flow 17 = .ok (.getfield 129, 3) := by decide +kernel
theorem dX0_flow_20 : decode cX0_flow 20 = .ok (.iload_n 1, 1) := by decide +kernel
theorem dX0_flow_21 : decode cX0_flow 21 = .ok (.iaload, 1) := by decide +kernel
theorem dX0_flow_22 : decode cX0_flow 22 = .ok (.daload, 1) := by decide +kernel
theorem dX0_flow_23 : decode cX0_flow 23 = .ok (.aload_n 0, 1) := by decide +kernel
theorem dX0_flow_24 : decode cX0_flow 24 = .ok (.getfield 32, 3) := by decide +kernel
theorem dX0_flow_27 : decode cX0_flow 27 = .ok (.aload_n 0, 1) := by decide +kernel
theorem dX0_flow_28 : decode cX0_flow 28 = .ok (.getfield 12, 3) := by decide +kernel
theorem dX0_flow_31 : decode cX0_flow 31 = .ok (.getfield 132, 3) := by decide +kernel
theorem dX0_flow_34 : decode cX0_flow 34 = .ok (.iload_n 1, 1) := by decide +kernel
theorem dX0_flow_35 : decode cX0_flow 35 = .ok (.iaload, 1) := by decide +kernel
theorem dX0_flow_36 : decode cX0_flow 36 = .ok (.daload, 1) := by decide +kernel
theorem dX0_flow_37 : decode cX0_flow 37 = .ok (.dsub, 1) := by decide +kernel
theorem dX0_flow_38 : decode cX0_flow 38 = .ok (.dmul, 1) := by decide +kernel
theorem dX0_flow_39 : decode cX0_flow 39 = .ok (.dreturn, 1) := by decide +kernel
set_option maxRecDepth 20000 in
theorem ggX0_speed_X0_flow : GoodIn wsX0_speed wsX0_flow := goodIn_r _ [7, 1, 8, 9, 10, 11, 15, 16, 17, 18, 19, 20, 21, 22, 23, 24, 25, 26, 27] (by decide +kernel) (by decide +kernel)
set_option maxRecDepth 20000 in
theorem gX0_speed_X0_flow : GoodIn wsX0_speed (wsV RX0 135 RX0 yX0_flow wsX0_flow) := goodIn_app (goodIn_of _ (by decide +kernel)) ggX0_speed_X0_flow
set_option maxRecDepth 20000 in
theorem ggX0_speed_X6_magnitude : GoodIn wsX0_speed wsX6_magnitude := goodIn_r _ [14] (by decide +kernel) (by decide +kernel)
set_option maxRecDepth 20000 in
theorem gX0_speed_X6_magnitude_n98 : GoodIn wsX0_speed (wsX6_magnitude) := ggX0_speed_X6_magnitude
theorem dX0_speed_0 : decode cX0_speed 0 = .ok (.aload_n 0, 1) := by decide +kernel
theorem dX0_speed_1 : decode cX0_speed 1 = .ok (.iload_n 1, 1) := by decide +kernel
theorem dX0_speed_2 : decode cX0_speed 2 = .ok (.invokevirtual 135, 3) := by decide +kernel
theorem dX0_speed_5 : decode cX0_speed 5 = .ok (.invokestatic 98, 3) := by decide +kernel
theorem dX0_speed_8 : decode cX0_speed 8 = .ok (.aload_n 0, 1) := by decide +kernel
theorem dX0_speed_9 : decode cX0_speed 9 = .ok (.getfield 12, 3) := by decide +kernel
theorem dX0_speed_12 : decode cX0_speed 12 = .ok (.getfield 137, 3) := by decide +kernel
theorem dX0_speed_15 : decode cX0_speed 15 = .ok (.iload_n 1, 1) := by decide +kernel
theorem dX0_speed_16 : decode cX0_speed 16 = .ok (.daload, 1) := by decide +kernel
theorem dX0_speed_17 : decode cX0_speed 17 = .ok (.aload_n 0, 1) := by decide +kernel
theorem dX0_speed_18 : decode cX0_speed 18 = .ok (.getfield 12, 3) := by decide +kernel
theorem dX0_speed_21 : decode cX0_speed 21 = .ok (.getfield 137, 3) := by decide +kernel
theorem dX0_speed_24 : decode cX0_speed 24 = .ok (.iload_n 1, 1) := by decide +kernel
theorem dX0_speed_25 : decode cX0_speed 25 = .ok (.daload, 1) := by decide +kernel
theorem dX0_speed_26 : decode cX0_speed 26 = .ok (.dmul, 1) := by decide +kernel
theorem dX0_speed_27 : decode cX0_speed 27 = .ok (.ddiv, 1) := by decide +kernel
theorem dX0_speed_28 : decode cX0_speed 28 = .ok (.dreturn, 1) := by decide +kernel
set_option maxRecDepth 20000 in
theorem ggX0_isEachSpeedAtLeast_X0_speed : GoodIn wsX0_isEachSpeedAtLeast wsX0_speed := goodIn_r _ [7, 1, 8, 9, 10, 11, 6, 12, 13, 14, 15, 16, 17, 18, 19, 20, 21, 22, 23, 24, 25, 26, 27, 28, 29, 30, 31, 32] (by decide +kernel) (by decide +kernel)
set_option maxRecDepth 20000 in
theorem gX0_isEachSpeedAtLeast_X0_speed : GoodIn wsX0_isEachSpeedAtLeast (wsV RX0 141 RX0 yX0_speed wsX0_speed) := goodIn_app (goodIn_of _ (by decide +kernel)) ggX0_isEachSpeedAtLeast_X0_speed
theorem dX0_isEachSpeedAtLeast_0 : decode cX0_isEachSpeedAtLeast 0 = .ok (.iconst 0, 1) := by decide +kernel
theorem dX0_isEachSpeedAtLeast_1 : decode cX0_isEachSpeedAtLeast 1 = .ok (.istore_n 3, 1) := by decide +kernel
theorem dX0_isEachSpeedAtLeast_2 : decode cX0_isEachSpeedAtLeast 2 = .ok (.iload_n 3, 1) := by decide +kernel
theorem dX0_isEachSpeedAtLeast_3 : decode cX0_isEachSpeedAtLeast 3 = .ok (.aload_n 0, 1) := by decide +kernel
theorem dX0_isEachSpeedAtLeast_4 : decode cX0_isEachSpeedAtLeast 4 = .ok (.getfield 12, 3) := by decide +kernel
theorem dX0_isEachSpeedAtLeast_7 : decode cX0_isEachSpeedAtLeast 7 = .ok (.getfield 140, 3) := by decide +kernel
theorem dX0_isEachSpeedAtLeast_10 : decode cX0_isEachSpeedAtLeast 10 = .ok (.if_icmp .ge 21, 3) := by decide +kernel
theorem dX0_isEachSpeedAtLeast_13 : decode cX0_isEachSpeedAtLeast 13 = .ok (.aload_n 0, 1) := by decide +kernel
theorem dX0_isEachSpeedAtLeast_14 : decode cX0_isEachSpeedAtLeast 14 = .ok (.iload_n 3, 1) := by decide +kernel
theorem dX0_isEachSpeedAtLeast_15 : decode cX0_isEachSpeedAtLeast 15 = .ok (.invokevirtual 141, 3) := by decide +kernel
theorem dX0_isEachSpeedAtLeast_18 : decode cX0_isEachSpeedAtLeast 18 = .ok (.dload_n 1, 1) := by decide +kernel
theorem dX0_isEachSpeedAtLeast_19 : decode cX0_isEachSpeedAtLeast 19 = .ok (.dcmp .l, 1) := by decide +kernel
theorem dX0_isEachSpeedAtLeast_20 : decode cX0_isEachSpeedAtLeast 20 = .ok (.ifCond .ge 5, 3) := by decide +kernel
theorem dX0_isEachSpeedAtLeast_23 : decode cX0_isEachSpeedAtLeast 23 = .ok (.iconst 0, 1) := by decide +kernel
theorem dX0_isEachSpeedAtLeast_24 : decode cX0_isEachSpeedAtLeast 24 = .ok (.ireturn, 1) := by decide +kernel
theorem dX0_isEachSpeedAtLeast_25 : decode cX0_isEachSpeedAtLeast 25 = .ok (.iinc 3 1, 3) := by decide +kernel
theorem dX0_isEachSpeedAtLeast_28 : decode cX0_isEachSpeedAtLeast 28 = .ok (.goto (-26), 3) := by decide +kernel
theorem dX0_isEachSpeedAtLeast_31 : decode cX0_isEachSpeedAtLeast 31 = .ok (.iconst 1, 1) := by decide +kernel
theorem dX0_isEachSpeedAtLeast_32 : decode cX0_isEachSpeedAtLeast 32 = .ok (.ireturn, 1) := by decide +kernel
set_option maxRecDepth 20000 in
theorem ggX0_isEachMachineServed_X0_draw : GoodIn wsX0_isEachMachineServed wsX0_draw := goodIn_r _ [10, 1, 3, 11, 12, 13, 14, 15, 16, 17, 18, 19, 20, 21, 22, 23, 24, 25, 26, 27, 28] (by decide +kernel) (by decide +kernel)
set_option maxRecDepth 20000 in
theorem gX0_isEachMachineServed_X0_draw : GoodIn wsX0_isEachMachineServed (wsV RX0 112 RX0 yX0_draw wsX0_draw) := goodIn_app (goodIn_of _ (by decide +kernel)) ggX0_isEachMachineServed_X0_draw
theorem dX0_isEachMachineServed_0 : decode cX0_isEachMachineServed 0 = .ok (.iconst 0, 1) := by decide +kernel
theorem dX0_isEachMachineServed_1 : decode cX0_isEachMachineServed 1 = .ok (.istore_n 1, 1) := by decide +kernel
theorem dX0_isEachMachineServed_2 : decode cX0_isEachMachineServed 2 = .ok (.iload_n 1, 1) := by decide +kernel
theorem dX0_isEachMachineServed_3 : decode cX0_isEachMachineServed 3 = .ok (.aload_n 0, 1) := by decide +kernel
theorem dX0_isEachMachineServed_4 : decode cX0_isEachMachineServed 4 = .ok (.getfield 21, 3) := by decide +kernel
theorem dX0_isEachMachineServed_7 : decode cX0_isEachMachineServed 7 = .ok (.getfield 79, 3) := by decide +kernel
theorem dX0_isEachMachineServed_10 : decode cX0_isEachMachineServed 10 = .ok (.if_icmp .ge 45, 3) := by decide +kernel
theorem dX0_isEachMachineServed_13 : decode cX0_isEachMachineServed 13 = .ok (.aload_n 0, 1) := by decide +kernel
theorem dX0_isEachMachineServed_14 : decode cX0_isEachMachineServed 14 = .ok (.getfield 21, 3) := by decide +kernel
theorem dX0_isEachMachineServed_17 : decode cX0_isEachMachineServed 17 = .ok (.getfield 118, 3) := by decide +kernel
theorem dX0_isEachMachineServed_20 : decode cX0_isEachMachineServed 20 = .ok (.iload_n 1, 1) := by decide +kernel
theorem dX0_isEachMachineServed_21 : decode cX0_isEachMachineServed 21 = .ok (.baload, 1) := by decide +kernel
theorem dX0_isEachMachineServed_22 : decode cX0_isEachMachineServed 22 = .ok (.ifCond .eq 27, 3) := by decide +kernel
theorem dX0_isEachMachineServed_25 : decode cX0_isEachMachineServed 25 = .ok (.aload_n 0, 1) := by decide +kernel
theorem dX0_isEachMachineServed_26 : decode cX0_isEachMachineServed 26 = .ok (.iload_n 1, 1) := by decide +kernel
theorem dX0_isEachMachineServed_27 : decode cX0_isEachMachineServed 27 = .ok (.invokevirtual 112, 3) := by decide +kernel
theorem dX0_isEachMachineServed_30 : decode cX0_isEachMachineServed 30 = .ok (.aload_n 0, 1) := by decide +kernel
theorem dX0_isEachMachineServed_31 : decode cX0_isEachMachineServed 31 = .ok (.getfield 21, 3) := by decide +kernel
theorem dX0_isEachMachineServed_34 : decode cX0_isEachMachineServed 34 = .ok (.getfield 115, 3) := by decide +kernel
theorem dX0_isEachMachineServed_37 : decode cX0_isEachMachineServed 37 = .ok (.iload_n 1, 1) := by decide +kernel
theorem dX0_isEachMachineServed_38 : decode cX0_isEachMachineServed 38 = .ok (.daload, 1) := by decide +kernel
theorem dX0_isEachMachineServed_39 : decode cX0_isEachMachineServed 39 = .ok (.ldc2_w 144, 3) := by decide +kernel
theorem dX0_isEachMachineServed_42 : decode cX0_isEachMachineServed 42 = .ok (.dmul, 1) := by decide +kernel
theorem dX0_isEachMachineServed_43 : decode cX0_isEachMachineServed 43 = .ok (.dcmp .g, 1) := by decide +kernel
theorem dX0_isEachMachineServed_44 : decode cX0_isEachMachineServed 44 = .ok (.ifCond .ge 5, 3) := by decide +kernel
theorem dX0_isEachMachineServed_47 : decode cX0_isEachMachineServed 47 = .ok (.iconst 0, 1) := by decide +kernel
theorem dX0_isEachMachineServed_48 : decode cX0_isEachMachineServed 48 = .ok (.ireturn, 1) := by decide +kernel
theorem dX0_isEachMachineServed_49 : decode cX0_isEachMachineServed 49 = .ok (.iinc 1 1, 3) := by decide +kernel
theorem dX0_isEachMachineServed_52 : decode cX0_isEachMachineServed 52 = .ok (.goto (-50), 3) := by decide +kernel
theorem dX0_isEachMachineServed_55 : decode cX0_isEachMachineServed 55 = .ok (.iconst 1, 1) := by decide +kernel
theorem dX0_isEachMachineServed_56 : decode cX0_isEachMachineServed 56 = .ok (.ireturn, 1) := by decide +kernel
theorem dX1_init_0 : decode cX1_init 0 = .ok (.aload_n 0, 1) := by decide +kernel
theorem dX1_init_1 : decode cX1_init 1 = .ok (.invokespecial 3, 3) := by decide +kernel
theorem dX1_init_4 : decode cX1_init 4 = .ok (.aload_n 0, 1) := by decide +kernel
theorem dX1_init_5 : decode cX1_init 5 = .ok (.iconst 0, 1) := by decide +kernel
theorem dX1_init_6 : decode cX1_init 6 = .ok (.putfield 9, 3) := by decide +kernel
theorem dX1_init_9 : decode cX1_init 9 = .ok (.aload_n 0, 1) := by decide +kernel
theorem dX1_init_10 : decode cX1_init 10 = .ok (.bipush 16, 2) := by decide +kernel
theorem dX1_init_12 : decode cX1_init 12 = .ok (.newarray .int, 2) := by decide +kernel
theorem dX1_init_14 : decode cX1_init 14 = .ok (.putfield 15, 3) := by decide +kernel
theorem dX1_init_17 : decode cX1_init 17 = .ok (.aload_n 0, 1) := by decide +kernel
theorem dX1_init_18 : decode cX1_init 18 = .ok (.bipush 16, 2) := by decide +kernel
theorem dX1_init_20 : decode cX1_init 20 = .ok (.newarray .int, 2) := by decide +kernel
theorem dX1_init_22 : decode cX1_init 22 = .ok (.putfield 19, 3) := by decide +kernel
theorem dX1_init_25 : decode cX1_init 25 = .ok (.aload_n 0, 1) := by decide +kernel
theorem dX1_init_26 : decode cX1_init 26 = .ok (.bipush 16, 2) := by decide +kernel
theorem dX1_init_28 : decode cX1_init 28 = .ok (.newarray .double, 2) := by decide +kernel
theorem dX1_init_30 : decode cX1_init 30 = .ok (.putfield 22, 3) := by decide +kernel
theorem dX1_init_33 : decode cX1_init 33 = .ok (.aload_n 0, 1) := by decide +kernel
theorem dX1_init_34 : decode cX1_init 34 = .ok (.bipush 16, 2) := by decide +kernel
theorem dX1_init_36 : decode cX1_init 36 = .ok (.newarray .double, 2) := by decide +kernel
theorem dX1_init_38 : decode cX1_init 38 = .ok (.putfield 26, 3) := by decide +kernel
theorem dX1_init_41 : decode cX1_init 41 = .ok (.aload_n 0, 1) := by decide +kernel
theorem dX1_init_42 : decode cX1_init 42 = .ok (.bipush 16, 2) := by decide +kernel
theorem dX1_init_44 : decode cX1_init 44 = .ok (.newarray .double, 2) := by decide +kernel
theorem dX1_init_46 : decode cX1_init 46 = .ok (.putfield 29, 3) := by decide +kernel
theorem dX1_init_49 : decode cX1_init 49 = .ok (.aload_n 0, 1) := by decide +kernel
theorem dX1_init_50 : decode cX1_init 50 = .ok (.bipush 10, 2) := by decide +kernel
theorem dX1_init_52 : decode cX1_init 52 = .ok (.bipush 16, 2) := by decide +kernel
theorem dX1_init_54 : decode cX1_init 54 = .ok (.multianewarray 32 2, 4) := by decide +kernel
theorem dX1_init_58 : decode cX1_init 58 = .ok (.putfield 34, 3) := by decide +kernel
theorem dX1_init_61 : decode cX1_init 61 = .ok (.aload_n 0, 1) := by decide +kernel
theorem dX1_init_62 : decode cX1_init 62 = .ok (.bipush 10, 2) := by decide +kernel
theorem dX1_init_64 : decode cX1_init 64 = .ok (.newarray .int, 2) := by decide +kernel
theorem dX1_init_66 : decode cX1_init 66 = .ok (.putfield 37, 3) := by decide +kernel
theorem dX1_init_69 : decode cX1_init 69 = .ok (.return_, 1) := by decide +kernel
set_option maxRecDepth 20000 in
theorem ggX1_add_X1_setWidth : GoodIn wsX1_add wsX1_setWidth := goodIn_r _ [9, 10, 11, 4, 18, 19, 20, 21, 22, 23, 24, 25] (by decide +kernel) (by decide +kernel)
set_option maxRecDepth 20000 in
theorem gX1_add_X1_setWidth : GoodIn wsX1_add (wsV RX1 40 RX1 yX1_setWidth wsX1_setWidth) := goodIn_app (goodIn_of _ (by decide +kernel)) ggX1_add_X1_setWidth
set_option maxRecDepth 20000 in
theorem ggX1_add_X1_hangOn : GoodIn wsX1_add wsX1_hangOn := goodIn_r _ [15, 16, 17, 18, 19, 20, 21, 22, 23, 24, 25] (by decide +kernel) (by decide +kernel)
set_option maxRecDepth 20000 in
theorem gX1_add_X1_hangOn : GoodIn wsX1_add (wsV RX1 44 RX1 yX1_hangOn wsX1_hangOn) := goodIn_app (goodIn_of _ (by decide +kernel)) ggX1_add_X1_hangOn
theorem dX1_add_0 : decode cX1_add 0 = .ok (.aload_n 0, 1) := by decide +kernel
theorem dX1_add_1 : decode cX1_add 1 = .ok (.getfield 9, 3) := by decide +kernel
theorem dX1_add_4 : decode cX1_add 4 = .ok (.istore 7, 2) := by decide +kernel
theorem dX1_add_6 : decode cX1_add 6 = .ok (.aload_n 0, 1) := by decide +kernel
theorem dX1_add_7 : decode cX1_add 7 = .ok (.dup, 1) := by decide +kernel
theorem dX1_add_8 : decode cX1_add 8 = .ok (.getfield 9, 3) := by decide +kernel
theorem dX1_add_11 : decode cX1_add 11 = .ok (.iconst 1, 1) := by decide +kernel
theorem dX1_add_12 : decode cX1_add 12 = .ok (.iadd, 1) := by decide +kernel
theorem dX1_add_13 : decode cX1_add 13 = .ok (.putfield 9, 3) := by decide +kernel
theorem dX1_add_16 : decode cX1_add 16 = .ok (.aload_n 0, 1) := by decide +kernel
theorem dX1_add_17 : decode cX1_add 17 = .ok (.getfield 15, 3) := by decide +kernel
theorem dX1_add_20 : decode cX1_add 20 = .ok (.iload 7, 2) := by decide +kernel
theorem dX1_add_22 : decode cX1_add 22 = .ok (.iload_n 1, 1) := by decide +kernel
theorem dX1_add_23 : decode cX1_add 23 = .ok (.iastore, 1) := by decide +kernel
theorem dX1_add_24 : decode cX1_add 24 = .ok (.aload_n 0, 1) := by decide +kernel
theorem dX1_add_25 : decode cX1_add 25 = .ok (.getfield 19, 3) := by decide +kernel
theorem dX1_add_28 : decode cX1_add 28 = .ok (.iload 7, 2) := by decide +kernel
theorem dX1_add_30 : decode cX1_add 30 = .ok (.iload_n 2, 1) := by decide +kernel
theorem dX1_add_31 : decode cX1_add 31 = .ok (.iastore, 1) := by decide +kernel
theorem dX1_add_32 : decode cX1_add 32 = .ok (.aload_n 0, 1) := by decide +kernel
theorem dX1_add_33 : decode cX1_add 33 = .ok (.getfield 22, 3) := by decide +kernel
theorem dX1_add_36 : decode cX1_add 36 = .ok (.iload 7, 2) := by decide +kernel
theorem dX1_add_38 : decode cX1_add 38 = .ok (.dload_n 3, 1) := by decide +kernel
theorem dX1_add_39 : decode cX1_add 39 = .ok (.dastore, 1) := by decide +kernel
theorem dX1_add_40 : decode cX1_add 40 = .ok (.aload_n 0, 1) := by decide +kernel
theorem dX1_add_41 : decode cX1_add 41 = .ok (.iload 7, 2) := by decide +kernel
theorem dX1_add_43 : decode cX1_add 43 = .ok (.dload 5, 2) := by decide +kernel
theorem dX1_add_45 : decode cX1_add 45 = .ok (.invokevirtual 40, 3) := by decide +kernel
theorem dX1_add_48 : decode cX1_add 48 = .ok (.aload_n 0, 1) := by decide +kernel
theorem dX1_add_49 : decode cX1_add 49 = .ok (.iload_n 1, 1) := by decide +kernel
theorem dX1_add_50 : decode cX1_add 50 = .ok (.iload 7, 2) := by decide +kernel
theorem dX1_add_52 : decode cX1_add 52 = .ok (.invokevirtual 44, 3) := by decide +kernel
theorem dX1_add_55 : decode cX1_add 55 = .ok (.aload_n 0, 1) := by decide +kernel
theorem dX1_add_56 : decode cX1_add 56 = .ok (.iload_n 2, 1) := by decide +kernel
theorem dX1_add_57 : decode cX1_add 57 = .ok (.iload 7, 2) := by decide +kernel
theorem dX1_add_59 : decode cX1_add 59 = .ok (.invokevirtual 44, 3) := by decide +kernel
theorem dX1_add_62 : decode cX1_add 62 = .ok (.iload 7, 2) := by decide +kernel
theorem dX1_add_64 : decode cX1_add 64 = .ok (.ireturn, 1) := by decide +kernel
set_option maxRecDepth 20000 in
theorem ggX1_setWidths_X1_setWidth : GoodIn wsX1_setWidths wsX1_setWidth := goodIn_r _ [6, 7, 8, 9, 10, 11, 12, 13, 14, 15, 16, 17] (by decide +kernel) (by decide +kernel)
set_option maxRecDepth 20000 in
theorem gX1_setWidths_X1_setWidth : GoodIn wsX1_setWidths (wsV RX1 40 RX1 yX1_setWidth wsX1_setWidth) := goodIn_app (goodIn_of _ (by decide +kernel)) ggX1_setWidths_X1_setWidth
theorem dX1_setWidths_0 : decode cX1_setWidths 0 = .ok (.iconst 0, 1) := by decide +kernel
theorem dX1_setWidths_1 : decode cX1_setWidths 1 = .ok (.istore_n 3, 1) := by decide +kernel
theorem dX1_setWidths_2 : decode cX1_setWidths 2 = .ok (.iload_n 3, 1) := by decide +kernel
theorem dX1_setWidths_3 : decode cX1_setWidths 3 = .ok (.aload_n 0, 1) := by decide +kernel
theorem dX1_setWidths_4 : decode cX1_setWidths 4 = .ok (.getfield 9, 3) := by decide +kernel
theorem dX1_setWidths_7 : decode cX1_setWidths 7 = .ok (.if_icmp .ge 15, 3) := by decide +kernel
theorem dX1_setWidths_10 : decode cX1_setWidths 10 = .ok (.aload_n 0, 1) := by decide +kernel
theorem dX1_setWidths_11 : decode cX1_setWidths 11 = .ok (.iload_n 3, 1) := by decide +kernel
theorem dX1_setWidths_12 : decode cX1_setWidths 12 = .ok (.dload_n 1, 1) := by decide +kernel
theorem dX1_setWidths_13 : decode cX1_setWidths 13 = .ok (.invokevirtual 40, 3) := by decide +kernel
theorem dX1_setWidths_16 : decode cX1_setWidths 16 = .ok (.iinc 3 1, 3) := by decide +kernel
theorem dX1_setWidths_19 : decode cX1_setWidths 19 = .ok (.goto (-17), 3) := by decide +kernel
theorem dX1_setWidths_22 : decode cX1_setWidths 22 = .ok (.return_, 1) := by decide +kernel
theorem dX1_otherEnd_0 : decode cX1_otherEnd 0 = .ok (.aload_n 0, 1) := by decide +kernel
theorem dX1_otherEnd_1 : decode cX1_otherEnd 1 = .ok (.getfield 15, 3) := by decide +kernel
theorem dX1_otherEnd_4 : decode cX1_otherEnd 4 = .ok (.iload_n 1, 1) := by decide +kernel
theorem dX1_otherEnd_5 : decode cX1_otherEnd 5 = .ok (.iaload, 1) := by decide +kernel
theorem dX1_otherEnd_6 : decode cX1_otherEnd 6 = .ok (.iload_n 2, 1) := by decide +kernel
theorem dX1_otherEnd_7 : decode cX1_otherEnd 7 = .ok (.if_icmp .ne 12, 3) := by decide +kernel
theorem dX1_otherEnd_10 : decode cX1_otherEnd 10 = .ok (.aload_n 0, 1) := by decide +kernel
theorem dX1_otherEnd_11 : decode cX1_otherEnd 11 = .ok (.getfield 19, 3) := by decide +kernel
theorem dX1_otherEnd_14 : decode cX1_otherEnd 14 = .ok (.iload_n 1, 1) := by decide +kernel
theorem dX1_otherEnd_15 : decode cX1_otherEnd 15 = .ok (.iaload, 1) := by decide +kernel
theorem dX1_otherEnd_16 : decode cX1_otherEnd 16 = .ok (.goto 9, 3) := by decide +kernel
theorem dX1_otherEnd_19 : decode cX1_otherEnd 19 = .ok (.aload_n 0, 1) := by decide +kernel
theorem dX1_otherEnd_20 : decode cX1_otherEnd 20 = .ok (.getfield 15, 3) := by decide +kernel
theorem dX1_otherEnd_23 : decode cX1_otherEnd 23 = .ok (.iload_n 1, 1) := by decide +kernel
theorem dX1_otherEnd_24 : decode cX1_otherEnd 24 = .ok (.iaload, 1) := by decide +kernel
theorem dX1_otherEnd_25 : decode cX1_otherEnd 25 = .ok (.ireturn, 1) := by decide +kernel
theorem dX1_hangOn_0 : decode cX1_hangOn 0 = .ok (.aload_n 0, 1) := by decide +kernel
theorem dX1_hangOn_1 : decode cX1_hangOn 1 = .ok (.getfield 34, 3) := by decide +kernel
theorem dX1_hangOn_4 : decode cX1_hangOn 4 = .ok (.iload_n 1, 1) := by decide +kernel
theorem dX1_hangOn_5 : decode cX1_hangOn 5 = .ok (.aaload, 1) := by decide +kernel
theorem dX1_hangOn_6 : decode cX1_hangOn 6 = .ok (.aload_n 0, 1) := by decide +kernel
theorem dX1_hangOn_7 : decode cX1_hangOn 7 = .ok (.getfield 37, 3) := by decide +kernel
theorem dX1_hangOn_10 : decode cX1_hangOn 10 = .ok (.iload_n 1, 1) := by decide +kernel
theorem dX1_hangOn_11 : decode cX1_hangOn 11 = .ok (.iaload, 1) := by decide +kernel
theorem dX1_hangOn_12 : decode cX1_hangOn 12 = .ok (.iload_n 2, 1) := by decide +kernel
theorem dX1_hangOn_13 : decode cX1_hangOn 13 = .ok (.iastore, 1) := by decide +kernel
theorem dX1_hangOn_14 : decode cX1_hangOn 14 = .ok (.aload_n 0, 1) := by decide +kernel
theorem dX1_hangOn_15 : decode cX1_hangOn 15 = .ok (.getfield 37, 3) := by decide +kernel
theorem dX1_hangOn_18 : decode cX1_hangOn 18 = .ok (.iload_n 1, 1) := by decide +kernel
theorem dX1_hangOn_19 : decode cX1_hangOn 19 = .ok (.dup2, 1) := by decide +kernel
theorem dX1_hangOn_20 : decode cX1_hangOn 20 = .ok (.iaload, 1) := by decide +kernel
theorem dX1_hangOn_21 : decode cX1_hangOn 21 = .ok (.iconst 1, 1) := by decide +kernel
theorem dX1_hangOn_22 : decode cX1_hangOn 22 = .ok (.iadd, 1) := by decide +kernel
theorem dX1_hangOn_23 : decode cX1_hangOn 23 = .ok (.iastore, 1) := by decide +kernel
theorem dX1_hangOn_24 : decode cX1_hangOn 24 = .ok (.return_, 1) := by decide +kernel
theorem dX1_setWidth_0 : decode cX1_setWidth 0 = .ok (.aload_n 0, 1) := by decide +kernel
theorem dX1_setWidth_1 : decode cX1_setWidth 1 = .ok (.getfield 26, 3) := by decide +kernel
theorem dX1_setWidth_4 : decode cX1_setWidth 4 = .ok (.iload_n 1, 1) := by decide +kernel
theorem dX1_setWidth_5 : decode cX1_setWidth 5 = .ok (.dload_n 2, 1) := by decide +kernel
theorem dX1_setWidth_6 : decode cX1_setWidth 6 = .ok (.dastore, 1) := by decide +kernel
theorem dX1_setWidth_7 : decode cX1_setWidth 7 = .ok (.aload_n 0, 1) := by decide +kernel
theorem dX1_setWidth_8 : decode cX1_setWidth 8 = .ok (.getfield 29, 3) := by decide +kernel
theorem dX1_setWidth_11 : decode cX1_setWidth 11 = .ok (.iload_n 1, 1) := by decide +kernel
theorem dX1_setWidth_12 : decode cX1_setWidth 12 = .ok (.dload_n 2, 1) := by decide +kernel
theorem dX1_setWidth_13 : decode cX1_setWidth 13 = .ok (.dload_n 2, 1) := by decide +kernel
theorem dX1_setWidth_14 : decode cX1_setWidth 14 = .ok (.dmul, 1) := by decide +kernel
theorem dX1_setWidth_15 : decode cX1_setWidth 15 = .ok (.dload_n 2, 1) := by decide +kernel
theorem dX1_setWidth_16 : decode cX1_setWidth 16 = .ok (.dmul, 1) := by decide +kernel
theorem dX1_setWidth_17 : decode cX1_setWidth 17 = .ok (.aload_n 0, 1) := by decide +kernel
theorem dX1_setWidth_18 : decode cX1_setWidth 18 = .ok (.getfield 22, 3) := by decide +kernel
theorem dX1_setWidth_21 : decode cX1_setWidth 21 = .ok (.iload_n 1, 1) := by decide +kernel
theorem dX1_setWidth_22 : decode cX1_setWidth 22 = .ok (.daload, 1) := by decide +kernel
theorem dX1_setWidth_23 : decode cX1_setWidth 23 = .ok (.ddiv, 1) := by decide +kernel
theorem dX1_setWidth_24 : decode cX1_setWidth 24 = .ok (.dastore, 1) := by decide +kernel
theorem dX1_setWidth_25 : decode cX1_setWidth 25 = .ok (.return_, 1) := by decide +kernel
theorem dX2_init_0 : decode cX2_init 0 = .ok (.aload_n 0, 1) := by decide +kernel
theorem dX2_init_1 : decode cX2_init 1 = .ok (.invokespecial 1, 3) := by decide +kernel
theorem dX2_init_4 : decode cX2_init 4 = .ok (.aload_n 0, 1) := by decide +kernel
theorem dX2_init_5 : decode cX2_init 5 = .ok (.ldc2_w 7, 3) := by decide +kernel
theorem dX2_init_8 : decode cX2_init 8 = .ok (.putfield 9, 3) := by decide +kernel
theorem dX2_init_11 : decode cX2_init 11 = .ok (.aload_n 0, 1) := by decide +kernel
theorem dX2_init_12 : decode cX2_init 12 = .ok (.ldc2_w 15, 3) := by decide +kernel
theorem dX2_init_15 : decode cX2_init 15 = .ok (.putfield 17, 3) := by decide +kernel
theorem dX2_init_18 : decode cX2_init 18 = .ok (.aload_n 0, 1) := by decide +kernel
theorem dX2_init_19 : decode cX2_init 19 = .ok (.dconst 0, 1) := by decide +kernel
theorem dX2_init_20 : decode cX2_init 20 = .ok (.putfield 20, 3) := by decide +kernel
theorem dX2_init_23 : decode cX2_init 23 = .ok (.return_, 1) := by decide +kernel
theorem dX2_hold_0 : decode cX2_hold 0 = .ok (.dconst 0, 1) := by decide +kernel
theorem dX2_hold_1 : decode cX2_hold 1 = .ok (.aload_n 0, 1) := by decide +kernel
theorem dX2_hold_2 : decode cX2_hold 2 = .ok (.getfield 9, 3) := by decide +kernel
theorem dX2_hold_5 : decode cX2_hold 5 = .ok (.aload_n 0, 1) := by decide +kernel
theorem dX2_hold_6 : decode cX2_hold 6 = .ok (.getfield 17, 3) := by decide +kernel
theorem dX2_hold_9 : decode cX2_hold 9 = .ok (.aload_n 0, 1) := by decide +kernel
theorem dX2_hold_10 : decode cX2_hold 10 = .ok (.getfield 20, 3) := by decide +kernel
theorem dX2_hold_13 : decode cX2_hold 13 = .ok (.dmul, 1) := by decide +kernel
theorem dX2_hold_14 : decode cX2_hold 14 = .ok (.dsub, 1) := by decide +kernel
theorem dX2_hold_15 : decode cX2_hold 15 = .ok (.dsub, 1) := by decide +kernel
theorem dX2_hold_16 : decode cX2_hold 16 = .ok (.dstore_n 1, 1) := by decide +kernel
theorem dX2_hold_17 : decode cX2_hold 17 = .ok (.dload_n 1, 1) := by decide +kernel
theorem dX2_hold_18 : decode cX2_hold 18 = .ok (.dconst 0, 1) := by decide +kernel
theorem dX2_hold_19 : decode cX2_hold 19 = .ok (.dcmp .l, 1) := by decide +kernel
theorem dX2_hold_20 : decode cX2_hold 20 = .ok (.ifCond .le 7, 3) := by decide +kernel
theorem dX2_hold_23 : decode cX2_hold 23 = .ok (.dconst 0, 1) := by decide +kernel
theorem dX2_hold_24 : decode cX2_hold 24 = .ok (.goto 4, 3) := by decide +kernel
theorem dX2_hold_27 : decode cX2_hold 27 = .ok (.dload_n 1, 1) := by decide +kernel
theorem dX2_hold_28 : decode cX2_hold 28 = .ok (.dreturn, 1) := by decide +kernel
theorem dX3_init_0 : decode cX3_init 0 = .ok (.aload_n 0, 1) := by decide +kernel
theorem dX3_init_1 : decode cX3_init 1 = .ok (.invokespecial 3, 3) := by decide +kernel
theorem dX3_init_4 : decode cX3_init 4 = .ok (.aload_n 0, 1) := by decide +kernel
theorem dX3_init_5 : decode cX3_init 5 = .ok (.bipush 16, 2) := by decide +kernel
theorem dX3_init_7 : decode cX3_init 7 = .ok (.newarray .double, 2) := by decide +kernel
theorem dX3_init_9 : decode cX3_init 9 = .ok (.putfield 9, 3) := by decide +kernel
theorem dX3_init_12 : decode cX3_init 12 = .ok (.aload_n 0, 1) := by decide +kernel
theorem dX3_init_13 : decode cX3_init 13 = .ok (.bipush 16, 2) := by decide +kernel
theorem dX3_init_15 : decode cX3_init 15 = .ok (.newarray .double, 2) := by decide +kernel
theorem dX3_init_17 : decode cX3_init 17 = .ok (.putfield 15, 3) := by decide +kernel
theorem dX3_init_20 : decode cX3_init 20 = .ok (.aload_n 0, 1) := by decide +kernel
theorem dX3_init_21 : decode cX3_init 21 = .ok (.bipush 16, 2) := by decide +kernel
theorem dX3_init_23 : decode cX3_init 23 = .ok (.newarray .boolean, 2) := by decide +kernel
theorem dX3_init_25 : decode cX3_init 25 = .ok (.putfield 18, 3) := by decide +kernel
theorem dX3_init_28 : decode cX3_init 28 = .ok (.return_, 1) := by decide +kernel
set_option maxRecDepth 20000 in
theorem ggX3_approach_X3_missing : GoodIn wsX3_approach wsX3_missing := goodIn_r _ [8, 9, 2, 10, 11, 12, 13, 14, 15, 16, 17, 18, 19, 20, 21, 22, 25, 26, 27, 28, 29, 30, 31, 32, 33, 34, 35, 36, 37, 38, 39, 40] (by decide +kernel) (by decide +kernel)
set_option maxRecDepth 20000 in
theorem gX3_approach_X3_missing : GoodIn wsX3_approach (wsV RX3 22 RX3 yX3_missing wsX3_missing) := goodIn_app (goodIn_of _ (by decide +kernel)) ggX3_approach_X3_missing
set_option maxRecDepth 20000 in
theorem ggX3_approach_X6_notBelowZero : GoodIn wsX3_approach wsX6_notBelowZero := goodIn_r _ [24] (by decide +kernel) (by decide +kernel)
set_option maxRecDepth 20000 in
theorem gX3_approach_X6_notBelowZero_n28 : GoodIn wsX3_approach (wsX6_notBelowZero) := ggX3_approach_X6_notBelowZero
theorem dX3_approach_0 : decode cX3_approach 0 = .ok (.iconst 0, 1) := by decide +kernel
theorem dX3_approach_1 : decode cX3_approach 1 = .ok (.istore_n 2, 1) := by decide +kernel
theorem dX3_approach_2 : decode cX3_approach 2 = .ok (.iload_n 2, 1) := by decide +kernel
theorem dX3_approach_3 : decode cX3_approach 3 = .ok (.bipush 16, 2) := by decide +kernel
theorem dX3_approach_5 : decode cX3_approach 5 = .ok (.if_icmp .ge 44, 3) := by decide +kernel
theorem dX3_approach_8 : decode cX3_approach 8 = .ok (.aload_n 0, 1) := by decide +kernel
theorem dX3_approach_9 : decode cX3_approach 9 = .ok (.getfield 18, 3) := by decide +kernel
theorem dX3_approach_12 : decode cX3_approach 12 = .ok (.iload_n 2, 1) := by decide +kernel
theorem dX3_approach_13 : decode cX3_approach 13 = .ok (.baload, 1) := by decide +kernel
theorem dX3_approach_14 : decode cX3_approach 14 = .ok (.ifCond .eq 29, 3) := by decide +kernel
theorem dX3_approach_17 : decode cX3_approach 17 = .ok (.aload_n 0, 1) := by decide +kernel
theorem dX3_approach_18 : decode cX3_approach 18 = .ok (.getfield 9, 3) := by decide +kernel
theorem dX3_approach_21 : decode cX3_approach 21 = .ok (.iload_n 2, 1) := by decide +kernel
theorem dX3_approach_22 : decode cX3_approach 22 = .ok (.aload_n 0, 1) := by decide +kernel
theorem dX3_approach_23 : decode cX3_approach 23 = .ok (.getfield 9, 3) := by decide +kernel
theorem dX3_approach_26 : decode cX3_approach 26 = .ok (.iload_n 2, 1) := by decide +kernel
theorem dX3_approach_27 : decode cX3_approach 27 = .ok (.daload, 1) := by decide +kernel
theorem dX3_approach_28 : decode cX3_approach 28 = .ok (.aload_n 0, 1) := by decide +kernel
theorem dX3_approach_29 : decode cX3_approach 29 = .ok (.iload_n 2, 1) := by decide +kernel
theorem dX3_approach_30 : decode cX3_approach 30 = .ok (.aload_n 1, 1) := by decide +kernel
theorem dX3_approach_31 : decode cX3_approach 31 = .ok (.invokevirtual 22, 3) := by decide +kernel
theorem dX3_approach_34 : decode cX3_approach 34 = .ok (.ldc2_w 26, 3) := by decide +kernel
theorem dX3_approach_37 : decode cX3_approach 37 = .ok (.ddiv, 1) := by decide +kernel
theorem dX3_approach_38 : decode cX3_approach 38 = .ok (.dadd, 1) := by decide +kernel
theorem dX3_approach_39 : decode cX3_approach 39 = .ok (.invokestatic 28, 3) := by decide +kernel
theorem dX3_approach_42 : decode cX3_approach 42 = .ok (.dastore, 1) := by decide +kernel
theorem dX3_approach_43 : decode cX3_approach 43 = .ok (.iinc 2 1, 3) := by decide +kernel
theorem dX3_approach_46 : decode cX3_approach 46 = .ok (.goto (-44), 3) := by decide +kernel
theorem dX3_approach_49 : decode cX3_approach 49 = .ok (.return_, 1) := by decide +kernel
set_option maxRecDepth 20000 in
theorem ggX3_sumOfSquares_X3_missing : GoodIn wsX3_sumOfSquares wsX3_missing := goodIn_r _ [6, 7, 8, 9, 10, 11, 12, 13, 14, 15, 16, 17, 18, 19, 20, 21, 22, 23, 24, 25, 26, 27, 28, 29, 30, 31, 32, 33, 34, 35, 36, 37] (by decide +kernel) (by decide +kernel)
set_option maxRecDepth 20000 in
theorem gX3_sumOfSquares_X3_missing : GoodIn wsX3_sumOfSquares (wsV RX3 22 RX3 yX3_missing wsX3_missing) := goodIn_app (goodIn_of _ (by decide +kernel)) ggX3_sumOfSquares_X3_missing
theorem dX3_sumOfSquares_0 : decode cX3_sumOfSquares 0 = .ok (.dconst 0, 1) := by decide +kernel
theorem dX3_sumOfSquares_1 : decode cX3_sumOfSquares 1 = .ok (.dstore_n 2, 1) := by decide +kernel
theorem dX3_sumOfSquares_2 : decode cX3_sumOfSquares 2 = .ok (.iconst 0, 1) := by decide +kernel
theorem dX3_sumOfSquares_3 : decode cX3_sumOfSquares 3 = .ok (.istore 4, 2) := by decide +kernel
theorem dX3_sumOfSquares_5 : decode cX3_sumOfSquares 5 = .ok (.iload 4, 2) := by decide +kernel
theorem dX3_sumOfSquares_7 : decode cX3_sumOfSquares 7 = .ok (.bipush 16, 2) := by decide +kernel
theorem dX3_sumOfSquares_9 : decode cX3_sumOfSquares 9 = .ok (.if_icmp .ge 36, 3) := by decide +kernel
theorem dX3_sumOfSquares_12 : decode cX3_sumOfSquares 12 = .ok (.aload_n 0, 1) := by decide +kernel
theorem dX3_sumOfSquares_13 : decode cX3_sumOfSquares 13 = .ok (.getfield 18, 3) := by decide +kernel
theorem dX3_sumOfSquares_16 : decode cX3_sumOfSquares 16 = .ok (.iload 4, 2) := by decide +kernel
theorem dX3_sumOfSquares_18 : decode cX3_sumOfSquares 18 = .ok (.baload, 1) := by decide +kernel
theorem dX3_sumOfSquares_19 : decode cX3_sumOfSquares 19 = .ok (.ifCond .eq 20, 3) := by decide +kernel
theorem dX3_sumOfSquares_22 : decode cX3_sumOfSquares 22 = .ok (.aload_n 0, 1) := by decide +kernel
theorem dX3_sumOfSquares_23 : decode cX3_sumOfSquares 23 = .ok (.iload 4, 2) := by decide +kernel
theorem dX3_sumOfSquares_25 : decode cX3_sumOfSquares 25 = .ok (.aload_n 1, 1) := by decide +kernel
theorem dX3_sumOfSquares_26 : decode cX3_sumOfSquares 26 = .ok (.invokevirtual 22, 3) := by decide +kernel
theorem dX3_sumOfSquares_29 : decode cX3_sumOfSquares 29 = .ok (.dstore 5, 2) := by decide +kernel
theorem dX3_sumOfSquares_31 : decode cX3_sumOfSquares 31 = .ok (.dload_n 2, 1) := by decide +kernel
theorem dX3_sumOfSquares_32 : decode cX3_sumOfSquares 32 = .ok (.dload 5, 2) := by decide +kernel
theorem dX3_sumOfSquares_34 : decode cX3_sumOfSquares 34 = .ok (.dload 5, 2) := by decide +kernel
theorem dX3_sumOfSquares_36 : decode cX3_sumOfSquares 36 = .ok (.dmul, 1) := by decide +kernel
theorem dX3_sumOfSquares_37 : decode cX3_sumOfSquares 37 = .ok (.dadd, 1) := by decide +kernel
theorem dX3_sumOfSquares_38 : decode cX3_sumOfSquares 38 = .ok (.dstore_n 2, 1) := by decide +kernel
theorem dX3_sumOfSquares_39 : decode cX3_sumOfSquares 39 = .ok (.iinc 4 1, 3) := by decide +kernel
theorem dX3_sumOfSquares_42 : decode cX3_sumOfSquares 42 = .ok (.goto (-37), 3) := by decide +kernel
theorem dX3_sumOfSquares_45 : decode cX3_sumOfSquares 45 = .ok (.dload_n 2, 1) := by decide +kernel
theorem dX3_sumOfSquares_46 : decode cX3_sumOfSquares 46 = .ok (.dreturn, 1) := by decide +kernel
set_option maxRecDepth 20000 in
theorem ggX3_missing_X0_flow : GoodIn wsX3_missing wsX0_flow := goodIn_r _ [7, 8, 9, 10, 11, 12, 19, 20, 21, 22, 23, 24, 25, 26, 27, 28, 29, 30, 31] (by decide +kernel) (by decide +kernel)
set_option maxRecDepth 20000 in
theorem gX3_missing_X0_flow : GoodIn wsX3_missing (wsV RX3 32 RX0 yX0_flow wsX0_flow) := goodIn_app (goodIn_of _ (by decide +kernel)) ggX3_missing_X0_flow
set_option maxRecDepth 20000 in
theorem ggX3_missing_X6_magnitude : GoodIn wsX3_missing wsX6_magnitude := goodIn_r _ [15] (by decide +kernel) (by decide +kernel)
set_option maxRecDepth 20000 in
theorem gX3_missing_X6_magnitude_n38 : GoodIn wsX3_missing (wsX6_magnitude) := ggX3_missing_X6_magnitude
theorem dX3_missing_0 : decode cX3_missing 0 = .ok (.aload_n 0, 1) := by decide +kernel
theorem dX3_missing_1 : decode cX3_missing 1 = .ok (.getfield 15, 3) := by decide +kernel
theorem dX3_missing_4 : decode cX3_missing 4 = .ok (.iload_n 1, 1) := by decide +kernel
theorem dX3_missing_5 : decode cX3_missing 5 = .ok (.daload, 1) := by decide +kernel
theorem dX3_missing_6 : decode cX3_missing 6 = .ok (.aload_n 2, 1) := by decide +kernel
theorem dX3_missing_7 : decode cX3_missing 7 = .ok (.iload_n 1, 1) := by decide +kernel
theorem dX3_missing_8 : decode cX3_missing 8 = .ok (.invokevirtual 32, 3) := by decide +kernel
theorem dX3_missing_11 : decode cX3_missing 11 = .ok (.invokestatic 38, 3) := by decide +kernel
theorem dX3_missing_14 : decode cX3_missing 14 = .ok (.dsub, 1) := by decide +kernel
theorem dX3_missing_15 : decode cX3_missing 15 = .ok (.aload_n 0, 1) := by decide +kernel
theorem dX3_missing_16 : decode cX3_missing 16 = .ok (.getfield 9, 3) := by decide +kernel
theorem dX3_missing_19 : decode cX3_missing 19 = .ok (.iload_n 1, 1) := by decide +kernel
theorem dX3_missing_20 : decode cX3_missing 20 = .ok (.daload, 1) := by decide +kernel
theorem dX3_missing_21 : decode cX3_missing 21 = .ok (.dsub, 1) := by decide +kernel
theorem dX3_missing_22 : decode cX3_missing 22 = .ok (.dreturn, 1) := by decide +kernel
end
section
theorem dX4_init_0 : decode cX4_init 0 = .ok (.aload_n 0, 1) := by decide +kernel
theorem dX4_init_1 : decode cX4_init 1 = .ok (.invokespecial 3, 3) := by decide +kernel
theorem dX4_init_4 : decode cX4_init 4 = .ok (.aload_n 0, 1) := by decide +kernel
theorem dX4_init_5 : decode cX4_init 5 = .ok (.iconst 0, 1) := by decide +kernel
theorem dX4_init_6 : decode cX4_init 6 = .ok (.putfield 9, 3) := by decide +kernel
theorem dX4_init_9 : decode cX4_init 9 = .ok (.aload_n 0, 1) := by decide +kernel
theorem dX4_init_10 : decode cX4_init 10 = .ok (.bipush 8, 2) := by decide +kernel
theorem dX4_init_12 : decode cX4_init 12 = .ok (.newarray .int, 2) := by decide +kernel
theorem dX4_init_14 : decode cX4_init 14 = .ok (.putfield 15, 3) := by decide +kernel
theorem dX4_init_17 : decode cX4_init 17 = .ok (.aload_n 0, 1) := by decide +kernel
theorem dX4_init_18 : decode cX4_init 18 = .ok (.bipush 8, 2) := by decide +kernel
theorem dX4_init_20 : decode cX4_init 20 = .ok (.newarray .double, 2) := by decide +kernel
theorem dX4_init_22 : decode cX4_init 22 = .ok (.putfield 19, 3) := by decide +kernel
theorem dX4_init_25 : decode cX4_init 25 = .ok (.aload_n 0, 1) := by decide +kernel
theorem dX4_init_26 : decode cX4_init 26 = .ok (.bipush 8, 2) := by decide +kernel
theorem dX4_init_28 : decode cX4_init 28 = .ok (.newarray .double, 2) := by decide +kernel
theorem dX4_init_30 : decode cX4_init 30 = .ok (.putfield 23, 3) := by decide +kernel
theorem dX4_init_33 : decode cX4_init 33 = .ok (.aload_n 0, 1) := by decide +kernel
theorem dX4_init_34 : decode cX4_init 34 = .ok (.bipush 8, 2) := by decide +kernel
theorem dX4_init_36 : decode cX4_init 36 = .ok (.newarray .boolean, 2) := by decide +kernel
theorem dX4_init_38 : decode cX4_init 38 = .ok (.putfield 26, 3) := by decide +kernel
theorem dX4_init_41 : decode cX4_init 41 = .ok (.aload_n 0, 1) := by decide +kernel
theorem dX4_init_42 : decode cX4_init 42 = .ok (.bipush 8, 2) := by decide +kernel
theorem dX4_init_44 : decode cX4_init 44 = .ok (.newarray .int, 2) := by decide +kernel
theorem dX4_init_46 : decode cX4_init 46 = .ok (.putfield 30, 3) := by decide +kernel
theorem dX4_init_49 : decode cX4_init 49 = .ok (.return_, 1) := by decide +kernel
theorem dX4_add_0 : decode cX4_add 0 = .ok (.aload_n 0, 1) := by decide +kernel
theorem dX4_add_1 : decode cX4_add 1 = .ok (.getfield 9, 3) := by decide +kernel
theorem dX4_add_4 : decode cX4_add 4 = .ok (.istore 4, 2) := by decide +kernel
theorem dX4_add_6 : decode cX4_add 6 = .ok (.aload_n 0, 1) := by decide +kernel
theorem dX4_add_7 : decode cX4_add 7 = .ok (.dup, 1) := by decide +kernel
theorem dX4_add_8 : decode cX4_add 8 = .ok (.getfield 9, 3) := by decide +kernel
theorem dX4_add_11 : decode cX4_add 11 = .ok (.iconst 1, 1) := by decide +kernel
theorem dX4_add_12 : decode cX4_add 12 = .ok (.iadd, 1) := by decide +kernel
theorem dX4_add_13 : decode cX4_add 13 = .ok (.putfield 9, 3) := by decide +kernel
theorem dX4_add_16 : decode cX4_add 16 = .ok (.aload_n 0, 1) := by decide +kernel
theorem dX4_add_17 : decode cX4_add 17 = .ok (.getfield 15, 3) := by decide +kernel
theorem dX4_add_20 : decode cX4_add 20 = .ok (.iload 4, 2) := by decide +kernel
theorem dX4_add_22 : decode cX4_add 22 = .ok (.iload_n 1, 1) := by decide +kernel
theorem dX4_add_23 : decode cX4_add 23 = .ok (.iastore, 1) := by decide +kernel
theorem dX4_add_24 : decode cX4_add 24 = .ok (.aload_n 0, 1) := by decide +kernel
theorem dX4_add_25 : decode cX4_add 25 = .ok (.getfield 19, 3) := by decide +kernel
theorem dX4_add_28 : decode cX4_add 28 = .ok (.iload 4, 2) := by decide +kernel
theorem dX4_add_30 : decode cX4_add 30 = .ok (.dload_n 2, 1) := by decide +kernel
theorem dX4_add_31 : decode cX4_add 31 = .ok (.dastore, 1) := by decide +kernel
theorem dX4_add_32 : decode cX4_add 32 = .ok (.iload 4, 2) := by decide +kernel
theorem dX4_add_34 : decode cX4_add 34 = .ok (.ireturn, 1) := by decide +kernel
theorem dX4_setUsed_0 : decode cX4_setUsed 0 = .ok (.iconst 1, 1) := by decide +kernel
theorem dX4_setUsed_1 : decode cX4_setUsed 1 = .ok (.iload_n 1, 1) := by decide +kernel
theorem dX4_setUsed_2 : decode cX4_setUsed 2 = .ok (.ishl, 1) := by decide +kernel
theorem dX4_setUsed_3 : decode cX4_setUsed 3 = .ok (.istore 4, 2) := by decide +kernel
theorem dX4_setUsed_5 : decode cX4_setUsed 5 = .ok (.aload_n 0, 1) := by decide +kernel
theorem dX4_setUsed_6 : decode cX4_setUsed 6 = .ok (.getfield 30, 3) := by decide +kernel
theorem dX4_setUsed_9 : decode cX4_setUsed 9 = .ok (.iload_n 2, 1) := by decide +kernel
theorem dX4_setUsed_10 : decode cX4_setUsed 10 = .ok (.iload_n 3, 1) := by decide +kernel
theorem dX4_setUsed_11 : decode cX4_setUsed 11 = .ok (.ifCond .eq 15, 3) := by decide +kernel
theorem dX4_setUsed_14 : decode cX4_setUsed 14 = .ok (.aload_n 0, 1) := by decide +kernel
theorem dX4_setUsed_15 : decode cX4_setUsed 15 = .ok (.getfield 30, 3) := by decide +kernel
theorem dX4_setUsed_18 : decode cX4_setUsed 18 = .ok (.iload_n 2, 1) := by decide +kernel
theorem dX4_setUsed_19 : decode cX4_setUsed 19 = .ok (.iaload, 1) := by decide +kernel
theorem dX4_setUsed_20 : decode cX4_setUsed 20 = .ok (.iload 4, 2) := by decide +kernel
theorem dX4_setUsed_22 : decode cX4_setUsed 22 = .ok (.ior, 1) := by decide +kernel
theorem dX4_setUsed_23 : decode cX4_setUsed 23 = .ok (.goto 14, 3) := by decide +kernel
theorem dX4_setUsed_26 : decode cX4_setUsed 26 = .ok (.aload_n 0, 1) := by decide +kernel
theorem dX4_setUsed_27 : decode cX4_setUsed 27 = .ok (.getfield 30, 3) := by decide +kernel
theorem dX4_setUsed_30 : decode cX4_setUsed 30 = .ok (.iload_n 2, 1) := by decide +kernel
theorem dX4_setUsed_31 : decode cX4_setUsed 31 = .ok (.iaload, 1) := by decide +kernel
theorem dX4_setUsed_32 : decode cX4_setUsed 32 = .ok (.iload 4, 2) := by decide +kernel
theorem dX4_setUsed_34 : decode cX4_setUsed 34 = .ok (.iconst (-1), 1) := by decide +kernel
theorem dX4_setUsed_35 : decode cX4_setUsed 35 = .ok (.ixor, 1) := by decide +kernel
theorem dX4_setUsed_36 : decode cX4_setUsed 36 = .ok (.iand, 1) := by decide +kernel
theorem dX4_setUsed_37 : decode cX4_setUsed 37 = .ok (.iastore, 1) := by decide +kernel
theorem dX4_setUsed_38 : decode cX4_setUsed 38 = .ok (.return_, 1) := by decide +kernel
theorem dX4_openFor_0 : decode cX4_openFor 0 = .ok (.iconst 0, 1) := by decide +kernel
theorem dX4_openFor_1 : decode cX4_openFor 1 = .ok (.istore_n 2, 1) := by decide +kernel
theorem dX4_openFor_2 : decode cX4_openFor 2 = .ok (.iload_n 2, 1) := by decide +kernel
theorem dX4_openFor_3 : decode cX4_openFor 3 = .ok (.aload_n 0, 1) := by decide +kernel
theorem dX4_openFor_4 : decode cX4_openFor 4 = .ok (.getfield 9, 3) := by decide +kernel
theorem dX4_openFor_7 : decode cX4_openFor 7 = .ok (.if_icmp .ge 54, 3) := by decide +kernel
theorem dX4_openFor_10 : decode cX4_openFor 10 = .ok (.aload_n 0, 1) := by decide +kernel
theorem dX4_openFor_11 : decode cX4_openFor 11 = .ok (.getfield 26, 3) := by decide +kernel
theorem dX4_openFor_14 : decode cX4_openFor 14 = .ok (.iload_n 2, 1) := by decide +kernel
theorem dX4_openFor_15 : decode cX4_openFor 15 = .ok (.aload_n 0, 1) := by decide +kernel
theorem dX4_openFor_16 : decode cX4_openFor 16 = .ok (.getfield 30, 3) := by decide +kernel
theorem dX4_openFor_19 : decode cX4_openFor 19 = .ok (.iload_n 2, 1) := by decide +kernel
theorem dX4_openFor_20 : decode cX4_openFor 20 = .ok (.iaload, 1) := by decide +kernel
theorem dX4_openFor_21 : decode cX4_openFor 21 = .ok (.iload_n 1, 1) := by decide +kernel
theorem dX4_openFor_22 : decode cX4_openFor 22 = .ok (.ishr, 1) := by decide +kernel
theorem dX4_openFor_23 : decode cX4_openFor 23 = .ok (.iconst 1, 1) := by decide +kernel
theorem dX4_openFor_24 : decode cX4_openFor 24 = .ok (.iand, 1) := by decide +kernel
theorem dX4_openFor_25 : decode cX4_openFor 25 = .ok (.iconst 1, 1) := by decide +kernel
theorem dX4_openFor_26 : decode cX4_openFor 26 = .ok (.if_icmp .ne 7, 3) := by decide +kernel
theorem dX4_openFor_29 : decode cX4_openFor 29 = .ok (.iconst 1, 1) := by decide +kernel
theorem dX4_openFor_30 : decode cX4_openFor 30 = .ok (.goto 4, 3) := by decide +kernel
theorem dX4_openFor_33 : decode cX4_openFor 33 = .ok (.iconst 0, 1) := by decide +kernel
theorem dX4_openFor_34 : decode cX4_openFor 34 = .ok (.bastore, 1) := by decide +kernel
theorem dX4_openFor_35 : decode cX4_openFor 35 = .ok (.aload_n 0, 1) := by decide +kernel
theorem dX4_openFor_36 : decode cX4_openFor 36 = .ok (.getfield 23, 3) := by decide +kernel
theorem dX4_openFor_39 : decode cX4_openFor 39 = .ok (.iload_n 2, 1) := by decide +kernel
theorem dX4_openFor_40 : decode cX4_openFor 40 = .ok (.aload_n 0, 1) := by decide +kernel
theorem dX4_openFor_41 : decode cX4_openFor 41 = .ok (.getfield 26, 3) := by decide +kernel
theorem dX4_openFor_44 : decode cX4_openFor 44 = .ok (.iload_n 2, 1) := by decide +kernel
theorem dX4_openFor_45 : decode cX4_openFor 45 = .ok (.baload, 1) := by decide +kernel
theorem dX4_openFor_46 : decode cX4_openFor 46 = .ok (.ifCond .eq 7, 3) := by decide +kernel
theorem dX4_openFor_49 : decode cX4_openFor 49 = .ok (.dconst 1, 1) := by decide +kernel
theorem dX4_openFor_50 : decode cX4_openFor 50 = .ok (.goto 4, 3) := by decide +kernel
theorem dX4_openFor_53 : decode cX4_openFor 53 = .ok (.dconst 0, 1) := by decide +kernel
theorem dX4_openFor_54 : decode cX4_openFor 54 = .ok (.dastore, 1) := by decide +kernel
theorem dX4_openFor_55 : decode cX4_openFor 55 = .ok (.iinc 2 1, 3) := by decide +kernel
theorem dX4_openFor_58 : decode cX4_openFor 58 = .ok (.goto (-56), 3) := by decide +kernel
theorem dX4_openFor_61 : decode cX4_openFor 61 = .ok (.return_, 1) := by decide +kernel
theorem dX4_isOpenAt_0 : decode cX4_isOpenAt 0 = .ok (.aload_n 0, 1) := by decide +kernel
theorem dX4_isOpenAt_1 : decode cX4_isOpenAt 1 = .ok (.getfield 26, 3) := by decide +kernel
theorem dX4_isOpenAt_4 : decode cX4_isOpenAt 4 = .ok (.iload_n 1, 1) := by decide +kernel
theorem dX4_isOpenAt_5 : decode cX4_isOpenAt 5 = .ok (.baload, 1) := by decide +kernel
theorem dX4_isOpenAt_6 : decode cX4_isOpenAt 6 = .ok (.ifCond .eq 17, 3) := by decide +kernel
theorem dX4_isOpenAt_9 : decode cX4_isOpenAt 9 = .ok (.aload_n 0, 1) := by decide +kernel
theorem dX4_isOpenAt_10 : decode cX4_isOpenAt 10 = .ok (.getfield 15, 3) := by decide +kernel
theorem dX4_isOpenAt_13 : decode cX4_isOpenAt 13 = .ok (.iload_n 1, 1) := by decide +kernel
theorem dX4_isOpenAt_14 : decode cX4_isOpenAt 14 = .ok (.iaload, 1) := by decide +kernel
theorem dX4_isOpenAt_15 : decode cX4_isOpenAt 15 = .ok (.iload_n 2, 1) := by decide +kernel
theorem dX4_isOpenAt_16 : decode cX4_isOpenAt 16 = .ok (.if_icmp .ne 7, 3) := by decide +kernel
theorem dX4_isOpenAt_19 : decode cX4_isOpenAt 19 = .ok (.iconst 1, 1) := by decide +kernel
theorem dX4_isOpenAt_20 : decode cX4_isOpenAt 20 = .ok (.goto 4, 3) := by decide +kernel
theorem dX4_isOpenAt_23 : decode cX4_isOpenAt 23 = .ok (.iconst 0, 1) := by decide +kernel
theorem dX4_isOpenAt_24 : decode cX4_isOpenAt 24 = .ok (.ireturn, 1) := by decide +kernel
theorem dX5_init_0 : decode cX5_init 0 = .ok (.aload_n 0, 1) := by decide +kernel
theorem dX5_init_1 : decode cX5_init 1 = .ok (.invokespecial 3, 3) := by decide +kernel
theorem dX5_init_4 : decode cX5_init 4 = .ok (.aload_n 0, 1) := by decide +kernel
theorem dX5_init_5 : decode cX5_init 5 = .ok (.iconst 0, 1) := by decide +kernel
theorem dX5_init_6 : decode cX5_init 6 = .ok (.putfield 9, 3) := by decide +kernel
theorem dX5_init_9 : decode cX5_init 9 = .ok (.aload_n 0, 1) := by decide +kernel
theorem dX5_init_10 : decode cX5_init 10 = .ok (.bipush 6, 2) := by decide +kernel
theorem dX5_init_12 : decode cX5_init 12 = .ok (.newarray .double, 2) := by decide +kernel
theorem dX5_init_14 : decode cX5_init 14 = .ok (.putfield 15, 3) := by decide +kernel
theorem dX5_init_17 : decode cX5_init 17 = .ok (.aload_n 0, 1) := by decide +kernel
theorem dX5_init_18 : decode cX5_init 18 = .ok (.bipush 6, 2) := by decide +kernel
theorem dX5_init_20 : decode cX5_init 20 = .ok (.newarray .int, 2) := by decide +kernel
theorem dX5_init_22 : decode cX5_init 22 = .ok (.putfield 19, 3) := by decide +kernel
theorem dX5_init_25 : decode cX5_init 25 = .ok (.aload_n 0, 1) := by decide +kernel
theorem dX5_init_26 : decode cX5_init 26 = .ok (.bipush 6, 2) := by decide +kernel
theorem dX5_init_28 : decode cX5_init 28 = .ok (.newarray .int, 2) := by decide +kernel
theorem dX5_init_30 : decode cX5_init 30 = .ok (.putfield 23, 3) := by decide +kernel
theorem dX5_init_33 : decode cX5_init 33 = .ok (.return_, 1) := by decide +kernel
theorem dX5_add_0 : decode cX5_add 0 = .ok (.aload_n 0, 1) := by decide +kernel
theorem dX5_add_1 : decode cX5_add 1 = .ok (.getfield 9, 3) := by decide +kernel
theorem dX5_add_4 : decode cX5_add 4 = .ok (.istore 4, 2) := by decide +kernel
theorem dX5_add_6 : decode cX5_add 6 = .ok (.aload_n 0, 1) := by decide +kernel
theorem dX5_add_7 : decode cX5_add 7 = .ok (.getfield 15, 3) := by decide +kernel
theorem dX5_add_10 : decode cX5_add 10 = .ok (.iload 4, 2) := by decide +kernel
theorem dX5_add_12 : decode cX5_add 12 = .ok (.dload_n 1, 1) := by decide +kernel
theorem dX5_add_13 : decode cX5_add 13 = .ok (.dastore, 1) := by decide +kernel
theorem dX5_add_14 : decode cX5_add 14 = .ok (.aload_n 0, 1) := by decide +kernel
theorem dX5_add_15 : decode cX5_add 15 = .ok (.getfield 19, 3) := by decide +kernel
theorem dX5_add_18 : decode cX5_add 18 = .ok (.iload 4, 2) := by decide +kernel
theorem dX5_add_20 : decode cX5_add 20 = .ok (.iload_n 3, 1) := by decide +kernel
theorem dX5_add_21 : decode cX5_add 21 = .ok (.iastore, 1) := by decide +kernel
theorem dX5_add_22 : decode cX5_add 22 = .ok (.iload 4, 2) := by decide +kernel
theorem dX5_add_24 : decode cX5_add 24 = .ok (.istore 5, 2) := by decide +kernel
theorem dX5_add_26 : decode cX5_add 26 = .ok (.iload 5, 2) := by decide +kernel
theorem dX5_add_28 : decode cX5_add 28 = .ok (.ifCond .le 43, 3) := by decide +kernel
theorem dX5_add_31 : decode cX5_add 31 = .ok (.aload_n 0, 1) := by decide +kernel
theorem dX5_add_32 : decode cX5_add 32 = .ok (.getfield 19, 3) := by decide +kernel
theorem dX5_add_35 : decode cX5_add 35 = .ok (.aload_n 0, 1) := by decide +kernel
theorem dX5_add_36 : decode cX5_add 36 = .ok (.getfield 23, 3) := by decide +kernel
theorem dX5_add_39 : decode cX5_add 39 = .ok (.iload 5, 2) := by decide +kernel
theorem dX5_add_41 : decode cX5_add 41 = .ok (.iconst 1, 1) := by decide +kernel
theorem dX5_add_42 : decode cX5_add 42 = .ok (.isub, 1) := by decide +kernel
theorem dX5_add_43 : decode cX5_add 43 = .ok (.iaload, 1) := by decide +kernel
theorem dX5_add_44 : decode cX5_add 44 = .ok (.iaload, 1) := by decide +kernel
theorem dX5_add_45 : decode cX5_add 45 = .ok (.iload_n 3, 1) := by decide +kernel
theorem dX5_add_46 : decode cX5_add 46 = .ok (.if_icmp .le 25, 3) := by decide +kernel
theorem dX5_add_49 : decode cX5_add 49 = .ok (.aload_n 0, 1) := by decide +kernel
theorem dX5_add_50 : decode cX5_add 50 = .ok (.getfield 23, 3) := by decide +kernel
theorem dX5_add_53 : decode cX5_add 53 = .ok (.iload 5, 2) := by decide +kernel
theorem dX5_add_55 : decode cX5_add 55 = .ok (.aload_n 0, 1) := by decide +kernel
theorem dX5_add_56 : decode cX5_add 56 = .ok (.getfield 23, 3) := by decide +kernel
theorem dX5_add_59 : decode cX5_add 59 = .ok (.iload 5, 2) := by decide +kernel
theorem dX5_add_61 : decode cX5_add 61 = .ok (.iconst 1, 1) := by decide +kernel
theorem dX5_add_62 : decode cX5_add 62 = .ok (.isub, 1) := by decide +kernel
theorem dX5_add_63 : decode cX5_add 63 = .ok (.iaload, 1) := by decide +kernel
theorem dX5_add_64 : decode cX5_add 64 = .ok (.iastore, 1) := by decide +kernel
theorem dX5_add_65 : decode cX5_add 65 = .ok (.iinc 5 (-1), 3) := by decide +kernel
theorem dX5_add_68 : decode cX5_add 68 = .ok (.goto (-42), 3) := by decide +kernel
theorem dX5_add_71 : decode cX5_add 71 = .ok (.aload_n 0, 1) := by decide +kernel
theorem dX5_add_72 : decode cX5_add 72 = .ok (.getfield 23, 3) := by decide +kernel
theorem dX5_add_75 : decode cX5_add 75 = .ok (.iload 5, 2) := by decide +kernel
theorem dX5_add_77 : decode cX5_add 77 = .ok (.iload 4, 2) := by decide +kernel
theorem dX5_add_79 : decode cX5_add 79 = .ok (.iastore, 1) := by decide +kernel
theorem dX5_add_80 : decode cX5_add 80 = .ok (.aload_n 0, 1) := by decide +kernel
theorem dX5_add_81 : decode cX5_add 81 = .ok (.dup, 1) := by decide +kernel
theorem dX5_add_82 : decode cX5_add 82 = .ok (.getfield 9, 3) := by decide +kernel
theorem dX5_add_85 : decode cX5_add 85 = .ok (.iconst 1, 1) := by decide +kernel
theorem dX5_add_86 : decode cX5_add 86 = .ok (.iadd, 1) := by decide +kernel
theorem dX5_add_87 : decode cX5_add 87 = .ok (.putfield 9, 3) := by decide +kernel
theorem dX5_add_90 : decode cX5_add 90 = .ok (.iload 4, 2) := by decide +kernel
theorem dX5_add_92 : decode cX5_add 92 = .ok (.ireturn, 1) := by decide +kernel
set_option maxRecDepth 20000 in
theorem ggX6_init_X0_init : GoodIn wsX6_init wsX0_init := goodIn_r _ [23, 24, 2, 3, 25, 26, 27, 28, 29, 30, 31, 32, 33, 34, 35, 36, 37, 38, 39, 40, 41, 42, 43, 44, 45, 46, 47, 48, 49, 50, 51, 52, 53, 54, 55, 56, 57, 58, 59, 60, 61, 62, 63, 64, 65, 66, 67, 68, 69, 70, 103, 104, 105, 106, 107, 108, 109, 110, 84, 85, 86, 87, 88, 111, 112, 113, 114, 115, 116, 117, 118, 119] (by decide +kernel) (by decide +kernel)
set_option maxRecDepth 20000 in
theorem gX6_init_X0_init_n9 : GoodIn wsX6_init (wsX0_init) := ggX6_init_X0_init
set_option maxRecDepth 20000 in
theorem ggX6_init_X3_init : GoodIn wsX6_init wsX3_init := goodIn_r _ [72, 73, 2, 3, 37, 74, 75, 60, 76, 96, 97, 98] (by decide +kernel) (by decide +kernel)
set_option maxRecDepth 20000 in
theorem gX6_init_X3_init_n28 : GoodIn wsX6_init (wsX3_init) := ggX6_init_X3_init
set_option maxRecDepth 20000 in
theorem ggX6_init_X5_init : GoodIn wsX6_init wsX5_init := goodIn_r _ [78, 79, 2, 3, 80, 37, 81, 44, 82, 83, 99, 100, 101, 102] (by decide +kernel) (by decide +kernel)
set_option maxRecDepth 20000 in
theorem gX6_init_X5_init_n35 : GoodIn wsX6_init (wsX5_init) := ggX6_init_X5_init
theorem dX6_init_0 : decode cX6_init 0 = .ok (.aload_n 0, 1) := by decide +kernel
theorem dX6_init_1 : decode cX6_init 1 = .ok (.invokespecial 1, 3) := by decide +kernel
theorem dX6_init_4 : decode cX6_init 4 = .ok (.aload_n 0, 1) := by decide +kernel
theorem dX6_init_5 : decode cX6_init 5 = .ok (.new 7, 3) := by decide +kernel
theorem dX6_init_8 : decode cX6_init 8 = .ok (.dup, 1) := by decide +kernel
theorem dX6_init_9 : decode cX6_init 9 = .ok (.invokespecial 9, 3) := by decide +kernel
theorem dX6_init_12 : decode cX6_init 12 = .ok (.putfield 10, 3) := by decide +kernel
theorem dX6_init_15 : decode cX6_init 15 = .ok (.aload_n 0, 1) := by decide +kernel
theorem dX6_init_16 : decode cX6_init 16 = .ok (.aload_n 0, 1) := by decide +kernel
theorem dX6_init_17 : decode cX6_init 17 = .ok (.getfield 10, 3) := by decide +kernel
theorem dX6_init_20 : decode cX6_init 20 = .ok (.getfield 16, 3) := by decide +kernel
theorem dX6_init_23 : decode cX6_init 23 = .ok (.putfield 20, 3) := by decide +kernel
theorem dX6_init_26 : decode cX6_init 26 = .ok (.aload_n 0, 1) := by decide +kernel
theorem dX6_init_27 : decode cX6_init 27 = .ok (.aload_n 0, 1) := by decide +kernel
theorem dX6_init_28 : decode cX6_init 28 = .ok (.getfield 10, 3) := by decide +kernel
theorem dX6_init_31 : decode cX6_init 31 = .ok (.getfield 21, 3) := by decide +kernel
theorem dX6_init_34 : decode cX6_init 34 = .ok (.putfield 25, 3) := by decide +kernel
theorem dX6_init_37 : decode cX6_init 37 = .ok (.aload_n 0, 1) := by decide +kernel
theorem dX6_init_38 : decode cX6_init 38 = .ok (.new 26, 3) := by decide +kernel
theorem dX6_init_41 : decode cX6_init 41 = .ok (.dup, 1) := by decide +kernel
theorem dX6_init_42 : decode cX6_init 42 = .ok (.invokespecial 28, 3) := by decide +kernel
theorem dX6_init_45 : decode cX6_init 45 = .ok (.putfield 29, 3) := by decide +kernel
theorem dX6_init_48 : decode cX6_init 48 = .ok (.aload_n 0, 1) := by decide +kernel
theorem dX6_init_49 : decode cX6_init 49 = .ok (.new 33, 3) := by decide +kernel
theorem dX6_init_52 : decode cX6_init 52 = .ok (.dup, 1) := by decide +kernel
theorem dX6_init_53 : decode cX6_init 53 = .ok (.invokespecial 35, 3) := by decide +kernel
theorem dX6_init_56 : decode cX6_init 56 = .ok (.putfield 36, 3) := by decide +kernel
theorem dX6_init_59 : decode cX6_init 59 = .ok (.aload_n 0, 1) := by decide +kernel
theorem dX6_init_60 : decode cX6_init 60 = .ok (.iconst 1, 1) := by decide +kernel
theorem dX6_init_61 : decode cX6_init 61 = .ok (.putfield 40, 3) := by decide +kernel
theorem dX6_init_64 : decode cX6_init 64 = .ok (.aload_n 0, 1) := by decide +kernel
theorem dX6_init_65 : decode cX6_init 65 = .ok (.iconst 0, 1) := by decide +kernel
theorem dX6_init_66 : decode cX6_init 66 = .ok (.putfield 44, 3) := by decide +kernel
theorem dX6_init_69 : decode cX6_init 69 = .ok (.return_, 1) := by decide +kernel
set_option maxRecDepth 20000 in
theorem ggX6_joint_X6_checkState : GoodIn wsX6_joint wsX6_checkState := goodIn_ca (goodIn_r _ [6, 7, 8] (by decide +kernel) (by decide +kernel)) (goodIn_sub (fun _ h => List.mem_cons_of_mem _ (List.mem_append_right _ h)) (by decide +kernel))
set_option maxRecDepth 20000 in
theorem gX6_joint_X6_checkState : GoodIn wsX6_joint (va_wsS RX6 48 yX6_checkState wsX6_checkState) := goodIn_app (goodIn_of _ (by decide +kernel)) ggX6_joint_X6_checkState
theorem dX6_joint_0 : decode cX6_joint 0 = .ok (.aload_n 0, 1) := by decide +kernel
theorem dX6_joint_1 : decode cX6_joint 1 = .ok (.getfield 40, 3) := by decide +kernel
theorem dX6_joint_4 : decode cX6_joint 4 = .ok (.bipush 10, 2) := by decide +kernel
theorem dX6_joint_6 : decode cX6_joint 6 = .ok (.if_icmp .ge 7, 3) := by decide +kernel
theorem dX6_joint_9 : decode cX6_joint 9 = .ok (.iconst 1, 1) := by decide +kernel
theorem dX6_joint_10 : decode cX6_joint 10 = .ok (.goto 4, 3) := by decide +kernel
theorem dX6_joint_13 : decode cX6_joint 13 = .ok (.iconst 0, 1) := by decide +kernel
theorem dX6_joint_14 : decode cX6_joint 14 = .ok (.invokestatic 48, 3) := by decide +kernel
theorem dX6_joint_17 : decode cX6_joint 17 = .ok (.aload_n 0, 1) := by decide +kernel
theorem dX6_joint_18 : decode cX6_joint 18 = .ok (.iconst 0, 1) := by decide +kernel
theorem dX6_joint_19 : decode cX6_joint 19 = .ok (.putfield 44, 3) := by decide +kernel
theorem dX6_joint_22 : decode cX6_joint 22 = .ok (.aload_n 0, 1) := by decide +kernel
theorem dX6_joint_23 : decode cX6_joint 23 = .ok (.dup, 1) := by decide +kernel
theorem dX6_joint_24 : decode cX6_joint 24 = .ok (.getfield 40, 3) := by decide +kernel
theorem dX6_joint_27 : decode cX6_joint 27 = .ok (.iconst 1, 1) := by decide +kernel
theorem dX6_joint_28 : decode cX6_joint 28 = .ok (.iadd, 1) := by decide +kernel
theorem dX6_joint_29 : decode cX6_joint 29 = .ok (.putfield 40, 3) := by decide +kernel
theorem dX6_joint_32 : decode cX6_joint 32 = .ok (.aload_n 0, 1) := by decide +kernel
theorem dX6_joint_33 : decode cX6_joint 33 = .ok (.getfield 40, 3) := by decide +kernel
theorem dX6_joint_36 : decode cX6_joint 36 = .ok (.iconst 1, 1) := by decide +kernel
theorem dX6_joint_37 : decode cX6_joint 37 = .ok (.isub, 1) := by decide +kernel
theorem dX6_joint_38 : decode cX6_joint 38 = .ok (.ireturn, 1) := by decide +kernel
set_option maxRecDepth 20000 in
theorem ggX6_duct_X6_checkIndex : GoodIn wsX6_duct wsX6_checkIndex := goodIn_ca (goodIn_r _ [10, 11, 12] (by decide +kernel) (by decide +kernel)) (goodIn_sub (fun _ h => List.mem_cons_of_mem _ (List.mem_append_left _ (List.mem_append_left _ (List.mem_append_right _ h)))) (by decide +kernel))
set_option maxRecDepth 20000 in
theorem gX6_duct_X6_checkIndex : GoodIn wsX6_duct (va_wsS RX6 52 yX6_checkIndex wsX6_checkIndex) := goodIn_app (goodIn_of _ (by decide +kernel)) ggX6_duct_X6_checkIndex
set_option maxRecDepth 20000 in
theorem ggX6_duct_X6_isWithin : GoodIn wsX6_duct wsX6_isWithin := goodIn_r _ [15] (by decide +kernel) (by decide +kernel)
set_option maxRecDepth 20000 in
theorem gX6_duct_X6_isWithin : GoodIn wsX6_duct (va_wsS RX6 60 yX6_isWithin wsX6_isWithin) := goodIn_app (goodIn_of _ (by decide +kernel)) ggX6_duct_X6_isWithin
set_option maxRecDepth 20000 in
theorem ggX6_duct_X6_checkArgument : GoodIn wsX6_duct wsX6_checkArgument := goodIn_ca (goodIn_r _ [18, 19, 20] (by decide +kernel) (by decide +kernel)) (goodIn_sub (fun _ h => List.mem_cons_of_mem _ (List.mem_append_left _ (List.mem_append_right _ h))) (by decide +kernel))
set_option maxRecDepth 20000 in
theorem gX6_duct_X6_checkArgument : GoodIn wsX6_duct (va_wsS RX6 64 yX6_checkArgument wsX6_checkArgument) := goodIn_app (goodIn_of _ (by decide +kernel)) ggX6_duct_X6_checkArgument
set_option maxRecDepth 20000 in
theorem ggX6_duct_X6_checkState : GoodIn wsX6_duct wsX6_checkState := goodIn_ca (goodIn_r _ [23, 24, 25] (by decide +kernel) (by decide +kernel)) (goodIn_sub (fun _ h => List.mem_cons_of_mem _ (List.mem_append_right _ h)) (by decide +kernel))
set_option maxRecDepth 20000 in
theorem gX6_duct_X6_checkState : GoodIn wsX6_duct (va_wsS RX6 48 yX6_checkState wsX6_checkState) := goodIn_app (goodIn_of _ (by decide +kernel)) ggX6_duct_X6_checkState
set_option maxRecDepth 20000 in
theorem ggX6_duct_X1_add : GoodIn wsX6_duct wsX1_add := goodIn_r _ [30, 31, 32, 33, 34, 35, 36, 37, 29, 38, 39, 40, 41, 42, 43, 44, 45, 46, 54, 55, 56, 57, 58, 59, 60, 61] (by decide +kernel) (by decide +kernel)
set_option maxRecDepth 20000 in
theorem gX6_duct_X1_add : GoodIn wsX6_duct (wsV RX6 72 RX1 yX1_add wsX1_add) := goodIn_app (goodIn_of _ (by decide +kernel)) ggX6_duct_X1_add
theorem dX6_duct_0 : decode cX6_duct 0 = .ok (.iload_n 1, 1) := by decide +kernel
theorem dX6_duct_1 : decode cX6_duct 1 = .ok (.aload_n 0, 1) := by decide +kernel
theorem dX6_duct_2 : decode cX6_duct 2 = .ok (.getfield 40, 3) := by decide +kernel
theorem dX6_duct_5 : decode cX6_duct 5 = .ok (.invokestatic 52, 3) := by decide +kernel
theorem dX6_duct_8 : decode cX6_duct 8 = .ok (.iload_n 2, 1) := by decide +kernel
theorem dX6_duct_9 : decode cX6_duct 9 = .ok (.aload_n 0, 1) := by decide +kernel
theorem dX6_duct_10 : decode cX6_duct 10 = .ok (.getfield 40, 3) := by decide +kernel
theorem dX6_duct_13 : decode cX6_duct 13 = .ok (.invokestatic 52, 3) := by decide +kernel
theorem dX6_duct_16 : decode cX6_duct 16 = .ok (.iload_n 1, 1) := by decide +kernel
theorem dX6_duct_17 : decode cX6_duct 17 = .ok (.iload_n 2, 1) := by decide +kernel
theorem dX6_duct_18 : decode cX6_duct 18 = .ok (.if_icmp .eq 34, 3) := by decide +kernel
theorem dX6_duct_21 : decode cX6_duct 21 = .ok (.dload_n 3, 1) := by decide +kernel
theorem dX6_duct_22 : decode cX6_duct 22 = .ok (.ldc2_w 56, 3) := by decide +kernel
theorem dX6_duct_25 : decode cX6_duct 25 = .ok (.ldc2_w 58, 3) := by decide +kernel
theorem dX6_duct_28 : decode cX6_duct 28 = .ok (.invokestatic 60, 3) := by decide +kernel
theorem dX6_duct_31 : decode cX6_duct 31 = .ok (.ifCond .eq 21, 3) := by decide +kernel
theorem dX6_duct_34 : decode cX6_duct 34 = .ok (.dload 5, 2) := by decide +kernel
theorem dX6_duct_36 : decode cX6_duct 36 = .ok (.ldc2_w 56, 3) := by decide +kernel
theorem dX6_duct_39 : decode cX6_duct 39 = .ok (.ldc2_w 58, 3) := by decide +kernel
theorem dX6_duct_42 : decode cX6_duct 42 = .ok (.invokestatic 60, 3) := by decide +kernel
theorem dX6_duct_45 : decode cX6_duct 45 = .ok (.ifCond .eq 7, 3) := by decide +kernel
theorem dX6_duct_48 : decode cX6_duct 48 = .ok (.iconst 1, 1) := by decide +kernel
theorem dX6_duct_49 : decode cX6_duct 49 = .ok (.goto 4, 3) := by decide +kernel
theorem dX6_duct_52 : decode cX6_duct 52 = .ok (.iconst 0, 1) := by decide +kernel
theorem dX6_duct_53 : decode cX6_duct 53 = .ok (.invokestatic 64, 3) := by decide +kernel
theorem dX6_duct_56 : decode cX6_duct 56 = .ok (.aload_n 0, 1) := by decide +kernel
theorem dX6_duct_57 : decode cX6_duct 57 = .ok (.getfield 20, 3) := by decide +kernel
theorem dX6_duct_60 : decode cX6_duct 60 = .ok (.getfield 67, 3) := by decide +kernel
theorem dX6_duct_63 : decode cX6_duct 63 = .ok (.bipush 16, 2) := by decide +kernel
theorem dX6_duct_65 : decode cX6_duct 65 = .ok (.if_icmp .ge 7, 3) := by decide +kernel
theorem dX6_duct_68 : decode cX6_duct 68 = .ok (.iconst 1, 1) := by decide +kernel
theorem dX6_duct_69 : decode cX6_duct 69 = .ok (.goto 4, 3) := by decide +kernel
theorem dX6_duct_72 : decode cX6_duct 72 = .ok (.iconst 0, 1) := by decide +kernel
theorem dX6_duct_73 : decode cX6_duct 73 = .ok (.invokestatic 48, 3) := by decide +kernel
theorem dX6_duct_76 : decode cX6_duct 76 = .ok (.aload_n 0, 1) := by decide +kernel
theorem dX6_duct_77 : decode cX6_duct 77 = .ok (.iconst 0, 1) := by decide +kernel
theorem dX6_duct_78 : decode cX6_duct 78 = .ok (.putfield 44, 3) := by decide +kernel
theorem dX6_duct_81 : decode cX6_duct 81 = .ok (.aload_n 0, 1) := by decide +kernel
theorem dX6_duct_82 : decode cX6_duct 82 = .ok (.getfield 20, 3) := by decide +kernel
theorem dX6_duct_85 : decode cX6_duct 85 = .ok (.iload_n 1, 1) := by decide +kernel
theorem dX6_duct_86 : decode cX6_duct 86 = .ok (.iload_n 2, 1) := by decide +kernel
theorem dX6_duct_87 : decode cX6_duct 87 = .ok (.dload_n 3, 1) := by decide +kernel
theorem dX6_duct_88 : decode cX6_duct 88 = .ok (.dload 5, 2) := by decide +kernel
theorem dX6_duct_90 : decode cX6_duct 90 = .ok (.invokevirtual 72, 3) := by decide +kernel
theorem dX6_duct_93 : decode cX6_duct 93 = .ok (.ireturn, 1) := by decide +kernel
set_option maxRecDepth 20000 in
theorem ggX6_machine_X6_checkIndex : GoodIn wsX6_machine wsX6_checkIndex := goodIn_ca (goodIn_r _ [10, 11, 12] (by decide +kernel) (by decide +kernel)) (goodIn_sub (fun _ h => List.mem_cons_of_mem _ (List.mem_append_left _ (List.mem_append_left _ (List.mem_append_right _ h)))) (by decide +kernel))
set_option maxRecDepth 20000 in
theorem gX6_machine_X6_checkIndex : GoodIn wsX6_machine (va_wsS RX6 52 yX6_checkIndex wsX6_checkIndex) := goodIn_app (goodIn_of _ (by decide +kernel)) ggX6_machine_X6_checkIndex
set_option maxRecDepth 20000 in
theorem ggX6_machine_X6_isWithin : GoodIn wsX6_machine wsX6_isWithin := goodIn_r _ [15] (by decide +kernel) (by decide +kernel)
set_option maxRecDepth 20000 in
theorem gX6_machine_X6_isWithin : GoodIn wsX6_machine (va_wsS RX6 60 yX6_isWithin wsX6_isWithin) := goodIn_app (goodIn_of _ (by decide +kernel)) ggX6_machine_X6_isWithin
set_option maxRecDepth 20000 in
theorem ggX6_machine_X6_checkArgument : GoodIn wsX6_machine wsX6_checkArgument := goodIn_ca (goodIn_r _ [18, 19, 20] (by decide +kernel) (by decide +kernel)) (goodIn_sub (fun _ h => List.mem_cons_of_mem _ (List.mem_append_left _ (List.mem_append_right _ h))) (by decide +kernel))
set_option maxRecDepth 20000 in
theorem gX6_machine_X6_checkArgument : GoodIn wsX6_machine (va_wsS RX6 64 yX6_checkArgument wsX6_checkArgument) := goodIn_app (goodIn_of _ (by decide +kernel)) ggX6_machine_X6_checkArgument
set_option maxRecDepth 20000 in
theorem ggX6_machine_X6_checkState : GoodIn wsX6_machine wsX6_checkState := goodIn_ca (goodIn_r _ [23, 24, 25] (by decide +kernel) (by decide +kernel)) (goodIn_sub (fun _ h => List.mem_cons_of_mem _ (List.mem_append_right _ h)) (by decide +kernel))
set_option maxRecDepth 20000 in
theorem gX6_machine_X6_checkState : GoodIn wsX6_machine (va_wsS RX6 48 yX6_checkState wsX6_checkState) := goodIn_app (goodIn_of _ (by decide +kernel)) ggX6_machine_X6_checkState
set_option maxRecDepth 20000 in
theorem ggX6_machine_X4_add : GoodIn wsX6_machine wsX4_add := goodIn_r _ [30, 31, 32, 33, 41, 42, 43, 44, 45, 46] (by decide +kernel) (by decide +kernel)
set_option maxRecDepth 20000 in
theorem gX6_machine_X4_add : GoodIn wsX6_machine (wsV RX6 81 RX4 yX4_add wsX4_add) := goodIn_app (goodIn_of _ (by decide +kernel)) ggX6_machine_X4_add
theorem dX6_machine_0 : decode cX6_machine 0 = .ok (.iload_n 1, 1) := by decide +kernel
theorem dX6_machine_1 : decode cX6_machine 1 = .ok (.aload_n 0, 1) := by decide +kernel
theorem dX6_machine_2 : decode cX6_machine 2 = .ok (.getfield 40, 3) := by decide +kernel
theorem dX6_machine_5 : decode cX6_machine 5 = .ok (.invokestatic 52, 3) := by decide +kernel
theorem dX6_machine_8 : decode cX6_machine 8 = .ok (.iload_n 1, 1) := by decide +kernel
theorem dX6_machine_9 : decode cX6_machine 9 = .ok (.ifCond .eq 20, 3) := by decide +kernel
theorem dX6_machine_12 : decode cX6_machine 12 = .ok (.dload_n 2, 1) := by decide +kernel
theorem dX6_machine_13 : decode cX6_machine 13 = .ok (.ldc2_w 56, 3) := by decide +kernel
theorem dX6_machine_16 : decode cX6_machine 16 = .ok (.ldc2_w 76, 3) := by decide +kernel
theorem dX6_machine_19 : decode cX6_machine 19 = .ok (.invokestatic 60, 3) := by decide +kernel
theorem dX6_machine_22 : decode cX6_machine 22 = .ok (.ifCond .eq 7, 3) := by decide +kernel
theorem dX6_machine_25 : decode cX6_machine 25 = .ok (.iconst 1, 1) := by decide +kernel
theorem dX6_machine_26 : decode cX6_machine 26 = .ok (.goto 4, 3) := by decide +kernel
theorem dX6_machine_29 : decode cX6_machine 29 = .ok (.iconst 0, 1) := by decide +kernel
theorem dX6_machine_30 : decode cX6_machine 30 = .ok (.invokestatic 64, 3) := by decide +kernel
theorem dX6_machine_33 : decode cX6_machine 33 = .ok (.aload_n 0, 1) := by decide +kernel
theorem dX6_machine_34 : decode cX6_machine 34 = .ok (.getfield 25, 3) := by decide +kernel
theorem dX6_machine_37 : decode cX6_machine 37 = .ok (.getfield 78, 3) := by decide +kernel
theorem dX6_machine_40 : decode cX6_machine 40 = .ok (.bipush 8, 2) := by decide +kernel
theorem dX6_machine_42 : decode cX6_machine 42 = .ok (.if_icmp .ge 7, 3) := by decide +kernel
theorem dX6_machine_45 : decode cX6_machine 45 = .ok (.iconst 1, 1) := by decide +kernel
theorem dX6_machine_46 : decode cX6_machine 46 = .ok (.goto 4, 3) := by decide +kernel
theorem dX6_machine_49 : decode cX6_machine 49 = .ok (.iconst 0, 1) := by decide +kernel
theorem dX6_machine_50 : decode cX6_machine 50 = .ok (.invokestatic 48, 3) := by decide +kernel
theorem dX6_machine_53 : decode cX6_machine 53 = .ok (.aload_n 0, 1) := by decide +kernel
theorem dX6_machine_54 : decode cX6_machine 54 = .ok (.iconst 0, 1) := by decide +kernel
theorem dX6_machine_55 : decode cX6_machine 55 = .ok (.putfield 44, 3) := by decide +kernel
theorem dX6_machine_58 : decode cX6_machine 58 = .ok (.aload_n 0, 1) := by decide +kernel
theorem dX6_machine_59 : decode cX6_machine 59 = .ok (.getfield 25, 3) := by decide +kernel
theorem dX6_machine_62 : decode cX6_machine 62 = .ok (.iload_n 1, 1) := by decide +kernel
theorem dX6_machine_63 : decode cX6_machine 63 = .ok (.dload_n 2, 1) := by decide +kernel
theorem dX6_machine_64 : decode cX6_machine 64 = .ok (.invokevirtual 81, 3) := by decide +kernel
theorem dX6_machine_67 : decode cX6_machine 67 = .ok (.ireturn, 1) := by decide +kernel
set_option maxRecDepth 20000 in
theorem ggX6_use_X6_checkIndex : GoodIn wsX6_use wsX6_checkIndex := goodIn_ca (goodIn_r _ [7, 8, 9] (by decide +kernel) (by decide +kernel)) (goodIn_sub (fun _ h => List.mem_cons_of_mem _ (List.mem_append_right _ h)) (by decide +kernel))
set_option maxRecDepth 20000 in
theorem gX6_use_X6_checkIndex : GoodIn wsX6_use (va_wsS RX6 52 yX6_checkIndex wsX6_checkIndex) := goodIn_app (goodIn_of _ (by decide +kernel)) ggX6_use_X6_checkIndex
set_option maxRecDepth 20000 in
theorem ggX6_use_X4_setUsed : GoodIn wsX6_use wsX4_setUsed := goodIn_r _ [14, 15, 23, 24, 25, 26, 27, 28] (by decide +kernel) (by decide +kernel)
set_option maxRecDepth 20000 in
theorem gX6_use_X4_setUsed : GoodIn wsX6_use (wsV RX6 84 RX4 yX4_setUsed wsX4_setUsed) := goodIn_app (goodIn_of _ (by decide +kernel)) ggX6_use_X4_setUsed
theorem dX6_use_0 : decode cX6_use 0 = .ok (.iload_n 1, 1) := by decide +kernel
theorem dX6_use_1 : decode cX6_use 1 = .ok (.iconst 4, 1) := by decide +kernel
theorem dX6_use_2 : decode cX6_use 2 = .ok (.invokestatic 52, 3) := by decide +kernel
theorem dX6_use_5 : decode cX6_use 5 = .ok (.iload_n 2, 1) := by decide +kernel
theorem dX6_use_6 : decode cX6_use 6 = .ok (.aload_n 0, 1) := by decide +kernel
theorem dX6_use_7 : decode cX6_use 7 = .ok (.getfield 25, 3) := by decide +kernel
theorem dX6_use_10 : decode cX6_use 10 = .ok (.getfield 78, 3) := by decide +kernel
theorem dX6_use_13 : decode cX6_use 13 = .ok (.invokestatic 52, 3) := by decide +kernel
theorem dX6_use_16 : decode cX6_use 16 = .ok (.aload_n 0, 1) := by decide +kernel
theorem dX6_use_17 : decode cX6_use 17 = .ok (.iconst 0, 1) := by decide +kernel
theorem dX6_use_18 : decode cX6_use 18 = .ok (.putfield 44, 3) := by decide +kernel
theorem dX6_use_21 : decode cX6_use 21 = .ok (.aload_n 0, 1) := by decide +kernel
theorem dX6_use_22 : decode cX6_use 22 = .ok (.getfield 25, 3) := by decide +kernel
theorem dX6_use_25 : decode cX6_use 25 = .ok (.iload_n 1, 1) := by decide +kernel
theorem dX6_use_26 : decode cX6_use 26 = .ok (.iload_n 2, 1) := by decide +kernel
theorem dX6_use_27 : decode cX6_use 27 = .ok (.iload_n 3, 1) := by decide +kernel
theorem dX6_use_28 : decode cX6_use 28 = .ok (.invokevirtual 84, 3) := by decide +kernel
theorem dX6_use_31 : decode cX6_use 31 = .ok (.return_, 1) := by decide +kernel
set_option maxRecDepth 20000 in
theorem ggX6_fan_X6_isWithin : GoodIn wsX6_fan wsX6_isWithin := goodIn_r _ [10] (by decide +kernel) (by decide +kernel)
set_option maxRecDepth 20000 in
theorem gX6_fan_X6_isWithin : GoodIn wsX6_fan (va_wsS RX6 60 yX6_isWithin wsX6_isWithin) := goodIn_app (goodIn_of _ (by decide +kernel)) ggX6_fan_X6_isWithin
set_option maxRecDepth 20000 in
theorem ggX6_fan_X6_checkArgument : GoodIn wsX6_fan wsX6_checkArgument := goodIn_ca (goodIn_r _ [13, 14, 15] (by decide +kernel) (by decide +kernel)) (goodIn_sub (fun _ h => List.mem_cons_of_mem _ (List.mem_append_right _ h)) (by decide +kernel))
set_option maxRecDepth 20000 in
theorem gX6_fan_X6_checkArgument : GoodIn wsX6_fan (va_wsS RX6 64 yX6_checkArgument wsX6_checkArgument) := goodIn_app (goodIn_of _ (by decide +kernel)) ggX6_fan_X6_checkArgument
theorem dX6_fan_0 : decode cX6_fan 0 = .ok (.dload_n 1, 1) := by decide +kernel
theorem dX6_fan_1 : decode cX6_fan 1 = .ok (.dconst 0, 1) := by decide +kernel
theorem dX6_fan_2 : decode cX6_fan 2 = .ok (.ldc2_w 76, 3) := by decide +kernel
theorem dX6_fan_5 : decode cX6_fan 5 = .ok (.invokestatic 60, 3) := by decide +kernel
theorem dX6_fan_8 : decode cX6_fan 8 = .ok (.ifCond .eq 18, 3) := by decide +kernel
theorem dX6_fan_11 : decode cX6_fan 11 = .ok (.dload_n 3, 1) := by decide +kernel
theorem dX6_fan_12 : decode cX6_fan 12 = .ok (.dconst 0, 1) := by decide +kernel
theorem dX6_fan_13 : decode cX6_fan 13 = .ok (.ldc2_w 76, 3) := by decide +kernel
theorem dX6_fan_16 : decode cX6_fan 16 = .ok (.invokestatic 60, 3) := by decide +kernel
theorem dX6_fan_19 : decode cX6_fan 19 = .ok (.ifCond .eq 7, 3) := by decide +kernel
theorem dX6_fan_22 : decode cX6_fan 22 = .ok (.iconst 1, 1) := by decide +kernel
theorem dX6_fan_23 : decode cX6_fan 23 = .ok (.goto 4, 3) := by decide +kernel
theorem dX6_fan_26 : decode cX6_fan 26 = .ok (.iconst 0, 1) := by decide +kernel
theorem dX6_fan_27 : decode cX6_fan 27 = .ok (.invokestatic 64, 3) := by decide +kernel
theorem dX6_fan_30 : decode cX6_fan 30 = .ok (.aload_n 0, 1) := by decide +kernel
theorem dX6_fan_31 : decode cX6_fan 31 = .ok (.iconst 0, 1) := by decide +kernel
theorem dX6_fan_32 : decode cX6_fan 32 = .ok (.putfield 44, 3) := by decide +kernel
theorem dX6_fan_35 : decode cX6_fan 35 = .ok (.aload_n 0, 1) := by decide +kernel
theorem dX6_fan_36 : decode cX6_fan 36 = .ok (.getfield 10, 3) := by decide +kernel
theorem dX6_fan_39 : decode cX6_fan 39 = .ok (.getfield 88, 3) := by decide +kernel
theorem dX6_fan_42 : decode cX6_fan 42 = .ok (.dload_n 1, 1) := by decide +kernel
theorem dX6_fan_43 : decode cX6_fan 43 = .ok (.putfield 92, 3) := by decide +kernel
theorem dX6_fan_46 : decode cX6_fan 46 = .ok (.aload_n 0, 1) := by decide +kernel
theorem dX6_fan_47 : decode cX6_fan 47 = .ok (.getfield 10, 3) := by decide +kernel
theorem dX6_fan_50 : decode cX6_fan 50 = .ok (.getfield 88, 3) := by decide +kernel
theorem dX6_fan_53 : decode cX6_fan 53 = .ok (.dload_n 3, 1) := by decide +kernel
theorem dX6_fan_54 : decode cX6_fan 54 = .ok (.putfield 98, 3) := by decide +kernel
theorem dX6_fan_57 : decode cX6_fan 57 = .ok (.return_, 1) := by decide +kernel
set_option maxRecDepth 20000 in
theorem ggX6_solve_X6_checkIndex : GoodIn wsX6_solve wsX6_checkIndex := goodIn_ca (goodIn_r _ [6, 7, 8] (by decide +kernel) (by decide +kernel)) (goodIn_sub (fun _ h => List.mem_cons_of_mem _ (List.mem_append_right _ h)) (by decide +kernel))
set_option maxRecDepth 20000 in
theorem gX6_solve_X6_checkIndex : GoodIn wsX6_solve (va_wsS RX6 52 yX6_checkIndex wsX6_checkIndex) := goodIn_app (goodIn_of _ (by decide +kernel)) ggX6_solve_X6_checkIndex
set_option maxRecDepth 20000 in
theorem ggX6_solve_X0_balance : GoodIn wsX6_solve wsX0_balance := goodIn_r _ [13, 14, 15, 16, 17, 18, 19, 20, 21, 22, 23, 24, 25, 26, 27, 28, 29, 12, 30, 31, 32, 33, 34, 35, 36, 37, 38, 39, 40, 41, 42, 43, 44, 45, 46, 47, 48, 49, 50, 51, 52, 53, 54, 55, 56, 57, 58, 59, 60, 61, 62, 63, 64, 65, 66, 67, 68, 69, 70, 71, 72, 73, 74, 75, 76, 5, 77, 78, 79, 80, 81, 82, 83, 84, 85, 86, 87, 88, 89, 90, 91, 92, 93, 94, 95, 96, 104, 105, 106, 107, 108, 109, 110, 111, 112, 113, 114, 115, 116, 117, 118, 119, 120, 121, 122, 123, 124, 125] (by decide +kernel) (by decide +kernel)
set_option maxRecDepth 20000 in
theorem gX6_solve_X0_balance : GoodIn wsX6_solve (wsV RX6 101 RX0 yX0_balance wsX0_balance) := goodIn_app (goodIn_of _ (by decide +kernel)) ggX6_solve_X0_balance
theorem dX6_solve_0 : decode cX6_solve 0 = .ok (.iload_n 1, 1) := by decide +kernel
theorem dX6_solve_1 : decode cX6_solve 1 = .ok (.iconst 4, 1) := by decide +kernel
theorem dX6_solve_2 : decode cX6_solve 2 = .ok (.invokestatic 52, 3) := by decide +kernel
theorem dX6_solve_5 : decode cX6_solve 5 = .ok (.aload_n 0, 1) := by decide +kernel
theorem dX6_solve_6 : decode cX6_solve 6 = .ok (.getfield 10, 3) := by decide +kernel
theorem dX6_solve_9 : decode cX6_solve 9 = .ok (.iload_n 1, 1) := by decide +kernel
theorem dX6_solve_10 : decode cX6_solve 10 = .ok (.invokevirtual 101, 3) := by decide +kernel
theorem dX6_solve_13 : decode cX6_solve 13 = .ok (.istore_n 2, 1) := by decide +kernel
theorem dX6_solve_14 : decode cX6_solve 14 = .ok (.aload_n 0, 1) := by decide +kernel
theorem dX6_solve_15 : decode cX6_solve 15 = .ok (.iload_n 2, 1) := by decide +kernel
theorem dX6_solve_16 : decode cX6_solve 16 = .ok (.iconst (-1), 1) := by decide +kernel
theorem dX6_solve_17 : decode cX6_solve 17 = .ok (.if_icmp .eq 7, 3) := by decide +kernel
theorem dX6_solve_20 : decode cX6_solve 20 = .ok (.iconst 1, 1) := by decide +kernel
theorem dX6_solve_21 : decode cX6_solve 21 = .ok (.goto 4, 3) := by decide +kernel
theorem dX6_solve_24 : decode cX6_solve 24 = .ok (.iconst 0, 1) := by decide +kernel
theorem dX6_solve_25 : decode cX6_solve 25 = .ok (.putfield 44, 3) := by decide +kernel
theorem dX6_solve_28 : decode cX6_solve 28 = .ok (.iload_n 2, 1) := by decide +kernel
theorem dX6_solve_29 : decode cX6_solve 29 = .ok (.ireturn, 1) := by decide +kernel
set_option maxRecDepth 20000 in
theorem ggX6_at_X6_checkIndex : GoodIn wsX6_at wsX6_checkIndex := goodIn_ca (goodIn_r _ [8, 9, 10] (by decide +kernel) (by decide +kernel)) (goodIn_sub (fun _ h => List.mem_cons_of_mem _ (List.mem_append_left _ (List.mem_append_right _ h))) (by decide +kernel))
set_option maxRecDepth 20000 in
theorem gX6_at_X6_checkIndex : GoodIn wsX6_at (va_wsS RX6 52 yX6_checkIndex wsX6_checkIndex) := goodIn_app (goodIn_of _ (by decide +kernel)) ggX6_at_X6_checkIndex
set_option maxRecDepth 20000 in
theorem ggX6_at_X6_checkState : GoodIn wsX6_at wsX6_checkState := goodIn_ca (goodIn_r _ [13, 14, 15] (by decide +kernel) (by decide +kernel)) (goodIn_sub (fun _ h => List.mem_cons_of_mem _ (List.mem_append_right _ h)) (by decide +kernel))
set_option maxRecDepth 20000 in
theorem gX6_at_X6_checkState : GoodIn wsX6_at (va_wsS RX6 48 yX6_checkState wsX6_checkState) := goodIn_app (goodIn_of _ (by decide +kernel)) ggX6_at_X6_checkState
set_option maxRecDepth 20000 in
theorem ggX6_at_X0_residual : GoodIn wsX6_at wsX0_residual := goodIn_r _ [20, 21, 22, 23, 24, 25, 19, 26, 27, 28, 29, 30, 31, 32, 33, 34, 35, 36, 37, 38, 39, 40, 41, 42, 43, 44, 45, 46, 47, 48, 49, 50, 51, 52, 53, 54, 7, 55, 63, 64, 65, 66, 67, 68, 69, 70, 71, 72, 73, 74, 75, 76, 77, 78, 79, 80, 81] (by decide +kernel) (by decide +kernel)
set_option maxRecDepth 20000 in
theorem gX6_at_X0_residual : GoodIn wsX6_at (wsV RX6 109 RX0 yX0_residual wsX0_residual) := goodIn_app (goodIn_of _ (by decide +kernel)) ggX6_at_X0_residual
theorem dX6_at_0 : decode cX6_at 0 = .ok (.iload_n 1, 1) := by decide +kernel
theorem dX6_at_1 : decode cX6_at 1 = .ok (.aload_n 0, 1) := by decide +kernel
theorem dX6_at_2 : decode cX6_at 2 = .ok (.getfield 40, 3) := by decide +kernel
theorem dX6_at_5 : decode cX6_at 5 = .ok (.invokestatic 52, 3) := by decide +kernel
theorem dX6_at_8 : decode cX6_at 8 = .ok (.iload_n 2, 1) := by decide +kernel
theorem dX6_at_9 : decode cX6_at 9 = .ok (.iconst 2, 1) := by decide +kernel
theorem dX6_at_10 : decode cX6_at 10 = .ok (.invokestatic 52, 3) := by decide +kernel
theorem dX6_at_13 : decode cX6_at 13 = .ok (.aload_n 0, 1) := by decide +kernel
theorem dX6_at_14 : decode cX6_at 14 = .ok (.getfield 44, 3) := by decide +kernel
theorem dX6_at_17 : decode cX6_at 17 = .ok (.invokestatic 48, 3) := by decide +kernel
theorem dX6_at_20 : decode cX6_at 20 = .ok (.iload_n 2, 1) := by decide +kernel
theorem dX6_at_21 : decode cX6_at 21 = .ok (.ifCond .ne 15, 3) := by decide +kernel
theorem dX6_at_24 : decode cX6_at 24 = .ok (.aload_n 0, 1) := by decide +kernel
theorem dX6_at_25 : decode cX6_at 25 = .ok (.getfield 10, 3) := by decide +kernel
theorem dX6_at_28 : decode cX6_at 28 = .ok (.getfield 105, 3) := by decide +kernel
theorem dX6_at_31 : decode cX6_at 31 = .ok (.iload_n 1, 1) := by decide +kernel
theorem dX6_at_32 : decode cX6_at 32 = .ok (.daload, 1) := by decide +kernel
theorem dX6_at_33 : decode cX6_at 33 = .ok (.goto 11, 3) := by decide +kernel
theorem dX6_at_36 : decode cX6_at 36 = .ok (.aload_n 0, 1) := by decide +kernel
theorem dX6_at_37 : decode cX6_at 37 = .ok (.getfield 10, 3) := by decide +kernel
theorem dX6_at_40 : decode cX6_at 40 = .ok (.iload_n 1, 1) := by decide +kernel
theorem dX6_at_41 : decode cX6_at 41 = .ok (.invokevirtual 109, 3) := by decide +kernel
theorem dX6_at_44 : decode cX6_at 44 = .ok (.dreturn, 1) := by decide +kernel
set_option maxRecDepth 20000 in
theorem ggX6_of_X6_checkIndex : GoodIn wsX6_of wsX6_checkIndex := goodIn_ca (goodIn_r _ [11, 12, 13] (by decide +kernel) (by decide +kernel)) (goodIn_sub (fun _ h => List.mem_cons_of_mem _ (List.mem_append_left _ (List.mem_append_right _ h))) (by decide +kernel))
set_option maxRecDepth 20000 in
theorem gX6_of_X6_checkIndex : GoodIn wsX6_of (va_wsS RX6 52 yX6_checkIndex wsX6_checkIndex) := goodIn_app (goodIn_of _ (by decide +kernel)) ggX6_of_X6_checkIndex
set_option maxRecDepth 20000 in
theorem ggX6_of_X6_checkState : GoodIn wsX6_of wsX6_checkState := goodIn_ca (goodIn_r _ [16, 17, 18] (by decide +kernel) (by decide +kernel)) (goodIn_sub (fun _ h => List.mem_cons_of_mem _ (List.mem_append_right _ h)) (by decide +kernel))
set_option maxRecDepth 20000 in
theorem gX6_of_X6_checkState : GoodIn wsX6_of (va_wsS RX6 48 yX6_checkState wsX6_checkState) := goodIn_app (goodIn_of _ (by decide +kernel)) ggX6_of_X6_checkState
set_option maxRecDepth 20000 in
theorem ggX6_of_X0_flow : GoodIn wsX6_of wsX0_flow := goodIn_r _ [23, 24, 25, 26, 27, 28, 55, 56, 57, 58, 59, 44, 45, 46, 47, 48, 49, 50, 51] (by decide +kernel) (by decide +kernel)
set_option maxRecDepth 20000 in
theorem gX6_of_X0_flow : GoodIn wsX6_of (wsV RX6 113 RX0 yX0_flow wsX0_flow) := goodIn_app (goodIn_of _ (by decide +kernel)) ggX6_of_X0_flow
set_option maxRecDepth 20000 in
theorem ggX6_of_X0_speed : GoodIn wsX6_of wsX0_speed := goodIn_r _ [32, 24, 33, 34, 20, 21, 22, 23, 25, 26, 27, 28, 35, 10, 36, 55, 56, 57, 58, 59, 44, 45, 46, 47, 48, 49, 50, 51] (by decide +kernel) (by decide +kernel)
set_option maxRecDepth 20000 in
theorem gX6_of_X0_speed : GoodIn wsX6_of (wsV RX6 116 RX0 yX0_speed wsX0_speed) := goodIn_app (goodIn_of _ (by decide +kernel)) ggX6_of_X0_speed
theorem dX6_of_0 : decode cX6_of 0 = .ok (.iload_n 1, 1) := by decide +kernel
theorem dX6_of_1 : decode cX6_of 1 = .ok (.aload_n 0, 1) := by decide +kernel
theorem dX6_of_2 : decode cX6_of 2 = .ok (.getfield 20, 3) := by decide +kernel
theorem dX6_of_5 : decode cX6_of 5 = .ok (.getfield 67, 3) := by decide +kernel
theorem dX6_of_8 : decode cX6_of 8 = .ok (.invokestatic 52, 3) := by decide +kernel
theorem dX6_of_11 : decode cX6_of 11 = .ok (.iload_n 2, 1) := by decide +kernel
theorem dX6_of_12 : decode cX6_of 12 = .ok (.iconst 4, 1) := by decide +kernel
theorem dX6_of_13 : decode cX6_of 13 = .ok (.invokestatic 52, 3) := by decide +kernel
theorem dX6_of_16 : decode cX6_of 16 = .ok (.aload_n 0, 1) := by decide +kernel
theorem dX6_of_17 : decode cX6_of 17 = .ok (.getfield 44, 3) := by decide +kernel
theorem dX6_of_20 : decode cX6_of 20 = .ok (.invokestatic 48, 3) := by decide +kernel
theorem dX6_of_23 : decode cX6_of 23 = .ok (.iload_n 2, 1) := by decide +kernel
theorem dX6_of_24 : decode cX6_of 24 = .ok (.tableswitch 56 0 2 #[28, 37, 46], 28) := by decide +kernel
theorem dX6_of_52 : decode cX6_of 52 = .ok (.aload_n 0, 1) := by decide +kernel
theorem dX6_of_53 : decode cX6_of 53 = .ok (.getfield 10, 3) := by decide +kernel
theorem dX6_of_56 : decode cX6_of 56 = .ok (.iload_n 1, 1) := by decide +kernel
theorem dX6_of_57 : decode cX6_of 57 = .ok (.invokevirtual 113, 3) := by decide +kernel
theorem dX6_of_60 : decode cX6_of 60 = .ok (.dreturn, 1) := by decide +kernel
theorem dX6_of_61 : decode cX6_of 61 = .ok (.aload_n 0, 1) := by decide +kernel
theorem dX6_of_62 : decode cX6_of 62 = .ok (.getfield 10, 3) := by decide +kernel
theorem dX6_of_65 : decode cX6_of 65 = .ok (.iload_n 1, 1) := by decide +kernel
theorem dX6_of_66 : decode cX6_of 66 = .ok (.invokevirtual 116, 3) := by decide +kernel
theorem dX6_of_69 : decode cX6_of 69 = .ok (.dreturn, 1) := by decide +kernel
theorem dX6_of_70 : decode cX6_of 70 = .ok (.aload_n 0, 1) := by decide +kernel
theorem dX6_of_71 : decode cX6_of 71 = .ok (.getfield 20, 3) := by decide +kernel
theorem dX6_of_74 : decode cX6_of 74 = .ok (.getfield 119, 3) := by decide +kernel
theorem dX6_of_77 : decode cX6_of 77 = .ok (.iload_n 1, 1) := by decide +kernel
theorem dX6_of_78 : decode cX6_of 78 = .ok (.daload, 1) := by decide +kernel
theorem dX6_of_79 : decode cX6_of 79 = .ok (.dreturn, 1) := by decide +kernel
theorem dX6_of_80 : decode cX6_of 80 = .ok (.aload_n 0, 1) := by decide +kernel
theorem dX6_of_81 : decode cX6_of 81 = .ok (.getfield 29, 3) := by decide +kernel
theorem dX6_of_84 : decode cX6_of 84 = .ok (.getfield 122, 3) := by decide +kernel
theorem dX6_of_87 : decode cX6_of 87 = .ok (.iload_n 1, 1) := by decide +kernel
theorem dX6_of_88 : decode cX6_of 88 = .ok (.daload, 1) := by decide +kernel
theorem dX6_of_89 : decode cX6_of 89 = .ok (.dreturn, 1) := by decide +kernel
set_option maxRecDepth 20000 in
theorem ggX6_draws_X6_checkIndex : GoodIn wsX6_draws wsX6_checkIndex := goodIn_ca (goodIn_r _ [9, 10, 11] (by decide +kernel) (by decide +kernel)) (goodIn_sub (fun _ h => List.mem_cons_of_mem _ (List.mem_append_left _ (List.mem_append_right _ h))) (by decide +kernel))
set_option maxRecDepth 20000 in
theorem gX6_draws_X6_checkIndex : GoodIn wsX6_draws (va_wsS RX6 52 yX6_checkIndex wsX6_checkIndex) := goodIn_app (goodIn_of _ (by decide +kernel)) ggX6_draws_X6_checkIndex
set_option maxRecDepth 20000 in
theorem ggX6_draws_X6_checkState : GoodIn wsX6_draws wsX6_checkState := goodIn_ca (goodIn_r _ [14, 15, 16] (by decide +kernel) (by decide +kernel)) (goodIn_sub (fun _ h => List.mem_cons_of_mem _ (List.mem_append_right _ h)) (by decide +kernel))
set_option maxRecDepth 20000 in
theorem gX6_draws_X6_checkState : GoodIn wsX6_draws (va_wsS RX6 48 yX6_checkState wsX6_checkState) := goodIn_app (goodIn_of _ (by decide +kernel)) ggX6_draws_X6_checkState
set_option maxRecDepth 20000 in
theorem ggX6_draws_X0_draw : GoodIn wsX6_draws wsX0_draw := goodIn_r _ [21, 22, 23, 24, 25, 26, 27, 28, 8, 29, 43, 44, 45, 46, 47, 37, 38, 39, 40, 41, 42] (by decide +kernel) (by decide +kernel)
set_option maxRecDepth 20000 in
theorem gX6_draws_X0_draw : GoodIn wsX6_draws (wsV RX6 128 RX0 yX0_draw wsX0_draw) := goodIn_app (goodIn_of _ (by decide +kernel)) ggX6_draws_X0_draw
theorem dX6_draws_0 : decode cX6_draws 0 = .ok (.iload_n 1, 1) := by decide +kernel
theorem dX6_draws_1 : decode cX6_draws 1 = .ok (.aload_n 0, 1) := by decide +kernel
theorem dX6_draws_2 : decode cX6_draws 2 = .ok (.getfield 25, 3) := by decide +kernel
theorem dX6_draws_5 : decode cX6_draws 5 = .ok (.getfield 78, 3) := by decide +kernel
theorem dX6_draws_8 : decode cX6_draws 8 = .ok (.invokestatic 52, 3) := by decide +kernel
theorem dX6_draws_11 : decode cX6_draws 11 = .ok (.iload_n 2, 1) := by decide +kernel
theorem dX6_draws_12 : decode cX6_draws 12 = .ok (.iconst 2, 1) := by decide +kernel
theorem dX6_draws_13 : decode cX6_draws 13 = .ok (.invokestatic 52, 3) := by decide +kernel
theorem dX6_draws_16 : decode cX6_draws 16 = .ok (.aload_n 0, 1) := by decide +kernel
theorem dX6_draws_17 : decode cX6_draws 17 = .ok (.getfield 44, 3) := by decide +kernel
theorem dX6_draws_20 : decode cX6_draws 20 = .ok (.invokestatic 48, 3) := by decide +kernel
theorem dX6_draws_23 : decode cX6_draws 23 = .ok (.iload_n 2, 1) := by decide +kernel
theorem dX6_draws_24 : decode cX6_draws 24 = .ok (.ifCond .ne 15, 3) := by decide +kernel
theorem dX6_draws_27 : decode cX6_draws 27 = .ok (.aload_n 0, 1) := by decide +kernel
theorem dX6_draws_28 : decode cX6_draws 28 = .ok (.getfield 25, 3) := by decide +kernel
theorem dX6_draws_31 : decode cX6_draws 31 = .ok (.getfield 125, 3) := by decide +kernel
theorem dX6_draws_34 : decode cX6_draws 34 = .ok (.iload_n 1, 1) := by decide +kernel
theorem dX6_draws_35 : decode cX6_draws 35 = .ok (.daload, 1) := by decide +kernel
theorem dX6_draws_36 : decode cX6_draws 36 = .ok (.goto 11, 3) := by decide +kernel
theorem dX6_draws_39 : decode cX6_draws 39 = .ok (.aload_n 0, 1) := by decide +kernel
theorem dX6_draws_40 : decode cX6_draws 40 = .ok (.getfield 10, 3) := by decide +kernel
theorem dX6_draws_43 : decode cX6_draws 43 = .ok (.iload_n 1, 1) := by decide +kernel
theorem dX6_draws_44 : decode cX6_draws 44 = .ok (.invokevirtual 128, 3) := by decide +kernel
theorem dX6_draws_47 : decode cX6_draws 47 = .ok (.dreturn, 1) := by decide +kernel
set_option maxRecDepth 20000 in
theorem ggX6_keeps_X6_checkArgument : GoodIn wsX6_keeps wsX6_checkArgument := goodIn_ca (goodIn_r _ [6, 7, 8] (by decide +kernel) (by decide +kernel)) (goodIn_sub (fun _ h => List.mem_cons_of_mem _ (List.mem_append_left _ (List.mem_append_right _ h))) (by decide +kernel))
set_option maxRecDepth 20000 in
theorem gX6_keeps_X6_checkArgument : GoodIn wsX6_keeps (va_wsS RX6 64 yX6_checkArgument wsX6_checkArgument) := goodIn_app (goodIn_of _ (by decide +kernel)) ggX6_keeps_X6_checkArgument
set_option maxRecDepth 20000 in
theorem ggX6_keeps_X6_checkState : GoodIn wsX6_keeps wsX6_checkState := goodIn_ca (goodIn_r _ [11, 12, 13] (by decide +kernel) (by decide +kernel)) (goodIn_sub (fun _ h => List.mem_cons_of_mem _ (List.mem_append_right _ h)) (by decide +kernel))
set_option maxRecDepth 20000 in
theorem gX6_keeps_X6_checkState : GoodIn wsX6_keeps (va_wsS RX6 48 yX6_checkState wsX6_checkState) := goodIn_app (goodIn_of _ (by decide +kernel)) ggX6_keeps_X6_checkState
set_option maxRecDepth 20000 in
theorem ggX6_keeps_X0_isEachSpeedAtLeast : GoodIn wsX6_keeps wsX0_isEachSpeedAtLeast := goodIn_r _ [18, 19, 20, 21, 22, 23, 17, 24, 25, 26, 27, 28, 29, 30, 31, 32, 33, 34, 5, 35, 43, 44, 45, 46, 47, 48, 49, 50, 51, 52, 53, 54, 55] (by decide +kernel) (by decide +kernel)
set_option maxRecDepth 20000 in
theorem gX6_keeps_X0_isEachSpeedAtLeast : GoodIn wsX6_keeps (wsV RX6 131 RX0 yX0_isEachSpeedAtLeast wsX0_isEachSpeedAtLeast) := goodIn_app (goodIn_of _ (by decide +kernel)) ggX6_keeps_X0_isEachSpeedAtLeast
theorem dX6_keeps_0 : decode cX6_keeps 0 = .ok (.dload_n 1, 1) := by decide +kernel
theorem dX6_keeps_1 : decode cX6_keeps 1 = .ok (.dconst 0, 1) := by decide +kernel
theorem dX6_keeps_2 : decode cX6_keeps 2 = .ok (.dcmp .g, 1) := by decide +kernel
theorem dX6_keeps_3 : decode cX6_keeps 3 = .ok (.ifCond .lt 7, 3) := by decide +kernel
theorem dX6_keeps_6 : decode cX6_keeps 6 = .ok (.iconst 1, 1) := by decide +kernel
theorem dX6_keeps_7 : decode cX6_keeps 7 = .ok (.goto 4, 3) := by decide +kernel
theorem dX6_keeps_10 : decode cX6_keeps 10 = .ok (.iconst 0, 1) := by decide +kernel
theorem dX6_keeps_11 : decode cX6_keeps 11 = .ok (.invokestatic 64, 3) := by decide +kernel
theorem dX6_keeps_14 : decode cX6_keeps 14 = .ok (.aload_n 0, 1) := by decide +kernel
theorem dX6_keeps_15 : decode cX6_keeps 15 = .ok (.getfield 44, 3) := by decide +kernel
theorem dX6_keeps_18 : decode cX6_keeps 18 = .ok (.invokestatic 48, 3) := by decide +kernel
theorem dX6_keeps_21 : decode cX6_keeps 21 = .ok (.aload_n 0, 1) := by decide +kernel
theorem dX6_keeps_22 : decode cX6_keeps 22 = .ok (.getfield 10, 3) := by decide +kernel
theorem dX6_keeps_25 : decode cX6_keeps 25 = .ok (.dload_n 1, 1) := by decide +kernel
theorem dX6_keeps_26 : decode cX6_keeps 26 = .ok (.invokevirtual 131, 3) := by decide +kernel
theorem dX6_keeps_29 : decode cX6_keeps 29 = .ok (.ireturn, 1) := by decide +kernel
set_option maxRecDepth 20000 in
theorem ggX6_list_X6_isWithin : GoodIn wsX6_list wsX6_isWithin := goodIn_r _ [9] (by decide +kernel) (by decide +kernel)
set_option maxRecDepth 20000 in
theorem gX6_list_X6_isWithin : GoodIn wsX6_list (va_wsS RX6 60 yX6_isWithin wsX6_isWithin) := goodIn_app (goodIn_of _ (by decide +kernel)) ggX6_list_X6_isWithin
set_option maxRecDepth 20000 in
theorem ggX6_list_X6_checkArgument : GoodIn wsX6_list wsX6_checkArgument := goodIn_ca (goodIn_r _ [12, 13, 14] (by decide +kernel) (by decide +kernel)) (goodIn_sub (fun _ h => List.mem_cons_of_mem _ (List.mem_append_left _ (List.mem_append_right _ h))) (by decide +kernel))
set_option maxRecDepth 20000 in
theorem gX6_list_X6_checkArgument : GoodIn wsX6_list (va_wsS RX6 64 yX6_checkArgument wsX6_checkArgument) := goodIn_app (goodIn_of _ (by decide +kernel)) ggX6_list_X6_checkArgument
set_option maxRecDepth 20000 in
theorem ggX6_list_X6_checkState : GoodIn wsX6_list wsX6_checkState := goodIn_ca (goodIn_r _ [17, 18, 19] (by decide +kernel) (by decide +kernel)) (goodIn_sub (fun _ h => List.mem_cons_of_mem _ (List.mem_append_right _ h)) (by decide +kernel))
set_option maxRecDepth 20000 in
theorem gX6_list_X6_checkState : GoodIn wsX6_list (va_wsS RX6 48 yX6_checkState wsX6_checkState) := goodIn_app (goodIn_of _ (by decide +kernel)) ggX6_list_X6_checkState
set_option maxRecDepth 20000 in
theorem ggX6_list_X5_add : GoodIn wsX6_list wsX5_add := goodIn_r _ [24, 25, 26, 27, 28, 36, 37, 38, 39] (by decide +kernel) (by decide +kernel)
set_option maxRecDepth 20000 in
theorem gX6_list_X5_add : GoodIn wsX6_list (wsV RX6 137 RX5 yX5_add wsX5_add) := goodIn_app (goodIn_of _ (by decide +kernel)) ggX6_list_X5_add
theorem dX6_list_0 : decode cX6_list 0 = .ok (.dload_n 1, 1) := by decide +kernel
theorem dX6_list_1 : decode cX6_list 1 = .ok (.ldc2_w 56, 3) := by decide +kernel
theorem dX6_list_4 : decode cX6_list 4 = .ok (.ldc2_w 58, 3) := by decide +kernel
theorem dX6_list_7 : decode cX6_list 7 = .ok (.invokestatic 60, 3) := by decide +kernel
theorem dX6_list_10 : decode cX6_list 10 = .ok (.ifCond .eq 17, 3) := by decide +kernel
theorem dX6_list_13 : decode cX6_list 13 = .ok (.iload_n 3, 1) := by decide +kernel
theorem dX6_list_14 : decode cX6_list 14 = .ok (.ifCond .lt 13, 3) := by decide +kernel
theorem dX6_list_17 : decode cX6_list 17 = .ok (.iload_n 3, 1) := by decide +kernel
theorem dX6_list_18 : decode cX6_list 18 = .ok (.ldc 135, 2) := by decide +kernel
theorem dX6_list_20 : decode cX6_list 20 = .ok (.if_icmp .gt 7, 3) := by decide +kernel
theorem dX6_list_23 : decode cX6_list 23 = .ok (.iconst 1, 1) := by decide +kernel
theorem dX6_list_24 : decode cX6_list 24 = .ok (.goto 4, 3) := by decide +kernel
theorem dX6_list_27 : decode cX6_list 27 = .ok (.iconst 0, 1) := by decide +kernel
theorem dX6_list_28 : decode cX6_list 28 = .ok (.invokestatic 64, 3) := by decide +kernel
theorem dX6_list_31 : decode cX6_list 31 = .ok (.aload_n 0, 1) := by decide +kernel
theorem dX6_list_32 : decode cX6_list 32 = .ok (.getfield 36, 3) := by decide +kernel
theorem dX6_list_35 : decode cX6_list 35 = .ok (.getfield 136, 3) := by decide +kernel
theorem dX6_list_38 : decode cX6_list 38 = .ok (.bipush 6, 2) := by decide +kernel
theorem dX6_list_40 : decode cX6_list 40 = .ok (.if_icmp .ge 7, 3) := by decide +kernel
theorem dX6_list_43 : decode cX6_list 43 = .ok (.iconst 1, 1) := by decide +kernel
theorem dX6_list_44 : decode cX6_list 44 = .ok (.goto 4, 3) := by decide +kernel
theorem dX6_list_47 : decode cX6_list 47 = .ok (.iconst 0, 1) := by decide +kernel
theorem dX6_list_48 : decode cX6_list 48 = .ok (.invokestatic 48, 3) := by decide +kernel
theorem dX6_list_51 : decode cX6_list 51 = .ok (.aload_n 0, 1) := by decide +kernel
theorem dX6_list_52 : decode cX6_list 52 = .ok (.getfield 36, 3) := by decide +kernel
theorem dX6_list_55 : decode cX6_list 55 = .ok (.dload_n 1, 1) := by decide +kernel
theorem dX6_list_56 : decode cX6_list 56 = .ok (.iload_n 3, 1) := by decide +kernel
theorem dX6_list_57 : decode cX6_list 57 = .ok (.invokevirtual 137, 3) := by decide +kernel
theorem dX6_list_60 : decode cX6_list 60 = .ok (.ireturn, 1) := by decide +kernel
set_option maxRecDepth 20000 in
theorem ggX6_size_X6_checkIndex : GoodIn wsX6_size wsX6_checkIndex := goodIn_ca (goodIn_r _ [11, 12, 13] (by decide +kernel) (by decide +kernel)) (goodIn_sub (fun _ h => List.mem_cons_of_mem _ (List.mem_append_left _ (List.mem_append_right _ h))) (by decide +kernel))
set_option maxRecDepth 20000 in
theorem gX6_size_X6_checkIndex : GoodIn wsX6_size (va_wsS RX6 52 yX6_checkIndex wsX6_checkIndex) := goodIn_app (goodIn_of _ (by decide +kernel)) ggX6_size_X6_checkIndex
set_option maxRecDepth 20000 in
theorem ggX6_size_X6_checkState : GoodIn wsX6_size wsX6_checkState := goodIn_ca (goodIn_r _ [16, 17, 18] (by decide +kernel) (by decide +kernel)) (goodIn_sub (fun _ h => List.mem_cons_of_mem _ (List.mem_append_right _ h)) (by decide +kernel))
set_option maxRecDepth 20000 in
theorem gX6_size_X6_checkState : GoodIn wsX6_size (va_wsS RX6 48 yX6_checkState wsX6_checkState) := goodIn_app (goodIn_of _ (by decide +kernel)) ggX6_size_X6_checkState
set_option maxRecDepth 20000 in
theorem ggX6_size_X1_setWidths : GoodIn wsX6_size wsX1_setWidths := goodIn_r _ [23, 24, 25, 26, 27, 22, 28, 29, 30, 31, 135, 136, 137, 138, 139, 140, 141, 142] (by decide +kernel) (by decide +kernel)
set_option maxRecDepth 20000 in
theorem gX6_size_X1_setWidths : GoodIn wsX6_size (wsV RX6 147 RX1 yX1_setWidths wsX1_setWidths) := goodIn_app (goodIn_of _ (by decide +kernel)) ggX6_size_X1_setWidths
set_option maxRecDepth 20000 in
theorem ggX6_size_X0_balance : GoodIn wsX6_size wsX0_balance := goodIn_r _ [36, 37, 38, 39, 40, 41, 42, 43, 44, 45, 46, 47, 48, 49, 50, 51, 52, 35, 53, 54, 55, 56, 57, 58, 59, 60, 61, 62, 63, 64, 65, 66, 67, 68, 69, 70, 71, 72, 73, 74, 75, 76, 77, 78, 79, 80, 81, 82, 83, 84, 85, 86, 87, 88, 89, 90, 91, 92, 93, 94, 22, 95, 96, 97, 98, 10, 99, 100, 101, 102, 103, 104, 105, 106, 107, 108, 109, 110, 111, 112, 113, 114, 115, 116, 117, 118, 143, 144, 145, 146, 147, 148, 149, 150, 151, 152, 153, 154, 155, 156, 135, 136, 137, 138, 139, 140, 141, 142] (by decide +kernel) (by decide +kernel)
set_option maxRecDepth 20000 in
theorem gX6_size_X0_balance : GoodIn wsX6_size (wsV RX6 101 RX0 yX0_balance wsX0_balance) := goodIn_app (goodIn_of _ (by decide +kernel)) ggX6_size_X0_balance
set_option maxRecDepth 20000 in
theorem ggX6_size_X0_isEachMachineServed : GoodIn wsX6_size wsX0_isEachMachineServed := goodIn_r _ [122, 37, 68, 111, 110, 123, 114, 115, 116, 35, 117, 69, 70, 40, 118, 104, 10, 105, 143, 144, 145, 146, 147, 151, 152, 153, 154, 155, 156] (by decide +kernel) (by decide +kernel)
set_option maxRecDepth 20000 in
theorem gX6_size_X0_isEachMachineServed : GoodIn wsX6_size (wsV RX6 151 RX0 yX0_isEachMachineServed wsX0_isEachMachineServed) := goodIn_app (goodIn_of _ (by decide +kernel)) ggX6_size_X0_isEachMachineServed
theorem dX6_size_0 : decode cX6_size 0 = .ok (.iload_n 1, 1) := by decide +kernel
theorem dX6_size_1 : decode cX6_size 1 = .ok (.iconst 4, 1) := by decide +kernel
theorem dX6_size_2 : decode cX6_size 2 = .ok (.invokestatic 52, 3) := by decide +kernel
theorem dX6_size_5 : decode cX6_size 5 = .ok (.aload_n 0, 1) := by decide +kernel
theorem dX6_size_6 : decode cX6_size 6 = .ok (.getfield 36, 3) := by decide +kernel
theorem dX6_size_9 : decode cX6_size 9 = .ok (.getfield 136, 3) := by decide +kernel
theorem dX6_size_12 : decode cX6_size 12 = .ok (.ifCond .le 7, 3) := by decide +kernel
theorem dX6_size_15 : decode cX6_size 15 = .ok (.iconst 1, 1) := by decide +kernel
theorem dX6_size_16 : decode cX6_size 16 = .ok (.goto 4, 3) := by decide +kernel
theorem dX6_size_19 : decode cX6_size 19 = .ok (.iconst 0, 1) := by decide +kernel
theorem dX6_size_20 : decode cX6_size 20 = .ok (.invokestatic 48, 3) := by decide +kernel
theorem dX6_size_23 : decode cX6_size 23 = .ok (.iconst 0, 1) := by decide +kernel
theorem dX6_size_24 : decode cX6_size 24 = .ok (.istore_n 2, 1) := by decide +kernel
theorem dX6_size_25 : decode cX6_size 25 = .ok (.iload_n 2, 1) := by decide +kernel
theorem dX6_size_26 : decode cX6_size 26 = .ok (.aload_n 0, 1) := by decide +kernel
theorem dX6_size_27 : decode cX6_size 27 = .ok (.getfield 36, 3) := by decide +kernel
theorem dX6_size_30 : decode cX6_size 30 = .ok (.getfield 136, 3) := by decide +kernel
theorem dX6_size_33 : decode cX6_size 33 = .ok (.if_icmp .ge 75, 3) := by decide +kernel
theorem dX6_size_36 : decode cX6_size 36 = .ok (.aload_n 0, 1) := by decide +kernel
theorem dX6_size_37 : decode cX6_size 37 = .ok (.getfield 36, 3) := by decide +kernel
theorem dX6_size_40 : decode cX6_size 40 = .ok (.getfield 140, 3) := by decide +kernel
theorem dX6_size_43 : decode cX6_size 43 = .ok (.iload_n 2, 1) := by decide +kernel
theorem dX6_size_44 : decode cX6_size 44 = .ok (.iaload, 1) := by decide +kernel
theorem dX6_size_45 : decode cX6_size 45 = .ok (.istore_n 3, 1) := by decide +kernel
theorem dX6_size_46 : decode cX6_size 46 = .ok (.aload_n 0, 1) := by decide +kernel
theorem dX6_size_47 : decode cX6_size 47 = .ok (.getfield 20, 3) := by decide +kernel
theorem dX6_size_50 : decode cX6_size 50 = .ok (.aload_n 0, 1) := by decide +kernel
theorem dX6_size_51 : decode cX6_size 51 = .ok (.getfield 36, 3) := by decide +kernel
theorem dX6_size_54 : decode cX6_size 54 = .ok (.getfield 144, 3) := by decide +kernel
theorem dX6_size_57 : decode cX6_size 57 = .ok (.iload_n 3, 1) := by decide +kernel
theorem dX6_size_58 : decode cX6_size 58 = .ok (.daload, 1) := by decide +kernel
theorem dX6_size_59 : decode cX6_size 59 = .ok (.invokevirtual 147, 3) := by decide +kernel
theorem dX6_size_62 : decode cX6_size 62 = .ok (.aload_n 0, 1) := by decide +kernel
theorem dX6_size_63 : decode cX6_size 63 = .ok (.aload_n 0, 1) := by decide +kernel
theorem dX6_size_64 : decode cX6_size 64 = .ok (.getfield 10, 3) := by decide +kernel
theorem dX6_size_67 : decode cX6_size 67 = .ok (.iload_n 1, 1) := by decide +kernel
theorem dX6_size_68 : decode cX6_size 68 = .ok (.invokevirtual 101, 3) := by decide +kernel
theorem dX6_size_71 : decode cX6_size 71 = .ok (.iconst (-1), 1) := by decide +kernel
theorem dX6_size_72 : decode cX6_size 72 = .ok (.if_icmp .eq 7, 3) := by decide +kernel
theorem dX6_size_75 : decode cX6_size 75 = .ok (.iconst 1, 1) := by decide +kernel
theorem dX6_size_76 : decode cX6_size 76 = .ok (.goto 4, 3) := by decide +kernel
theorem dX6_size_79 : decode cX6_size 79 = .ok (.iconst 0, 1) := by decide +kernel
theorem dX6_size_80 : decode cX6_size 80 = .ok (.putfield 44, 3) := by decide +kernel
theorem dX6_size_83 : decode cX6_size 83 = .ok (.aload_n 0, 1) := by decide +kernel
theorem dX6_size_84 : decode cX6_size 84 = .ok (.getfield 44, 3) := by decide +kernel
theorem dX6_size_87 : decode cX6_size 87 = .ok (.ifCond .eq 15, 3) := by decide +kernel
theorem dX6_size_90 : decode cX6_size 90 = .ok (.aload_n 0, 1) := by decide +kernel
theorem dX6_size_91 : decode cX6_size 91 = .ok (.getfield 10, 3) := by decide +kernel
theorem dX6_size_94 : decode cX6_size 94 = .ok (.invokevirtual 151, 3) := by decide +kernel
theorem dX6_size_97 : decode cX6_size 97 = .ok (.ifCond .eq 5, 3) := by decide +kernel
theorem dX6_size_100 : decode cX6_size 100 = .ok (.iload_n 3, 1) := by decide +kernel
theorem dX6_size_101 : decode cX6_size 101 = .ok (.ireturn, 1) := by decide +kernel
theorem dX6_size_102 : decode cX6_size 102 = .ok (.iinc 2 1, 3) := by decide +kernel
theorem dX6_size_105 : decode cX6_size 105 = .ok (.goto (-80), 3) := by decide +kernel
theorem dX6_size_108 : decode cX6_size 108 = .ok (.iconst (-1), 1) := by decide +kernel
theorem dX6_size_109 : decode cX6_size 109 = .ok (.ireturn, 1) := by decide +kernel
set_option maxRecDepth 20000 in
theorem ggX6_read_X6_checkIndex : GoodIn wsX6_read wsX6_checkIndex := goodIn_ca (goodIn_r _ [10, 11, 12] (by decide +kernel) (by decide +kernel)) (goodIn_sub (fun _ h => List.mem_cons_of_mem _ (List.mem_append_left _ (List.mem_append_right _ h))) (by decide +kernel))
set_option maxRecDepth 20000 in
theorem gX6_read_X6_checkIndex : GoodIn wsX6_read (va_wsS RX6 52 yX6_checkIndex wsX6_checkIndex) := goodIn_app (goodIn_of _ (by decide +kernel)) ggX6_read_X6_checkIndex
set_option maxRecDepth 20000 in
theorem ggX6_read_X6_isWithin : GoodIn wsX6_read wsX6_isWithin := goodIn_r _ [15] (by decide +kernel) (by decide +kernel)
set_option maxRecDepth 20000 in
theorem gX6_read_X6_isWithin : GoodIn wsX6_read (va_wsS RX6 60 yX6_isWithin wsX6_isWithin) := goodIn_app (goodIn_of _ (by decide +kernel)) ggX6_read_X6_isWithin
set_option maxRecDepth 20000 in
theorem ggX6_read_X6_checkArgument : GoodIn wsX6_read wsX6_checkArgument := goodIn_ca (goodIn_r _ [18, 19, 20] (by decide +kernel) (by decide +kernel)) (goodIn_sub (fun _ h => List.mem_cons_of_mem _ (List.mem_append_right _ h)) (by decide +kernel))
set_option maxRecDepth 20000 in
theorem gX6_read_X6_checkArgument : GoodIn wsX6_read (va_wsS RX6 64 yX6_checkArgument wsX6_checkArgument) := goodIn_app (goodIn_of _ (by decide +kernel)) ggX6_read_X6_checkArgument
theorem dX6_read_0 : decode cX6_read 0 = .ok (.iload_n 1, 1) := by decide +kernel
theorem dX6_read_1 : decode cX6_read 1 = .ok (.aload_n 0, 1) := by decide +kernel
theorem dX6_read_2 : decode cX6_read 2 = .ok (.getfield 20, 3) := by decide +kernel
theorem dX6_read_5 : decode cX6_read 5 = .ok (.getfield 67, 3) := by decide +kernel
theorem dX6_read_8 : decode cX6_read 8 = .ok (.invokestatic 52, 3) := by decide +kernel
theorem dX6_read_11 : decode cX6_read 11 = .ok (.dload_n 2, 1) := by decide +kernel
theorem dX6_read_12 : decode cX6_read 12 = .ok (.dconst 0, 1) := by decide +kernel
theorem dX6_read_13 : decode cX6_read 13 = .ok (.ldc2_w 155, 3) := by decide +kernel
theorem dX6_read_16 : decode cX6_read 16 = .ok (.invokestatic 60, 3) := by decide +kernel
theorem dX6_read_19 : decode cX6_read 19 = .ok (.invokestatic 64, 3) := by decide +kernel
theorem dX6_read_22 : decode cX6_read 22 = .ok (.aload_n 0, 1) := by decide +kernel
theorem dX6_read_23 : decode cX6_read 23 = .ok (.getfield 29, 3) := by decide +kernel
theorem dX6_read_26 : decode cX6_read 26 = .ok (.getfield 157, 3) := by decide +kernel
theorem dX6_read_29 : decode cX6_read 29 = .ok (.iload_n 1, 1) := by decide +kernel
theorem dX6_read_30 : decode cX6_read 30 = .ok (.dload_n 2, 1) := by decide +kernel
theorem dX6_read_31 : decode cX6_read 31 = .ok (.dastore, 1) := by decide +kernel
theorem dX6_read_32 : decode cX6_read 32 = .ok (.aload_n 0, 1) := by decide +kernel
theorem dX6_read_33 : decode cX6_read 33 = .ok (.getfield 29, 3) := by decide +kernel
theorem dX6_read_36 : decode cX6_read 36 = .ok (.getfield 160, 3) := by decide +kernel
theorem dX6_read_39 : decode cX6_read 39 = .ok (.iload_n 1, 1) := by decide +kernel
theorem dX6_read_40 : decode cX6_read 40 = .ok (.iconst 1, 1) := by decide +kernel
theorem dX6_read_41 : decode cX6_read 41 = .ok (.bastore, 1) := by decide +kernel
theorem dX6_read_42 : decode cX6_read 42 = .ok (.return_, 1) := by decide +kernel
set_option maxRecDepth 20000 in
theorem ggX6_fit_X6_checkArgument : GoodIn wsX6_fit wsX6_checkArgument := goodIn_ca (goodIn_r _ [7, 8, 9] (by decide +kernel) (by decide +kernel)) (goodIn_sub (fun _ h => List.mem_cons_of_mem _ (List.mem_append_left _ (List.mem_append_right _ h))) (by decide +kernel))
set_option maxRecDepth 20000 in
theorem gX6_fit_X6_checkArgument : GoodIn wsX6_fit (va_wsS RX6 64 yX6_checkArgument wsX6_checkArgument) := goodIn_app (goodIn_of _ (by decide +kernel)) ggX6_fit_X6_checkArgument
set_option maxRecDepth 20000 in
theorem ggX6_fit_X6_checkState : GoodIn wsX6_fit wsX6_checkState := goodIn_ca (goodIn_r _ [12, 13, 14] (by decide +kernel) (by decide +kernel)) (goodIn_sub (fun _ h => List.mem_cons_of_mem _ (List.mem_append_right _ h)) (by decide +kernel))
set_option maxRecDepth 20000 in
theorem gX6_fit_X6_checkState : GoodIn wsX6_fit (va_wsS RX6 48 yX6_checkState wsX6_checkState) := goodIn_app (goodIn_of _ (by decide +kernel)) ggX6_fit_X6_checkState
set_option maxRecDepth 20000 in
theorem ggX6_fit_X3_approach : GoodIn wsX6_fit wsX3_approach := goodIn_r _ [19, 20, 21, 22, 23, 24, 25, 18, 26, 27, 28, 29, 30, 31, 32, 33, 34, 35, 36, 37, 38, 6, 39, 40, 41, 53, 54, 55, 56, 57, 58, 59, 60, 61, 62, 63, 64, 65, 66, 67, 68] (by decide +kernel) (by decide +kernel)
set_option maxRecDepth 20000 in
theorem gX6_fit_X3_approach : GoodIn wsX6_fit (wsV RX6 164 RX3 yX3_approach wsX3_approach) := goodIn_app (goodIn_of _ (by decide +kernel)) ggX6_fit_X3_approach
set_option maxRecDepth 20000 in
theorem ggX6_fit_X3_sumOfSquares : GoodIn wsX6_fit wsX3_sumOfSquares := goodIn_r _ [45, 20, 23, 24, 25, 18, 26, 27, 21, 28, 29, 30, 31, 32, 33, 34, 35, 36, 37, 38, 6, 39, 53, 54, 55, 56, 57, 58, 59, 60, 61, 62, 63, 64, 65, 66, 67, 68] (by decide +kernel) (by decide +kernel)
set_option maxRecDepth 20000 in
theorem gX6_fit_X3_sumOfSquares : GoodIn wsX6_fit (wsV RX6 168 RX3 yX3_sumOfSquares wsX3_sumOfSquares) := goodIn_app (goodIn_of _ (by decide +kernel)) ggX6_fit_X3_sumOfSquares
theorem dX6_fit_0 : decode cX6_fit 0 = .ok (.iload_n 1, 1) := by decide +kernel
theorem dX6_fit_1 : decode cX6_fit 1 = .ok (.ifCond .lt 13, 3) := by decide +kernel
theorem dX6_fit_4 : decode cX6_fit 4 = .ok (.iload_n 1, 1) := by decide +kernel
theorem dX6_fit_5 : decode cX6_fit 5 = .ok (.bipush 50, 2) := by decide +kernel
theorem dX6_fit_7 : decode cX6_fit 7 = .ok (.if_icmp .gt 7, 3) := by decide +kernel
theorem dX6_fit_10 : decode cX6_fit 10 = .ok (.iconst 1, 1) := by decide +kernel
theorem dX6_fit_11 : decode cX6_fit 11 = .ok (.goto 4, 3) := by decide +kernel
theorem dX6_fit_14 : decode cX6_fit 14 = .ok (.iconst 0, 1) := by decide +kernel
theorem dX6_fit_15 : decode cX6_fit 15 = .ok (.invokestatic 64, 3) := by decide +kernel
theorem dX6_fit_18 : decode cX6_fit 18 = .ok (.aload_n 0, 1) := by decide +kernel
theorem dX6_fit_19 : decode cX6_fit 19 = .ok (.getfield 44, 3) := by decide +kernel
theorem dX6_fit_22 : decode cX6_fit 22 = .ok (.invokestatic 48, 3) := by decide +kernel
theorem dX6_fit_25 : decode cX6_fit 25 = .ok (.iconst 0, 1) := by decide +kernel
theorem dX6_fit_26 : decode cX6_fit 26 = .ok (.istore_n 2, 1) := by decide +kernel
theorem dX6_fit_27 : decode cX6_fit 27 = .ok (.iload_n 2, 1) := by decide +kernel
theorem dX6_fit_28 : decode cX6_fit 28 = .ok (.iload_n 1, 1) := by decide +kernel
theorem dX6_fit_29 : decode cX6_fit 29 = .ok (.if_icmp .ge 20, 3) := by decide +kernel
theorem dX6_fit_32 : decode cX6_fit 32 = .ok (.aload_n 0, 1) := by decide +kernel
theorem dX6_fit_33 : decode cX6_fit 33 = .ok (.getfield 29, 3) := by decide +kernel
theorem dX6_fit_36 : decode cX6_fit 36 = .ok (.aload_n 0, 1) := by decide +kernel
theorem dX6_fit_37 : decode cX6_fit 37 = .ok (.getfield 10, 3) := by decide +kernel
theorem dX6_fit_40 : decode cX6_fit 40 = .ok (.invokevirtual 164, 3) := by decide +kernel
theorem dX6_fit_43 : decode cX6_fit 43 = .ok (.iinc 2 1, 3) := by decide +kernel
theorem dX6_fit_46 : decode cX6_fit 46 = .ok (.goto (-19), 3) := by decide +kernel
theorem dX6_fit_49 : decode cX6_fit 49 = .ok (.aload_n 0, 1) := by decide +kernel
theorem dX6_fit_50 : decode cX6_fit 50 = .ok (.getfield 29, 3) := by decide +kernel
theorem dX6_fit_53 : decode cX6_fit 53 = .ok (.aload_n 0, 1) := by decide +kernel
theorem dX6_fit_54 : decode cX6_fit 54 = .ok (.getfield 10, 3) := by decide +kernel
theorem dX6_fit_57 : decode cX6_fit 57 = .ok (.invokevirtual 168, 3) := by decide +kernel
theorem dX6_fit_60 : decode cX6_fit 60 = .ok (.dreturn, 1) := by decide +kernel
set_option maxRecDepth 20000 in
theorem ggX6_count_X6_checkIndex : GoodIn wsX6_count wsX6_checkIndex := goodIn_ca (goodIn_r _ [11, 12, 13] (by decide +kernel) (by decide +kernel)) (goodIn_sub (fun _ h => List.mem_cons_of_mem _ (List.mem_append_right _ h)) (by decide +kernel))
set_option maxRecDepth 20000 in
theorem gX6_count_X6_checkIndex : GoodIn wsX6_count (va_wsS RX6 52 yX6_checkIndex wsX6_checkIndex) := goodIn_app (goodIn_of _ (by decide +kernel)) ggX6_count_X6_checkIndex
theorem dX6_count_0 : decode cX6_count 0 = .ok (.iload_n 1, 1) := by decide +kernel
theorem dX6_count_1 : decode cX6_count 1 = .ok (.iconst 4, 1) := by decide +kernel
theorem dX6_count_2 : decode cX6_count 2 = .ok (.invokestatic 52, 3) := by decide +kernel
theorem dX6_count_5 : decode cX6_count 5 = .ok (.iload_n 1, 1) := by decide +kernel
theorem dX6_count_6 : decode cX6_count 6 = .ok (.tableswitch 47 0 2 #[26, 31, 39], 26) := by decide +kernel
theorem dX6_count_32 : decode cX6_count 32 = .ok (.aload_n 0, 1) := by decide +kernel
theorem dX6_count_33 : decode cX6_count 33 = .ok (.getfield 40, 3) := by decide +kernel
theorem dX6_count_36 : decode cX6_count 36 = .ok (.ireturn, 1) := by decide +kernel
theorem dX6_count_37 : decode cX6_count 37 = .ok (.aload_n 0, 1) := by decide +kernel
theorem dX6_count_38 : decode cX6_count 38 = .ok (.getfield 20, 3) := by decide +kernel
theorem dX6_count_41 : decode cX6_count 41 = .ok (.getfield 67, 3) := by decide +kernel
theorem dX6_count_44 : decode cX6_count 44 = .ok (.ireturn, 1) := by decide +kernel
theorem dX6_count_45 : decode cX6_count 45 = .ok (.aload_n 0, 1) := by decide +kernel
theorem dX6_count_46 : decode cX6_count 46 = .ok (.getfield 25, 3) := by decide +kernel
theorem dX6_count_49 : decode cX6_count 49 = .ok (.getfield 78, 3) := by decide +kernel
theorem dX6_count_52 : decode cX6_count 52 = .ok (.ireturn, 1) := by decide +kernel
theorem dX6_count_53 : decode cX6_count 53 = .ok (.aload_n 0, 1) := by decide +kernel
theorem dX6_count_54 : decode cX6_count 54 = .ok (.getfield 36, 3) := by decide +kernel
theorem dX6_count_57 : decode cX6_count 57 = .ok (.getfield 136, 3) := by decide +kernel
theorem dX6_count_60 : decode cX6_count 60 = .ok (.ireturn, 1) := by decide +kernel
theorem dX6_checkIndex_0 : decode cX6_checkIndex 0 = .ok (.iload_n 0, 1) := by decide +kernel
theorem dX6_checkIndex_1 : decode cX6_checkIndex 1 = .ok (.ifCond .lt 8, 3) := by decide +kernel
theorem dX6_checkIndex_4 : decode cX6_checkIndex 4 = .ok (.iload_n 0, 1) := by decide +kernel
theorem dX6_checkIndex_5 : decode cX6_checkIndex 5 = .ok (.iload_n 1, 1) := by decide +kernel
theorem dX6_checkIndex_6 : decode cX6_checkIndex 6 = .ok (.if_icmp .lt 13, 3) := by decide +kernel
theorem dX6_checkIndex_9 : decode cX6_checkIndex 9 = .ok (.new 172, 3) := by decide +kernel
theorem dX6_checkIndex_12 : decode cX6_checkIndex 12 = .ok (.dup, 1) := by decide +kernel
theorem dX6_checkIndex_13 : decode cX6_checkIndex 13 = .ok (.ldc 174, 2) := by decide +kernel
theorem dX6_checkIndex_15 : decode cX6_checkIndex 15 = .ok (.invokespecial 176, 3) := by decide +kernel
theorem dX6_checkIndex_18 : decode cX6_checkIndex 18 = .ok (.athrow, 1) := by decide +kernel
theorem dX6_checkIndex_19 : decode cX6_checkIndex 19 = .ok (.return_, 1) := by decide +kernel
theorem dX6_checkArgument_0 : decode cX6_checkArgument 0 = .ok (.iload_n 0, 1) := by decide +kernel
theorem dX6_checkArgument_1 : decode cX6_checkArgument 1 = .ok (.ifCond .ne 13, 3) := by decide +kernel
theorem dX6_checkArgument_4 : decode cX6_checkArgument 4 = .ok (.new 179, 3) := by decide +kernel
theorem dX6_checkArgument_7 : decode cX6_checkArgument 7 = .ok (.dup, 1) := by decide +kernel
theorem dX6_checkArgument_8 : decode cX6_checkArgument 8 = .ok (.ldc 181, 2) := by decide +kernel
theorem dX6_checkArgument_10 : decode cX6_checkArgument 10 = .ok (.invokespecial 183, 3) := by decide +kernel
theorem dX6_checkArgument_13 : decode cX6_checkArgument 13 = .ok (.athrow, 1) := by decide +kernel
theorem dX6_checkArgument_14 : decode cX6_checkArgument 14 = .ok (.return_, 1) := by decide +kernel
theorem dX6_checkState_0 : decode cX6_checkState 0 = .ok (.iload_n 0, 1) := by decide +kernel
theorem dX6_checkState_1 : decode cX6_checkState 1 = .ok (.ifCond .ne 13, 3) := by decide +kernel
theorem dX6_checkState_4 : decode cX6_checkState 4 = .ok (.new 184, 3) := by decide +kernel
theorem dX6_checkState_7 : decode cX6_checkState 7 = .ok (.dup, 1) := by decide +kernel
theorem dX6_checkState_8 : decode cX6_checkState 8 = .ok (.ldc 186, 2) := by decide +kernel
theorem dX6_checkState_10 : decode cX6_checkState 10 = .ok (.invokespecial 188, 3) := by decide +kernel
theorem dX6_checkState_13 : decode cX6_checkState 13 = .ok (.athrow, 1) := by decide +kernel
theorem dX6_checkState_14 : decode cX6_checkState 14 = .ok (.return_, 1) := by decide +kernel
theorem dX6_isWithin_0 : decode cX6_isWithin 0 = .ok (.dload_n 0, 1) := by decide +kernel
theorem dX6_isWithin_1 : decode cX6_isWithin 1 = .ok (.dload_n 2, 1) := by decide +kernel
theorem dX6_isWithin_2 : decode cX6_isWithin 2 = .ok (.dcmp .l, 1) := by decide +kernel
theorem dX6_isWithin_3 : decode cX6_isWithin 3 = .ok (.ifCond .lt 14, 3) := by decide +kernel
theorem dX6_isWithin_6 : decode cX6_isWithin 6 = .ok (.dload_n 0, 1) := by decide +kernel
theorem dX6_isWithin_7 : decode cX6_isWithin 7 = .ok (.dload 4, 2) := by decide +kernel
theorem dX6_isWithin_9 : decode cX6_isWithin 9 = .ok (.dcmp .g, 1) := by decide +kernel
theorem dX6_isWithin_10 : decode cX6_isWithin 10 = .ok (.ifCond .gt 7, 3) := by decide +kernel
theorem dX6_isWithin_13 : decode cX6_isWithin 13 = .ok (.iconst 1, 1) := by decide +kernel
theorem dX6_isWithin_14 : decode cX6_isWithin 14 = .ok (.goto 4, 3) := by decide +kernel
theorem dX6_isWithin_17 : decode cX6_isWithin 17 = .ok (.iconst 0, 1) := by decide +kernel
theorem dX6_isWithin_18 : decode cX6_isWithin 18 = .ok (.ireturn, 1) := by decide +kernel
theorem dX6_magnitude_0 : decode cX6_magnitude 0 = .ok (.dload_n 0, 1) := by decide +kernel
theorem dX6_magnitude_1 : decode cX6_magnitude 1 = .ok (.dconst 0, 1) := by decide +kernel
theorem dX6_magnitude_2 : decode cX6_magnitude 2 = .ok (.dcmp .g, 1) := by decide +kernel
theorem dX6_magnitude_3 : decode cX6_magnitude 3 = .ok (.ifCond .ge 8, 3) := by decide +kernel
theorem dX6_magnitude_6 : decode cX6_magnitude 6 = .ok (.dload_n 0, 1) := by decide +kernel
theorem dX6_magnitude_7 : decode cX6_magnitude 7 = .ok (.dneg, 1) := by decide +kernel
theorem dX6_magnitude_8 : decode cX6_magnitude 8 = .ok (.goto 4, 3) := by decide +kernel
theorem dX6_magnitude_11 : decode cX6_magnitude 11 = .ok (.dload_n 0, 1) := by decide +kernel
theorem dX6_magnitude_12 : decode cX6_magnitude 12 = .ok (.dreturn, 1) := by decide +kernel
theorem dX6_notBelowZero_0 : decode cX6_notBelowZero 0 = .ok (.dload_n 0, 1) := by decide +kernel
theorem dX6_notBelowZero_1 : decode cX6_notBelowZero 1 = .ok (.dconst 0, 1) := by decide +kernel
theorem dX6_notBelowZero_2 : decode cX6_notBelowZero 2 = .ok (.dcmp .g, 1) := by decide +kernel
theorem dX6_notBelowZero_3 : decode cX6_notBelowZero 3 = .ok (.ifCond .ge 7, 3) := by decide +kernel
theorem dX6_notBelowZero_6 : decode cX6_notBelowZero 6 = .ok (.dconst 0, 1) := by decide +kernel
theorem dX6_notBelowZero_7 : decode cX6_notBelowZero 7 = .ok (.goto 4, 3) := by decide +kernel
theorem dX6_notBelowZero_10 : decode cX6_notBelowZero 10 = .ok (.dload_n 0, 1) := by decide +kernel
theorem dX6_notBelowZero_11 : decode cX6_notBelowZero 11 = .ok (.dreturn, 1) := by decide +kernel
theorem dX7_init_0 : decode cX7_init 0 = .ok (.aload_n 0, 1) := by decide +kernel
theorem dX7_init_1 : decode cX7_init 1 = .ok (.invokespecial 1, 3) := by decide +kernel
theorem dX7_init_4 : decode cX7_init 4 = .ok (.aload_n 0, 1) := by decide +kernel
theorem dX7_init_5 : decode cX7_init 5 = .ok (.iconst 1, 1) := by decide +kernel
theorem dX7_init_6 : decode cX7_init 6 = .ok (.putfield 7, 3) := by decide +kernel
theorem dX7_init_9 : decode cX7_init 9 = .ok (.aload_n 0, 1) := by decide +kernel
theorem dX7_init_10 : decode cX7_init 10 = .ok (.bipush 16, 2) := by decide +kernel
theorem dX7_init_12 : decode cX7_init 12 = .ok (.newarray .int, 2) := by decide +kernel
theorem dX7_init_14 : decode cX7_init 14 = .ok (.putfield 13, 3) := by decide +kernel
theorem dX7_init_17 : decode cX7_init 17 = .ok (.aload_n 0, 1) := by decide +kernel
theorem dX7_init_18 : decode cX7_init 18 = .ok (.bipush 16, 2) := by decide +kernel
theorem dX7_init_20 : decode cX7_init 20 = .ok (.newarray .int, 2) := by decide +kernel
theorem dX7_init_22 : decode cX7_init 22 = .ok (.putfield 17, 3) := by decide +kernel
theorem dX7_init_25 : decode cX7_init 25 = .ok (.aload_n 0, 1) := by decide +kernel
theorem dX7_init_26 : decode cX7_init 26 = .ok (.bipush 16, 2) := by decide +kernel
theorem dX7_init_28 : decode cX7_init 28 = .ok (.newarray .double, 2) := by decide +kernel
theorem dX7_init_30 : decode cX7_init 30 = .ok (.putfield 20, 3) := by decide +kernel
theorem dX7_init_33 : decode cX7_init 33 = .ok (.aload_n 0, 1) := by decide +kernel
theorem dX7_init_34 : decode cX7_init 34 = .ok (.bipush 16, 2) := by decide +kernel
end
section
theorem dX7_init_36 : decode cX7_init 36 = .ok (.newarray .double, 2) := by decide +kernel
theorem dX7_init_38 : decode cX7_init 38 = .ok (.putfield 24, 3) := by decide +kernel
theorem dX7_init_41 : decode cX7_init 41 = .ok (.aload_n 0, 1) := by decide +kernel
theorem dX7_init_42 : decode cX7_init 42 = .ok (.bipush 16, 2) := by decide +kernel
theorem dX7_init_44 : decode cX7_init 44 = .ok (.newarray .double, 2) := by decide +kernel
theorem dX7_init_46 : decode cX7_init 46 = .ok (.putfield 27, 3) := by decide +kernel
theorem dX7_init_49 : decode cX7_init 49 = .ok (.aload_n 0, 1) := by decide +kernel
theorem dX7_init_50 : decode cX7_init 50 = .ok (.bipush 16, 2) := by decide +kernel
theorem dX7_init_52 : decode cX7_init 52 = .ok (.newarray .boolean, 2) := by decide +kernel
theorem dX7_init_54 : decode cX7_init 54 = .ok (.putfield 30, 3) := by decide +kernel
theorem dX7_init_57 : decode cX7_init 57 = .ok (.aload_n 0, 1) := by decide +kernel
theorem dX7_init_58 : decode cX7_init 58 = .ok (.bipush 16, 2) := by decide +kernel
theorem dX7_init_60 : decode cX7_init 60 = .ok (.newarray .double, 2) := by decide +kernel
theorem dX7_init_62 : decode cX7_init 62 = .ok (.putfield 34, 3) := by decide +kernel
theorem dX7_init_65 : decode cX7_init 65 = .ok (.aload_n 0, 1) := by decide +kernel
theorem dX7_init_66 : decode cX7_init 66 = .ok (.bipush 8, 2) := by decide +kernel
theorem dX7_init_68 : decode cX7_init 68 = .ok (.newarray .int, 2) := by decide +kernel
theorem dX7_init_70 : decode cX7_init 70 = .ok (.putfield 37, 3) := by decide +kernel
theorem dX7_init_73 : decode cX7_init 73 = .ok (.aload_n 0, 1) := by decide +kernel
theorem dX7_init_74 : decode cX7_init 74 = .ok (.bipush 8, 2) := by decide +kernel
theorem dX7_init_76 : decode cX7_init 76 = .ok (.newarray .double, 2) := by decide +kernel
theorem dX7_init_78 : decode cX7_init 78 = .ok (.putfield 40, 3) := by decide +kernel
theorem dX7_init_81 : decode cX7_init 81 = .ok (.aload_n 0, 1) := by decide +kernel
theorem dX7_init_82 : decode cX7_init 82 = .ok (.bipush 32, 2) := by decide +kernel
theorem dX7_init_84 : decode cX7_init 84 = .ok (.newarray .boolean, 2) := by decide +kernel
theorem dX7_init_86 : decode cX7_init 86 = .ok (.putfield 43, 3) := by decide +kernel
theorem dX7_init_89 : decode cX7_init 89 = .ok (.aload_n 0, 1) := by decide +kernel
theorem dX7_init_90 : decode cX7_init 90 = .ok (.bipush 8, 2) := by decide +kernel
theorem dX7_init_92 : decode cX7_init 92 = .ok (.newarray .double, 2) := by decide +kernel
theorem dX7_init_94 : decode cX7_init 94 = .ok (.putfield 46, 3) := by decide +kernel
theorem dX7_init_97 : decode cX7_init 97 = .ok (.aload_n 0, 1) := by decide +kernel
theorem dX7_init_98 : decode cX7_init 98 = .ok (.bipush 8, 2) := by decide +kernel
theorem dX7_init_100 : decode cX7_init 100 = .ok (.newarray .boolean, 2) := by decide +kernel
theorem dX7_init_102 : decode cX7_init 102 = .ok (.putfield 49, 3) := by decide +kernel
theorem dX7_init_105 : decode cX7_init 105 = .ok (.aload_n 0, 1) := by decide +kernel
theorem dX7_init_106 : decode cX7_init 106 = .ok (.ldc2_w 52, 3) := by decide +kernel
theorem dX7_init_109 : decode cX7_init 109 = .ok (.putfield 54, 3) := by decide +kernel
theorem dX7_init_112 : decode cX7_init 112 = .ok (.aload_n 0, 1) := by decide +kernel
theorem dX7_init_113 : decode cX7_init 113 = .ok (.ldc2_w 58, 3) := by decide +kernel
theorem dX7_init_116 : decode cX7_init 116 = .ok (.putfield 60, 3) := by decide +kernel
theorem dX7_init_119 : decode cX7_init 119 = .ok (.aload_n 0, 1) := by decide +kernel
theorem dX7_init_120 : decode cX7_init 120 = .ok (.bipush 10, 2) := by decide +kernel
theorem dX7_init_122 : decode cX7_init 122 = .ok (.newarray .double, 2) := by decide +kernel
theorem dX7_init_124 : decode cX7_init 124 = .ok (.putfield 63, 3) := by decide +kernel
theorem dX7_init_127 : decode cX7_init 127 = .ok (.aload_n 0, 1) := by decide +kernel
theorem dX7_init_128 : decode cX7_init 128 = .ok (.bipush 6, 2) := by decide +kernel
theorem dX7_init_130 : decode cX7_init 130 = .ok (.newarray .double, 2) := by decide +kernel
theorem dX7_init_132 : decode cX7_init 132 = .ok (.putfield 66, 3) := by decide +kernel
theorem dX7_init_135 : decode cX7_init 135 = .ok (.aload_n 0, 1) := by decide +kernel
theorem dX7_init_136 : decode cX7_init 136 = .ok (.bipush 6, 2) := by decide +kernel
theorem dX7_init_138 : decode cX7_init 138 = .ok (.newarray .int, 2) := by decide +kernel
theorem dX7_init_140 : decode cX7_init 140 = .ok (.putfield 69, 3) := by decide +kernel
theorem dX7_init_143 : decode cX7_init 143 = .ok (.return_, 1) := by decide +kernel
theorem dX7_thrown_0 : decode cX7_thrown 0 = .ok (.aload_n 0, 1) := by decide +kernel
theorem dX7_thrown_1 : decode cX7_thrown 1 = .ok (.getfield 72, 3) := by decide +kernel
theorem dX7_thrown_4 : decode cX7_thrown 4 = .ok (.ireturn, 1) := by decide +kernel
theorem dX7_isIn_0 : decode cX7_isIn 0 = .ok (.iload_n 0, 1) := by decide +kernel
theorem dX7_isIn_1 : decode cX7_isIn 1 = .ok (.iload_n 1, 1) := by decide +kernel
theorem dX7_isIn_2 : decode cX7_isIn 2 = .ok (.if_icmp .lt 12, 3) := by decide +kernel
theorem dX7_isIn_5 : decode cX7_isIn 5 = .ok (.iload_n 0, 1) := by decide +kernel
theorem dX7_isIn_6 : decode cX7_isIn 6 = .ok (.iload_n 2, 1) := by decide +kernel
theorem dX7_isIn_7 : decode cX7_isIn 7 = .ok (.if_icmp .gt 7, 3) := by decide +kernel
theorem dX7_isIn_10 : decode cX7_isIn 10 = .ok (.iconst 1, 1) := by decide +kernel
theorem dX7_isIn_11 : decode cX7_isIn 11 = .ok (.goto 4, 3) := by decide +kernel
theorem dX7_isIn_14 : decode cX7_isIn 14 = .ok (.iconst 0, 1) := by decide +kernel
theorem dX7_isIn_15 : decode cX7_isIn 15 = .ok (.ireturn, 1) := by decide +kernel
theorem dX7_between_0 : decode cX7_between 0 = .ok (.dload_n 0, 1) := by decide +kernel
theorem dX7_between_1 : decode cX7_between 1 = .ok (.dload_n 2, 1) := by decide +kernel
theorem dX7_between_2 : decode cX7_between 2 = .ok (.dcmp .l, 1) := by decide +kernel
theorem dX7_between_3 : decode cX7_between 3 = .ok (.ifCond .lt 14, 3) := by decide +kernel
theorem dX7_between_6 : decode cX7_between 6 = .ok (.dload_n 0, 1) := by decide +kernel
theorem dX7_between_7 : decode cX7_between 7 = .ok (.dload 4, 2) := by decide +kernel
theorem dX7_between_9 : decode cX7_between 9 = .ok (.dcmp .g, 1) := by decide +kernel
theorem dX7_between_10 : decode cX7_between 10 = .ok (.ifCond .gt 7, 3) := by decide +kernel
theorem dX7_between_13 : decode cX7_between 13 = .ok (.iconst 1, 1) := by decide +kernel
theorem dX7_between_14 : decode cX7_between 14 = .ok (.goto 4, 3) := by decide +kernel
theorem dX7_between_17 : decode cX7_between 17 = .ok (.iconst 0, 1) := by decide +kernel
theorem dX7_between_18 : decode cX7_between 18 = .ok (.ireturn, 1) := by decide +kernel
theorem dX7_joint_0 : decode cX7_joint 0 = .ok (.aload_n 0, 1) := by decide +kernel
theorem dX7_joint_1 : decode cX7_joint 1 = .ok (.aload_n 0, 1) := by decide +kernel
theorem dX7_joint_2 : decode cX7_joint 2 = .ok (.getfield 7, 3) := by decide +kernel
theorem dX7_joint_5 : decode cX7_joint 5 = .ok (.bipush 10, 2) := by decide +kernel
theorem dX7_joint_7 : decode cX7_joint 7 = .ok (.if_icmp .ne 7, 3) := by decide +kernel
theorem dX7_joint_10 : decode cX7_joint 10 = .ok (.iconst 1, 1) := by decide +kernel
theorem dX7_joint_11 : decode cX7_joint 11 = .ok (.goto 4, 3) := by decide +kernel
theorem dX7_joint_14 : decode cX7_joint 14 = .ok (.iconst 0, 1) := by decide +kernel
theorem dX7_joint_15 : decode cX7_joint 15 = .ok (.putfield 72, 3) := by decide +kernel
theorem dX7_joint_18 : decode cX7_joint 18 = .ok (.aload_n 0, 1) := by decide +kernel
theorem dX7_joint_19 : decode cX7_joint 19 = .ok (.getfield 72, 3) := by decide +kernel
theorem dX7_joint_22 : decode cX7_joint 22 = .ok (.ifCond .le 5, 3) := by decide +kernel
theorem dX7_joint_25 : decode cX7_joint 25 = .ok (.iconst 0, 1) := by decide +kernel
theorem dX7_joint_26 : decode cX7_joint 26 = .ok (.ireturn, 1) := by decide +kernel
theorem dX7_joint_27 : decode cX7_joint 27 = .ok (.aload_n 0, 1) := by decide +kernel
theorem dX7_joint_28 : decode cX7_joint 28 = .ok (.dup, 1) := by decide +kernel
theorem dX7_joint_29 : decode cX7_joint 29 = .ok (.getfield 7, 3) := by decide +kernel
theorem dX7_joint_32 : decode cX7_joint 32 = .ok (.iconst 1, 1) := by decide +kernel
theorem dX7_joint_33 : decode cX7_joint 33 = .ok (.iadd, 1) := by decide +kernel
theorem dX7_joint_34 : decode cX7_joint 34 = .ok (.putfield 7, 3) := by decide +kernel
theorem dX7_joint_37 : decode cX7_joint 37 = .ok (.aload_n 0, 1) := by decide +kernel
theorem dX7_joint_38 : decode cX7_joint 38 = .ok (.iconst 0, 1) := by decide +kernel
theorem dX7_joint_39 : decode cX7_joint 39 = .ok (.putfield 75, 3) := by decide +kernel
theorem dX7_joint_42 : decode cX7_joint 42 = .ok (.aload_n 0, 1) := by decide +kernel
theorem dX7_joint_43 : decode cX7_joint 43 = .ok (.getfield 7, 3) := by decide +kernel
theorem dX7_joint_46 : decode cX7_joint 46 = .ok (.iconst 1, 1) := by decide +kernel
theorem dX7_joint_47 : decode cX7_joint 47 = .ok (.isub, 1) := by decide +kernel
theorem dX7_joint_48 : decode cX7_joint 48 = .ok (.ireturn, 1) := by decide +kernel
set_option maxRecDepth 20000 in
theorem ggX7_isJoint_X7_isIn : GoodIn wsX7_isJoint wsX7_isIn := goodIn_r _ [5] (by decide +kernel) (by decide +kernel)
set_option maxRecDepth 20000 in
theorem gX7_isJoint_X7_isIn : GoodIn wsX7_isJoint (va_wsS RX7 79 yX7_isIn wsX7_isIn) := goodIn_app (goodIn_of _ (by decide +kernel)) ggX7_isJoint_X7_isIn
theorem dX7_isJoint_0 : decode cX7_isJoint 0 = .ok (.iload_n 1, 1) := by decide +kernel
theorem dX7_isJoint_1 : decode cX7_isJoint 1 = .ok (.iconst 0, 1) := by decide +kernel
theorem dX7_isJoint_2 : decode cX7_isJoint 2 = .ok (.aload_n 0, 1) := by decide +kernel
theorem dX7_isJoint_3 : decode cX7_isJoint 3 = .ok (.getfield 7, 3) := by decide +kernel
theorem dX7_isJoint_6 : decode cX7_isJoint 6 = .ok (.iconst 1, 1) := by decide +kernel
theorem dX7_isJoint_7 : decode cX7_isJoint 7 = .ok (.isub, 1) := by decide +kernel
theorem dX7_isJoint_8 : decode cX7_isJoint 8 = .ok (.invokestatic 79, 3) := by decide +kernel
theorem dX7_isJoint_11 : decode cX7_isJoint 11 = .ok (.ireturn, 1) := by decide +kernel
set_option maxRecDepth 20000 in
theorem ggX7_duct_X7_between : GoodIn wsX7_duct wsX7_between := goodIn_r _ [13] (by decide +kernel) (by decide +kernel)
set_option maxRecDepth 20000 in
theorem gX7_duct_X7_between : GoodIn wsX7_duct (va_wsS RX7 87 yX7_between wsX7_between) := goodIn_app (goodIn_of _ (by decide +kernel)) ggX7_duct_X7_between
set_option maxRecDepth 20000 in
theorem ggX7_duct_X7_isJoint : GoodIn wsX7_duct wsX7_isJoint := goodIn_r _ [17, 18, 19, 20, 12, 21, 22, 23, 24, 25, 26, 27, 28, 29, 30, 31, 32, 33, 34, 35, 36, 37, 38, 39, 40, 41, 42, 43, 44, 45] (by decide +kernel) (by decide +kernel)
set_option maxRecDepth 20000 in
theorem gX7_duct_X7_isJoint : GoodIn wsX7_duct (wsV RX7 91 RX7 yX7_isJoint wsX7_isJoint) := goodIn_app (goodIn_of _ (by decide +kernel)) ggX7_duct_X7_isJoint
theorem dX7_duct_0 : decode cX7_duct 0 = .ok (.iload_n 1, 1) := by decide +kernel
theorem dX7_duct_1 : decode cX7_duct 1 = .ok (.iload_n 2, 1) := by decide +kernel
theorem dX7_duct_2 : decode cX7_duct 2 = .ok (.if_icmp .eq 34, 3) := by decide +kernel
theorem dX7_duct_5 : decode cX7_duct 5 = .ok (.dload_n 3, 1) := by decide +kernel
theorem dX7_duct_6 : decode cX7_duct 6 = .ok (.ldc2_w 83, 3) := by decide +kernel
theorem dX7_duct_9 : decode cX7_duct 9 = .ok (.ldc2_w 85, 3) := by decide +kernel
theorem dX7_duct_12 : decode cX7_duct 12 = .ok (.invokestatic 87, 3) := by decide +kernel
theorem dX7_duct_15 : decode cX7_duct 15 = .ok (.ifCond .eq 21, 3) := by decide +kernel
theorem dX7_duct_18 : decode cX7_duct 18 = .ok (.dload 5, 2) := by decide +kernel
theorem dX7_duct_20 : decode cX7_duct 20 = .ok (.ldc2_w 83, 3) := by decide +kernel
theorem dX7_duct_23 : decode cX7_duct 23 = .ok (.ldc2_w 85, 3) := by decide +kernel
theorem dX7_duct_26 : decode cX7_duct 26 = .ok (.invokestatic 87, 3) := by decide +kernel
theorem dX7_duct_29 : decode cX7_duct 29 = .ok (.ifCond .eq 7, 3) := by decide +kernel
theorem dX7_duct_32 : decode cX7_duct 32 = .ok (.iconst 1, 1) := by decide +kernel
theorem dX7_duct_33 : decode cX7_duct 33 = .ok (.goto 4, 3) := by decide +kernel
theorem dX7_duct_36 : decode cX7_duct 36 = .ok (.iconst 0, 1) := by decide +kernel
theorem dX7_duct_37 : decode cX7_duct 37 = .ok (.istore 7, 2) := by decide +kernel
theorem dX7_duct_39 : decode cX7_duct 39 = .ok (.aload_n 0, 1) := by decide +kernel
theorem dX7_duct_40 : decode cX7_duct 40 = .ok (.aload_n 0, 1) := by decide +kernel
theorem dX7_duct_41 : decode cX7_duct 41 = .ok (.iload_n 1, 1) := by decide +kernel
theorem dX7_duct_42 : decode cX7_duct 42 = .ok (.invokevirtual 91, 3) := by decide +kernel
theorem dX7_duct_45 : decode cX7_duct 45 = .ok (.ifCond .eq 11, 3) := by decide +kernel
theorem dX7_duct_48 : decode cX7_duct 48 = .ok (.aload_n 0, 1) := by decide +kernel
theorem dX7_duct_49 : decode cX7_duct 49 = .ok (.iload_n 2, 1) := by decide +kernel
theorem dX7_duct_50 : decode cX7_duct 50 = .ok (.invokevirtual 91, 3) := by decide +kernel
theorem dX7_duct_53 : decode cX7_duct 53 = .ok (.ifCond .ne 7, 3) := by decide +kernel
theorem dX7_duct_56 : decode cX7_duct 56 = .ok (.iconst 1, 1) := by decide +kernel
theorem dX7_duct_57 : decode cX7_duct 57 = .ok (.goto 26, 3) := by decide +kernel
theorem dX7_duct_60 : decode cX7_duct 60 = .ok (.iload 7, 2) := by decide +kernel
theorem dX7_duct_62 : decode cX7_duct 62 = .ok (.ifCond .ne 7, 3) := by decide +kernel
theorem dX7_duct_65 : decode cX7_duct 65 = .ok (.iconst 2, 1) := by decide +kernel
theorem dX7_duct_66 : decode cX7_duct 66 = .ok (.goto 17, 3) := by decide +kernel
theorem dX7_duct_69 : decode cX7_duct 69 = .ok (.aload_n 0, 1) := by decide +kernel
theorem dX7_duct_70 : decode cX7_duct 70 = .ok (.getfield 95, 3) := by decide +kernel
theorem dX7_duct_73 : decode cX7_duct 73 = .ok (.bipush 16, 2) := by decide +kernel
theorem dX7_duct_75 : decode cX7_duct 75 = .ok (.if_icmp .ne 7, 3) := by decide +kernel
theorem dX7_duct_78 : decode cX7_duct 78 = .ok (.iconst 3, 1) := by decide +kernel
theorem dX7_duct_79 : decode cX7_duct 79 = .ok (.goto 4, 3) := by decide +kernel
theorem dX7_duct_82 : decode cX7_duct 82 = .ok (.iconst 0, 1) := by decide +kernel
theorem dX7_duct_83 : decode cX7_duct 83 = .ok (.putfield 72, 3) := by decide +kernel
theorem dX7_duct_86 : decode cX7_duct 86 = .ok (.aload_n 0, 1) := by decide +kernel
theorem dX7_duct_87 : decode cX7_duct 87 = .ok (.getfield 72, 3) := by decide +kernel
theorem dX7_duct_90 : decode cX7_duct 90 = .ok (.ifCond .le 5, 3) := by decide +kernel
theorem dX7_duct_93 : decode cX7_duct 93 = .ok (.iconst 0, 1) := by decide +kernel
theorem dX7_duct_94 : decode cX7_duct 94 = .ok (.ireturn, 1) := by decide +kernel
theorem dX7_duct_95 : decode cX7_duct 95 = .ok (.aload_n 0, 1) := by decide +kernel
theorem dX7_duct_96 : decode cX7_duct 96 = .ok (.getfield 13, 3) := by decide +kernel
theorem dX7_duct_99 : decode cX7_duct 99 = .ok (.aload_n 0, 1) := by decide +kernel
theorem dX7_duct_100 : decode cX7_duct 100 = .ok (.getfield 95, 3) := by decide +kernel
theorem dX7_duct_103 : decode cX7_duct 103 = .ok (.iload_n 1, 1) := by decide +kernel
theorem dX7_duct_104 : decode cX7_duct 104 = .ok (.iastore, 1) := by decide +kernel
theorem dX7_duct_105 : decode cX7_duct 105 = .ok (.aload_n 0, 1) := by decide +kernel
theorem dX7_duct_106 : decode cX7_duct 106 = .ok (.getfield 17, 3) := by decide +kernel
theorem dX7_duct_109 : decode cX7_duct 109 = .ok (.aload_n 0, 1) := by decide +kernel
theorem dX7_duct_110 : decode cX7_duct 110 = .ok (.getfield 95, 3) := by decide +kernel
theorem dX7_duct_113 : decode cX7_duct 113 = .ok (.iload_n 2, 1) := by decide +kernel
theorem dX7_duct_114 : decode cX7_duct 114 = .ok (.iastore, 1) := by decide +kernel
theorem dX7_duct_115 : decode cX7_duct 115 = .ok (.aload_n 0, 1) := by decide +kernel
theorem dX7_duct_116 : decode cX7_duct 116 = .ok (.getfield 20, 3) := by decide +kernel
theorem dX7_duct_119 : decode cX7_duct 119 = .ok (.aload_n 0, 1) := by decide +kernel
theorem dX7_duct_120 : decode cX7_duct 120 = .ok (.getfield 95, 3) := by decide +kernel
theorem dX7_duct_123 : decode cX7_duct 123 = .ok (.dload_n 3, 1) := by decide +kernel
theorem dX7_duct_124 : decode cX7_duct 124 = .ok (.dastore, 1) := by decide +kernel
theorem dX7_duct_125 : decode cX7_duct 125 = .ok (.aload_n 0, 1) := by decide +kernel
theorem dX7_duct_126 : decode cX7_duct 126 = .ok (.getfield 24, 3) := by decide +kernel
theorem dX7_duct_129 : decode cX7_duct 129 = .ok (.aload_n 0, 1) := by decide +kernel
theorem dX7_duct_130 : decode cX7_duct 130 = .ok (.getfield 95, 3) := by decide +kernel
theorem dX7_duct_133 : decode cX7_duct 133 = .ok (.dload 5, 2) := by decide +kernel
theorem dX7_duct_135 : decode cX7_duct 135 = .ok (.dastore, 1) := by decide +kernel
theorem dX7_duct_136 : decode cX7_duct 136 = .ok (.aload_n 0, 1) := by decide +kernel
theorem dX7_duct_137 : decode cX7_duct 137 = .ok (.dup, 1) := by decide +kernel
theorem dX7_duct_138 : decode cX7_duct 138 = .ok (.getfield 95, 3) := by decide +kernel
theorem dX7_duct_141 : decode cX7_duct 141 = .ok (.iconst 1, 1) := by decide +kernel
theorem dX7_duct_142 : decode cX7_duct 142 = .ok (.iadd, 1) := by decide +kernel
theorem dX7_duct_143 : decode cX7_duct 143 = .ok (.putfield 95, 3) := by decide +kernel
theorem dX7_duct_146 : decode cX7_duct 146 = .ok (.aload_n 0, 1) := by decide +kernel
theorem dX7_duct_147 : decode cX7_duct 147 = .ok (.iconst 0, 1) := by decide +kernel
theorem dX7_duct_148 : decode cX7_duct 148 = .ok (.putfield 75, 3) := by decide +kernel
theorem dX7_duct_151 : decode cX7_duct 151 = .ok (.aload_n 0, 1) := by decide +kernel
theorem dX7_duct_152 : decode cX7_duct 152 = .ok (.getfield 95, 3) := by decide +kernel
theorem dX7_duct_155 : decode cX7_duct 155 = .ok (.iconst 1, 1) := by decide +kernel
theorem dX7_duct_156 : decode cX7_duct 156 = .ok (.isub, 1) := by decide +kernel
theorem dX7_duct_157 : decode cX7_duct 157 = .ok (.ireturn, 1) := by decide +kernel
set_option maxRecDepth 20000 in
theorem ggX7_machine_X7_isJoint : GoodIn wsX7_machine wsX7_isJoint := goodIn_r _ [12, 13, 14, 15, 11, 16, 20, 21, 22, 23, 24, 25, 26, 27, 28, 29, 30, 31, 32, 33, 34, 35, 36, 37, 38, 39, 40, 41, 42, 43] (by decide +kernel) (by decide +kernel)
set_option maxRecDepth 20000 in
theorem gX7_machine_X7_isJoint : GoodIn wsX7_machine (wsV RX7 91 RX7 yX7_isJoint wsX7_isJoint) := goodIn_app (goodIn_of _ (by decide +kernel)) ggX7_machine_X7_isJoint
set_option maxRecDepth 20000 in
theorem ggX7_machine_X7_between : GoodIn wsX7_machine wsX7_between := goodIn_r _ [19] (by decide +kernel) (by decide +kernel)
set_option maxRecDepth 20000 in
theorem gX7_machine_X7_between : GoodIn wsX7_machine (va_wsS RX7 87 yX7_between wsX7_between) := goodIn_app (goodIn_of _ (by decide +kernel)) ggX7_machine_X7_between
theorem dX7_machine_0 : decode cX7_machine 0 = .ok (.aload_n 0, 1) := by decide +kernel
theorem dX7_machine_1 : decode cX7_machine 1 = .ok (.aload_n 0, 1) := by decide +kernel
theorem dX7_machine_2 : decode cX7_machine 2 = .ok (.iload_n 1, 1) := by decide +kernel
theorem dX7_machine_3 : decode cX7_machine 3 = .ok (.invokevirtual 91, 3) := by decide +kernel
theorem dX7_machine_6 : decode cX7_machine 6 = .ok (.ifCond .ne 7, 3) := by decide +kernel
theorem dX7_machine_9 : decode cX7_machine 9 = .ok (.iconst 1, 1) := by decide +kernel
theorem dX7_machine_10 : decode cX7_machine 10 = .ok (.goto 38, 3) := by decide +kernel
theorem dX7_machine_13 : decode cX7_machine 13 = .ok (.iload_n 1, 1) := by decide +kernel
theorem dX7_machine_14 : decode cX7_machine 14 = .ok (.ifCond .eq 16, 3) := by decide +kernel
theorem dX7_machine_17 : decode cX7_machine 17 = .ok (.dload_n 2, 1) := by decide +kernel
theorem dX7_machine_18 : decode cX7_machine 18 = .ok (.ldc2_w 83, 3) := by decide +kernel
theorem dX7_machine_21 : decode cX7_machine 21 = .ok (.ldc2_w 98, 3) := by decide +kernel
theorem dX7_machine_24 : decode cX7_machine 24 = .ok (.invokestatic 87, 3) := by decide +kernel
theorem dX7_machine_27 : decode cX7_machine 27 = .ok (.ifCond .ne 7, 3) := by decide +kernel
theorem dX7_machine_30 : decode cX7_machine 30 = .ok (.iconst 2, 1) := by decide +kernel
theorem dX7_machine_31 : decode cX7_machine 31 = .ok (.goto 17, 3) := by decide +kernel
theorem dX7_machine_34 : decode cX7_machine 34 = .ok (.aload_n 0, 1) := by decide +kernel
theorem dX7_machine_35 : decode cX7_machine 35 = .ok (.getfield 100, 3) := by decide +kernel
theorem dX7_machine_38 : decode cX7_machine 38 = .ok (.bipush 8, 2) := by decide +kernel
theorem dX7_machine_40 : decode cX7_machine 40 = .ok (.if_icmp .ne 7, 3) := by decide +kernel
theorem dX7_machine_43 : decode cX7_machine 43 = .ok (.iconst 3, 1) := by decide +kernel
theorem dX7_machine_44 : decode cX7_machine 44 = .ok (.goto 4, 3) := by decide +kernel
theorem dX7_machine_47 : decode cX7_machine 47 = .ok (.iconst 0, 1) := by decide +kernel
theorem dX7_machine_48 : decode cX7_machine 48 = .ok (.putfield 72, 3) := by decide +kernel
theorem dX7_machine_51 : decode cX7_machine 51 = .ok (.aload_n 0, 1) := by decide +kernel
theorem dX7_machine_52 : decode cX7_machine 52 = .ok (.getfield 72, 3) := by decide +kernel
theorem dX7_machine_55 : decode cX7_machine 55 = .ok (.ifCond .le 5, 3) := by decide +kernel
theorem dX7_machine_58 : decode cX7_machine 58 = .ok (.iconst 0, 1) := by decide +kernel
theorem dX7_machine_59 : decode cX7_machine 59 = .ok (.ireturn, 1) := by decide +kernel
theorem dX7_machine_60 : decode cX7_machine 60 = .ok (.aload_n 0, 1) := by decide +kernel
theorem dX7_machine_61 : decode cX7_machine 61 = .ok (.getfield 37, 3) := by decide +kernel
theorem dX7_machine_64 : decode cX7_machine 64 = .ok (.aload_n 0, 1) := by decide +kernel
theorem dX7_machine_65 : decode cX7_machine 65 = .ok (.getfield 100, 3) := by decide +kernel
theorem dX7_machine_68 : decode cX7_machine 68 = .ok (.iload_n 1, 1) := by decide +kernel
theorem dX7_machine_69 : decode cX7_machine 69 = .ok (.iastore, 1) := by decide +kernel
theorem dX7_machine_70 : decode cX7_machine 70 = .ok (.aload_n 0, 1) := by decide +kernel
theorem dX7_machine_71 : decode cX7_machine 71 = .ok (.getfield 40, 3) := by decide +kernel
theorem dX7_machine_74 : decode cX7_machine 74 = .ok (.aload_n 0, 1) := by decide +kernel
theorem dX7_machine_75 : decode cX7_machine 75 = .ok (.getfield 100, 3) := by decide +kernel
theorem dX7_machine_78 : decode cX7_machine 78 = .ok (.dload_n 2, 1) := by decide +kernel
theorem dX7_machine_79 : decode cX7_machine 79 = .ok (.dastore, 1) := by decide +kernel
theorem dX7_machine_80 : decode cX7_machine 80 = .ok (.aload_n 0, 1) := by decide +kernel
theorem dX7_machine_81 : decode cX7_machine 81 = .ok (.dup, 1) := by decide +kernel
theorem dX7_machine_82 : decode cX7_machine 82 = .ok (.getfield 100, 3) := by decide +kernel
theorem dX7_machine_85 : decode cX7_machine 85 = .ok (.iconst 1, 1) := by decide +kernel
theorem dX7_machine_86 : decode cX7_machine 86 = .ok (.iadd, 1) := by decide +kernel
theorem dX7_machine_87 : decode cX7_machine 87 = .ok (.putfield 100, 3) := by decide +kernel
theorem dX7_machine_90 : decode cX7_machine 90 = .ok (.aload_n 0, 1) := by decide +kernel
theorem dX7_machine_91 : decode cX7_machine 91 = .ok (.iconst 0, 1) := by decide +kernel
theorem dX7_machine_92 : decode cX7_machine 92 = .ok (.putfield 75, 3) := by decide +kernel
theorem dX7_machine_95 : decode cX7_machine 95 = .ok (.aload_n 0, 1) := by decide +kernel
theorem dX7_machine_96 : decode cX7_machine 96 = .ok (.getfield 100, 3) := by decide +kernel
theorem dX7_machine_99 : decode cX7_machine 99 = .ok (.iconst 1, 1) := by decide +kernel
theorem dX7_machine_100 : decode cX7_machine 100 = .ok (.isub, 1) := by decide +kernel
theorem dX7_machine_101 : decode cX7_machine 101 = .ok (.ireturn, 1) := by decide +kernel
set_option maxRecDepth 20000 in
theorem ggX7_isMachine_X7_isIn : GoodIn wsX7_isMachine wsX7_isIn := goodIn_r _ [5] (by decide +kernel) (by decide +kernel)
set_option maxRecDepth 20000 in
theorem gX7_isMachine_X7_isIn : GoodIn wsX7_isMachine (va_wsS RX7 79 yX7_isIn wsX7_isIn) := goodIn_app (goodIn_of _ (by decide +kernel)) ggX7_isMachine_X7_isIn
theorem dX7_isMachine_0 : decode cX7_isMachine 0 = .ok (.iload_n 1, 1) := by decide +kernel
theorem dX7_isMachine_1 : decode cX7_isMachine 1 = .ok (.iconst 0, 1) := by decide +kernel
theorem dX7_isMachine_2 : decode cX7_isMachine 2 = .ok (.aload_n 0, 1) := by decide +kernel
theorem dX7_isMachine_3 : decode cX7_isMachine 3 = .ok (.getfield 100, 3) := by decide +kernel
theorem dX7_isMachine_6 : decode cX7_isMachine 6 = .ok (.iconst 1, 1) := by decide +kernel
theorem dX7_isMachine_7 : decode cX7_isMachine 7 = .ok (.isub, 1) := by decide +kernel
theorem dX7_isMachine_8 : decode cX7_isMachine 8 = .ok (.invokestatic 79, 3) := by decide +kernel
theorem dX7_isMachine_11 : decode cX7_isMachine 11 = .ok (.ireturn, 1) := by decide +kernel
set_option maxRecDepth 20000 in
theorem ggX7_use_X7_isIn : GoodIn wsX7_use wsX7_isIn := goodIn_r _ [7] (by decide +kernel) (by decide +kernel)
set_option maxRecDepth 20000 in
theorem gX7_use_X7_isIn : GoodIn wsX7_use (va_wsS RX7 79 yX7_isIn wsX7_isIn) := goodIn_app (goodIn_of _ (by decide +kernel)) ggX7_use_X7_isIn
set_option maxRecDepth 20000 in
theorem ggX7_use_X7_isMachine : GoodIn wsX7_use wsX7_isMachine := goodIn_r _ [11, 12, 4, 5, 6, 7, 13, 14, 15, 16, 17, 18, 19, 20, 21, 22, 23, 24, 25, 26, 27, 28, 29, 30, 31, 32, 33, 34, 35, 36] (by decide +kernel) (by decide +kernel)
set_option maxRecDepth 20000 in
theorem gX7_use_X7_isMachine : GoodIn wsX7_use (wsV RX7 103 RX7 yX7_isMachine wsX7_isMachine) := goodIn_app (goodIn_of _ (by decide +kernel)) ggX7_use_X7_isMachine
theorem dX7_use_0 : decode cX7_use 0 = .ok (.aload_n 0, 1) := by decide +kernel
theorem dX7_use_1 : decode cX7_use 1 = .ok (.iload_n 1, 1) := by decide +kernel
theorem dX7_use_2 : decode cX7_use 2 = .ok (.iconst 0, 1) := by decide +kernel
theorem dX7_use_3 : decode cX7_use 3 = .ok (.iconst 3, 1) := by decide +kernel
theorem dX7_use_4 : decode cX7_use 4 = .ok (.invokestatic 79, 3) := by decide +kernel
theorem dX7_use_7 : decode cX7_use 7 = .ok (.ifCond .eq 15, 3) := by decide +kernel
theorem dX7_use_10 : decode cX7_use 10 = .ok (.aload_n 0, 1) := by decide +kernel
theorem dX7_use_11 : decode cX7_use 11 = .ok (.iload_n 2, 1) := by decide +kernel
theorem dX7_use_12 : decode cX7_use 12 = .ok (.invokevirtual 103, 3) := by decide +kernel
theorem dX7_use_15 : decode cX7_use 15 = .ok (.ifCond .eq 7, 3) := by decide +kernel
theorem dX7_use_18 : decode cX7_use 18 = .ok (.iconst 0, 1) := by decide +kernel
theorem dX7_use_19 : decode cX7_use 19 = .ok (.goto 4, 3) := by decide +kernel
theorem dX7_use_22 : decode cX7_use 22 = .ok (.iconst 1, 1) := by decide +kernel
theorem dX7_use_23 : decode cX7_use 23 = .ok (.putfield 72, 3) := by decide +kernel
theorem dX7_use_26 : decode cX7_use 26 = .ok (.aload_n 0, 1) := by decide +kernel
theorem dX7_use_27 : decode cX7_use 27 = .ok (.getfield 72, 3) := by decide +kernel
theorem dX7_use_30 : decode cX7_use 30 = .ok (.ifCond .ne 20, 3) := by decide +kernel
theorem dX7_use_33 : decode cX7_use 33 = .ok (.aload_n 0, 1) := by decide +kernel
theorem dX7_use_34 : decode cX7_use 34 = .ok (.getfield 43, 3) := by decide +kernel
theorem dX7_use_37 : decode cX7_use 37 = .ok (.bipush 8, 2) := by decide +kernel
theorem dX7_use_39 : decode cX7_use 39 = .ok (.iload_n 1, 1) := by decide +kernel
theorem dX7_use_40 : decode cX7_use 40 = .ok (.imul, 1) := by decide +kernel
theorem dX7_use_41 : decode cX7_use 41 = .ok (.iload_n 2, 1) := by decide +kernel
theorem dX7_use_42 : decode cX7_use 42 = .ok (.iadd, 1) := by decide +kernel
theorem dX7_use_43 : decode cX7_use 43 = .ok (.iload_n 3, 1) := by decide +kernel
theorem dX7_use_44 : decode cX7_use 44 = .ok (.bastore, 1) := by decide +kernel
theorem dX7_use_45 : decode cX7_use 45 = .ok (.aload_n 0, 1) := by decide +kernel
theorem dX7_use_46 : decode cX7_use 46 = .ok (.iconst 0, 1) := by decide +kernel
theorem dX7_use_47 : decode cX7_use 47 = .ok (.putfield 75, 3) := by decide +kernel
theorem dX7_use_50 : decode cX7_use 50 = .ok (.return_, 1) := by decide +kernel
set_option maxRecDepth 20000 in
theorem ggX7_fan_X7_between : GoodIn wsX7_fan wsX7_between := goodIn_r _ [9] (by decide +kernel) (by decide +kernel)
set_option maxRecDepth 20000 in
theorem gX7_fan_X7_between : GoodIn wsX7_fan (va_wsS RX7 87 yX7_between wsX7_between) := goodIn_app (goodIn_of _ (by decide +kernel)) ggX7_fan_X7_between
theorem dX7_fan_0 : decode cX7_fan 0 = .ok (.aload_n 0, 1) := by decide +kernel
theorem dX7_fan_1 : decode cX7_fan 1 = .ok (.dload_n 1, 1) := by decide +kernel
theorem dX7_fan_2 : decode cX7_fan 2 = .ok (.dconst 0, 1) := by decide +kernel
theorem dX7_fan_3 : decode cX7_fan 3 = .ok (.ldc2_w 98, 3) := by decide +kernel
theorem dX7_fan_6 : decode cX7_fan 6 = .ok (.invokestatic 87, 3) := by decide +kernel
theorem dX7_fan_9 : decode cX7_fan 9 = .ok (.ifCond .eq 18, 3) := by decide +kernel
theorem dX7_fan_12 : decode cX7_fan 12 = .ok (.dload_n 3, 1) := by decide +kernel
theorem dX7_fan_13 : decode cX7_fan 13 = .ok (.dconst 0, 1) := by decide +kernel
theorem dX7_fan_14 : decode cX7_fan 14 = .ok (.ldc2_w 98, 3) := by decide +kernel
theorem dX7_fan_17 : decode cX7_fan 17 = .ok (.invokestatic 87, 3) := by decide +kernel
theorem dX7_fan_20 : decode cX7_fan 20 = .ok (.ifCond .eq 7, 3) := by decide +kernel
theorem dX7_fan_23 : decode cX7_fan 23 = .ok (.iconst 0, 1) := by decide +kernel
theorem dX7_fan_24 : decode cX7_fan 24 = .ok (.goto 4, 3) := by decide +kernel
theorem dX7_fan_27 : decode cX7_fan 27 = .ok (.iconst 1, 1) := by decide +kernel
theorem dX7_fan_28 : decode cX7_fan 28 = .ok (.putfield 72, 3) := by decide +kernel
theorem dX7_fan_31 : decode cX7_fan 31 = .ok (.aload_n 0, 1) := by decide +kernel
theorem dX7_fan_32 : decode cX7_fan 32 = .ok (.getfield 72, 3) := by decide +kernel
theorem dX7_fan_35 : decode cX7_fan 35 = .ok (.ifCond .ne 18, 3) := by decide +kernel
theorem dX7_fan_38 : decode cX7_fan 38 = .ok (.aload_n 0, 1) := by decide +kernel
theorem dX7_fan_39 : decode cX7_fan 39 = .ok (.dload_n 1, 1) := by decide +kernel
theorem dX7_fan_40 : decode cX7_fan 40 = .ok (.putfield 54, 3) := by decide +kernel
theorem dX7_fan_43 : decode cX7_fan 43 = .ok (.aload_n 0, 1) := by decide +kernel
theorem dX7_fan_44 : decode cX7_fan 44 = .ok (.dload_n 3, 1) := by decide +kernel
theorem dX7_fan_45 : decode cX7_fan 45 = .ok (.putfield 60, 3) := by decide +kernel
theorem dX7_fan_48 : decode cX7_fan 48 = .ok (.aload_n 0, 1) := by decide +kernel
theorem dX7_fan_49 : decode cX7_fan 49 = .ok (.iconst 0, 1) := by decide +kernel
theorem dX7_fan_50 : decode cX7_fan 50 = .ok (.putfield 75, 3) := by decide +kernel
theorem dX7_fan_53 : decode cX7_fan 53 = .ok (.return_, 1) := by decide +kernel
theorem dX7_ease_0 : decode cX7_ease 0 = .ok (.aload_n 0, 1) := by decide +kernel
theorem dX7_ease_1 : decode cX7_ease 1 = .ok (.getfield 24, 3) := by decide +kernel
theorem dX7_ease_4 : decode cX7_ease 4 = .ok (.iload_n 1, 1) := by decide +kernel
theorem dX7_ease_5 : decode cX7_ease 5 = .ok (.daload, 1) := by decide +kernel
theorem dX7_ease_6 : decode cX7_ease 6 = .ok (.aload_n 0, 1) := by decide +kernel
theorem dX7_ease_7 : decode cX7_ease 7 = .ok (.getfield 24, 3) := by decide +kernel
theorem dX7_ease_10 : decode cX7_ease 10 = .ok (.iload_n 1, 1) := by decide +kernel
theorem dX7_ease_11 : decode cX7_ease 11 = .ok (.daload, 1) := by decide +kernel
theorem dX7_ease_12 : decode cX7_ease 12 = .ok (.dmul, 1) := by decide +kernel
theorem dX7_ease_13 : decode cX7_ease 13 = .ok (.aload_n 0, 1) := by decide +kernel
theorem dX7_ease_14 : decode cX7_ease 14 = .ok (.getfield 24, 3) := by decide +kernel
theorem dX7_ease_17 : decode cX7_ease 17 = .ok (.iload_n 1, 1) := by decide +kernel
theorem dX7_ease_18 : decode cX7_ease 18 = .ok (.daload, 1) := by decide +kernel
theorem dX7_ease_19 : decode cX7_ease 19 = .ok (.dmul, 1) := by decide +kernel
theorem dX7_ease_20 : decode cX7_ease 20 = .ok (.aload_n 0, 1) := by decide +kernel
theorem dX7_ease_21 : decode cX7_ease 21 = .ok (.getfield 20, 3) := by decide +kernel
theorem dX7_ease_24 : decode cX7_ease 24 = .ok (.iload_n 1, 1) := by decide +kernel
theorem dX7_ease_25 : decode cX7_ease 25 = .ok (.daload, 1) := by decide +kernel
theorem dX7_ease_26 : decode cX7_ease 26 = .ok (.ddiv, 1) := by decide +kernel
theorem dX7_ease_27 : decode cX7_ease 27 = .ok (.dreturn, 1) := by decide +kernel
theorem dX7_other_0 : decode cX7_other 0 = .ok (.aload_n 0, 1) := by decide +kernel
theorem dX7_other_1 : decode cX7_other 1 = .ok (.getfield 13, 3) := by decide +kernel
theorem dX7_other_4 : decode cX7_other 4 = .ok (.iload_n 1, 1) := by decide +kernel
theorem dX7_other_5 : decode cX7_other 5 = .ok (.iaload, 1) := by decide +kernel
theorem dX7_other_6 : decode cX7_other 6 = .ok (.iload_n 2, 1) := by decide +kernel
theorem dX7_other_7 : decode cX7_other 7 = .ok (.if_icmp .ne 12, 3) := by decide +kernel
theorem dX7_other_10 : decode cX7_other 10 = .ok (.aload_n 0, 1) := by decide +kernel
theorem dX7_other_11 : decode cX7_other 11 = .ok (.getfield 17, 3) := by decide +kernel
theorem dX7_other_14 : decode cX7_other 14 = .ok (.iload_n 1, 1) := by decide +kernel
theorem dX7_other_15 : decode cX7_other 15 = .ok (.iaload, 1) := by decide +kernel
theorem dX7_other_16 : decode cX7_other 16 = .ok (.goto 23, 3) := by decide +kernel
theorem dX7_other_19 : decode cX7_other 19 = .ok (.aload_n 0, 1) := by decide +kernel
theorem dX7_other_20 : decode cX7_other 20 = .ok (.getfield 17, 3) := by decide +kernel
theorem dX7_other_23 : decode cX7_other 23 = .ok (.iload_n 1, 1) := by decide +kernel
theorem dX7_other_24 : decode cX7_other 24 = .ok (.iaload, 1) := by decide +kernel
theorem dX7_other_25 : decode cX7_other 25 = .ok (.iload_n 2, 1) := by decide +kernel
theorem dX7_other_26 : decode cX7_other 26 = .ok (.if_icmp .ne 12, 3) := by decide +kernel
theorem dX7_other_29 : decode cX7_other 29 = .ok (.aload_n 0, 1) := by decide +kernel
theorem dX7_other_30 : decode cX7_other 30 = .ok (.getfield 13, 3) := by decide +kernel
theorem dX7_other_33 : decode cX7_other 33 = .ok (.iload_n 1, 1) := by decide +kernel
theorem dX7_other_34 : decode cX7_other 34 = .ok (.iaload, 1) := by decide +kernel
theorem dX7_other_35 : decode cX7_other 35 = .ok (.goto 4, 3) := by decide +kernel
theorem dX7_other_38 : decode cX7_other 38 = .ok (.iconst (-1), 1) := by decide +kernel
theorem dX7_other_39 : decode cX7_other 39 = .ok (.ireturn, 1) := by decide +kernel
set_option maxRecDepth 20000 in
theorem ggX7_balance_X7_other : GoodIn wsX7_balance wsX7_other := goodIn_r _ [12, 13, 14, 21, 22, 23, 24, 25, 26, 27, 28, 29, 30, 31, 32, 33, 34, 35, 36, 37, 38, 39, 40, 41, 42, 43, 44] (by decide +kernel) (by decide +kernel)
set_option maxRecDepth 20000 in
theorem gX7_balance_X7_other : GoodIn wsX7_balance (wsV RX7 106 RX7 yX7_other wsX7_other) := goodIn_app (goodIn_of _ (by decide +kernel)) ggX7_balance_X7_other
set_option maxRecDepth 20000 in
theorem ggX7_balance_X7_ease : GoodIn wsX7_balance wsX7_ease := goodIn_r _ [18, 19, 20, 21, 22, 23, 24, 25, 26, 27, 28, 29, 30, 31, 32, 33, 34, 35, 36, 37, 38, 39, 40, 41, 42, 43, 44] (by decide +kernel) (by decide +kernel)
set_option maxRecDepth 20000 in
theorem gX7_balance_X7_ease : GoodIn wsX7_balance (wsV RX7 110 RX7 yX7_ease wsX7_ease) := goodIn_app (goodIn_of _ (by decide +kernel)) ggX7_balance_X7_ease
theorem dX7_balance_0 : decode cX7_balance 0 = .ok (.iconst 0, 1) := by decide +kernel
theorem dX7_balance_1 : decode cX7_balance 1 = .ok (.istore_n 2, 1) := by decide +kernel
theorem dX7_balance_2 : decode cX7_balance 2 = .ok (.dconst 0, 1) := by decide +kernel
theorem dX7_balance_3 : decode cX7_balance 3 = .ok (.dstore_n 3, 1) := by decide +kernel
theorem dX7_balance_4 : decode cX7_balance 4 = .ok (.dconst 0, 1) := by decide +kernel
theorem dX7_balance_5 : decode cX7_balance 5 = .ok (.dstore 5, 2) := by decide +kernel
theorem dX7_balance_7 : decode cX7_balance 7 = .ok (.iconst 0, 1) := by decide +kernel
theorem dX7_balance_8 : decode cX7_balance 8 = .ok (.istore 7, 2) := by decide +kernel
theorem dX7_balance_10 : decode cX7_balance 10 = .ok (.iload 7, 2) := by decide +kernel
theorem dX7_balance_12 : decode cX7_balance 12 = .ok (.aload_n 0, 1) := by decide +kernel
theorem dX7_balance_13 : decode cX7_balance 13 = .ok (.getfield 95, 3) := by decide +kernel
theorem dX7_balance_16 : decode cX7_balance 16 = .ok (.if_icmp .ge 54, 3) := by decide +kernel
theorem dX7_balance_19 : decode cX7_balance 19 = .ok (.aload_n 0, 1) := by decide +kernel
theorem dX7_balance_20 : decode cX7_balance 20 = .ok (.iload 7, 2) := by decide +kernel
theorem dX7_balance_22 : decode cX7_balance 22 = .ok (.iload_n 1, 1) := by decide +kernel
theorem dX7_balance_23 : decode cX7_balance 23 = .ok (.invokevirtual 106, 3) := by decide +kernel
theorem dX7_balance_26 : decode cX7_balance 26 = .ok (.istore 8, 2) := by decide +kernel
theorem dX7_balance_28 : decode cX7_balance 28 = .ok (.iload 8, 2) := by decide +kernel
theorem dX7_balance_30 : decode cX7_balance 30 = .ok (.iconst (-1), 1) := by decide +kernel
theorem dX7_balance_31 : decode cX7_balance 31 = .ok (.if_icmp .eq 33, 3) := by decide +kernel
theorem dX7_balance_34 : decode cX7_balance 34 = .ok (.dload_n 3, 1) := by decide +kernel
theorem dX7_balance_35 : decode cX7_balance 35 = .ok (.aload_n 0, 1) := by decide +kernel
theorem dX7_balance_36 : decode cX7_balance 36 = .ok (.iload 7, 2) := by decide +kernel
theorem dX7_balance_38 : decode cX7_balance 38 = .ok (.invokevirtual 110, 3) := by decide +kernel
theorem dX7_balance_41 : decode cX7_balance 41 = .ok (.aload_n 0, 1) := by decide +kernel
theorem dX7_balance_42 : decode cX7_balance 42 = .ok (.getfield 63, 3) := by decide +kernel
theorem dX7_balance_45 : decode cX7_balance 45 = .ok (.iload 8, 2) := by decide +kernel
theorem dX7_balance_47 : decode cX7_balance 47 = .ok (.daload, 1) := by decide +kernel
theorem dX7_balance_48 : decode cX7_balance 48 = .ok (.dmul, 1) := by decide +kernel
theorem dX7_balance_49 : decode cX7_balance 49 = .ok (.dadd, 1) := by decide +kernel
theorem dX7_balance_50 : decode cX7_balance 50 = .ok (.dstore_n 3, 1) := by decide +kernel
theorem dX7_balance_51 : decode cX7_balance 51 = .ok (.dload 5, 2) := by decide +kernel
theorem dX7_balance_53 : decode cX7_balance 53 = .ok (.aload_n 0, 1) := by decide +kernel
theorem dX7_balance_54 : decode cX7_balance 54 = .ok (.iload 7, 2) := by decide +kernel
theorem dX7_balance_56 : decode cX7_balance 56 = .ok (.invokevirtual 110, 3) := by decide +kernel
theorem dX7_balance_59 : decode cX7_balance 59 = .ok (.dadd, 1) := by decide +kernel
theorem dX7_balance_60 : decode cX7_balance 60 = .ok (.dstore 5, 2) := by decide +kernel
theorem dX7_balance_62 : decode cX7_balance 62 = .ok (.iconst 1, 1) := by decide +kernel
theorem dX7_balance_63 : decode cX7_balance 63 = .ok (.istore_n 2, 1) := by decide +kernel
theorem dX7_balance_64 : decode cX7_balance 64 = .ok (.iinc 7 1, 3) := by decide +kernel
theorem dX7_balance_67 : decode cX7_balance 67 = .ok (.goto (-57), 3) := by decide +kernel
theorem dX7_balance_70 : decode cX7_balance 70 = .ok (.iconst 0, 1) := by decide +kernel
theorem dX7_balance_71 : decode cX7_balance 71 = .ok (.istore 7, 2) := by decide +kernel
theorem dX7_balance_73 : decode cX7_balance 73 = .ok (.iload 7, 2) := by decide +kernel
theorem dX7_balance_75 : decode cX7_balance 75 = .ok (.aload_n 0, 1) := by decide +kernel
theorem dX7_balance_76 : decode cX7_balance 76 = .ok (.getfield 100, 3) := by decide +kernel
theorem dX7_balance_79 : decode cX7_balance 79 = .ok (.if_icmp .ge 51, 3) := by decide +kernel
theorem dX7_balance_82 : decode cX7_balance 82 = .ok (.aload_n 0, 1) := by decide +kernel
theorem dX7_balance_83 : decode cX7_balance 83 = .ok (.getfield 49, 3) := by decide +kernel
theorem dX7_balance_86 : decode cX7_balance 86 = .ok (.iload 7, 2) := by decide +kernel
theorem dX7_balance_88 : decode cX7_balance 88 = .ok (.baload, 1) := by decide +kernel
theorem dX7_balance_89 : decode cX7_balance 89 = .ok (.ifCond .eq 31, 3) := by decide +kernel
theorem dX7_balance_92 : decode cX7_balance 92 = .ok (.aload_n 0, 1) := by decide +kernel
theorem dX7_balance_93 : decode cX7_balance 93 = .ok (.getfield 37, 3) := by decide +kernel
theorem dX7_balance_96 : decode cX7_balance 96 = .ok (.iload 7, 2) := by decide +kernel
theorem dX7_balance_98 : decode cX7_balance 98 = .ok (.iaload, 1) := by decide +kernel
theorem dX7_balance_99 : decode cX7_balance 99 = .ok (.iload_n 1, 1) := by decide +kernel
theorem dX7_balance_100 : decode cX7_balance 100 = .ok (.if_icmp .ne 20, 3) := by decide +kernel
theorem dX7_balance_103 : decode cX7_balance 103 = .ok (.dload 5, 2) := by decide +kernel
theorem dX7_balance_105 : decode cX7_balance 105 = .ok (.aload_n 0, 1) := by decide +kernel
theorem dX7_balance_106 : decode cX7_balance 106 = .ok (.getfield 46, 3) := by decide +kernel
theorem dX7_balance_109 : decode cX7_balance 109 = .ok (.iload 7, 2) := by decide +kernel
theorem dX7_balance_111 : decode cX7_balance 111 = .ok (.daload, 1) := by decide +kernel
theorem dX7_balance_112 : decode cX7_balance 112 = .ok (.ldc2_w 114, 3) := by decide +kernel
theorem dX7_balance_115 : decode cX7_balance 115 = .ok (.dmul, 1) := by decide +kernel
theorem dX7_balance_116 : decode cX7_balance 116 = .ok (.dadd, 1) := by decide +kernel
theorem dX7_balance_117 : decode cX7_balance 117 = .ok (.goto 5, 3) := by decide +kernel
theorem dX7_balance_120 : decode cX7_balance 120 = .ok (.dload 5, 2) := by decide +kernel
theorem dX7_balance_122 : decode cX7_balance 122 = .ok (.dstore 5, 2) := by decide +kernel
theorem dX7_balance_124 : decode cX7_balance 124 = .ok (.iinc 7 1, 3) := by decide +kernel
theorem dX7_balance_127 : decode cX7_balance 127 = .ok (.goto (-54), 3) := by decide +kernel
theorem dX7_balance_130 : decode cX7_balance 130 = .ok (.iload_n 2, 1) := by decide +kernel
theorem dX7_balance_131 : decode cX7_balance 131 = .ok (.ifCond .eq 10, 3) := by decide +kernel
theorem dX7_balance_134 : decode cX7_balance 134 = .ok (.dload_n 3, 1) := by decide +kernel
theorem dX7_balance_135 : decode cX7_balance 135 = .ok (.dload 5, 2) := by decide +kernel
theorem dX7_balance_137 : decode cX7_balance 137 = .ok (.ddiv, 1) := by decide +kernel
theorem dX7_balance_138 : decode cX7_balance 138 = .ok (.goto 9, 3) := by decide +kernel
theorem dX7_balance_141 : decode cX7_balance 141 = .ok (.aload_n 0, 1) := by decide +kernel
theorem dX7_balance_142 : decode cX7_balance 142 = .ok (.getfield 63, 3) := by decide +kernel
theorem dX7_balance_145 : decode cX7_balance 145 = .ok (.iload_n 1, 1) := by decide +kernel
theorem dX7_balance_146 : decode cX7_balance 146 = .ok (.daload, 1) := by decide +kernel
theorem dX7_balance_147 : decode cX7_balance 147 = .ok (.dreturn, 1) := by decide +kernel
set_option maxRecDepth 20000 in
theorem ggX7_round_X7_balance : GoodIn wsX7_round wsX7_balance := goodIn_r _ [11, 6, 4, 12, 13, 14, 15, 16, 17, 18, 19, 10, 20, 21, 22, 23, 24, 25, 26, 27, 28, 29, 30, 31, 32, 33, 34, 35, 36, 37, 38, 39, 40, 41, 42, 43, 44, 45, 46, 47, 48, 49, 50, 51, 52] (by decide +kernel) (by decide +kernel)
set_option maxRecDepth 20000 in
theorem gX7_round_X7_balance : GoodIn wsX7_round (wsV RX7 119 RX7 yX7_balance wsX7_balance) := goodIn_app (goodIn_of _ (by decide +kernel)) ggX7_round_X7_balance
set_option maxRecDepth 20000 in
theorem ggX7_round_X7_other : GoodIn wsX7_round wsX7_other := goodIn_r _ [20, 21, 22, 29, 30, 31, 32, 33, 34, 35, 36, 37, 38, 39, 40, 41, 42, 43, 44, 45, 46, 47, 48, 49, 50, 51, 52] (by decide +kernel) (by decide +kernel)
set_option maxRecDepth 20000 in
theorem gX7_round_X7_other : GoodIn wsX7_round (wsV RX7 106 RX7 yX7_other wsX7_other) := goodIn_app (goodIn_of _ (by decide +kernel)) ggX7_round_X7_other
set_option maxRecDepth 20000 in
theorem ggX7_round_X7_ease : GoodIn wsX7_round wsX7_ease := goodIn_r _ [26, 27, 28, 29, 30, 31, 32, 33, 34, 35, 36, 37, 38, 39, 40, 41, 42, 43, 44, 45, 46, 47, 48, 49, 50, 51, 52] (by decide +kernel) (by decide +kernel)
set_option maxRecDepth 20000 in
theorem gX7_round_X7_ease : GoodIn wsX7_round (wsV RX7 110 RX7 yX7_ease wsX7_ease) := goodIn_app (goodIn_of _ (by decide +kernel)) ggX7_round_X7_ease
theorem dX7_round_0 : decode cX7_round 0 = .ok (.dconst 0, 1) := by decide +kernel
theorem dX7_round_1 : decode cX7_round 1 = .ok (.aload_n 0, 1) := by decide +kernel
theorem dX7_round_2 : decode cX7_round 2 = .ok (.getfield 54, 3) := by decide +kernel
theorem dX7_round_5 : decode cX7_round 5 = .ok (.aload_n 0, 1) := by decide +kernel
theorem dX7_round_6 : decode cX7_round 6 = .ok (.getfield 60, 3) := by decide +kernel
theorem dX7_round_9 : decode cX7_round 9 = .ok (.aload_n 0, 1) := by decide +kernel
theorem dX7_round_10 : decode cX7_round 10 = .ok (.getfield 116, 3) := by decide +kernel
theorem dX7_round_13 : decode cX7_round 13 = .ok (.dmul, 1) := by decide +kernel
theorem dX7_round_14 : decode cX7_round 14 = .ok (.dsub, 1) := by decide +kernel
theorem dX7_round_15 : decode cX7_round 15 = .ok (.dsub, 1) := by decide +kernel
theorem dX7_round_16 : decode cX7_round 16 = .ok (.dstore_n 1, 1) := by decide +kernel
theorem dX7_round_17 : decode cX7_round 17 = .ok (.aload_n 0, 1) := by decide +kernel
theorem dX7_round_18 : decode cX7_round 18 = .ok (.getfield 63, 3) := by decide +kernel
theorem dX7_round_21 : decode cX7_round 21 = .ok (.iconst 0, 1) := by decide +kernel
theorem dX7_round_22 : decode cX7_round 22 = .ok (.dload_n 1, 1) := by decide +kernel
theorem dX7_round_23 : decode cX7_round 23 = .ok (.dconst 0, 1) := by decide +kernel
theorem dX7_round_24 : decode cX7_round 24 = .ok (.dcmp .l, 1) := by decide +kernel
theorem dX7_round_25 : decode cX7_round 25 = .ok (.ifCond .le 7, 3) := by decide +kernel
theorem dX7_round_28 : decode cX7_round 28 = .ok (.dconst 0, 1) := by decide +kernel
theorem dX7_round_29 : decode cX7_round 29 = .ok (.goto 4, 3) := by decide +kernel
theorem dX7_round_32 : decode cX7_round 32 = .ok (.dload_n 1, 1) := by decide +kernel
theorem dX7_round_33 : decode cX7_round 33 = .ok (.dastore, 1) := by decide +kernel
theorem dX7_round_34 : decode cX7_round 34 = .ok (.dconst 0, 1) := by decide +kernel
theorem dX7_round_35 : decode cX7_round 35 = .ok (.dstore_n 3, 1) := by decide +kernel
theorem dX7_round_36 : decode cX7_round 36 = .ok (.iconst 1, 1) := by decide +kernel
theorem dX7_round_37 : decode cX7_round 37 = .ok (.istore 5, 2) := by decide +kernel
theorem dX7_round_39 : decode cX7_round 39 = .ok (.iload 5, 2) := by decide +kernel
theorem dX7_round_41 : decode cX7_round 41 = .ok (.aload_n 0, 1) := by decide +kernel
theorem dX7_round_42 : decode cX7_round 42 = .ok (.getfield 7, 3) := by decide +kernel
theorem dX7_round_45 : decode cX7_round 45 = .ok (.if_icmp .ge 69, 3) := by decide +kernel
theorem dX7_round_48 : decode cX7_round 48 = .ok (.aload_n 0, 1) := by decide +kernel
theorem dX7_round_49 : decode cX7_round 49 = .ok (.iload 5, 2) := by decide +kernel
theorem dX7_round_51 : decode cX7_round 51 = .ok (.invokevirtual 119, 3) := by decide +kernel
theorem dX7_round_54 : decode cX7_round 54 = .ok (.dstore 6, 2) := by decide +kernel
theorem dX7_round_56 : decode cX7_round 56 = .ok (.dload 6, 2) := by decide +kernel
theorem dX7_round_58 : decode cX7_round 58 = .ok (.aload_n 0, 1) := by decide +kernel
theorem dX7_round_59 : decode cX7_round 59 = .ok (.getfield 63, 3) := by decide +kernel
theorem dX7_round_62 : decode cX7_round 62 = .ok (.iload 5, 2) := by decide +kernel
theorem dX7_round_64 : decode cX7_round 64 = .ok (.daload, 1) := by decide +kernel
theorem dX7_round_65 : decode cX7_round 65 = .ok (.dsub, 1) := by decide +kernel
theorem dX7_round_66 : decode cX7_round 66 = .ok (.dstore 8, 2) := by decide +kernel
theorem dX7_round_68 : decode cX7_round 68 = .ok (.dload 8, 2) := by decide +kernel
theorem dX7_round_70 : decode cX7_round 70 = .ok (.dconst 0, 1) := by decide +kernel
theorem dX7_round_71 : decode cX7_round 71 = .ok (.dcmp .g, 1) := by decide +kernel
theorem dX7_round_72 : decode cX7_round 72 = .ok (.ifCond .ge 9, 3) := by decide +kernel
theorem dX7_round_75 : decode cX7_round 75 = .ok (.dload 8, 2) := by decide +kernel
theorem dX7_round_77 : decode cX7_round 77 = .ok (.dneg, 1) := by decide +kernel
theorem dX7_round_78 : decode cX7_round 78 = .ok (.goto 5, 3) := by decide +kernel
theorem dX7_round_81 : decode cX7_round 81 = .ok (.dload 8, 2) := by decide +kernel
theorem dX7_round_83 : decode cX7_round 83 = .ok (.dstore 8, 2) := by decide +kernel
theorem dX7_round_85 : decode cX7_round 85 = .ok (.dload 8, 2) := by decide +kernel
theorem dX7_round_87 : decode cX7_round 87 = .ok (.dload_n 3, 1) := by decide +kernel
theorem dX7_round_88 : decode cX7_round 88 = .ok (.dcmp .l, 1) := by decide +kernel
theorem dX7_round_89 : decode cX7_round 89 = .ok (.ifCond .le 8, 3) := by decide +kernel
theorem dX7_round_92 : decode cX7_round 92 = .ok (.dload 8, 2) := by decide +kernel
theorem dX7_round_94 : decode cX7_round 94 = .ok (.goto 4, 3) := by decide +kernel
theorem dX7_round_97 : decode cX7_round 97 = .ok (.dload_n 3, 1) := by decide +kernel
theorem dX7_round_98 : decode cX7_round 98 = .ok (.dstore_n 3, 1) := by decide +kernel
theorem dX7_round_99 : decode cX7_round 99 = .ok (.aload_n 0, 1) := by decide +kernel
theorem dX7_round_100 : decode cX7_round 100 = .ok (.getfield 63, 3) := by decide +kernel
theorem dX7_round_103 : decode cX7_round 103 = .ok (.iload 5, 2) := by decide +kernel
theorem dX7_round_105 : decode cX7_round 105 = .ok (.dload 6, 2) := by decide +kernel
theorem dX7_round_107 : decode cX7_round 107 = .ok (.dastore, 1) := by decide +kernel
theorem dX7_round_108 : decode cX7_round 108 = .ok (.iinc 5 1, 3) := by decide +kernel
theorem dX7_round_111 : decode cX7_round 111 = .ok (.goto (-72), 3) := by decide +kernel
theorem dX7_round_114 : decode cX7_round 114 = .ok (.dconst 0, 1) := by decide +kernel
theorem dX7_round_115 : decode cX7_round 115 = .ok (.dstore 5, 2) := by decide +kernel
theorem dX7_round_117 : decode cX7_round 117 = .ok (.iconst 0, 1) := by decide +kernel
theorem dX7_round_118 : decode cX7_round 118 = .ok (.istore 7, 2) := by decide +kernel
theorem dX7_round_120 : decode cX7_round 120 = .ok (.iload 7, 2) := by decide +kernel
theorem dX7_round_122 : decode cX7_round 122 = .ok (.aload_n 0, 1) := by decide +kernel
theorem dX7_round_123 : decode cX7_round 123 = .ok (.getfield 95, 3) := by decide +kernel
theorem dX7_round_126 : decode cX7_round 126 = .ok (.if_icmp .ge 55, 3) := by decide +kernel
theorem dX7_round_129 : decode cX7_round 129 = .ok (.aload_n 0, 1) := by decide +kernel
theorem dX7_round_130 : decode cX7_round 130 = .ok (.iload 7, 2) := by decide +kernel
theorem dX7_round_132 : decode cX7_round 132 = .ok (.iconst 0, 1) := by decide +kernel
theorem dX7_round_133 : decode cX7_round 133 = .ok (.invokevirtual 106, 3) := by decide +kernel
theorem dX7_round_136 : decode cX7_round 136 = .ok (.istore 8, 2) := by decide +kernel
theorem dX7_round_138 : decode cX7_round 138 = .ok (.iload 8, 2) := by decide +kernel
theorem dX7_round_140 : decode cX7_round 140 = .ok (.iconst (-1), 1) := by decide +kernel
theorem dX7_round_141 : decode cX7_round 141 = .ok (.if_icmp .ne 8, 3) := by decide +kernel
theorem dX7_round_144 : decode cX7_round 144 = .ok (.dload 5, 2) := by decide +kernel
theorem dX7_round_146 : decode cX7_round 146 = .ok (.goto 27, 3) := by decide +kernel
theorem dX7_round_149 : decode cX7_round 149 = .ok (.dload 5, 2) := by decide +kernel
theorem dX7_round_151 : decode cX7_round 151 = .ok (.aload_n 0, 1) := by decide +kernel
theorem dX7_round_152 : decode cX7_round 152 = .ok (.iload 7, 2) := by decide +kernel
theorem dX7_round_154 : decode cX7_round 154 = .ok (.invokevirtual 110, 3) := by decide +kernel
theorem dX7_round_157 : decode cX7_round 157 = .ok (.aload_n 0, 1) := by decide +kernel
theorem dX7_round_158 : decode cX7_round 158 = .ok (.getfield 63, 3) := by decide +kernel
theorem dX7_round_161 : decode cX7_round 161 = .ok (.iload 8, 2) := by decide +kernel
theorem dX7_round_163 : decode cX7_round 163 = .ok (.daload, 1) := by decide +kernel
theorem dX7_round_164 : decode cX7_round 164 = .ok (.aload_n 0, 1) := by decide +kernel
theorem dX7_round_165 : decode cX7_round 165 = .ok (.getfield 63, 3) := by decide +kernel
theorem dX7_round_168 : decode cX7_round 168 = .ok (.iconst 0, 1) := by decide +kernel
theorem dX7_round_169 : decode cX7_round 169 = .ok (.daload, 1) := by decide +kernel
theorem dX7_round_170 : decode cX7_round 170 = .ok (.dsub, 1) := by decide +kernel
theorem dX7_round_171 : decode cX7_round 171 = .ok (.dmul, 1) := by decide +kernel
theorem dX7_round_172 : decode cX7_round 172 = .ok (.dadd, 1) := by decide +kernel
theorem dX7_round_173 : decode cX7_round 173 = .ok (.dstore 5, 2) := by decide +kernel
theorem dX7_round_175 : decode cX7_round 175 = .ok (.iinc 7 1, 3) := by decide +kernel
theorem dX7_round_178 : decode cX7_round 178 = .ok (.goto (-58), 3) := by decide +kernel
theorem dX7_round_181 : decode cX7_round 181 = .ok (.aload_n 0, 1) := by decide +kernel
theorem dX7_round_182 : decode cX7_round 182 = .ok (.dload 5, 2) := by decide +kernel
theorem dX7_round_184 : decode cX7_round 184 = .ok (.dconst 0, 1) := by decide +kernel
theorem dX7_round_185 : decode cX7_round 185 = .ok (.dcmp .g, 1) := by decide +kernel
theorem dX7_round_186 : decode cX7_round 186 = .ok (.ifCond .ge 7, 3) := by decide +kernel
theorem dX7_round_189 : decode cX7_round 189 = .ok (.dconst 0, 1) := by decide +kernel
theorem dX7_round_190 : decode cX7_round 190 = .ok (.goto 5, 3) := by decide +kernel
theorem dX7_round_193 : decode cX7_round 193 = .ok (.dload 5, 2) := by decide +kernel
theorem dX7_round_195 : decode cX7_round 195 = .ok (.putfield 116, 3) := by decide +kernel
theorem dX7_round_198 : decode cX7_round 198 = .ok (.dload_n 3, 1) := by decide +kernel
theorem dX7_round_199 : decode cX7_round 199 = .ok (.dreturn, 1) := by decide +kernel
theorem dX7_drawOf_0 : decode cX7_drawOf 0 = .ok (.aload_n 0, 1) := by decide +kernel
theorem dX7_drawOf_1 : decode cX7_drawOf 1 = .ok (.getfield 49, 3) := by decide +kernel
theorem dX7_drawOf_4 : decode cX7_drawOf 4 = .ok (.iload_n 1, 1) := by decide +kernel
theorem dX7_drawOf_5 : decode cX7_drawOf 5 = .ok (.baload, 1) := by decide +kernel
theorem dX7_drawOf_6 : decode cX7_drawOf 6 = .ok (.ifCond .eq 30, 3) := by decide +kernel
theorem dX7_drawOf_9 : decode cX7_drawOf 9 = .ok (.aload_n 0, 1) := by decide +kernel
theorem dX7_drawOf_10 : decode cX7_drawOf 10 = .ok (.getfield 46, 3) := by decide +kernel
theorem dX7_drawOf_13 : decode cX7_drawOf 13 = .ok (.iload_n 1, 1) := by decide +kernel
theorem dX7_drawOf_14 : decode cX7_drawOf 14 = .ok (.daload, 1) := by decide +kernel
theorem dX7_drawOf_15 : decode cX7_drawOf 15 = .ok (.ldc2_w 114, 3) := by decide +kernel
theorem dX7_drawOf_18 : decode cX7_drawOf 18 = .ok (.dmul, 1) := by decide +kernel
theorem dX7_drawOf_19 : decode cX7_drawOf 19 = .ok (.dconst 0, 1) := by decide +kernel
theorem dX7_drawOf_20 : decode cX7_drawOf 20 = .ok (.aload_n 0, 1) := by decide +kernel
theorem dX7_drawOf_21 : decode cX7_drawOf 21 = .ok (.getfield 63, 3) := by decide +kernel
theorem dX7_drawOf_24 : decode cX7_drawOf 24 = .ok (.aload_n 0, 1) := by decide +kernel
theorem dX7_drawOf_25 : decode cX7_drawOf 25 = .ok (.getfield 37, 3) := by decide +kernel
theorem dX7_drawOf_28 : decode cX7_drawOf 28 = .ok (.iload_n 1, 1) := by decide +kernel
theorem dX7_drawOf_29 : decode cX7_drawOf 29 = .ok (.iaload, 1) := by decide +kernel
theorem dX7_drawOf_30 : decode cX7_drawOf 30 = .ok (.daload, 1) := by decide +kernel
theorem dX7_drawOf_31 : decode cX7_drawOf 31 = .ok (.dsub, 1) := by decide +kernel
theorem dX7_drawOf_32 : decode cX7_drawOf 32 = .ok (.dmul, 1) := by decide +kernel
theorem dX7_drawOf_33 : decode cX7_drawOf 33 = .ok (.goto 4, 3) := by decide +kernel
theorem dX7_drawOf_36 : decode cX7_drawOf 36 = .ok (.dconst 0, 1) := by decide +kernel
theorem dX7_drawOf_37 : decode cX7_drawOf 37 = .ok (.dstore_n 2, 1) := by decide +kernel
theorem dX7_drawOf_38 : decode cX7_drawOf 38 = .ok (.dload_n 2, 1) := by decide +kernel
theorem dX7_drawOf_39 : decode cX7_drawOf 39 = .ok (.dconst 0, 1) := by decide +kernel
theorem dX7_drawOf_40 : decode cX7_drawOf 40 = .ok (.dcmp .g, 1) := by decide +kernel
theorem dX7_drawOf_41 : decode cX7_drawOf 41 = .ok (.ifCond .ge 7, 3) := by decide +kernel
theorem dX7_drawOf_44 : decode cX7_drawOf 44 = .ok (.dconst 0, 1) := by decide +kernel
theorem dX7_drawOf_45 : decode cX7_drawOf 45 = .ok (.goto 4, 3) := by decide +kernel
theorem dX7_drawOf_48 : decode cX7_drawOf 48 = .ok (.dload_n 2, 1) := by decide +kernel
theorem dX7_drawOf_49 : decode cX7_drawOf 49 = .ok (.dreturn, 1) := by decide +kernel
set_option maxRecDepth 20000 in
theorem ggX7_close_X7_drawOf : GoodIn wsX7_close wsX7_drawOf := goodIn_r _ [11, 2, 6, 12, 13, 14, 15, 16, 17, 18, 19, 20, 21, 22, 23, 24, 25, 26, 27, 28, 29, 30, 31, 32, 33, 34, 35, 36, 37, 38] (by decide +kernel) (by decide +kernel)
set_option maxRecDepth 20000 in
theorem gX7_close_X7_drawOf : GoodIn wsX7_close (wsV RX7 122 RX7 yX7_drawOf wsX7_drawOf) := goodIn_app (goodIn_of _ (by decide +kernel)) ggX7_close_X7_drawOf
theorem dX7_close_0 : decode cX7_close 0 = .ok (.iconst 0, 1) := by decide +kernel
theorem dX7_close_1 : decode cX7_close 1 = .ok (.istore_n 1, 1) := by decide +kernel
theorem dX7_close_2 : decode cX7_close 2 = .ok (.iconst 0, 1) := by decide +kernel
theorem dX7_close_3 : decode cX7_close 3 = .ok (.istore_n 2, 1) := by decide +kernel
theorem dX7_close_4 : decode cX7_close 4 = .ok (.iload_n 2, 1) := by decide +kernel
theorem dX7_close_5 : decode cX7_close 5 = .ok (.aload_n 0, 1) := by decide +kernel
theorem dX7_close_6 : decode cX7_close 6 = .ok (.getfield 100, 3) := by decide +kernel
theorem dX7_close_9 : decode cX7_close 9 = .ok (.if_icmp .ge 85, 3) := by decide +kernel
theorem dX7_close_12 : decode cX7_close 12 = .ok (.aload_n 0, 1) := by decide +kernel
theorem dX7_close_13 : decode cX7_close 13 = .ok (.iload_n 2, 1) := by decide +kernel
theorem dX7_close_14 : decode cX7_close 14 = .ok (.invokevirtual 122, 3) := by decide +kernel
theorem dX7_close_17 : decode cX7_close 17 = .ok (.dstore_n 3, 1) := by decide +kernel
theorem dX7_close_18 : decode cX7_close 18 = .ok (.aload_n 0, 1) := by decide +kernel
theorem dX7_close_19 : decode cX7_close 19 = .ok (.getfield 49, 3) := by decide +kernel
theorem dX7_close_22 : decode cX7_close 22 = .ok (.iload_n 2, 1) := by decide +kernel
theorem dX7_close_23 : decode cX7_close 23 = .ok (.baload, 1) := by decide +kernel
theorem dX7_close_24 : decode cX7_close 24 = .ok (.ifCond .eq 64, 3) := by decide +kernel
theorem dX7_close_27 : decode cX7_close 27 = .ok (.dload_n 3, 1) := by decide +kernel
theorem dX7_close_28 : decode cX7_close 28 = .ok (.aload_n 0, 1) := by decide +kernel
theorem dX7_close_29 : decode cX7_close 29 = .ok (.getfield 40, 3) := by decide +kernel
theorem dX7_close_32 : decode cX7_close 32 = .ok (.iload_n 2, 1) := by decide +kernel
theorem dX7_close_33 : decode cX7_close 33 = .ok (.daload, 1) := by decide +kernel
theorem dX7_close_34 : decode cX7_close 34 = .ok (.dcmp .l, 1) := by decide +kernel
theorem dX7_close_35 : decode cX7_close 35 = .ok (.ifCond .le 53, 3) := by decide +kernel
theorem dX7_close_38 : decode cX7_close 38 = .ok (.iload_n 1, 1) := by decide +kernel
theorem dX7_close_39 : decode cX7_close 39 = .ok (.ifCond .ne 22, 3) := by decide +kernel
theorem dX7_close_42 : decode cX7_close 42 = .ok (.dload_n 3, 1) := by decide +kernel
theorem dX7_close_43 : decode cX7_close 43 = .ok (.ldc2_w 98, 3) := by decide +kernel
theorem dX7_close_46 : decode cX7_close 46 = .ok (.dmul, 1) := by decide +kernel
theorem dX7_close_47 : decode cX7_close 47 = .ok (.aload_n 0, 1) := by decide +kernel
theorem dX7_close_48 : decode cX7_close 48 = .ok (.getfield 40, 3) := by decide +kernel
theorem dX7_close_51 : decode cX7_close 51 = .ok (.iload_n 2, 1) := by decide +kernel
theorem dX7_close_52 : decode cX7_close 52 = .ok (.daload, 1) := by decide +kernel
theorem dX7_close_53 : decode cX7_close 53 = .ok (.ldc2_w 125, 3) := by decide +kernel
theorem dX7_close_56 : decode cX7_close 56 = .ok (.dmul, 1) := by decide +kernel
theorem dX7_close_57 : decode cX7_close 57 = .ok (.dcmp .l, 1) := by decide +kernel
theorem dX7_close_58 : decode cX7_close 58 = .ok (.ifCond .le 7, 3) := by decide +kernel
theorem dX7_close_61 : decode cX7_close 61 = .ok (.iconst 1, 1) := by decide +kernel
theorem dX7_close_62 : decode cX7_close 62 = .ok (.goto 4, 3) := by decide +kernel
theorem dX7_close_65 : decode cX7_close 65 = .ok (.iconst 0, 1) := by decide +kernel
theorem dX7_close_66 : decode cX7_close 66 = .ok (.istore_n 1, 1) := by decide +kernel
theorem dX7_close_67 : decode cX7_close 67 = .ok (.aload_n 0, 1) := by decide +kernel
theorem dX7_close_68 : decode cX7_close 68 = .ok (.getfield 46, 3) := by decide +kernel
theorem dX7_close_71 : decode cX7_close 71 = .ok (.iload_n 2, 1) := by decide +kernel
theorem dX7_close_72 : decode cX7_close 72 = .ok (.aload_n 0, 1) := by decide +kernel
theorem dX7_close_73 : decode cX7_close 73 = .ok (.getfield 46, 3) := by decide +kernel
theorem dX7_close_76 : decode cX7_close 76 = .ok (.iload_n 2, 1) := by decide +kernel
theorem dX7_close_77 : decode cX7_close 77 = .ok (.daload, 1) := by decide +kernel
theorem dX7_close_78 : decode cX7_close 78 = .ok (.aload_n 0, 1) := by decide +kernel
theorem dX7_close_79 : decode cX7_close 79 = .ok (.getfield 40, 3) := by decide +kernel
theorem dX7_close_82 : decode cX7_close 82 = .ok (.iload_n 2, 1) := by decide +kernel
theorem dX7_close_83 : decode cX7_close 83 = .ok (.daload, 1) := by decide +kernel
theorem dX7_close_84 : decode cX7_close 84 = .ok (.dmul, 1) := by decide +kernel
theorem dX7_close_85 : decode cX7_close 85 = .ok (.dload_n 3, 1) := by decide +kernel
theorem dX7_close_86 : decode cX7_close 86 = .ok (.ddiv, 1) := by decide +kernel
theorem dX7_close_87 : decode cX7_close 87 = .ok (.dastore, 1) := by decide +kernel
theorem dX7_close_88 : decode cX7_close 88 = .ok (.iinc 2 1, 3) := by decide +kernel
theorem dX7_close_91 : decode cX7_close 91 = .ok (.goto (-87), 3) := by decide +kernel
theorem dX7_close_94 : decode cX7_close 94 = .ok (.iload_n 1, 1) := by decide +kernel
theorem dX7_close_95 : decode cX7_close 95 = .ok (.ireturn, 1) := by decide +kernel
set_option maxRecDepth 20000 in
theorem ggX7_solveNow_X7_round : GoodIn wsX7_solveNow wsX7_round := goodIn_r _ [13, 14, 15, 6, 1, 16, 17, 18, 19, 20, 12, 21, 3, 2, 22, 5, 23, 24, 25, 26, 27, 28, 29, 30, 31, 32, 33, 34, 35, 47, 48, 49, 50, 51, 52, 53, 54, 55, 56, 57, 58, 59, 60, 61, 62, 63, 64, 65, 66, 67, 68, 69, 70] (by decide +kernel) (by decide +kernel)
set_option maxRecDepth 20000 in
theorem gX7_solveNow_X7_round : GoodIn wsX7_solveNow (wsV RX7 127 RX7 yX7_round wsX7_round) := goodIn_app (goodIn_of _ (by decide +kernel)) ggX7_solveNow_X7_round
set_option maxRecDepth 20000 in
theorem ggX7_solveNow_X7_close : GoodIn wsX7_solveNow wsX7_close := goodIn_r _ [39, 3, 2, 40, 41, 42, 5, 43, 44, 45, 12, 46, 23, 1, 22, 47, 48, 49, 50, 51, 52, 53, 54, 55, 56, 57, 58, 59, 60, 61, 62, 63, 64, 65, 66, 67, 68, 69, 70] (by decide +kernel) (by decide +kernel)
set_option maxRecDepth 20000 in
theorem gX7_solveNow_X7_close : GoodIn wsX7_solveNow (wsV RX7 133 RX7 yX7_close wsX7_close) := goodIn_app (goodIn_of _ (by decide +kernel)) ggX7_solveNow_X7_close
theorem dX7_solveNow_0 : decode cX7_solveNow 0 = .ok (.iconst 0, 1) := by decide +kernel
theorem dX7_solveNow_1 : decode cX7_solveNow 1 = .ok (.istore_n 2, 1) := by decide +kernel
theorem dX7_solveNow_2 : decode cX7_solveNow 2 = .ok (.iload_n 2, 1) := by decide +kernel
theorem dX7_solveNow_3 : decode cX7_solveNow 3 = .ok (.bipush 10, 2) := by decide +kernel
theorem dX7_solveNow_5 : decode cX7_solveNow 5 = .ok (.if_icmp .ge 16, 3) := by decide +kernel
theorem dX7_solveNow_8 : decode cX7_solveNow 8 = .ok (.aload_n 0, 1) := by decide +kernel
theorem dX7_solveNow_9 : decode cX7_solveNow 9 = .ok (.getfield 63, 3) := by decide +kernel
theorem dX7_solveNow_12 : decode cX7_solveNow 12 = .ok (.iload_n 2, 1) := by decide +kernel
theorem dX7_solveNow_13 : decode cX7_solveNow 13 = .ok (.dconst 0, 1) := by decide +kernel
theorem dX7_solveNow_14 : decode cX7_solveNow 14 = .ok (.dastore, 1) := by decide +kernel
theorem dX7_solveNow_15 : decode cX7_solveNow 15 = .ok (.iinc 2 1, 3) := by decide +kernel
theorem dX7_solveNow_18 : decode cX7_solveNow 18 = .ok (.goto (-16), 3) := by decide +kernel
theorem dX7_solveNow_21 : decode cX7_solveNow 21 = .ok (.iconst 0, 1) := by decide +kernel
theorem dX7_solveNow_22 : decode cX7_solveNow 22 = .ok (.istore_n 2, 1) := by decide +kernel
theorem dX7_solveNow_23 : decode cX7_solveNow 23 = .ok (.iload_n 2, 1) := by decide +kernel
theorem dX7_solveNow_24 : decode cX7_solveNow 24 = .ok (.bipush 8, 2) := by decide +kernel
theorem dX7_solveNow_26 : decode cX7_solveNow 26 = .ok (.if_icmp .ge 62, 3) := by decide +kernel
theorem dX7_solveNow_29 : decode cX7_solveNow 29 = .ok (.aload_n 0, 1) := by decide +kernel
theorem dX7_solveNow_30 : decode cX7_solveNow 30 = .ok (.getfield 49, 3) := by decide +kernel
theorem dX7_solveNow_33 : decode cX7_solveNow 33 = .ok (.iload_n 2, 1) := by decide +kernel
theorem dX7_solveNow_34 : decode cX7_solveNow 34 = .ok (.iload_n 2, 1) := by decide +kernel
theorem dX7_solveNow_35 : decode cX7_solveNow 35 = .ok (.aload_n 0, 1) := by decide +kernel
theorem dX7_solveNow_36 : decode cX7_solveNow 36 = .ok (.getfield 100, 3) := by decide +kernel
theorem dX7_solveNow_39 : decode cX7_solveNow 39 = .ok (.if_icmp .ge 21, 3) := by decide +kernel
theorem dX7_solveNow_42 : decode cX7_solveNow 42 = .ok (.aload_n 0, 1) := by decide +kernel
theorem dX7_solveNow_43 : decode cX7_solveNow 43 = .ok (.getfield 43, 3) := by decide +kernel
theorem dX7_solveNow_46 : decode cX7_solveNow 46 = .ok (.bipush 8, 2) := by decide +kernel
theorem dX7_solveNow_48 : decode cX7_solveNow 48 = .ok (.iload_n 1, 1) := by decide +kernel
theorem dX7_solveNow_49 : decode cX7_solveNow 49 = .ok (.imul, 1) := by decide +kernel
theorem dX7_solveNow_50 : decode cX7_solveNow 50 = .ok (.iload_n 2, 1) := by decide +kernel
theorem dX7_solveNow_51 : decode cX7_solveNow 51 = .ok (.iadd, 1) := by decide +kernel
theorem dX7_solveNow_52 : decode cX7_solveNow 52 = .ok (.baload, 1) := by decide +kernel
theorem dX7_solveNow_53 : decode cX7_solveNow 53 = .ok (.ifCond .eq 7, 3) := by decide +kernel
theorem dX7_solveNow_56 : decode cX7_solveNow 56 = .ok (.iconst 1, 1) := by decide +kernel
theorem dX7_solveNow_57 : decode cX7_solveNow 57 = .ok (.goto 4, 3) := by decide +kernel
theorem dX7_solveNow_60 : decode cX7_solveNow 60 = .ok (.iconst 0, 1) := by decide +kernel
theorem dX7_solveNow_61 : decode cX7_solveNow 61 = .ok (.bastore, 1) := by decide +kernel
theorem dX7_solveNow_62 : decode cX7_solveNow 62 = .ok (.aload_n 0, 1) := by decide +kernel
theorem dX7_solveNow_63 : decode cX7_solveNow 63 = .ok (.getfield 46, 3) := by decide +kernel
theorem dX7_solveNow_66 : decode cX7_solveNow 66 = .ok (.iload_n 2, 1) := by decide +kernel
theorem dX7_solveNow_67 : decode cX7_solveNow 67 = .ok (.aload_n 0, 1) := by decide +kernel
theorem dX7_solveNow_68 : decode cX7_solveNow 68 = .ok (.getfield 49, 3) := by decide +kernel
theorem dX7_solveNow_71 : decode cX7_solveNow 71 = .ok (.iload_n 2, 1) := by decide +kernel
theorem dX7_solveNow_72 : decode cX7_solveNow 72 = .ok (.baload, 1) := by decide +kernel
theorem dX7_solveNow_73 : decode cX7_solveNow 73 = .ok (.ifCond .eq 7, 3) := by decide +kernel
theorem dX7_solveNow_76 : decode cX7_solveNow 76 = .ok (.dconst 1, 1) := by decide +kernel
theorem dX7_solveNow_77 : decode cX7_solveNow 77 = .ok (.goto 4, 3) := by decide +kernel
theorem dX7_solveNow_80 : decode cX7_solveNow 80 = .ok (.dconst 0, 1) := by decide +kernel
theorem dX7_solveNow_81 : decode cX7_solveNow 81 = .ok (.dastore, 1) := by decide +kernel
theorem dX7_solveNow_82 : decode cX7_solveNow 82 = .ok (.iinc 2 1, 3) := by decide +kernel
theorem dX7_solveNow_85 : decode cX7_solveNow 85 = .ok (.goto (-62), 3) := by decide +kernel
theorem dX7_solveNow_88 : decode cX7_solveNow 88 = .ok (.aload_n 0, 1) := by decide +kernel
theorem dX7_solveNow_89 : decode cX7_solveNow 89 = .ok (.dconst 0, 1) := by decide +kernel
theorem dX7_solveNow_90 : decode cX7_solveNow 90 = .ok (.putfield 116, 3) := by decide +kernel
theorem dX7_solveNow_93 : decode cX7_solveNow 93 = .ok (.aload_n 0, 1) := by decide +kernel
theorem dX7_solveNow_94 : decode cX7_solveNow 94 = .ok (.iconst 0, 1) := by decide +kernel
theorem dX7_solveNow_95 : decode cX7_solveNow 95 = .ok (.putfield 75, 3) := by decide +kernel
theorem dX7_solveNow_98 : decode cX7_solveNow 98 = .ok (.iconst 0, 1) := by decide +kernel
theorem dX7_solveNow_99 : decode cX7_solveNow 99 = .ok (.istore_n 2, 1) := by decide +kernel
theorem dX7_solveNow_100 : decode cX7_solveNow 100 = .ok (.iconst 1, 1) := by decide +kernel
theorem dX7_solveNow_101 : decode cX7_solveNow 101 = .ok (.istore_n 3, 1) := by decide +kernel
theorem dX7_solveNow_102 : decode cX7_solveNow 102 = .ok (.iload_n 3, 1) := by decide +kernel
theorem dX7_solveNow_103 : decode cX7_solveNow 103 = .ok (.bipush 10, 2) := by decide +kernel
theorem dX7_solveNow_105 : decode cX7_solveNow 105 = .ok (.if_icmp .gt 77, 3) := by decide +kernel
theorem dX7_solveNow_108 : decode cX7_solveNow 108 = .ok (.iconst 0, 1) := by decide +kernel
theorem dX7_solveNow_109 : decode cX7_solveNow 109 = .ok (.istore 4, 2) := by decide +kernel
theorem dX7_solveNow_111 : decode cX7_solveNow 111 = .ok (.iconst 1, 1) := by decide +kernel
theorem dX7_solveNow_112 : decode cX7_solveNow 112 = .ok (.istore 5, 2) := by decide +kernel
theorem dX7_solveNow_114 : decode cX7_solveNow 114 = .ok (.iload 5, 2) := by decide +kernel
theorem dX7_solveNow_116 : decode cX7_solveNow 116 = .ok (.ifCond .eq 45, 3) := by decide +kernel
theorem dX7_solveNow_119 : decode cX7_solveNow 119 = .ok (.aload_n 0, 1) := by decide +kernel
theorem dX7_solveNow_120 : decode cX7_solveNow 120 = .ok (.invokevirtual 127, 3) := by decide +kernel
theorem dX7_solveNow_123 : decode cX7_solveNow 123 = .ok (.dstore 6, 2) := by decide +kernel
theorem dX7_solveNow_125 : decode cX7_solveNow 125 = .ok (.iinc 4 1, 3) := by decide +kernel
theorem dX7_solveNow_128 : decode cX7_solveNow 128 = .ok (.dload 6, 2) := by decide +kernel
theorem dX7_solveNow_130 : decode cX7_solveNow 130 = .ok (.ldc2_w 131, 3) := by decide +kernel
theorem dX7_solveNow_133 : decode cX7_solveNow 133 = .ok (.dcmp .l, 1) := by decide +kernel
theorem dX7_solveNow_134 : decode cX7_solveNow 134 = .ok (.ifCond .lt 7, 3) := by decide +kernel
theorem dX7_solveNow_137 : decode cX7_solveNow 137 = .ok (.iconst 1, 1) := by decide +kernel
theorem dX7_solveNow_138 : decode cX7_solveNow 138 = .ok (.goto 4, 3) := by decide +kernel
theorem dX7_solveNow_141 : decode cX7_solveNow 141 = .ok (.iconst 0, 1) := by decide +kernel
theorem dX7_solveNow_142 : decode cX7_solveNow 142 = .ok (.istore 5, 2) := by decide +kernel
theorem dX7_solveNow_144 : decode cX7_solveNow 144 = .ok (.iload 5, 2) := by decide +kernel
theorem dX7_solveNow_146 : decode cX7_solveNow 146 = .ok (.ifCond .eq 12, 3) := by decide +kernel
theorem dX7_solveNow_149 : decode cX7_solveNow 149 = .ok (.iload 4, 2) := by decide +kernel
theorem dX7_solveNow_151 : decode cX7_solveNow 151 = .ok (.bipush 100, 2) := by decide +kernel
theorem dX7_solveNow_153 : decode cX7_solveNow 153 = .ok (.if_icmp .ne 5, 3) := by decide +kernel
theorem dX7_solveNow_156 : decode cX7_solveNow 156 = .ok (.iconst (-1), 1) := by decide +kernel
theorem dX7_solveNow_157 : decode cX7_solveNow 157 = .ok (.ireturn, 1) := by decide +kernel
theorem dX7_solveNow_158 : decode cX7_solveNow 158 = .ok (.goto (-44), 3) := by decide +kernel
theorem dX7_solveNow_161 : decode cX7_solveNow 161 = .ok (.iload_n 2, 1) := by decide +kernel
theorem dX7_solveNow_162 : decode cX7_solveNow 162 = .ok (.iload 4, 2) := by decide +kernel
theorem dX7_solveNow_164 : decode cX7_solveNow 164 = .ok (.iadd, 1) := by decide +kernel
theorem dX7_solveNow_165 : decode cX7_solveNow 165 = .ok (.istore_n 2, 1) := by decide +kernel
theorem dX7_solveNow_166 : decode cX7_solveNow 166 = .ok (.aload_n 0, 1) := by decide +kernel
theorem dX7_solveNow_167 : decode cX7_solveNow 167 = .ok (.invokevirtual 133, 3) := by decide +kernel
theorem dX7_solveNow_170 : decode cX7_solveNow 170 = .ok (.ifCond .ne 6, 3) := by decide +kernel
theorem dX7_solveNow_173 : decode cX7_solveNow 173 = .ok (.goto 9, 3) := by decide +kernel
theorem dX7_solveNow_176 : decode cX7_solveNow 176 = .ok (.iinc 3 1, 3) := by decide +kernel
theorem dX7_solveNow_179 : decode cX7_solveNow 179 = .ok (.goto (-77), 3) := by decide +kernel
theorem dX7_solveNow_182 : decode cX7_solveNow 182 = .ok (.aload_n 0, 1) := by decide +kernel
theorem dX7_solveNow_183 : decode cX7_solveNow 183 = .ok (.iconst 1, 1) := by decide +kernel
theorem dX7_solveNow_184 : decode cX7_solveNow 184 = .ok (.putfield 75, 3) := by decide +kernel
theorem dX7_solveNow_187 : decode cX7_solveNow 187 = .ok (.iload_n 2, 1) := by decide +kernel
theorem dX7_solveNow_188 : decode cX7_solveNow 188 = .ok (.ireturn, 1) := by decide +kernel
set_option maxRecDepth 20000 in
theorem ggX7_solve_X7_isIn : GoodIn wsX7_solve wsX7_isIn := goodIn_r _ [5] (by decide +kernel) (by decide +kernel)
set_option maxRecDepth 20000 in
theorem gX7_solve_X7_isIn : GoodIn wsX7_solve (va_wsS RX7 79 yX7_isIn wsX7_isIn) := goodIn_app (goodIn_of _ (by decide +kernel)) ggX7_solve_X7_isIn
set_option maxRecDepth 20000 in
theorem ggX7_solve_X7_solveNow : GoodIn wsX7_solve wsX7_solveNow := goodIn_r _ [9, 10, 11, 12, 13, 14, 15, 16, 17, 18, 19, 20, 4, 21, 22, 23, 24, 25, 26, 27, 28, 29, 30, 31, 32, 33, 34, 35, 36, 37, 38, 39, 40, 41, 42, 43, 44, 45, 46, 47, 48, 49, 50, 51, 52, 53, 54, 55, 56, 57, 58, 59, 60, 61, 62, 63, 64, 65, 66, 67, 68, 69, 70, 71, 72, 73, 74, 75, 76, 77, 78] (by decide +kernel) (by decide +kernel)
set_option maxRecDepth 20000 in
theorem gX7_solve_X7_solveNow : GoodIn wsX7_solve (wsV RX7 137 RX7 yX7_solveNow wsX7_solveNow) := goodIn_app (goodIn_of _ (by decide +kernel)) ggX7_solve_X7_solveNow
theorem dX7_solve_0 : decode cX7_solve 0 = .ok (.aload_n 0, 1) := by decide +kernel
theorem dX7_solve_1 : decode cX7_solve 1 = .ok (.iload_n 1, 1) := by decide +kernel
theorem dX7_solve_2 : decode cX7_solve 2 = .ok (.iconst 0, 1) := by decide +kernel
theorem dX7_solve_3 : decode cX7_solve 3 = .ok (.iconst 3, 1) := by decide +kernel
theorem dX7_solve_4 : decode cX7_solve 4 = .ok (.invokestatic 79, 3) := by decide +kernel
theorem dX7_solve_7 : decode cX7_solve 7 = .ok (.ifCond .eq 7, 3) := by decide +kernel
theorem dX7_solve_10 : decode cX7_solve 10 = .ok (.iconst 0, 1) := by decide +kernel
theorem dX7_solve_11 : decode cX7_solve 11 = .ok (.goto 4, 3) := by decide +kernel
theorem dX7_solve_14 : decode cX7_solve 14 = .ok (.iconst 1, 1) := by decide +kernel
theorem dX7_solve_15 : decode cX7_solve 15 = .ok (.putfield 72, 3) := by decide +kernel
theorem dX7_solve_18 : decode cX7_solve 18 = .ok (.aload_n 0, 1) := by decide +kernel
theorem dX7_solve_19 : decode cX7_solve 19 = .ok (.getfield 72, 3) := by decide +kernel
theorem dX7_solve_22 : decode cX7_solve 22 = .ok (.ifCond .le 7, 3) := by decide +kernel
theorem dX7_solve_25 : decode cX7_solve 25 = .ok (.iconst 0, 1) := by decide +kernel
theorem dX7_solve_26 : decode cX7_solve 26 = .ok (.goto 8, 3) := by decide +kernel
theorem dX7_solve_29 : decode cX7_solve 29 = .ok (.aload_n 0, 1) := by decide +kernel
theorem dX7_solve_30 : decode cX7_solve 30 = .ok (.iload_n 1, 1) := by decide +kernel
theorem dX7_solve_31 : decode cX7_solve 31 = .ok (.invokevirtual 137, 3) := by decide +kernel
theorem dX7_solve_34 : decode cX7_solve 34 = .ok (.ireturn, 1) := by decide +kernel
set_option maxRecDepth 20000 in
theorem ggX7_flowOf_X7_ease : GoodIn wsX7_flowOf wsX7_ease := goodIn_r _ [8, 9, 10, 11, 12, 13, 14, 15, 16, 17, 18, 19, 20, 21, 22, 23, 24, 25, 26, 27, 28, 29, 30, 31, 32, 33, 34] (by decide +kernel) (by decide +kernel)
set_option maxRecDepth 20000 in
theorem gX7_flowOf_X7_ease : GoodIn wsX7_flowOf (wsV RX7 110 RX7 yX7_ease wsX7_ease) := goodIn_app (goodIn_of _ (by decide +kernel)) ggX7_flowOf_X7_ease
theorem dX7_flowOf_0 : decode cX7_flowOf 0 = .ok (.aload_n 0, 1) := by decide +kernel
theorem dX7_flowOf_1 : decode cX7_flowOf 1 = .ok (.iload_n 1, 1) := by decide +kernel
theorem dX7_flowOf_2 : decode cX7_flowOf 2 = .ok (.invokevirtual 110, 3) := by decide +kernel
theorem dX7_flowOf_5 : decode cX7_flowOf 5 = .ok (.aload_n 0, 1) := by decide +kernel
theorem dX7_flowOf_6 : decode cX7_flowOf 6 = .ok (.getfield 63, 3) := by decide +kernel
theorem dX7_flowOf_9 : decode cX7_flowOf 9 = .ok (.aload_n 0, 1) := by decide +kernel
theorem dX7_flowOf_10 : decode cX7_flowOf 10 = .ok (.getfield 13, 3) := by decide +kernel
theorem dX7_flowOf_13 : decode cX7_flowOf 13 = .ok (.iload_n 1, 1) := by decide +kernel
theorem dX7_flowOf_14 : decode cX7_flowOf 14 = .ok (.iaload, 1) := by decide +kernel
theorem dX7_flowOf_15 : decode cX7_flowOf 15 = .ok (.daload, 1) := by decide +kernel
theorem dX7_flowOf_16 : decode cX7_flowOf 16 = .ok (.aload_n 0, 1) := by decide +kernel
theorem dX7_flowOf_17 : decode cX7_flowOf 17 = .ok (.getfield 63, 3) := by decide +kernel
theorem dX7_flowOf_20 : decode cX7_flowOf 20 = .ok (.aload_n 0, 1) := by decide +kernel
theorem dX7_flowOf_21 : decode cX7_flowOf 21 = .ok (.getfield 17, 3) := by decide +kernel
theorem dX7_flowOf_24 : decode cX7_flowOf 24 = .ok (.iload_n 1, 1) := by decide +kernel
theorem dX7_flowOf_25 : decode cX7_flowOf 25 = .ok (.iaload, 1) := by decide +kernel
theorem dX7_flowOf_26 : decode cX7_flowOf 26 = .ok (.daload, 1) := by decide +kernel
theorem dX7_flowOf_27 : decode cX7_flowOf 27 = .ok (.dsub, 1) := by decide +kernel
theorem dX7_flowOf_28 : decode cX7_flowOf 28 = .ok (.dmul, 1) := by decide +kernel
theorem dX7_flowOf_29 : decode cX7_flowOf 29 = .ok (.dreturn, 1) := by decide +kernel
theorem dX7_isWrong_0 : decode cX7_isWrong 0 = .ok (.aload_n 0, 1) := by decide +kernel
theorem dX7_isWrong_1 : decode cX7_isWrong 1 = .ok (.iload_n 1, 1) := by decide +kernel
theorem dX7_isWrong_2 : decode cX7_isWrong 2 = .ok (.ifCond .ne 7, 3) := by decide +kernel
theorem dX7_isWrong_5 : decode cX7_isWrong 5 = .ok (.iconst 1, 1) := by decide +kernel
theorem dX7_isWrong_6 : decode cX7_isWrong 6 = .ok (.goto 15, 3) := by decide +kernel
theorem dX7_isWrong_9 : decode cX7_isWrong 9 = .ok (.aload_n 0, 1) := by decide +kernel
theorem dX7_isWrong_10 : decode cX7_isWrong 10 = .ok (.getfield 75, 3) := by decide +kernel
theorem dX7_isWrong_13 : decode cX7_isWrong 13 = .ok (.ifCond .ne 7, 3) := by decide +kernel
theorem dX7_isWrong_16 : decode cX7_isWrong 16 = .ok (.iconst 2, 1) := by decide +kernel
theorem dX7_isWrong_17 : decode cX7_isWrong 17 = .ok (.goto 4, 3) := by decide +kernel
theorem dX7_isWrong_20 : decode cX7_isWrong 20 = .ok (.iconst 0, 1) := by decide +kernel
theorem dX7_isWrong_21 : decode cX7_isWrong 21 = .ok (.putfield 72, 3) := by decide +kernel
theorem dX7_isWrong_24 : decode cX7_isWrong 24 = .ok (.aload_n 0, 1) := by decide +kernel
theorem dX7_isWrong_25 : decode cX7_isWrong 25 = .ok (.getfield 72, 3) := by decide +kernel
theorem dX7_isWrong_28 : decode cX7_isWrong 28 = .ok (.ifCond .le 7, 3) := by decide +kernel
theorem dX7_isWrong_31 : decode cX7_isWrong 31 = .ok (.iconst 1, 1) := by decide +kernel
theorem dX7_isWrong_32 : decode cX7_isWrong 32 = .ok (.goto 4, 3) := by decide +kernel
theorem dX7_isWrong_35 : decode cX7_isWrong 35 = .ok (.iconst 0, 1) := by decide +kernel
theorem dX7_isWrong_36 : decode cX7_isWrong 36 = .ok (.ireturn, 1) := by decide +kernel
set_option maxRecDepth 20000 in
theorem ggX7_at_X7_isJoint : GoodIn wsX7_at wsX7_isJoint := goodIn_r _ [12, 13, 14, 15, 11, 16, 39, 40, 41, 42, 43, 44, 45, 46, 47, 48, 49, 50, 51, 52, 53, 54, 55, 56, 57, 58, 59, 60, 61, 62] (by decide +kernel) (by decide +kernel)
set_option maxRecDepth 20000 in
theorem gX7_at_X7_isJoint : GoodIn wsX7_at (wsV RX7 91 RX7 yX7_isJoint wsX7_isJoint) := goodIn_app (goodIn_of _ (by decide +kernel)) ggX7_at_X7_isJoint
set_option maxRecDepth 20000 in
theorem ggX7_at_X7_isIn : GoodIn wsX7_at wsX7_isIn := goodIn_r _ [16] (by decide +kernel) (by decide +kernel)
set_option maxRecDepth 20000 in
theorem gX7_at_X7_isIn : GoodIn wsX7_at (va_wsS RX7 79 yX7_isIn wsX7_isIn) := goodIn_app (goodIn_of _ (by decide +kernel)) ggX7_at_X7_isIn
set_option maxRecDepth 20000 in
theorem ggX7_at_X7_isWrong : GoodIn wsX7_at wsX7_isWrong := goodIn_r _ [20, 21, 22, 39, 40, 41, 42, 43, 44, 45, 46, 47, 48, 49, 50, 51, 52, 53, 54, 55, 56, 57, 58, 59, 60, 61, 62] (by decide +kernel) (by decide +kernel)
set_option maxRecDepth 20000 in
theorem gX7_at_X7_isWrong : GoodIn wsX7_at (wsV RX7 141 RX7 yX7_isWrong wsX7_isWrong) := goodIn_app (goodIn_of _ (by decide +kernel)) ggX7_at_X7_isWrong
set_option maxRecDepth 20000 in
theorem ggX7_at_X7_flowOf : GoodIn wsX7_at wsX7_flowOf := goodIn_r _ [26, 1, 4, 3, 27, 28, 29, 11, 30, 31, 32, 39, 40, 41, 42, 43, 44, 45, 46, 47, 48, 49, 50, 51, 52, 53, 54, 55, 56, 57, 58, 59, 60, 61, 62] (by decide +kernel) (by decide +kernel)
set_option maxRecDepth 20000 in
theorem gX7_at_X7_flowOf : GoodIn wsX7_at (wsV RX7 145 RX7 yX7_flowOf wsX7_flowOf) := goodIn_app (goodIn_of _ (by decide +kernel)) ggX7_at_X7_flowOf
set_option maxRecDepth 20000 in
theorem ggX7_at_X7_drawOf : GoodIn wsX7_at wsX7_drawOf := goodIn_r _ [36, 6, 37, 38, 1, 7, 39, 40, 41, 42, 43, 44, 45, 46, 47, 48, 49, 50, 51, 52, 53, 54, 55, 56, 57, 58, 59, 60, 61, 62] (by decide +kernel) (by decide +kernel)
set_option maxRecDepth 20000 in
theorem gX7_at_X7_drawOf : GoodIn wsX7_at (wsV RX7 122 RX7 yX7_drawOf wsX7_drawOf) := goodIn_app (goodIn_of _ (by decide +kernel)) ggX7_at_X7_drawOf
theorem dX7_at_0 : decode cX7_at 0 = .ok (.aload_n 0, 1) := by decide +kernel
theorem dX7_at_1 : decode cX7_at 1 = .ok (.aload_n 0, 1) := by decide +kernel
theorem dX7_at_2 : decode cX7_at 2 = .ok (.iload_n 1, 1) := by decide +kernel
theorem dX7_at_3 : decode cX7_at 3 = .ok (.invokevirtual 91, 3) := by decide +kernel
theorem dX7_at_6 : decode cX7_at 6 = .ok (.ifCond .eq 16, 3) := by decide +kernel
theorem dX7_at_9 : decode cX7_at 9 = .ok (.iload_n 2, 1) := by decide +kernel
theorem dX7_at_10 : decode cX7_at 10 = .ok (.iconst 0, 1) := by decide +kernel
theorem dX7_at_11 : decode cX7_at 11 = .ok (.iconst 1, 1) := by decide +kernel
theorem dX7_at_12 : decode cX7_at 12 = .ok (.invokestatic 79, 3) := by decide +kernel
theorem dX7_at_15 : decode cX7_at 15 = .ok (.ifCond .eq 7, 3) := by decide +kernel
theorem dX7_at_18 : decode cX7_at 18 = .ok (.iconst 1, 1) := by decide +kernel
theorem dX7_at_19 : decode cX7_at 19 = .ok (.goto 4, 3) := by decide +kernel
theorem dX7_at_22 : decode cX7_at 22 = .ok (.iconst 0, 1) := by decide +kernel
theorem dX7_at_23 : decode cX7_at 23 = .ok (.invokevirtual 141, 3) := by decide +kernel
theorem dX7_at_26 : decode cX7_at 26 = .ok (.ifCond .eq 5, 3) := by decide +kernel
end
section
theorem dX7_at_29 : decode cX7_at 29 = .ok (.dconst 0, 1) := by decide +kernel
theorem dX7_at_30 : decode cX7_at 30 = .ok (.dreturn, 1) := by decide +kernel
theorem dX7_at_31 : decode cX7_at 31 = .ok (.iload_n 2, 1) := by decide +kernel
theorem dX7_at_32 : decode cX7_at 32 = .ok (.ifCond .ne 10, 3) := by decide +kernel
theorem dX7_at_35 : decode cX7_at 35 = .ok (.aload_n 0, 1) := by decide +kernel
theorem dX7_at_36 : decode cX7_at 36 = .ok (.getfield 63, 3) := by decide +kernel
theorem dX7_at_39 : decode cX7_at 39 = .ok (.iload_n 1, 1) := by decide +kernel
theorem dX7_at_40 : decode cX7_at 40 = .ok (.daload, 1) := by decide +kernel
theorem dX7_at_41 : decode cX7_at 41 = .ok (.dreturn, 1) := by decide +kernel
theorem dX7_at_42 : decode cX7_at 42 = .ok (.dconst 0, 1) := by decide +kernel
theorem dX7_at_43 : decode cX7_at 43 = .ok (.dstore_n 3, 1) := by decide +kernel
theorem dX7_at_44 : decode cX7_at 44 = .ok (.iconst 0, 1) := by decide +kernel
theorem dX7_at_45 : decode cX7_at 45 = .ok (.istore 5, 2) := by decide +kernel
theorem dX7_at_47 : decode cX7_at 47 = .ok (.iload 5, 2) := by decide +kernel
theorem dX7_at_49 : decode cX7_at 49 = .ok (.aload_n 0, 1) := by decide +kernel
theorem dX7_at_50 : decode cX7_at 50 = .ok (.getfield 95, 3) := by decide +kernel
theorem dX7_at_53 : decode cX7_at 53 = .ok (.if_icmp .ge 59, 3) := by decide +kernel
theorem dX7_at_56 : decode cX7_at 56 = .ok (.iload_n 1, 1) := by decide +kernel
theorem dX7_at_57 : decode cX7_at 57 = .ok (.ifCond .le 55, 3) := by decide +kernel
theorem dX7_at_60 : decode cX7_at 60 = .ok (.aload_n 0, 1) := by decide +kernel
theorem dX7_at_61 : decode cX7_at 61 = .ok (.getfield 17, 3) := by decide +kernel
theorem dX7_at_64 : decode cX7_at 64 = .ok (.iload 5, 2) := by decide +kernel
theorem dX7_at_66 : decode cX7_at 66 = .ok (.iaload, 1) := by decide +kernel
theorem dX7_at_67 : decode cX7_at 67 = .ok (.iload_n 1, 1) := by decide +kernel
theorem dX7_at_68 : decode cX7_at 68 = .ok (.if_icmp .ne 14, 3) := by decide +kernel
theorem dX7_at_71 : decode cX7_at 71 = .ok (.dload_n 3, 1) := by decide +kernel
theorem dX7_at_72 : decode cX7_at 72 = .ok (.aload_n 0, 1) := by decide +kernel
theorem dX7_at_73 : decode cX7_at 73 = .ok (.iload 5, 2) := by decide +kernel
theorem dX7_at_75 : decode cX7_at 75 = .ok (.invokevirtual 145, 3) := by decide +kernel
theorem dX7_at_78 : decode cX7_at 78 = .ok (.dadd, 1) := by decide +kernel
theorem dX7_at_79 : decode cX7_at 79 = .ok (.goto 26, 3) := by decide +kernel
theorem dX7_at_82 : decode cX7_at 82 = .ok (.aload_n 0, 1) := by decide +kernel
theorem dX7_at_83 : decode cX7_at 83 = .ok (.getfield 13, 3) := by decide +kernel
theorem dX7_at_86 : decode cX7_at 86 = .ok (.iload 5, 2) := by decide +kernel
theorem dX7_at_88 : decode cX7_at 88 = .ok (.iaload, 1) := by decide +kernel
theorem dX7_at_89 : decode cX7_at 89 = .ok (.iload_n 1, 1) := by decide +kernel
theorem dX7_at_90 : decode cX7_at 90 = .ok (.if_icmp .ne 14, 3) := by decide +kernel
theorem dX7_at_93 : decode cX7_at 93 = .ok (.dload_n 3, 1) := by decide +kernel
theorem dX7_at_94 : decode cX7_at 94 = .ok (.aload_n 0, 1) := by decide +kernel
theorem dX7_at_95 : decode cX7_at 95 = .ok (.iload 5, 2) := by decide +kernel
theorem dX7_at_97 : decode cX7_at 97 = .ok (.invokevirtual 145, 3) := by decide +kernel
theorem dX7_at_100 : decode cX7_at 100 = .ok (.dsub, 1) := by decide +kernel
theorem dX7_at_101 : decode cX7_at 101 = .ok (.goto 4, 3) := by decide +kernel
theorem dX7_at_104 : decode cX7_at 104 = .ok (.dload_n 3, 1) := by decide +kernel
theorem dX7_at_105 : decode cX7_at 105 = .ok (.dstore_n 3, 1) := by decide +kernel
theorem dX7_at_106 : decode cX7_at 106 = .ok (.iinc 5 1, 3) := by decide +kernel
theorem dX7_at_109 : decode cX7_at 109 = .ok (.goto (-62), 3) := by decide +kernel
theorem dX7_at_112 : decode cX7_at 112 = .ok (.iconst 0, 1) := by decide +kernel
theorem dX7_at_113 : decode cX7_at 113 = .ok (.istore 5, 2) := by decide +kernel
theorem dX7_at_115 : decode cX7_at 115 = .ok (.iload 5, 2) := by decide +kernel
theorem dX7_at_117 : decode cX7_at 117 = .ok (.aload_n 0, 1) := by decide +kernel
theorem dX7_at_118 : decode cX7_at 118 = .ok (.getfield 100, 3) := by decide +kernel
theorem dX7_at_121 : decode cX7_at 121 = .ok (.if_icmp .ge 47, 3) := by decide +kernel
theorem dX7_at_124 : decode cX7_at 124 = .ok (.iload_n 1, 1) := by decide +kernel
theorem dX7_at_125 : decode cX7_at 125 = .ok (.ifCond .le 43, 3) := by decide +kernel
theorem dX7_at_128 : decode cX7_at 128 = .ok (.aload_n 0, 1) := by decide +kernel
theorem dX7_at_129 : decode cX7_at 129 = .ok (.getfield 49, 3) := by decide +kernel
theorem dX7_at_132 : decode cX7_at 132 = .ok (.iload 5, 2) := by decide +kernel
theorem dX7_at_134 : decode cX7_at 134 = .ok (.baload, 1) := by decide +kernel
theorem dX7_at_135 : decode cX7_at 135 = .ok (.ifCond .eq 25, 3) := by decide +kernel
theorem dX7_at_138 : decode cX7_at 138 = .ok (.aload_n 0, 1) := by decide +kernel
theorem dX7_at_139 : decode cX7_at 139 = .ok (.getfield 37, 3) := by decide +kernel
theorem dX7_at_142 : decode cX7_at 142 = .ok (.iload 5, 2) := by decide +kernel
theorem dX7_at_144 : decode cX7_at 144 = .ok (.iaload, 1) := by decide +kernel
theorem dX7_at_145 : decode cX7_at 145 = .ok (.iload_n 1, 1) := by decide +kernel
theorem dX7_at_146 : decode cX7_at 146 = .ok (.if_icmp .ne 14, 3) := by decide +kernel
theorem dX7_at_149 : decode cX7_at 149 = .ok (.dload_n 3, 1) := by decide +kernel
theorem dX7_at_150 : decode cX7_at 150 = .ok (.aload_n 0, 1) := by decide +kernel
theorem dX7_at_151 : decode cX7_at 151 = .ok (.iload 5, 2) := by decide +kernel
theorem dX7_at_153 : decode cX7_at 153 = .ok (.invokevirtual 122, 3) := by decide +kernel
theorem dX7_at_156 : decode cX7_at 156 = .ok (.dadd, 1) := by decide +kernel
theorem dX7_at_157 : decode cX7_at 157 = .ok (.goto 4, 3) := by decide +kernel
theorem dX7_at_160 : decode cX7_at 160 = .ok (.dload_n 3, 1) := by decide +kernel
theorem dX7_at_161 : decode cX7_at 161 = .ok (.dstore_n 3, 1) := by decide +kernel
theorem dX7_at_162 : decode cX7_at 162 = .ok (.iinc 5 1, 3) := by decide +kernel
theorem dX7_at_165 : decode cX7_at 165 = .ok (.goto (-50), 3) := by decide +kernel
theorem dX7_at_168 : decode cX7_at 168 = .ok (.dload_n 3, 1) := by decide +kernel
theorem dX7_at_169 : decode cX7_at 169 = .ok (.dreturn, 1) := by decide +kernel
theorem dX7_sizeOf_0 : decode cX7_sizeOf 0 = .ok (.dload_n 0, 1) := by decide +kernel
theorem dX7_sizeOf_1 : decode cX7_sizeOf 1 = .ok (.dconst 0, 1) := by decide +kernel
theorem dX7_sizeOf_2 : decode cX7_sizeOf 2 = .ok (.dcmp .g, 1) := by decide +kernel
theorem dX7_sizeOf_3 : decode cX7_sizeOf 3 = .ok (.ifCond .ge 8, 3) := by decide +kernel
theorem dX7_sizeOf_6 : decode cX7_sizeOf 6 = .ok (.dload_n 0, 1) := by decide +kernel
theorem dX7_sizeOf_7 : decode cX7_sizeOf 7 = .ok (.dneg, 1) := by decide +kernel
theorem dX7_sizeOf_8 : decode cX7_sizeOf 8 = .ok (.goto 4, 3) := by decide +kernel
theorem dX7_sizeOf_11 : decode cX7_sizeOf 11 = .ok (.dload_n 0, 1) := by decide +kernel
theorem dX7_sizeOf_12 : decode cX7_sizeOf 12 = .ok (.dreturn, 1) := by decide +kernel
set_option maxRecDepth 20000 in
theorem ggX7_speedOf_X7_flowOf : GoodIn wsX7_speedOf wsX7_flowOf := goodIn_r _ [6, 7, 8, 9, 10, 11, 12, 5, 13, 1, 14, 18, 19, 20, 21, 22, 23, 24, 25, 26, 27, 28, 29, 30, 31, 32, 33, 34, 35, 36, 37, 38, 39, 40, 41] (by decide +kernel) (by decide +kernel)
set_option maxRecDepth 20000 in
theorem gX7_speedOf_X7_flowOf : GoodIn wsX7_speedOf (wsV RX7 145 RX7 yX7_flowOf wsX7_flowOf) := goodIn_app (goodIn_of _ (by decide +kernel)) ggX7_speedOf_X7_flowOf
set_option maxRecDepth 20000 in
theorem ggX7_speedOf_X7_sizeOf : GoodIn wsX7_speedOf wsX7_sizeOf := goodIn_r _ [17] (by decide +kernel) (by decide +kernel)
set_option maxRecDepth 20000 in
theorem gX7_speedOf_X7_sizeOf : GoodIn wsX7_speedOf (va_wsS RX7 148 yX7_sizeOf wsX7_sizeOf) := goodIn_app (goodIn_of _ (by decide +kernel)) ggX7_speedOf_X7_sizeOf
theorem dX7_speedOf_0 : decode cX7_speedOf 0 = .ok (.aload_n 0, 1) := by decide +kernel
theorem dX7_speedOf_1 : decode cX7_speedOf 1 = .ok (.iload_n 1, 1) := by decide +kernel
theorem dX7_speedOf_2 : decode cX7_speedOf 2 = .ok (.invokevirtual 145, 3) := by decide +kernel
theorem dX7_speedOf_5 : decode cX7_speedOf 5 = .ok (.invokestatic 148, 3) := by decide +kernel
theorem dX7_speedOf_8 : decode cX7_speedOf 8 = .ok (.aload_n 0, 1) := by decide +kernel
theorem dX7_speedOf_9 : decode cX7_speedOf 9 = .ok (.getfield 24, 3) := by decide +kernel
theorem dX7_speedOf_12 : decode cX7_speedOf 12 = .ok (.iload_n 1, 1) := by decide +kernel
theorem dX7_speedOf_13 : decode cX7_speedOf 13 = .ok (.daload, 1) := by decide +kernel
theorem dX7_speedOf_14 : decode cX7_speedOf 14 = .ok (.aload_n 0, 1) := by decide +kernel
theorem dX7_speedOf_15 : decode cX7_speedOf 15 = .ok (.getfield 24, 3) := by decide +kernel
theorem dX7_speedOf_18 : decode cX7_speedOf 18 = .ok (.iload_n 1, 1) := by decide +kernel
theorem dX7_speedOf_19 : decode cX7_speedOf 19 = .ok (.daload, 1) := by decide +kernel
theorem dX7_speedOf_20 : decode cX7_speedOf 20 = .ok (.dmul, 1) := by decide +kernel
theorem dX7_speedOf_21 : decode cX7_speedOf 21 = .ok (.ddiv, 1) := by decide +kernel
theorem dX7_speedOf_22 : decode cX7_speedOf 22 = .ok (.dreturn, 1) := by decide +kernel
set_option maxRecDepth 20000 in
theorem ggX7_of_X7_isIn : GoodIn wsX7_of wsX7_isIn := goodIn_r _ [6] (by decide +kernel) (by decide +kernel)
set_option maxRecDepth 20000 in
theorem gX7_of_X7_isIn : GoodIn wsX7_of (va_wsS RX7 79 yX7_isIn wsX7_isIn) := goodIn_app (goodIn_of _ (by decide +kernel)) ggX7_of_X7_isIn
set_option maxRecDepth 20000 in
theorem ggX7_of_X7_isWrong : GoodIn wsX7_of wsX7_isWrong := goodIn_r _ [10, 11, 12, 33, 34, 35, 36, 37, 38, 39, 40, 41, 42, 43, 44, 45, 46, 47, 48, 49, 50, 51, 52, 53, 54, 55, 56] (by decide +kernel) (by decide +kernel)
set_option maxRecDepth 20000 in
theorem gX7_of_X7_isWrong : GoodIn wsX7_of (wsV RX7 141 RX7 yX7_isWrong wsX7_isWrong) := goodIn_app (goodIn_of _ (by decide +kernel)) ggX7_of_X7_isWrong
set_option maxRecDepth 20000 in
theorem ggX7_of_X7_flowOf : GoodIn wsX7_of wsX7_flowOf := goodIn_r _ [16, 17, 18, 19, 20, 21, 22, 5, 23, 24, 25, 33, 34, 35, 36, 37, 38, 39, 40, 41, 42, 43, 44, 45, 46, 47, 48, 49, 50, 51, 52, 53, 54, 55, 56] (by decide +kernel) (by decide +kernel)
set_option maxRecDepth 20000 in
theorem gX7_of_X7_flowOf : GoodIn wsX7_of (wsV RX7 145 RX7 yX7_flowOf wsX7_flowOf) := goodIn_app (goodIn_of _ (by decide +kernel)) ggX7_of_X7_flowOf
set_option maxRecDepth 20000 in
theorem ggX7_of_X7_speedOf : GoodIn wsX7_of wsX7_speedOf := goodIn_r _ [29, 24, 13, 14, 15, 5, 16, 17, 18, 19, 20, 21, 22, 23, 25, 30, 31, 32, 33, 34, 35, 36, 37, 38, 39, 40, 41, 42, 43, 44, 45, 46, 47, 48, 49, 50, 51, 52, 53, 54, 55, 56] (by decide +kernel) (by decide +kernel)
set_option maxRecDepth 20000 in
theorem gX7_of_X7_speedOf : GoodIn wsX7_of (wsV RX7 152 RX7 yX7_speedOf wsX7_speedOf) := goodIn_app (goodIn_of _ (by decide +kernel)) ggX7_of_X7_speedOf
set_option maxRecDepth 20000 in
theorem ggX7_of_X7_ease : GoodIn wsX7_of wsX7_ease := goodIn_r _ [23, 24, 25, 33, 34, 35, 36, 37, 38, 39, 40, 41, 42, 43, 44, 45, 46, 47, 48, 49, 50, 51, 52, 53, 54, 55, 56] (by decide +kernel) (by decide +kernel)
set_option maxRecDepth 20000 in
theorem gX7_of_X7_ease : GoodIn wsX7_of (wsV RX7 110 RX7 yX7_ease wsX7_ease) := goodIn_app (goodIn_of _ (by decide +kernel)) ggX7_of_X7_ease
theorem dX7_of_0 : decode cX7_of 0 = .ok (.aload_n 0, 1) := by decide +kernel
theorem dX7_of_1 : decode cX7_of 1 = .ok (.iload_n 1, 1) := by decide +kernel
theorem dX7_of_2 : decode cX7_of 2 = .ok (.iconst 0, 1) := by decide +kernel
theorem dX7_of_3 : decode cX7_of 3 = .ok (.aload_n 0, 1) := by decide +kernel
theorem dX7_of_4 : decode cX7_of 4 = .ok (.getfield 95, 3) := by decide +kernel
theorem dX7_of_7 : decode cX7_of 7 = .ok (.iconst 1, 1) := by decide +kernel
theorem dX7_of_8 : decode cX7_of 8 = .ok (.isub, 1) := by decide +kernel
theorem dX7_of_9 : decode cX7_of 9 = .ok (.invokestatic 79, 3) := by decide +kernel
theorem dX7_of_12 : decode cX7_of 12 = .ok (.ifCond .eq 16, 3) := by decide +kernel
theorem dX7_of_15 : decode cX7_of 15 = .ok (.iload_n 2, 1) := by decide +kernel
theorem dX7_of_16 : decode cX7_of 16 = .ok (.iconst 0, 1) := by decide +kernel
theorem dX7_of_17 : decode cX7_of 17 = .ok (.iconst 3, 1) := by decide +kernel
theorem dX7_of_18 : decode cX7_of 18 = .ok (.invokestatic 79, 3) := by decide +kernel
theorem dX7_of_21 : decode cX7_of 21 = .ok (.ifCond .eq 7, 3) := by decide +kernel
theorem dX7_of_24 : decode cX7_of 24 = .ok (.iconst 1, 1) := by decide +kernel
theorem dX7_of_25 : decode cX7_of 25 = .ok (.goto 4, 3) := by decide +kernel
theorem dX7_of_28 : decode cX7_of 28 = .ok (.iconst 0, 1) := by decide +kernel
theorem dX7_of_29 : decode cX7_of 29 = .ok (.invokevirtual 141, 3) := by decide +kernel
theorem dX7_of_32 : decode cX7_of 32 = .ok (.ifCond .eq 5, 3) := by decide +kernel
theorem dX7_of_35 : decode cX7_of 35 = .ok (.dconst 0, 1) := by decide +kernel
theorem dX7_of_36 : decode cX7_of 36 = .ok (.dreturn, 1) := by decide +kernel
theorem dX7_of_37 : decode cX7_of 37 = .ok (.iload_n 2, 1) := by decide +kernel
theorem dX7_of_38 : decode cX7_of 38 = .ok (.ifCond .ne 11, 3) := by decide +kernel
theorem dX7_of_41 : decode cX7_of 41 = .ok (.aload_n 0, 1) := by decide +kernel
theorem dX7_of_42 : decode cX7_of 42 = .ok (.iload_n 1, 1) := by decide +kernel
theorem dX7_of_43 : decode cX7_of 43 = .ok (.invokevirtual 145, 3) := by decide +kernel
theorem dX7_of_46 : decode cX7_of 46 = .ok (.goto 35, 3) := by decide +kernel
theorem dX7_of_49 : decode cX7_of 49 = .ok (.iload_n 2, 1) := by decide +kernel
theorem dX7_of_50 : decode cX7_of 50 = .ok (.iconst 1, 1) := by decide +kernel
theorem dX7_of_51 : decode cX7_of 51 = .ok (.if_icmp .ne 11, 3) := by decide +kernel
theorem dX7_of_54 : decode cX7_of 54 = .ok (.aload_n 0, 1) := by decide +kernel
theorem dX7_of_55 : decode cX7_of 55 = .ok (.iload_n 1, 1) := by decide +kernel
theorem dX7_of_56 : decode cX7_of 56 = .ok (.invokevirtual 152, 3) := by decide +kernel
theorem dX7_of_59 : decode cX7_of 59 = .ok (.goto 22, 3) := by decide +kernel
theorem dX7_of_62 : decode cX7_of 62 = .ok (.iload_n 2, 1) := by decide +kernel
theorem dX7_of_63 : decode cX7_of 63 = .ok (.iconst 2, 1) := by decide +kernel
theorem dX7_of_64 : decode cX7_of 64 = .ok (.if_icmp .ne 11, 3) := by decide +kernel
theorem dX7_of_67 : decode cX7_of 67 = .ok (.aload_n 0, 1) := by decide +kernel
theorem dX7_of_68 : decode cX7_of 68 = .ok (.iload_n 1, 1) := by decide +kernel
theorem dX7_of_69 : decode cX7_of 69 = .ok (.invokevirtual 110, 3) := by decide +kernel
theorem dX7_of_72 : decode cX7_of 72 = .ok (.goto 9, 3) := by decide +kernel
theorem dX7_of_75 : decode cX7_of 75 = .ok (.aload_n 0, 1) := by decide +kernel
theorem dX7_of_76 : decode cX7_of 76 = .ok (.getfield 27, 3) := by decide +kernel
theorem dX7_of_79 : decode cX7_of 79 = .ok (.iload_n 1, 1) := by decide +kernel
theorem dX7_of_80 : decode cX7_of 80 = .ok (.daload, 1) := by decide +kernel
theorem dX7_of_81 : decode cX7_of 81 = .ok (.dreturn, 1) := by decide +kernel
set_option maxRecDepth 20000 in
theorem ggX7_draws_X7_isMachine : GoodIn wsX7_draws wsX7_isMachine := goodIn_r _ [6, 7, 8, 9, 5, 10, 25, 26, 27, 28, 29, 30, 31, 32, 33, 34, 35, 36, 37, 38, 39, 40, 41, 42, 43, 44, 45, 46, 47, 48] (by decide +kernel) (by decide +kernel)
set_option maxRecDepth 20000 in
theorem gX7_draws_X7_isMachine : GoodIn wsX7_draws (wsV RX7 103 RX7 yX7_isMachine wsX7_isMachine) := goodIn_app (goodIn_of _ (by decide +kernel)) ggX7_draws_X7_isMachine
set_option maxRecDepth 20000 in
theorem ggX7_draws_X7_isIn : GoodIn wsX7_draws wsX7_isIn := goodIn_r _ [10] (by decide +kernel) (by decide +kernel)
set_option maxRecDepth 20000 in
theorem gX7_draws_X7_isIn : GoodIn wsX7_draws (va_wsS RX7 79 yX7_isIn wsX7_isIn) := goodIn_app (goodIn_of _ (by decide +kernel)) ggX7_draws_X7_isIn
set_option maxRecDepth 20000 in
theorem ggX7_draws_X7_isWrong : GoodIn wsX7_draws wsX7_isWrong := goodIn_r _ [14, 15, 16, 25, 26, 27, 28, 29, 30, 31, 32, 33, 34, 35, 36, 37, 38, 39, 40, 41, 42, 43, 44, 45, 46, 47, 48] (by decide +kernel) (by decide +kernel)
set_option maxRecDepth 20000 in
theorem gX7_draws_X7_isWrong : GoodIn wsX7_draws (wsV RX7 141 RX7 yX7_isWrong wsX7_isWrong) := goodIn_app (goodIn_of _ (by decide +kernel)) ggX7_draws_X7_isWrong
set_option maxRecDepth 20000 in
theorem ggX7_draws_X7_drawOf : GoodIn wsX7_draws wsX7_drawOf := goodIn_r _ [20, 21, 1, 22, 23, 24, 25, 26, 27, 28, 29, 30, 31, 32, 33, 34, 35, 36, 37, 38, 39, 40, 41, 42, 43, 44, 45, 46, 47, 48] (by decide +kernel) (by decide +kernel)
set_option maxRecDepth 20000 in
theorem gX7_draws_X7_drawOf : GoodIn wsX7_draws (wsV RX7 122 RX7 yX7_drawOf wsX7_drawOf) := goodIn_app (goodIn_of _ (by decide +kernel)) ggX7_draws_X7_drawOf
theorem dX7_draws_0 : decode cX7_draws 0 = .ok (.aload_n 0, 1) := by decide +kernel
theorem dX7_draws_1 : decode cX7_draws 1 = .ok (.aload_n 0, 1) := by decide +kernel
theorem dX7_draws_2 : decode cX7_draws 2 = .ok (.iload_n 1, 1) := by decide +kernel
theorem dX7_draws_3 : decode cX7_draws 3 = .ok (.invokevirtual 103, 3) := by decide +kernel
theorem dX7_draws_6 : decode cX7_draws 6 = .ok (.ifCond .eq 16, 3) := by decide +kernel
theorem dX7_draws_9 : decode cX7_draws 9 = .ok (.iload_n 2, 1) := by decide +kernel
theorem dX7_draws_10 : decode cX7_draws 10 = .ok (.iconst 0, 1) := by decide +kernel
theorem dX7_draws_11 : decode cX7_draws 11 = .ok (.iconst 1, 1) := by decide +kernel
theorem dX7_draws_12 : decode cX7_draws 12 = .ok (.invokestatic 79, 3) := by decide +kernel
theorem dX7_draws_15 : decode cX7_draws 15 = .ok (.ifCond .eq 7, 3) := by decide +kernel
theorem dX7_draws_18 : decode cX7_draws 18 = .ok (.iconst 1, 1) := by decide +kernel
theorem dX7_draws_19 : decode cX7_draws 19 = .ok (.goto 4, 3) := by decide +kernel
theorem dX7_draws_22 : decode cX7_draws 22 = .ok (.iconst 0, 1) := by decide +kernel
theorem dX7_draws_23 : decode cX7_draws 23 = .ok (.invokevirtual 141, 3) := by decide +kernel
theorem dX7_draws_26 : decode cX7_draws 26 = .ok (.ifCond .eq 5, 3) := by decide +kernel
theorem dX7_draws_29 : decode cX7_draws 29 = .ok (.dconst 0, 1) := by decide +kernel
theorem dX7_draws_30 : decode cX7_draws 30 = .ok (.dreturn, 1) := by decide +kernel
theorem dX7_draws_31 : decode cX7_draws 31 = .ok (.iload_n 2, 1) := by decide +kernel
theorem dX7_draws_32 : decode cX7_draws 32 = .ok (.ifCond .ne 12, 3) := by decide +kernel
theorem dX7_draws_35 : decode cX7_draws 35 = .ok (.aload_n 0, 1) := by decide +kernel
theorem dX7_draws_36 : decode cX7_draws 36 = .ok (.getfield 46, 3) := by decide +kernel
theorem dX7_draws_39 : decode cX7_draws 39 = .ok (.iload_n 1, 1) := by decide +kernel
theorem dX7_draws_40 : decode cX7_draws 40 = .ok (.daload, 1) := by decide +kernel
theorem dX7_draws_41 : decode cX7_draws 41 = .ok (.goto 8, 3) := by decide +kernel
theorem dX7_draws_44 : decode cX7_draws 44 = .ok (.aload_n 0, 1) := by decide +kernel
theorem dX7_draws_45 : decode cX7_draws 45 = .ok (.iload_n 1, 1) := by decide +kernel
theorem dX7_draws_46 : decode cX7_draws 46 = .ok (.invokevirtual 122, 3) := by decide +kernel
theorem dX7_draws_49 : decode cX7_draws 49 = .ok (.dreturn, 1) := by decide +kernel
set_option maxRecDepth 20000 in
theorem ggX7_keeps_X7_speedOf : GoodIn wsX7_keeps wsX7_speedOf := goodIn_r _ [8, 9, 10, 11, 12, 7, 13, 14, 15, 16, 17, 18, 19, 20, 21, 22, 23, 24, 25, 26, 27, 28, 29, 30, 31, 32, 33, 34, 35, 36, 37, 38, 39, 40, 41, 42, 43, 44, 45, 46, 47, 48] (by decide +kernel) (by decide +kernel)
set_option maxRecDepth 20000 in
theorem gX7_keeps_X7_speedOf : GoodIn wsX7_keeps (wsV RX7 152 RX7 yX7_speedOf wsX7_speedOf) := goodIn_app (goodIn_of _ (by decide +kernel)) ggX7_keeps_X7_speedOf
theorem dX7_keeps_0 : decode cX7_keeps 0 = .ok (.aload_n 0, 1) := by decide +kernel
theorem dX7_keeps_1 : decode cX7_keeps 1 = .ok (.dload_n 1, 1) := by decide +kernel
theorem dX7_keeps_2 : decode cX7_keeps 2 = .ok (.dconst 0, 1) := by decide +kernel
theorem dX7_keeps_3 : decode cX7_keeps 3 = .ok (.dcmp .l, 1) := by decide +kernel
theorem dX7_keeps_4 : decode cX7_keeps 4 = .ok (.ifCond .ge 7, 3) := by decide +kernel
theorem dX7_keeps_7 : decode cX7_keeps 7 = .ok (.iconst 1, 1) := by decide +kernel
theorem dX7_keeps_8 : decode cX7_keeps 8 = .ok (.goto 15, 3) := by decide +kernel
theorem dX7_keeps_11 : decode cX7_keeps 11 = .ok (.aload_n 0, 1) := by decide +kernel
theorem dX7_keeps_12 : decode cX7_keeps 12 = .ok (.getfield 75, 3) := by decide +kernel
theorem dX7_keeps_15 : decode cX7_keeps 15 = .ok (.ifCond .eq 7, 3) := by decide +kernel
theorem dX7_keeps_18 : decode cX7_keeps 18 = .ok (.iconst 0, 1) := by decide +kernel
theorem dX7_keeps_19 : decode cX7_keeps 19 = .ok (.goto 4, 3) := by decide +kernel
theorem dX7_keeps_22 : decode cX7_keeps 22 = .ok (.iconst 2, 1) := by decide +kernel
theorem dX7_keeps_23 : decode cX7_keeps 23 = .ok (.putfield 72, 3) := by decide +kernel
theorem dX7_keeps_26 : decode cX7_keeps 26 = .ok (.aload_n 0, 1) := by decide +kernel
theorem dX7_keeps_27 : decode cX7_keeps 27 = .ok (.getfield 72, 3) := by decide +kernel
theorem dX7_keeps_30 : decode cX7_keeps 30 = .ok (.ifCond .ne 7, 3) := by decide +kernel
theorem dX7_keeps_33 : decode cX7_keeps 33 = .ok (.iconst 1, 1) := by decide +kernel
theorem dX7_keeps_34 : decode cX7_keeps 34 = .ok (.goto 4, 3) := by decide +kernel
theorem dX7_keeps_37 : decode cX7_keeps 37 = .ok (.iconst 0, 1) := by decide +kernel
theorem dX7_keeps_38 : decode cX7_keeps 38 = .ok (.istore_n 3, 1) := by decide +kernel
theorem dX7_keeps_39 : decode cX7_keeps 39 = .ok (.iconst 0, 1) := by decide +kernel
theorem dX7_keeps_40 : decode cX7_keeps 40 = .ok (.istore 4, 2) := by decide +kernel
theorem dX7_keeps_42 : decode cX7_keeps 42 = .ok (.iload 4, 2) := by decide +kernel
theorem dX7_keeps_44 : decode cX7_keeps 44 = .ok (.aload_n 0, 1) := by decide +kernel
theorem dX7_keeps_45 : decode cX7_keeps 45 = .ok (.getfield 95, 3) := by decide +kernel
theorem dX7_keeps_48 : decode cX7_keeps 48 = .ok (.if_icmp .ge 30, 3) := by decide +kernel
theorem dX7_keeps_51 : decode cX7_keeps 51 = .ok (.iload_n 3, 1) := by decide +kernel
theorem dX7_keeps_52 : decode cX7_keeps 52 = .ok (.ifCond .eq 26, 3) := by decide +kernel
theorem dX7_keeps_55 : decode cX7_keeps 55 = .ok (.aload_n 0, 1) := by decide +kernel
theorem dX7_keeps_56 : decode cX7_keeps 56 = .ok (.iload 4, 2) := by decide +kernel
theorem dX7_keeps_58 : decode cX7_keeps 58 = .ok (.invokevirtual 152, 3) := by decide +kernel
theorem dX7_keeps_61 : decode cX7_keeps 61 = .ok (.dload_n 1, 1) := by decide +kernel
theorem dX7_keeps_62 : decode cX7_keeps 62 = .ok (.dcmp .l, 1) := by decide +kernel
theorem dX7_keeps_63 : decode cX7_keeps 63 = .ok (.ifCond .lt 7, 3) := by decide +kernel
theorem dX7_keeps_66 : decode cX7_keeps 66 = .ok (.iconst 1, 1) := by decide +kernel
theorem dX7_keeps_67 : decode cX7_keeps 67 = .ok (.goto 4, 3) := by decide +kernel
theorem dX7_keeps_70 : decode cX7_keeps 70 = .ok (.iconst 0, 1) := by decide +kernel
theorem dX7_keeps_71 : decode cX7_keeps 71 = .ok (.istore_n 3, 1) := by decide +kernel
theorem dX7_keeps_72 : decode cX7_keeps 72 = .ok (.iinc 4 1, 3) := by decide +kernel
theorem dX7_keeps_75 : decode cX7_keeps 75 = .ok (.goto (-33), 3) := by decide +kernel
theorem dX7_keeps_78 : decode cX7_keeps 78 = .ok (.iload_n 3, 1) := by decide +kernel
theorem dX7_keeps_79 : decode cX7_keeps 79 = .ok (.ireturn, 1) := by decide +kernel
set_option maxRecDepth 20000 in
theorem ggX7_list_X7_between : GoodIn wsX7_list wsX7_between := goodIn_r _ [11] (by decide +kernel) (by decide +kernel)
set_option maxRecDepth 20000 in
theorem gX7_list_X7_between : GoodIn wsX7_list (va_wsS RX7 87 yX7_between wsX7_between) := goodIn_app (goodIn_of _ (by decide +kernel)) ggX7_list_X7_between
set_option maxRecDepth 20000 in
theorem ggX7_list_X7_isIn : GoodIn wsX7_list wsX7_isIn := goodIn_r _ [14] (by decide +kernel) (by decide +kernel)
set_option maxRecDepth 20000 in
theorem gX7_list_X7_isIn : GoodIn wsX7_list (va_wsS RX7 79 yX7_isIn wsX7_isIn) := goodIn_app (goodIn_of _ (by decide +kernel)) ggX7_list_X7_isIn
theorem dX7_list_0 : decode cX7_list 0 = .ok (.aload_n 0, 1) := by decide +kernel
theorem dX7_list_1 : decode cX7_list 1 = .ok (.dload_n 1, 1) := by decide +kernel
theorem dX7_list_2 : decode cX7_list 2 = .ok (.ldc2_w 83, 3) := by decide +kernel
theorem dX7_list_5 : decode cX7_list 5 = .ok (.ldc2_w 85, 3) := by decide +kernel
theorem dX7_list_8 : decode cX7_list 8 = .ok (.invokestatic 87, 3) := by decide +kernel
theorem dX7_list_11 : decode cX7_list 11 = .ok (.ifCond .eq 13, 3) := by decide +kernel
theorem dX7_list_14 : decode cX7_list 14 = .ok (.iload_n 3, 1) := by decide +kernel
theorem dX7_list_15 : decode cX7_list 15 = .ok (.iconst 0, 1) := by decide +kernel
theorem dX7_list_16 : decode cX7_list 16 = .ok (.ldc 155, 2) := by decide +kernel
theorem dX7_list_18 : decode cX7_list 18 = .ok (.invokestatic 79, 3) := by decide +kernel
theorem dX7_list_21 : decode cX7_list 21 = .ok (.ifCond .ne 7, 3) := by decide +kernel
theorem dX7_list_24 : decode cX7_list 24 = .ok (.iconst 1, 1) := by decide +kernel
theorem dX7_list_25 : decode cX7_list 25 = .ok (.goto 17, 3) := by decide +kernel
theorem dX7_list_28 : decode cX7_list 28 = .ok (.aload_n 0, 1) := by decide +kernel
theorem dX7_list_29 : decode cX7_list 29 = .ok (.getfield 156, 3) := by decide +kernel
theorem dX7_list_32 : decode cX7_list 32 = .ok (.bipush 6, 2) := by decide +kernel
theorem dX7_list_34 : decode cX7_list 34 = .ok (.if_icmp .ne 7, 3) := by decide +kernel
theorem dX7_list_37 : decode cX7_list 37 = .ok (.iconst 2, 1) := by decide +kernel
theorem dX7_list_38 : decode cX7_list 38 = .ok (.goto 4, 3) := by decide +kernel
theorem dX7_list_41 : decode cX7_list 41 = .ok (.iconst 0, 1) := by decide +kernel
theorem dX7_list_42 : decode cX7_list 42 = .ok (.putfield 72, 3) := by decide +kernel
theorem dX7_list_45 : decode cX7_list 45 = .ok (.aload_n 0, 1) := by decide +kernel
theorem dX7_list_46 : decode cX7_list 46 = .ok (.getfield 72, 3) := by decide +kernel
theorem dX7_list_49 : decode cX7_list 49 = .ok (.ifCond .le 5, 3) := by decide +kernel
theorem dX7_list_52 : decode cX7_list 52 = .ok (.iconst 0, 1) := by decide +kernel
theorem dX7_list_53 : decode cX7_list 53 = .ok (.ireturn, 1) := by decide +kernel
theorem dX7_list_54 : decode cX7_list 54 = .ok (.aload_n 0, 1) := by decide +kernel
theorem dX7_list_55 : decode cX7_list 55 = .ok (.getfield 66, 3) := by decide +kernel
theorem dX7_list_58 : decode cX7_list 58 = .ok (.aload_n 0, 1) := by decide +kernel
theorem dX7_list_59 : decode cX7_list 59 = .ok (.getfield 156, 3) := by decide +kernel
theorem dX7_list_62 : decode cX7_list 62 = .ok (.dload_n 1, 1) := by decide +kernel
theorem dX7_list_63 : decode cX7_list 63 = .ok (.dastore, 1) := by decide +kernel
theorem dX7_list_64 : decode cX7_list 64 = .ok (.aload_n 0, 1) := by decide +kernel
theorem dX7_list_65 : decode cX7_list 65 = .ok (.getfield 69, 3) := by decide +kernel
theorem dX7_list_68 : decode cX7_list 68 = .ok (.aload_n 0, 1) := by decide +kernel
theorem dX7_list_69 : decode cX7_list 69 = .ok (.getfield 156, 3) := by decide +kernel
theorem dX7_list_72 : decode cX7_list 72 = .ok (.iload_n 3, 1) := by decide +kernel
theorem dX7_list_73 : decode cX7_list 73 = .ok (.iastore, 1) := by decide +kernel
theorem dX7_list_74 : decode cX7_list 74 = .ok (.aload_n 0, 1) := by decide +kernel
theorem dX7_list_75 : decode cX7_list 75 = .ok (.dup, 1) := by decide +kernel
theorem dX7_list_76 : decode cX7_list 76 = .ok (.getfield 156, 3) := by decide +kernel
theorem dX7_list_79 : decode cX7_list 79 = .ok (.iconst 1, 1) := by decide +kernel
theorem dX7_list_80 : decode cX7_list 80 = .ok (.iadd, 1) := by decide +kernel
theorem dX7_list_81 : decode cX7_list 81 = .ok (.putfield 156, 3) := by decide +kernel
theorem dX7_list_84 : decode cX7_list 84 = .ok (.aload_n 0, 1) := by decide +kernel
theorem dX7_list_85 : decode cX7_list 85 = .ok (.getfield 156, 3) := by decide +kernel
theorem dX7_list_88 : decode cX7_list 88 = .ok (.iconst 1, 1) := by decide +kernel
theorem dX7_list_89 : decode cX7_list 89 = .ok (.isub, 1) := by decide +kernel
theorem dX7_list_90 : decode cX7_list 90 = .ok (.ireturn, 1) := by decide +kernel
theorem dX7_sizeAt_0 : decode cX7_sizeAt 0 = .ok (.iconst 0, 1) := by decide +kernel
theorem dX7_sizeAt_1 : decode cX7_sizeAt 1 = .ok (.istore_n 2, 1) := by decide +kernel
theorem dX7_sizeAt_2 : decode cX7_sizeAt 2 = .ok (.iload_n 2, 1) := by decide +kernel
theorem dX7_sizeAt_3 : decode cX7_sizeAt 3 = .ok (.aload_n 0, 1) := by decide +kernel
theorem dX7_sizeAt_4 : decode cX7_sizeAt 4 = .ok (.getfield 156, 3) := by decide +kernel
theorem dX7_sizeAt_7 : decode cX7_sizeAt 7 = .ok (.if_icmp .ge 82, 3) := by decide +kernel
theorem dX7_sizeAt_10 : decode cX7_sizeAt 10 = .ok (.iconst 0, 1) := by decide +kernel
theorem dX7_sizeAt_11 : decode cX7_sizeAt 11 = .ok (.istore_n 3, 1) := by decide +kernel
theorem dX7_sizeAt_12 : decode cX7_sizeAt 12 = .ok (.iconst 0, 1) := by decide +kernel
theorem dX7_sizeAt_13 : decode cX7_sizeAt 13 = .ok (.istore 4, 2) := by decide +kernel
theorem dX7_sizeAt_15 : decode cX7_sizeAt 15 = .ok (.iload 4, 2) := by decide +kernel
theorem dX7_sizeAt_17 : decode cX7_sizeAt 17 = .ok (.aload_n 0, 1) := by decide +kernel
theorem dX7_sizeAt_18 : decode cX7_sizeAt 18 = .ok (.getfield 156, 3) := by decide +kernel
theorem dX7_sizeAt_21 : decode cX7_sizeAt 21 = .ok (.if_icmp .ge 55, 3) := by decide +kernel
theorem dX7_sizeAt_24 : decode cX7_sizeAt 24 = .ok (.aload_n 0, 1) := by decide +kernel
theorem dX7_sizeAt_25 : decode cX7_sizeAt 25 = .ok (.getfield 69, 3) := by decide +kernel
theorem dX7_sizeAt_28 : decode cX7_sizeAt 28 = .ok (.iload 4, 2) := by decide +kernel
theorem dX7_sizeAt_30 : decode cX7_sizeAt 30 = .ok (.iaload, 1) := by decide +kernel
theorem dX7_sizeAt_31 : decode cX7_sizeAt 31 = .ok (.aload_n 0, 1) := by decide +kernel
theorem dX7_sizeAt_32 : decode cX7_sizeAt 32 = .ok (.getfield 69, 3) := by decide +kernel
theorem dX7_sizeAt_35 : decode cX7_sizeAt 35 = .ok (.iload_n 2, 1) := by decide +kernel
theorem dX7_sizeAt_36 : decode cX7_sizeAt 36 = .ok (.iaload, 1) := by decide +kernel
theorem dX7_sizeAt_37 : decode cX7_sizeAt 37 = .ok (.if_icmp .lt 25, 3) := by decide +kernel
theorem dX7_sizeAt_40 : decode cX7_sizeAt 40 = .ok (.aload_n 0, 1) := by decide +kernel
theorem dX7_sizeAt_41 : decode cX7_sizeAt 41 = .ok (.getfield 69, 3) := by decide +kernel
theorem dX7_sizeAt_44 : decode cX7_sizeAt 44 = .ok (.iload 4, 2) := by decide +kernel
theorem dX7_sizeAt_46 : decode cX7_sizeAt 46 = .ok (.iaload, 1) := by decide +kernel
theorem dX7_sizeAt_47 : decode cX7_sizeAt 47 = .ok (.aload_n 0, 1) := by decide +kernel
theorem dX7_sizeAt_48 : decode cX7_sizeAt 48 = .ok (.getfield 69, 3) := by decide +kernel
theorem dX7_sizeAt_51 : decode cX7_sizeAt 51 = .ok (.iload_n 2, 1) := by decide +kernel
theorem dX7_sizeAt_52 : decode cX7_sizeAt 52 = .ok (.iaload, 1) := by decide +kernel
theorem dX7_sizeAt_53 : decode cX7_sizeAt 53 = .ok (.if_icmp .ne 15, 3) := by decide +kernel
theorem dX7_sizeAt_56 : decode cX7_sizeAt 56 = .ok (.iload 4, 2) := by decide +kernel
theorem dX7_sizeAt_58 : decode cX7_sizeAt 58 = .ok (.iload_n 2, 1) := by decide +kernel
theorem dX7_sizeAt_59 : decode cX7_sizeAt 59 = .ok (.if_icmp .ge 9, 3) := by decide +kernel
theorem dX7_sizeAt_62 : decode cX7_sizeAt 62 = .ok (.iload_n 3, 1) := by decide +kernel
theorem dX7_sizeAt_63 : decode cX7_sizeAt 63 = .ok (.iconst 1, 1) := by decide +kernel
theorem dX7_sizeAt_64 : decode cX7_sizeAt 64 = .ok (.iadd, 1) := by decide +kernel
theorem dX7_sizeAt_65 : decode cX7_sizeAt 65 = .ok (.goto 4, 3) := by decide +kernel
theorem dX7_sizeAt_68 : decode cX7_sizeAt 68 = .ok (.iload_n 3, 1) := by decide +kernel
theorem dX7_sizeAt_69 : decode cX7_sizeAt 69 = .ok (.istore_n 3, 1) := by decide +kernel
theorem dX7_sizeAt_70 : decode cX7_sizeAt 70 = .ok (.iinc 4 1, 3) := by decide +kernel
theorem dX7_sizeAt_73 : decode cX7_sizeAt 73 = .ok (.goto (-58), 3) := by decide +kernel
theorem dX7_sizeAt_76 : decode cX7_sizeAt 76 = .ok (.iload_n 3, 1) := by decide +kernel
theorem dX7_sizeAt_77 : decode cX7_sizeAt 77 = .ok (.iload_n 1, 1) := by decide +kernel
theorem dX7_sizeAt_78 : decode cX7_sizeAt 78 = .ok (.if_icmp .ne 5, 3) := by decide +kernel
theorem dX7_sizeAt_81 : decode cX7_sizeAt 81 = .ok (.iload_n 2, 1) := by decide +kernel
theorem dX7_sizeAt_82 : decode cX7_sizeAt 82 = .ok (.ireturn, 1) := by decide +kernel
theorem dX7_sizeAt_83 : decode cX7_sizeAt 83 = .ok (.iinc 2 1, 3) := by decide +kernel
theorem dX7_sizeAt_86 : decode cX7_sizeAt 86 = .ok (.goto (-84), 3) := by decide +kernel
theorem dX7_sizeAt_89 : decode cX7_sizeAt 89 = .ok (.iconst (-1), 1) := by decide +kernel
theorem dX7_sizeAt_90 : decode cX7_sizeAt 90 = .ok (.ireturn, 1) := by decide +kernel
set_option maxRecDepth 20000 in
theorem ggX7_isEnough_X7_drawOf : GoodIn wsX7_isEnough wsX7_drawOf := goodIn_r _ [9, 2, 10, 11, 12, 13, 14, 15, 16, 17, 18, 19, 20, 21, 22, 23, 24, 25, 26, 27, 28, 29, 30, 31, 32, 33, 34, 35, 36, 37] (by decide +kernel) (by decide +kernel)
set_option maxRecDepth 20000 in
theorem gX7_isEnough_X7_drawOf : GoodIn wsX7_isEnough (wsV RX7 122 RX7 yX7_drawOf wsX7_drawOf) := goodIn_app (goodIn_of _ (by decide +kernel)) ggX7_isEnough_X7_drawOf
theorem dX7_isEnough_0 : decode cX7_isEnough 0 = .ok (.iconst 1, 1) := by decide +kernel
theorem dX7_isEnough_1 : decode cX7_isEnough 1 = .ok (.istore_n 1, 1) := by decide +kernel
theorem dX7_isEnough_2 : decode cX7_isEnough 2 = .ok (.iconst 0, 1) := by decide +kernel
theorem dX7_isEnough_3 : decode cX7_isEnough 3 = .ok (.istore_n 2, 1) := by decide +kernel
theorem dX7_isEnough_4 : decode cX7_isEnough 4 = .ok (.iload_n 2, 1) := by decide +kernel
theorem dX7_isEnough_5 : decode cX7_isEnough 5 = .ok (.aload_n 0, 1) := by decide +kernel
theorem dX7_isEnough_6 : decode cX7_isEnough 6 = .ok (.getfield 100, 3) := by decide +kernel
theorem dX7_isEnough_9 : decode cX7_isEnough 9 = .ok (.if_icmp .ge 47, 3) := by decide +kernel
theorem dX7_isEnough_12 : decode cX7_isEnough 12 = .ok (.iload_n 1, 1) := by decide +kernel
theorem dX7_isEnough_13 : decode cX7_isEnough 13 = .ok (.ifCond .eq 35, 3) := by decide +kernel
theorem dX7_isEnough_16 : decode cX7_isEnough 16 = .ok (.aload_n 0, 1) := by decide +kernel
theorem dX7_isEnough_17 : decode cX7_isEnough 17 = .ok (.getfield 49, 3) := by decide +kernel
theorem dX7_isEnough_20 : decode cX7_isEnough 20 = .ok (.iload_n 2, 1) := by decide +kernel
theorem dX7_isEnough_21 : decode cX7_isEnough 21 = .ok (.baload, 1) := by decide +kernel
theorem dX7_isEnough_22 : decode cX7_isEnough 22 = .ok (.ifCond .eq 22, 3) := by decide +kernel
theorem dX7_isEnough_25 : decode cX7_isEnough 25 = .ok (.aload_n 0, 1) := by decide +kernel
theorem dX7_isEnough_26 : decode cX7_isEnough 26 = .ok (.iload_n 2, 1) := by decide +kernel
theorem dX7_isEnough_27 : decode cX7_isEnough 27 = .ok (.invokevirtual 122, 3) := by decide +kernel
theorem dX7_isEnough_30 : decode cX7_isEnough 30 = .ok (.aload_n 0, 1) := by decide +kernel
theorem dX7_isEnough_31 : decode cX7_isEnough 31 = .ok (.getfield 40, 3) := by decide +kernel
theorem dX7_isEnough_34 : decode cX7_isEnough 34 = .ok (.iload_n 2, 1) := by decide +kernel
theorem dX7_isEnough_35 : decode cX7_isEnough 35 = .ok (.daload, 1) := by decide +kernel
theorem dX7_isEnough_36 : decode cX7_isEnough 36 = .ok (.ldc2_w 159, 3) := by decide +kernel
theorem dX7_isEnough_39 : decode cX7_isEnough 39 = .ok (.dmul, 1) := by decide +kernel
theorem dX7_isEnough_40 : decode cX7_isEnough 40 = .ok (.dcmp .l, 1) := by decide +kernel
theorem dX7_isEnough_41 : decode cX7_isEnough 41 = .ok (.ifCond .lt 7, 3) := by decide +kernel
theorem dX7_isEnough_44 : decode cX7_isEnough 44 = .ok (.iconst 1, 1) := by decide +kernel
theorem dX7_isEnough_45 : decode cX7_isEnough 45 = .ok (.goto 4, 3) := by decide +kernel
theorem dX7_isEnough_48 : decode cX7_isEnough 48 = .ok (.iconst 0, 1) := by decide +kernel
theorem dX7_isEnough_49 : decode cX7_isEnough 49 = .ok (.istore_n 1, 1) := by decide +kernel
theorem dX7_isEnough_50 : decode cX7_isEnough 50 = .ok (.iinc 2 1, 3) := by decide +kernel
theorem dX7_isEnough_53 : decode cX7_isEnough 53 = .ok (.goto (-49), 3) := by decide +kernel
theorem dX7_isEnough_56 : decode cX7_isEnough 56 = .ok (.iload_n 1, 1) := by decide +kernel
theorem dX7_isEnough_57 : decode cX7_isEnough 57 = .ok (.ireturn, 1) := by decide +kernel
set_option maxRecDepth 20000 in
theorem ggX7_size_X7_isIn : GoodIn wsX7_size wsX7_isIn := goodIn_r _ [9] (by decide +kernel) (by decide +kernel)
set_option maxRecDepth 20000 in
theorem gX7_size_X7_isIn : GoodIn wsX7_size (va_wsS RX7 79 yX7_isIn wsX7_isIn) := goodIn_app (goodIn_of _ (by decide +kernel)) ggX7_size_X7_isIn
set_option maxRecDepth 20000 in
theorem ggX7_size_X7_sizeAt : GoodIn wsX7_size wsX7_sizeAt := goodIn_r _ [13, 1, 14, 67, 68, 69, 70, 71, 72, 73, 74, 75, 76, 77, 78, 79, 80, 81, 82, 83, 84, 85, 86, 87, 88, 89, 90] (by decide +kernel) (by decide +kernel)
set_option maxRecDepth 20000 in
theorem gX7_size_X7_sizeAt : GoodIn wsX7_size (wsV RX7 161 RX7 yX7_sizeAt wsX7_sizeAt) := goodIn_app (goodIn_of _ (by decide +kernel)) ggX7_size_X7_sizeAt
set_option maxRecDepth 20000 in
theorem ggX7_size_X7_solveNow : GoodIn wsX7_size wsX7_solveNow := goodIn_r _ [18, 19, 20, 21, 22, 23, 24, 25, 26, 27, 28, 29, 8, 30, 31, 32, 33, 3, 34, 35, 36, 37, 38, 39, 40, 41, 42, 43, 44, 45, 46, 47, 48, 49, 4, 50, 51, 52, 53, 54, 55, 56, 57, 58, 59, 60, 61, 67, 68, 69, 70, 71, 72, 73, 74, 75, 76, 77, 78, 79, 80, 81, 82, 83, 84, 85, 86, 87, 88, 89, 90] (by decide +kernel) (by decide +kernel)
set_option maxRecDepth 20000 in
theorem gX7_size_X7_solveNow : GoodIn wsX7_size (wsV RX7 137 RX7 yX7_solveNow wsX7_solveNow) := goodIn_app (goodIn_of _ (by decide +kernel)) ggX7_size_X7_solveNow
set_option maxRecDepth 20000 in
theorem ggX7_size_X7_isEnough : GoodIn wsX7_size wsX7_isEnough := goodIn_r _ [65, 21, 20, 55, 66, 58, 59, 60, 8, 61, 23, 39, 19, 38, 67, 68, 69, 70, 71, 72, 73, 74, 75, 76, 77, 78, 79, 80, 81, 82, 83, 84, 85, 86, 87, 88, 89, 90] (by decide +kernel) (by decide +kernel)
set_option maxRecDepth 20000 in
theorem gX7_size_X7_isEnough : GoodIn wsX7_size (wsV RX7 164 RX7 yX7_isEnough wsX7_isEnough) := goodIn_app (goodIn_of _ (by decide +kernel)) ggX7_size_X7_isEnough
theorem dX7_size_0 : decode cX7_size 0 = .ok (.aload_n 0, 1) := by decide +kernel
theorem dX7_size_1 : decode cX7_size 1 = .ok (.iload_n 1, 1) := by decide +kernel
theorem dX7_size_2 : decode cX7_size 2 = .ok (.iconst 0, 1) := by decide +kernel
theorem dX7_size_3 : decode cX7_size 3 = .ok (.iconst 3, 1) := by decide +kernel
theorem dX7_size_4 : decode cX7_size 4 = .ok (.invokestatic 79, 3) := by decide +kernel
theorem dX7_size_7 : decode cX7_size 7 = .ok (.ifCond .ne 7, 3) := by decide +kernel
theorem dX7_size_10 : decode cX7_size 10 = .ok (.iconst 1, 1) := by decide +kernel
theorem dX7_size_11 : decode cX7_size 11 = .ok (.goto 15, 3) := by decide +kernel
theorem dX7_size_14 : decode cX7_size 14 = .ok (.aload_n 0, 1) := by decide +kernel
theorem dX7_size_15 : decode cX7_size 15 = .ok (.getfield 156, 3) := by decide +kernel
theorem dX7_size_18 : decode cX7_size 18 = .ok (.ifCond .ne 7, 3) := by decide +kernel
theorem dX7_size_21 : decode cX7_size 21 = .ok (.iconst 2, 1) := by decide +kernel
theorem dX7_size_22 : decode cX7_size 22 = .ok (.goto 4, 3) := by decide +kernel
theorem dX7_size_25 : decode cX7_size 25 = .ok (.iconst 0, 1) := by decide +kernel
theorem dX7_size_26 : decode cX7_size 26 = .ok (.putfield 72, 3) := by decide +kernel
theorem dX7_size_29 : decode cX7_size 29 = .ok (.aload_n 0, 1) := by decide +kernel
theorem dX7_size_30 : decode cX7_size 30 = .ok (.getfield 72, 3) := by decide +kernel
theorem dX7_size_33 : decode cX7_size 33 = .ok (.ifCond .le 5, 3) := by decide +kernel
theorem dX7_size_36 : decode cX7_size 36 = .ok (.iconst 0, 1) := by decide +kernel
theorem dX7_size_37 : decode cX7_size 37 = .ok (.ireturn, 1) := by decide +kernel
theorem dX7_size_38 : decode cX7_size 38 = .ok (.iconst 0, 1) := by decide +kernel
theorem dX7_size_39 : decode cX7_size 39 = .ok (.istore_n 2, 1) := by decide +kernel
theorem dX7_size_40 : decode cX7_size 40 = .ok (.iload_n 2, 1) := by decide +kernel
theorem dX7_size_41 : decode cX7_size 41 = .ok (.aload_n 0, 1) := by decide +kernel
theorem dX7_size_42 : decode cX7_size 42 = .ok (.getfield 156, 3) := by decide +kernel
theorem dX7_size_45 : decode cX7_size 45 = .ok (.if_icmp .ge 64, 3) := by decide +kernel
theorem dX7_size_48 : decode cX7_size 48 = .ok (.aload_n 0, 1) := by decide +kernel
theorem dX7_size_49 : decode cX7_size 49 = .ok (.iload_n 2, 1) := by decide +kernel
theorem dX7_size_50 : decode cX7_size 50 = .ok (.invokevirtual 161, 3) := by decide +kernel
theorem dX7_size_53 : decode cX7_size 53 = .ok (.istore_n 3, 1) := by decide +kernel
theorem dX7_size_54 : decode cX7_size 54 = .ok (.iconst 0, 1) := by decide +kernel
theorem dX7_size_55 : decode cX7_size 55 = .ok (.istore 4, 2) := by decide +kernel
theorem dX7_size_57 : decode cX7_size 57 = .ok (.iload 4, 2) := by decide +kernel
theorem dX7_size_59 : decode cX7_size 59 = .ok (.aload_n 0, 1) := by decide +kernel
theorem dX7_size_60 : decode cX7_size 60 = .ok (.getfield 95, 3) := by decide +kernel
theorem dX7_size_63 : decode cX7_size 63 = .ok (.if_icmp .ge 22, 3) := by decide +kernel
theorem dX7_size_66 : decode cX7_size 66 = .ok (.aload_n 0, 1) := by decide +kernel
theorem dX7_size_67 : decode cX7_size 67 = .ok (.getfield 24, 3) := by decide +kernel
theorem dX7_size_70 : decode cX7_size 70 = .ok (.iload 4, 2) := by decide +kernel
theorem dX7_size_72 : decode cX7_size 72 = .ok (.aload_n 0, 1) := by decide +kernel
theorem dX7_size_73 : decode cX7_size 73 = .ok (.getfield 66, 3) := by decide +kernel
theorem dX7_size_76 : decode cX7_size 76 = .ok (.iload_n 3, 1) := by decide +kernel
theorem dX7_size_77 : decode cX7_size 77 = .ok (.daload, 1) := by decide +kernel
theorem dX7_size_78 : decode cX7_size 78 = .ok (.dastore, 1) := by decide +kernel
theorem dX7_size_79 : decode cX7_size 79 = .ok (.iinc 4 1, 3) := by decide +kernel
theorem dX7_size_82 : decode cX7_size 82 = .ok (.goto (-25), 3) := by decide +kernel
theorem dX7_size_85 : decode cX7_size 85 = .ok (.aload_n 0, 1) := by decide +kernel
theorem dX7_size_86 : decode cX7_size 86 = .ok (.iload_n 1, 1) := by decide +kernel
theorem dX7_size_87 : decode cX7_size 87 = .ok (.invokevirtual 137, 3) := by decide +kernel
theorem dX7_size_90 : decode cX7_size 90 = .ok (.iconst (-1), 1) := by decide +kernel
theorem dX7_size_91 : decode cX7_size 91 = .ok (.if_icmp .eq 12, 3) := by decide +kernel
theorem dX7_size_94 : decode cX7_size 94 = .ok (.aload_n 0, 1) := by decide +kernel
theorem dX7_size_95 : decode cX7_size 95 = .ok (.invokevirtual 164, 3) := by decide +kernel
theorem dX7_size_98 : decode cX7_size 98 = .ok (.ifCond .eq 5, 3) := by decide +kernel
theorem dX7_size_101 : decode cX7_size 101 = .ok (.iload_n 3, 1) := by decide +kernel
theorem dX7_size_102 : decode cX7_size 102 = .ok (.ireturn, 1) := by decide +kernel
theorem dX7_size_103 : decode cX7_size 103 = .ok (.iinc 2 1, 3) := by decide +kernel
theorem dX7_size_106 : decode cX7_size 106 = .ok (.goto (-66), 3) := by decide +kernel
theorem dX7_size_109 : decode cX7_size 109 = .ok (.iconst (-1), 1) := by decide +kernel
theorem dX7_size_110 : decode cX7_size 110 = .ok (.ireturn, 1) := by decide +kernel
set_option maxRecDepth 20000 in
theorem ggX7_read_X7_isIn : GoodIn wsX7_read wsX7_isIn := goodIn_r _ [9] (by decide +kernel) (by decide +kernel)
set_option maxRecDepth 20000 in
theorem gX7_read_X7_isIn : GoodIn wsX7_read (va_wsS RX7 79 yX7_isIn wsX7_isIn) := goodIn_app (goodIn_of _ (by decide +kernel)) ggX7_read_X7_isIn
set_option maxRecDepth 20000 in
theorem ggX7_read_X7_between : GoodIn wsX7_read wsX7_between := goodIn_r _ [12] (by decide +kernel) (by decide +kernel)
set_option maxRecDepth 20000 in
theorem gX7_read_X7_between : GoodIn wsX7_read (va_wsS RX7 87 yX7_between wsX7_between) := goodIn_app (goodIn_of _ (by decide +kernel)) ggX7_read_X7_between
theorem dX7_read_0 : decode cX7_read 0 = .ok (.aload_n 0, 1) := by decide +kernel
theorem dX7_read_1 : decode cX7_read 1 = .ok (.iload_n 1, 1) := by decide +kernel
theorem dX7_read_2 : decode cX7_read 2 = .ok (.iconst 0, 1) := by decide +kernel
theorem dX7_read_3 : decode cX7_read 3 = .ok (.aload_n 0, 1) := by decide +kernel
theorem dX7_read_4 : decode cX7_read 4 = .ok (.getfield 95, 3) := by decide +kernel
theorem dX7_read_7 : decode cX7_read 7 = .ok (.iconst 1, 1) := by decide +kernel
theorem dX7_read_8 : decode cX7_read 8 = .ok (.isub, 1) := by decide +kernel
theorem dX7_read_9 : decode cX7_read 9 = .ok (.invokestatic 79, 3) := by decide +kernel
theorem dX7_read_12 : decode cX7_read 12 = .ok (.ifCond .ne 7, 3) := by decide +kernel
theorem dX7_read_15 : decode cX7_read 15 = .ok (.iconst 1, 1) := by decide +kernel
theorem dX7_read_16 : decode cX7_read 16 = .ok (.goto 19, 3) := by decide +kernel
theorem dX7_read_19 : decode cX7_read 19 = .ok (.dload_n 2, 1) := by decide +kernel
theorem dX7_read_20 : decode cX7_read 20 = .ok (.dconst 0, 1) := by decide +kernel
theorem dX7_read_21 : decode cX7_read 21 = .ok (.ldc2_w 167, 3) := by decide +kernel
theorem dX7_read_24 : decode cX7_read 24 = .ok (.invokestatic 87, 3) := by decide +kernel
theorem dX7_read_27 : decode cX7_read 27 = .ok (.ifCond .eq 7, 3) := by decide +kernel
theorem dX7_read_30 : decode cX7_read 30 = .ok (.iconst 0, 1) := by decide +kernel
theorem dX7_read_31 : decode cX7_read 31 = .ok (.goto 4, 3) := by decide +kernel
theorem dX7_read_34 : decode cX7_read 34 = .ok (.iconst 2, 1) := by decide +kernel
theorem dX7_read_35 : decode cX7_read 35 = .ok (.putfield 72, 3) := by decide +kernel
theorem dX7_read_38 : decode cX7_read 38 = .ok (.aload_n 0, 1) := by decide +kernel
theorem dX7_read_39 : decode cX7_read 39 = .ok (.getfield 72, 3) := by decide +kernel
theorem dX7_read_42 : decode cX7_read 42 = .ok (.ifCond .ne 17, 3) := by decide +kernel
theorem dX7_read_45 : decode cX7_read 45 = .ok (.aload_n 0, 1) := by decide +kernel
theorem dX7_read_46 : decode cX7_read 46 = .ok (.getfield 30, 3) := by decide +kernel
theorem dX7_read_49 : decode cX7_read 49 = .ok (.iload_n 1, 1) := by decide +kernel
theorem dX7_read_50 : decode cX7_read 50 = .ok (.iconst 1, 1) := by decide +kernel
theorem dX7_read_51 : decode cX7_read 51 = .ok (.bastore, 1) := by decide +kernel
theorem dX7_read_52 : decode cX7_read 52 = .ok (.aload_n 0, 1) := by decide +kernel
theorem dX7_read_53 : decode cX7_read 53 = .ok (.getfield 34, 3) := by decide +kernel
theorem dX7_read_56 : decode cX7_read 56 = .ok (.iload_n 1, 1) := by decide +kernel
theorem dX7_read_57 : decode cX7_read 57 = .ok (.dload_n 2, 1) := by decide +kernel
theorem dX7_read_58 : decode cX7_read 58 = .ok (.dastore, 1) := by decide +kernel
theorem dX7_read_59 : decode cX7_read 59 = .ok (.return_, 1) := by decide +kernel
set_option maxRecDepth 20000 in
theorem ggX7_fit_X7_isIn : GoodIn wsX7_fit wsX7_isIn := goodIn_r _ [11] (by decide +kernel) (by decide +kernel)
set_option maxRecDepth 20000 in
theorem gX7_fit_X7_isIn : GoodIn wsX7_fit (va_wsS RX7 79 yX7_isIn wsX7_isIn) := goodIn_app (goodIn_of _ (by decide +kernel)) ggX7_fit_X7_isIn
set_option maxRecDepth 20000 in
theorem ggX7_fit_X7_flowOf : GoodIn wsX7_fit wsX7_flowOf := goodIn_r _ [15, 16, 17, 18, 19, 20, 21, 10, 22, 23, 24, 28, 29, 30, 31, 32, 33, 34, 35, 36, 37, 38, 39, 40, 41, 42, 43, 44, 45, 46, 47, 48, 49, 50, 51] (by decide +kernel) (by decide +kernel)
set_option maxRecDepth 20000 in
theorem gX7_fit_X7_flowOf : GoodIn wsX7_fit (wsV RX7 145 RX7 yX7_flowOf wsX7_flowOf) := goodIn_app (goodIn_of _ (by decide +kernel)) ggX7_fit_X7_flowOf
set_option maxRecDepth 20000 in
theorem ggX7_fit_X7_sizeOf : GoodIn wsX7_fit wsX7_sizeOf := goodIn_r _ [27] (by decide +kernel) (by decide +kernel)
set_option maxRecDepth 20000 in
theorem gX7_fit_X7_sizeOf : GoodIn wsX7_fit (va_wsS RX7 148 yX7_sizeOf wsX7_sizeOf) := goodIn_app (goodIn_of _ (by decide +kernel)) ggX7_fit_X7_sizeOf
theorem dX7_fit_0 : decode cX7_fit 0 = .ok (.aload_n 0, 1) := by decide +kernel
theorem dX7_fit_1 : decode cX7_fit 1 = .ok (.iload_n 1, 1) := by decide +kernel
theorem dX7_fit_2 : decode cX7_fit 2 = .ok (.iconst 0, 1) := by decide +kernel
theorem dX7_fit_3 : decode cX7_fit 3 = .ok (.bipush 50, 2) := by decide +kernel
theorem dX7_fit_5 : decode cX7_fit 5 = .ok (.invokestatic 79, 3) := by decide +kernel
theorem dX7_fit_8 : decode cX7_fit 8 = .ok (.ifCond .ne 7, 3) := by decide +kernel
theorem dX7_fit_11 : decode cX7_fit 11 = .ok (.iconst 1, 1) := by decide +kernel
theorem dX7_fit_12 : decode cX7_fit 12 = .ok (.goto 15, 3) := by decide +kernel
theorem dX7_fit_15 : decode cX7_fit 15 = .ok (.aload_n 0, 1) := by decide +kernel
theorem dX7_fit_16 : decode cX7_fit 16 = .ok (.getfield 75, 3) := by decide +kernel
theorem dX7_fit_19 : decode cX7_fit 19 = .ok (.ifCond .eq 7, 3) := by decide +kernel
theorem dX7_fit_22 : decode cX7_fit 22 = .ok (.iconst 0, 1) := by decide +kernel
theorem dX7_fit_23 : decode cX7_fit 23 = .ok (.goto 4, 3) := by decide +kernel
theorem dX7_fit_26 : decode cX7_fit 26 = .ok (.iconst 2, 1) := by decide +kernel
theorem dX7_fit_27 : decode cX7_fit 27 = .ok (.putfield 72, 3) := by decide +kernel
theorem dX7_fit_30 : decode cX7_fit 30 = .ok (.aload_n 0, 1) := by decide +kernel
theorem dX7_fit_31 : decode cX7_fit 31 = .ok (.getfield 72, 3) := by decide +kernel
theorem dX7_fit_34 : decode cX7_fit 34 = .ok (.ifCond .le 5, 3) := by decide +kernel
theorem dX7_fit_37 : decode cX7_fit 37 = .ok (.dconst 0, 1) := by decide +kernel
theorem dX7_fit_38 : decode cX7_fit 38 = .ok (.dreturn, 1) := by decide +kernel
theorem dX7_fit_39 : decode cX7_fit 39 = .ok (.iconst 0, 1) := by decide +kernel
theorem dX7_fit_40 : decode cX7_fit 40 = .ok (.istore_n 2, 1) := by decide +kernel
theorem dX7_fit_41 : decode cX7_fit 41 = .ok (.iload_n 2, 1) := by decide +kernel
theorem dX7_fit_42 : decode cX7_fit 42 = .ok (.iload_n 1, 1) := by decide +kernel
theorem dX7_fit_43 : decode cX7_fit 43 = .ok (.if_icmp .ge 88, 3) := by decide +kernel
theorem dX7_fit_46 : decode cX7_fit 46 = .ok (.iconst 0, 1) := by decide +kernel
theorem dX7_fit_47 : decode cX7_fit 47 = .ok (.istore_n 3, 1) := by decide +kernel
theorem dX7_fit_48 : decode cX7_fit 48 = .ok (.iload_n 3, 1) := by decide +kernel
theorem dX7_fit_49 : decode cX7_fit 49 = .ok (.aload_n 0, 1) := by decide +kernel
theorem dX7_fit_50 : decode cX7_fit 50 = .ok (.getfield 95, 3) := by decide +kernel
theorem dX7_fit_53 : decode cX7_fit 53 = .ok (.if_icmp .ge 72, 3) := by decide +kernel
theorem dX7_fit_56 : decode cX7_fit 56 = .ok (.aload_n 0, 1) := by decide +kernel
theorem dX7_fit_57 : decode cX7_fit 57 = .ok (.getfield 30, 3) := by decide +kernel
theorem dX7_fit_60 : decode cX7_fit 60 = .ok (.iload_n 3, 1) := by decide +kernel
theorem dX7_fit_61 : decode cX7_fit 61 = .ok (.baload, 1) := by decide +kernel
theorem dX7_fit_62 : decode cX7_fit 62 = .ok (.ifCond .eq 57, 3) := by decide +kernel
theorem dX7_fit_65 : decode cX7_fit 65 = .ok (.aload_n 0, 1) := by decide +kernel
theorem dX7_fit_66 : decode cX7_fit 66 = .ok (.getfield 27, 3) := by decide +kernel
theorem dX7_fit_69 : decode cX7_fit 69 = .ok (.iload_n 3, 1) := by decide +kernel
theorem dX7_fit_70 : decode cX7_fit 70 = .ok (.daload, 1) := by decide +kernel
theorem dX7_fit_71 : decode cX7_fit 71 = .ok (.aload_n 0, 1) := by decide +kernel
theorem dX7_fit_72 : decode cX7_fit 72 = .ok (.getfield 34, 3) := by decide +kernel
theorem dX7_fit_75 : decode cX7_fit 75 = .ok (.iload_n 3, 1) := by decide +kernel
theorem dX7_fit_76 : decode cX7_fit 76 = .ok (.daload, 1) := by decide +kernel
theorem dX7_fit_77 : decode cX7_fit 77 = .ok (.aload_n 0, 1) := by decide +kernel
theorem dX7_fit_78 : decode cX7_fit 78 = .ok (.iload_n 3, 1) := by decide +kernel
theorem dX7_fit_79 : decode cX7_fit 79 = .ok (.invokevirtual 145, 3) := by decide +kernel
theorem dX7_fit_82 : decode cX7_fit 82 = .ok (.invokestatic 148, 3) := by decide +kernel
theorem dX7_fit_85 : decode cX7_fit 85 = .ok (.dsub, 1) := by decide +kernel
theorem dX7_fit_86 : decode cX7_fit 86 = .ok (.aload_n 0, 1) := by decide +kernel
theorem dX7_fit_87 : decode cX7_fit 87 = .ok (.getfield 27, 3) := by decide +kernel
theorem dX7_fit_90 : decode cX7_fit 90 = .ok (.iload_n 3, 1) := by decide +kernel
theorem dX7_fit_91 : decode cX7_fit 91 = .ok (.daload, 1) := by decide +kernel
theorem dX7_fit_92 : decode cX7_fit 92 = .ok (.dsub, 1) := by decide +kernel
theorem dX7_fit_93 : decode cX7_fit 93 = .ok (.ldc2_w 169, 3) := by decide +kernel
theorem dX7_fit_96 : decode cX7_fit 96 = .ok (.ddiv, 1) := by decide +kernel
theorem dX7_fit_97 : decode cX7_fit 97 = .ok (.dadd, 1) := by decide +kernel
theorem dX7_fit_98 : decode cX7_fit 98 = .ok (.dstore 4, 2) := by decide +kernel
theorem dX7_fit_100 : decode cX7_fit 100 = .ok (.aload_n 0, 1) := by decide +kernel
theorem dX7_fit_101 : decode cX7_fit 101 = .ok (.getfield 27, 3) := by decide +kernel
theorem dX7_fit_104 : decode cX7_fit 104 = .ok (.iload_n 3, 1) := by decide +kernel
theorem dX7_fit_105 : decode cX7_fit 105 = .ok (.dload 4, 2) := by decide +kernel
theorem dX7_fit_107 : decode cX7_fit 107 = .ok (.dconst 0, 1) := by decide +kernel
theorem dX7_fit_108 : decode cX7_fit 108 = .ok (.dcmp .g, 1) := by decide +kernel
theorem dX7_fit_109 : decode cX7_fit 109 = .ok (.ifCond .ge 7, 3) := by decide +kernel
theorem dX7_fit_112 : decode cX7_fit 112 = .ok (.dconst 0, 1) := by decide +kernel
theorem dX7_fit_113 : decode cX7_fit 113 = .ok (.goto 5, 3) := by decide +kernel
theorem dX7_fit_116 : decode cX7_fit 116 = .ok (.dload 4, 2) := by decide +kernel
theorem dX7_fit_118 : decode cX7_fit 118 = .ok (.dastore, 1) := by decide +kernel
theorem dX7_fit_119 : decode cX7_fit 119 = .ok (.iinc 3 1, 3) := by decide +kernel
theorem dX7_fit_122 : decode cX7_fit 122 = .ok (.goto (-74), 3) := by decide +kernel
theorem dX7_fit_125 : decode cX7_fit 125 = .ok (.iinc 2 1, 3) := by decide +kernel
theorem dX7_fit_128 : decode cX7_fit 128 = .ok (.goto (-87), 3) := by decide +kernel
theorem dX7_fit_131 : decode cX7_fit 131 = .ok (.dconst 0, 1) := by decide +kernel
theorem dX7_fit_132 : decode cX7_fit 132 = .ok (.dstore_n 2, 1) := by decide +kernel
theorem dX7_fit_133 : decode cX7_fit 133 = .ok (.iconst 0, 1) := by decide +kernel
theorem dX7_fit_134 : decode cX7_fit 134 = .ok (.istore 4, 2) := by decide +kernel
theorem dX7_fit_136 : decode cX7_fit 136 = .ok (.iload 4, 2) := by decide +kernel
theorem dX7_fit_138 : decode cX7_fit 138 = .ok (.aload_n 0, 1) := by decide +kernel
theorem dX7_fit_139 : decode cX7_fit 139 = .ok (.getfield 95, 3) := by decide +kernel
theorem dX7_fit_142 : decode cX7_fit 142 = .ok (.if_icmp .ge 72, 3) := by decide +kernel
theorem dX7_fit_145 : decode cX7_fit 145 = .ok (.aload_n 0, 1) := by decide +kernel
theorem dX7_fit_146 : decode cX7_fit 146 = .ok (.getfield 30, 3) := by decide +kernel
theorem dX7_fit_149 : decode cX7_fit 149 = .ok (.iload 4, 2) := by decide +kernel
theorem dX7_fit_151 : decode cX7_fit 151 = .ok (.baload, 1) := by decide +kernel
theorem dX7_fit_152 : decode cX7_fit 152 = .ok (.ifCond .eq 31, 3) := by decide +kernel
theorem dX7_fit_155 : decode cX7_fit 155 = .ok (.aload_n 0, 1) := by decide +kernel
theorem dX7_fit_156 : decode cX7_fit 156 = .ok (.getfield 34, 3) := by decide +kernel
theorem dX7_fit_159 : decode cX7_fit 159 = .ok (.iload 4, 2) := by decide +kernel
theorem dX7_fit_161 : decode cX7_fit 161 = .ok (.daload, 1) := by decide +kernel
theorem dX7_fit_162 : decode cX7_fit 162 = .ok (.aload_n 0, 1) := by decide +kernel
theorem dX7_fit_163 : decode cX7_fit 163 = .ok (.iload 4, 2) := by decide +kernel
theorem dX7_fit_165 : decode cX7_fit 165 = .ok (.invokevirtual 145, 3) := by decide +kernel
theorem dX7_fit_168 : decode cX7_fit 168 = .ok (.invokestatic 148, 3) := by decide +kernel
theorem dX7_fit_171 : decode cX7_fit 171 = .ok (.dsub, 1) := by decide +kernel
theorem dX7_fit_172 : decode cX7_fit 172 = .ok (.aload_n 0, 1) := by decide +kernel
theorem dX7_fit_173 : decode cX7_fit 173 = .ok (.getfield 27, 3) := by decide +kernel
theorem dX7_fit_176 : decode cX7_fit 176 = .ok (.iload 4, 2) := by decide +kernel
theorem dX7_fit_178 : decode cX7_fit 178 = .ok (.daload, 1) := by decide +kernel
theorem dX7_fit_179 : decode cX7_fit 179 = .ok (.dsub, 1) := by decide +kernel
theorem dX7_fit_180 : decode cX7_fit 180 = .ok (.goto 4, 3) := by decide +kernel
theorem dX7_fit_183 : decode cX7_fit 183 = .ok (.dconst 0, 1) := by decide +kernel
theorem dX7_fit_184 : decode cX7_fit 184 = .ok (.dstore 5, 2) := by decide +kernel
theorem dX7_fit_186 : decode cX7_fit 186 = .ok (.aload_n 0, 1) := by decide +kernel
theorem dX7_fit_187 : decode cX7_fit 187 = .ok (.getfield 30, 3) := by decide +kernel
theorem dX7_fit_190 : decode cX7_fit 190 = .ok (.iload 4, 2) := by decide +kernel
theorem dX7_fit_192 : decode cX7_fit 192 = .ok (.baload, 1) := by decide +kernel
theorem dX7_fit_193 : decode cX7_fit 193 = .ok (.ifCond .eq 13, 3) := by decide +kernel
theorem dX7_fit_196 : decode cX7_fit 196 = .ok (.dload_n 2, 1) := by decide +kernel
theorem dX7_fit_197 : decode cX7_fit 197 = .ok (.dload 5, 2) := by decide +kernel
theorem dX7_fit_199 : decode cX7_fit 199 = .ok (.dload 5, 2) := by decide +kernel
theorem dX7_fit_201 : decode cX7_fit 201 = .ok (.dmul, 1) := by decide +kernel
theorem dX7_fit_202 : decode cX7_fit 202 = .ok (.dadd, 1) := by decide +kernel
theorem dX7_fit_203 : decode cX7_fit 203 = .ok (.goto 4, 3) := by decide +kernel
theorem dX7_fit_206 : decode cX7_fit 206 = .ok (.dload_n 2, 1) := by decide +kernel
theorem dX7_fit_207 : decode cX7_fit 207 = .ok (.dstore_n 2, 1) := by decide +kernel
theorem dX7_fit_208 : decode cX7_fit 208 = .ok (.iinc 4 1, 3) := by decide +kernel
theorem dX7_fit_211 : decode cX7_fit 211 = .ok (.goto (-75), 3) := by decide +kernel
theorem dX7_fit_214 : decode cX7_fit 214 = .ok (.dload_n 2, 1) := by decide +kernel
theorem dX7_fit_215 : decode cX7_fit 215 = .ok (.dreturn, 1) := by decide +kernel
set_option maxRecDepth 20000 in
theorem ggX7_count_X7_isIn : GoodIn wsX7_count wsX7_isIn := goodIn_r _ [9] (by decide +kernel) (by decide +kernel)
set_option maxRecDepth 20000 in
theorem gX7_count_X7_isIn : GoodIn wsX7_count (va_wsS RX7 79 yX7_isIn wsX7_isIn) := goodIn_app (goodIn_of _ (by decide +kernel)) ggX7_count_X7_isIn
theorem dX7_count_0 : decode cX7_count 0 = .ok (.aload_n 0, 1) := by decide +kernel
theorem dX7_count_1 : decode cX7_count 1 = .ok (.iload_n 1, 1) := by decide +kernel
theorem dX7_count_2 : decode cX7_count 2 = .ok (.iconst 0, 1) := by decide +kernel
theorem dX7_count_3 : decode cX7_count 3 = .ok (.iconst 3, 1) := by decide +kernel
theorem dX7_count_4 : decode cX7_count 4 = .ok (.invokestatic 79, 3) := by decide +kernel
theorem dX7_count_7 : decode cX7_count 7 = .ok (.ifCond .eq 7, 3) := by decide +kernel
theorem dX7_count_10 : decode cX7_count 10 = .ok (.iconst 0, 1) := by decide +kernel
theorem dX7_count_11 : decode cX7_count 11 = .ok (.goto 4, 3) := by decide +kernel
theorem dX7_count_14 : decode cX7_count 14 = .ok (.iconst 1, 1) := by decide +kernel
theorem dX7_count_15 : decode cX7_count 15 = .ok (.putfield 72, 3) := by decide +kernel
theorem dX7_count_18 : decode cX7_count 18 = .ok (.aload_n 0, 1) := by decide +kernel
theorem dX7_count_19 : decode cX7_count 19 = .ok (.getfield 72, 3) := by decide +kernel
theorem dX7_count_22 : decode cX7_count 22 = .ok (.ifCond .le 7, 3) := by decide +kernel
theorem dX7_count_25 : decode cX7_count 25 = .ok (.iconst 0, 1) := by decide +kernel
theorem dX7_count_26 : decode cX7_count 26 = .ok (.goto 42, 3) := by decide +kernel
theorem dX7_count_29 : decode cX7_count 29 = .ok (.iload_n 1, 1) := by decide +kernel
theorem dX7_count_30 : decode cX7_count 30 = .ok (.ifCond .ne 10, 3) := by decide +kernel
theorem dX7_count_33 : decode cX7_count 33 = .ok (.aload_n 0, 1) := by decide +kernel
theorem dX7_count_34 : decode cX7_count 34 = .ok (.getfield 7, 3) := by decide +kernel
theorem dX7_count_37 : decode cX7_count 37 = .ok (.goto 31, 3) := by decide +kernel
theorem dX7_count_40 : decode cX7_count 40 = .ok (.iload_n 1, 1) := by decide +kernel
theorem dX7_count_41 : decode cX7_count 41 = .ok (.iconst 1, 1) := by decide +kernel
theorem dX7_count_42 : decode cX7_count 42 = .ok (.if_icmp .ne 10, 3) := by decide +kernel
theorem dX7_count_45 : decode cX7_count 45 = .ok (.aload_n 0, 1) := by decide +kernel
theorem dX7_count_46 : decode cX7_count 46 = .ok (.getfield 95, 3) := by decide +kernel
theorem dX7_count_49 : decode cX7_count 49 = .ok (.goto 19, 3) := by decide +kernel
theorem dX7_count_52 : decode cX7_count 52 = .ok (.iload_n 1, 1) := by decide +kernel
theorem dX7_count_53 : decode cX7_count 53 = .ok (.iconst 2, 1) := by decide +kernel
theorem dX7_count_54 : decode cX7_count 54 = .ok (.if_icmp .ne 10, 3) := by decide +kernel
theorem dX7_count_57 : decode cX7_count 57 = .ok (.aload_n 0, 1) := by decide +kernel
theorem dX7_count_58 : decode cX7_count 58 = .ok (.getfield 100, 3) := by decide +kernel
theorem dX7_count_61 : decode cX7_count 61 = .ok (.goto 7, 3) := by decide +kernel
theorem dX7_count_64 : decode cX7_count 64 = .ok (.aload_n 0, 1) := by decide +kernel
theorem dX7_count_65 : decode cX7_count 65 = .ok (.getfield 156, 3) := by decide +kernel
theorem dX7_count_68 : decode cX7_count 68 = .ok (.ireturn, 1) := by decide +kernel
set_option maxRecDepth 20000 in
theorem ggL_joint_X6_joint : GoodIn wsL_joint wsX6_joint := goodIn_ca (goodIn_r _ [6, 7, 8, 9, 10, 5, 11, 12, 13, 14, 15, 16, 17, 18, 19, 20] (by decide +kernel) (by decide +kernel)) (goodIn_sub (fun _ h => List.mem_cons_of_mem _ (List.mem_append_right _ h)) (by decide +kernel))
set_option maxRecDepth 20000 in
theorem gL_joint_X6_joint : GoodIn wsL_joint (wsV RL 7 RX6 yX6_joint wsX6_joint) := goodIn_app (goodIn_of _ (by decide +kernel)) ggL_joint_X6_joint
theorem dL_joint_0 : decode cL_joint 0 = .ok (.aload_n 1, 1) := by decide +kernel
theorem dL_joint_1 : decode cL_joint 1 = .ok (.iconst 0, 1) := by decide +kernel
theorem dL_joint_2 : decode cL_joint 2 = .ok (.aload_n 0, 1) := by decide +kernel
theorem dL_joint_3 : decode cL_joint 3 = .ok (.invokevirtual 7, 3) := by decide +kernel
theorem dL_joint_6 : decode cL_joint 6 = .ok (.i2l, 1) := by decide +kernel
theorem dL_joint_7 : decode cL_joint 7 = .ok (.lastore, 1) := by decide +kernel
theorem dL_joint_8 : decode cL_joint 8 = .ok (.goto 6, 3) := by decide +kernel
theorem dL_joint_11 : decode cL_joint 11 = .ok (.astore_n 2, 1) := by decide +kernel
theorem dL_joint_12 : decode cL_joint 12 = .ok (.iconst 1, 1) := by decide +kernel
theorem dL_joint_13 : decode cL_joint 13 = .ok (.ireturn, 1) := by decide +kernel
theorem dL_joint_14 : decode cL_joint 14 = .ok (.iconst 0, 1) := by decide +kernel
theorem dL_joint_15 : decode cL_joint 15 = .ok (.ireturn, 1) := by decide +kernel
set_option maxRecDepth 20000 in
theorem ggL_duct_X6_duct : GoodIn wsL_duct wsX6_duct := goodIn_ca (goodIn_ca (goodIn_ca (goodIn_r _ [8, 9, 10, 11, 12, 13, 14, 15, 16, 7, 17, 18, 19, 20, 21, 22, 23, 24, 25, 26, 27, 28, 29, 30, 31, 32, 33, 34, 35, 36, 37, 38, 39, 40, 41, 42, 43, 44, 45, 46, 47, 48, 49, 50, 51, 52, 53, 54, 55, 56, 57, 58, 59, 60, 61, 62, 63, 64, 65, 66, 67, 68] (by decide +kernel) (by decide +kernel)) (goodIn_sub (fun _ h => List.mem_cons_of_mem _ (List.mem_append_left _ (List.mem_append_left _ (List.mem_append_right _ h)))) (by decide +kernel))) (goodIn_sub (fun _ h => List.mem_cons_of_mem _ (List.mem_append_left _ (List.mem_append_right _ h))) (by decide +kernel))) (goodIn_sub (fun _ h => List.mem_cons_of_mem _ (List.mem_append_right _ h)) (by decide +kernel))
set_option maxRecDepth 20000 in
theorem gL_duct_X6_duct : GoodIn wsL_duct (wsV RL 15 RX6 yX6_duct wsX6_duct) := goodIn_app (goodIn_of _ (by decide +kernel)) ggL_duct_X6_duct
theorem dL_duct_0 : decode cL_duct 0 = .ok (.aload 7, 2) := by decide +kernel
theorem dL_duct_2 : decode cL_duct 2 = .ok (.iconst 0, 1) := by decide +kernel
theorem dL_duct_3 : decode cL_duct 3 = .ok (.aload_n 0, 1) := by decide +kernel
theorem dL_duct_4 : decode cL_duct 4 = .ok (.iload_n 1, 1) := by decide +kernel
theorem dL_duct_5 : decode cL_duct 5 = .ok (.iload_n 2, 1) := by decide +kernel
theorem dL_duct_6 : decode cL_duct 6 = .ok (.dload_n 3, 1) := by decide +kernel
theorem dL_duct_7 : decode cL_duct 7 = .ok (.dload 5, 2) := by decide +kernel
theorem dL_duct_9 : decode cL_duct 9 = .ok (.invokevirtual 15, 3) := by decide +kernel
theorem dL_duct_12 : decode cL_duct 12 = .ok (.i2l, 1) := by decide +kernel
theorem dL_duct_13 : decode cL_duct 13 = .ok (.lastore, 1) := by decide +kernel
theorem dL_duct_14 : decode cL_duct 14 = .ok (.goto 15, 3) := by decide +kernel
theorem dL_duct_17 : decode cL_duct 17 = .ok (.astore 8, 2) := by decide +kernel
theorem dL_duct_19 : decode cL_duct 19 = .ok (.iconst 1, 1) := by decide +kernel
theorem dL_duct_20 : decode cL_duct 20 = .ok (.ireturn, 1) := by decide +kernel
theorem dL_duct_21 : decode cL_duct 21 = .ok (.astore 8, 2) := by decide +kernel
theorem dL_duct_23 : decode cL_duct 23 = .ok (.iconst 2, 1) := by decide +kernel
theorem dL_duct_24 : decode cL_duct 24 = .ok (.ireturn, 1) := by decide +kernel
theorem dL_duct_25 : decode cL_duct 25 = .ok (.astore 8, 2) := by decide +kernel
theorem dL_duct_27 : decode cL_duct 27 = .ok (.iconst 3, 1) := by decide +kernel
theorem dL_duct_28 : decode cL_duct 28 = .ok (.ireturn, 1) := by decide +kernel
theorem dL_duct_29 : decode cL_duct 29 = .ok (.iconst 0, 1) := by decide +kernel
theorem dL_duct_30 : decode cL_duct 30 = .ok (.ireturn, 1) := by decide +kernel
set_option maxRecDepth 20000 in
theorem ggL_machine_X6_machine : GoodIn wsL_machine wsX6_machine := goodIn_ca (goodIn_ca (goodIn_ca (goodIn_r _ [8, 9, 10, 11, 12, 13, 14, 15, 16, 7, 17, 18, 19, 20, 21, 22, 23, 24, 25, 26, 27, 28, 29, 30, 31, 32, 33, 34, 35, 36, 37, 38, 39, 40, 41, 42, 43, 44, 45, 46, 47, 48, 49, 50, 51, 52, 53] (by decide +kernel) (by decide +kernel)) (goodIn_sub (fun _ h => List.mem_cons_of_mem _ (List.mem_append_left _ (List.mem_append_left _ (List.mem_append_right _ h)))) (by decide +kernel))) (goodIn_sub (fun _ h => List.mem_cons_of_mem _ (List.mem_append_left _ (List.mem_append_right _ h))) (by decide +kernel))) (goodIn_sub (fun _ h => List.mem_cons_of_mem _ (List.mem_append_right _ h)) (by decide +kernel))
set_option maxRecDepth 20000 in
theorem gL_machine_X6_machine : GoodIn wsL_machine (wsV RL 23 RX6 yX6_machine wsX6_machine) := goodIn_app (goodIn_of _ (by decide +kernel)) ggL_machine_X6_machine
theorem dL_machine_0 : decode cL_machine 0 = .ok (.aload 4, 2) := by decide +kernel
theorem dL_machine_2 : decode cL_machine 2 = .ok (.iconst 0, 1) := by decide +kernel
theorem dL_machine_3 : decode cL_machine 3 = .ok (.aload_n 0, 1) := by decide +kernel
theorem dL_machine_4 : decode cL_machine 4 = .ok (.iload_n 1, 1) := by decide +kernel
theorem dL_machine_5 : decode cL_machine 5 = .ok (.dload_n 2, 1) := by decide +kernel
theorem dL_machine_6 : decode cL_machine 6 = .ok (.invokevirtual 23, 3) := by decide +kernel
theorem dL_machine_9 : decode cL_machine 9 = .ok (.i2l, 1) := by decide +kernel
theorem dL_machine_10 : decode cL_machine 10 = .ok (.lastore, 1) := by decide +kernel
theorem dL_machine_11 : decode cL_machine 11 = .ok (.goto 15, 3) := by decide +kernel
theorem dL_machine_14 : decode cL_machine 14 = .ok (.astore 5, 2) := by decide +kernel
theorem dL_machine_16 : decode cL_machine 16 = .ok (.iconst 1, 1) := by decide +kernel
theorem dL_machine_17 : decode cL_machine 17 = .ok (.ireturn, 1) := by decide +kernel
theorem dL_machine_18 : decode cL_machine 18 = .ok (.astore 5, 2) := by decide +kernel
theorem dL_machine_20 : decode cL_machine 20 = .ok (.iconst 2, 1) := by decide +kernel
theorem dL_machine_21 : decode cL_machine 21 = .ok (.ireturn, 1) := by decide +kernel
theorem dL_machine_22 : decode cL_machine 22 = .ok (.astore 5, 2) := by decide +kernel
theorem dL_machine_24 : decode cL_machine 24 = .ok (.iconst 3, 1) := by decide +kernel
theorem dL_machine_25 : decode cL_machine 25 = .ok (.ireturn, 1) := by decide +kernel
theorem dL_machine_26 : decode cL_machine 26 = .ok (.iconst 0, 1) := by decide +kernel
theorem dL_machine_27 : decode cL_machine 27 = .ok (.ireturn, 1) := by decide +kernel
set_option maxRecDepth 20000 in
theorem ggL_use_X6_use : GoodIn wsL_use wsX6_use := goodIn_ca (goodIn_r _ [6, 7, 8, 9, 10, 11, 5, 12, 13, 14, 15, 16, 17, 18, 19, 20, 21, 22, 23, 24, 25, 26, 27, 28, 29, 30, 31, 32, 33] (by decide +kernel) (by decide +kernel)) (goodIn_sub (fun _ h => List.mem_cons_of_mem _ (List.mem_append_right _ h)) (by decide +kernel))
set_option maxRecDepth 20000 in
theorem gL_use_X6_use : GoodIn wsL_use (wsV RL 27 RX6 yX6_use wsX6_use) := goodIn_app (goodIn_of _ (by decide +kernel)) ggL_use_X6_use
theorem dL_use_0 : decode cL_use 0 = .ok (.aload_n 0, 1) := by decide +kernel
theorem dL_use_1 : decode cL_use 1 = .ok (.iload_n 1, 1) := by decide +kernel
theorem dL_use_2 : decode cL_use 2 = .ok (.iload_n 2, 1) := by decide +kernel
theorem dL_use_3 : decode cL_use 3 = .ok (.iload_n 3, 1) := by decide +kernel
theorem dL_use_4 : decode cL_use 4 = .ok (.invokevirtual 27, 3) := by decide +kernel
theorem dL_use_7 : decode cL_use 7 = .ok (.goto 7, 3) := by decide +kernel
theorem dL_use_10 : decode cL_use 10 = .ok (.astore 4, 2) := by decide +kernel
theorem dL_use_12 : decode cL_use 12 = .ok (.iconst 1, 1) := by decide +kernel
theorem dL_use_13 : decode cL_use 13 = .ok (.ireturn, 1) := by decide +kernel
theorem dL_use_14 : decode cL_use 14 = .ok (.iconst 0, 1) := by decide +kernel
theorem dL_use_15 : decode cL_use 15 = .ok (.ireturn, 1) := by decide +kernel
set_option maxRecDepth 20000 in
theorem ggL_fan_X6_fan : GoodIn wsL_fan wsX6_fan := goodIn_ca (goodIn_r _ [6, 7, 8, 9, 10, 11, 12, 13, 14, 5, 15, 16, 17, 18, 19, 20, 21, 22, 23, 24, 25, 26, 27, 28, 29, 30, 31, 32, 33, 34, 35] (by decide +kernel) (by decide +kernel)) (goodIn_sub (fun _ h => List.mem_cons_of_mem _ (List.mem_append_right _ h)) (by decide +kernel))
set_option maxRecDepth 20000 in
theorem gL_fan_X6_fan : GoodIn wsL_fan (wsV RL 31 RX6 yX6_fan wsX6_fan) := goodIn_app (goodIn_of _ (by decide +kernel)) ggL_fan_X6_fan
theorem dL_fan_0 : decode cL_fan 0 = .ok (.aload_n 0, 1) := by decide +kernel
theorem dL_fan_1 : decode cL_fan 1 = .ok (.dload_n 1, 1) := by decide +kernel
theorem dL_fan_2 : decode cL_fan 2 = .ok (.dload_n 3, 1) := by decide +kernel
theorem dL_fan_3 : decode cL_fan 3 = .ok (.invokevirtual 31, 3) := by decide +kernel
theorem dL_fan_6 : decode cL_fan 6 = .ok (.goto 7, 3) := by decide +kernel
theorem dL_fan_9 : decode cL_fan 9 = .ok (.astore 5, 2) := by decide +kernel
theorem dL_fan_11 : decode cL_fan 11 = .ok (.iconst 1, 1) := by decide +kernel
theorem dL_fan_12 : decode cL_fan 12 = .ok (.ireturn, 1) := by decide +kernel
theorem dL_fan_13 : decode cL_fan 13 = .ok (.iconst 0, 1) := by decide +kernel
theorem dL_fan_14 : decode cL_fan 14 = .ok (.ireturn, 1) := by decide +kernel
set_option maxRecDepth 20000 in
theorem ggL_solve_X6_solve : GoodIn wsL_solve wsX6_solve := goodIn_ca (goodIn_r _ [6, 7, 8, 9, 10, 5, 11, 12, 13, 14, 15, 16, 17, 18, 19, 20, 21, 22, 23, 24, 25, 26, 27, 28, 29, 30, 31, 32, 33, 34, 35, 36, 37, 38, 39, 40, 41, 42, 43, 44, 45, 46, 47, 48, 49, 50, 51, 52, 53, 54, 55, 56, 57, 58, 59, 60, 61, 62, 63, 64, 65, 66, 67, 68, 69, 70, 71, 72, 73, 74, 75, 76, 77, 78, 79, 80, 81, 82, 83, 84, 85, 86, 87, 88, 89, 90, 91, 92, 93, 94, 95, 96, 97, 98, 99, 100, 101, 102, 103, 104, 105, 106, 107, 108, 109, 110, 111, 112, 113, 114, 115, 116, 117, 118, 119, 120, 121, 122, 123, 124, 125, 126, 127, 128, 129, 130] (by decide +kernel) (by decide +kernel)) (goodIn_sub (fun _ h => List.mem_cons_of_mem _ (List.mem_append_right _ h)) (by decide +kernel))
set_option maxRecDepth 20000 in
theorem gL_solve_X6_solve : GoodIn wsL_solve (wsV RL 35 RX6 yX6_solve wsX6_solve) := goodIn_app (goodIn_of _ (by decide +kernel)) ggL_solve_X6_solve
theorem dL_solve_0 : decode cL_solve 0 = .ok (.aload_n 2, 1) := by decide +kernel
theorem dL_solve_1 : decode cL_solve 1 = .ok (.iconst 0, 1) := by decide +kernel
theorem dL_solve_2 : decode cL_solve 2 = .ok (.aload_n 0, 1) := by decide +kernel
theorem dL_solve_3 : decode cL_solve 3 = .ok (.iload_n 1, 1) := by decide +kernel
theorem dL_solve_4 : decode cL_solve 4 = .ok (.invokevirtual 35, 3) := by decide +kernel
theorem dL_solve_7 : decode cL_solve 7 = .ok (.i2l, 1) := by decide +kernel
theorem dL_solve_8 : decode cL_solve 8 = .ok (.lastore, 1) := by decide +kernel
theorem dL_solve_9 : decode cL_solve 9 = .ok (.goto 6, 3) := by decide +kernel
theorem dL_solve_12 : decode cL_solve 12 = .ok (.astore_n 3, 1) := by decide +kernel
theorem dL_solve_13 : decode cL_solve 13 = .ok (.iconst 1, 1) := by decide +kernel
theorem dL_solve_14 : decode cL_solve 14 = .ok (.ireturn, 1) := by decide +kernel
theorem dL_solve_15 : decode cL_solve 15 = .ok (.iconst 0, 1) := by decide +kernel
theorem dL_solve_16 : decode cL_solve 16 = .ok (.ireturn, 1) := by decide +kernel
set_option maxRecDepth 20000 in
theorem ggL_at_X6_at : GoodIn wsL_at wsX6_at := goodIn_ca (goodIn_ca (goodIn_r _ [7, 8, 9, 10, 11, 12, 13, 6, 14, 15, 16, 17, 18, 19, 20, 21, 22, 23, 24, 25, 26, 27, 28, 29, 30, 31, 32, 33, 34, 35, 36, 37, 38, 39, 40, 41, 42, 43, 44, 45, 46, 47, 48, 49, 50, 51, 52, 53, 54, 55, 56, 57, 58, 59, 60, 61, 62, 63, 64, 65, 66, 67, 68, 69, 70, 71, 72, 73, 74, 75, 76, 77, 78, 79, 80, 81, 82, 83, 84, 85, 86, 87] (by decide +kernel) (by decide +kernel)) (goodIn_sub (fun _ h => List.mem_cons_of_mem _ (List.mem_append_left _ (List.mem_append_right _ h))) (by decide +kernel))) (goodIn_sub (fun _ h => List.mem_cons_of_mem _ (List.mem_append_right _ h)) (by decide +kernel))
set_option maxRecDepth 20000 in
theorem gL_at_X6_at : GoodIn wsL_at (wsV RL 39 RX6 yX6_at wsX6_at) := goodIn_app (goodIn_of _ (by decide +kernel)) ggL_at_X6_at
theorem dL_at_0 : decode cL_at 0 = .ok (.aload_n 3, 1) := by decide +kernel
theorem dL_at_1 : decode cL_at 1 = .ok (.iconst 0, 1) := by decide +kernel
theorem dL_at_2 : decode cL_at 2 = .ok (.aload_n 0, 1) := by decide +kernel
theorem dL_at_3 : decode cL_at 3 = .ok (.iload_n 1, 1) := by decide +kernel
theorem dL_at_4 : decode cL_at 4 = .ok (.iload_n 2, 1) := by decide +kernel
theorem dL_at_5 : decode cL_at 5 = .ok (.invokevirtual 39, 3) := by decide +kernel
theorem dL_at_8 : decode cL_at 8 = .ok (.dastore, 1) := by decide +kernel
theorem dL_at_9 : decode cL_at 9 = .ok (.goto 11, 3) := by decide +kernel
theorem dL_at_12 : decode cL_at 12 = .ok (.astore 4, 2) := by decide +kernel
theorem dL_at_14 : decode cL_at 14 = .ok (.iconst 1, 1) := by decide +kernel
theorem dL_at_15 : decode cL_at 15 = .ok (.ireturn, 1) := by decide +kernel
theorem dL_at_16 : decode cL_at 16 = .ok (.astore 4, 2) := by decide +kernel
theorem dL_at_18 : decode cL_at 18 = .ok (.iconst 2, 1) := by decide +kernel
theorem dL_at_19 : decode cL_at 19 = .ok (.ireturn, 1) := by decide +kernel
theorem dL_at_20 : decode cL_at 20 = .ok (.iconst 0, 1) := by decide +kernel
theorem dL_at_21 : decode cL_at 21 = .ok (.ireturn, 1) := by decide +kernel
set_option maxRecDepth 20000 in
theorem ggL_of_X6_of : GoodIn wsL_of wsX6_of := goodIn_ca (goodIn_ca (goodIn_r _ [7, 8, 9, 10, 11, 12, 13, 14, 15, 16, 6, 17, 18, 19, 20, 21, 22, 23, 24, 25, 26, 27, 28, 29, 30, 31, 32, 33, 34, 35, 36, 37, 38, 39, 40, 41, 42, 43, 44, 45, 46, 47, 48, 49, 50, 51, 52, 53, 54, 55, 56, 57, 58, 59, 60, 61, 62, 63, 64, 65] (by decide +kernel) (by decide +kernel)) (goodIn_sub (fun _ h => List.mem_cons_of_mem _ (List.mem_append_left _ (List.mem_append_right _ h))) (by decide +kernel))) (goodIn_sub (fun _ h => List.mem_cons_of_mem _ (List.mem_append_right _ h)) (by decide +kernel))
set_option maxRecDepth 20000 in
theorem gL_of_X6_of : GoodIn wsL_of (wsV RL 43 RX6 yX6_of wsX6_of) := goodIn_app (goodIn_of _ (by decide +kernel)) ggL_of_X6_of
theorem dL_of_0 : decode cL_of 0 = .ok (.aload_n 3, 1) := by decide +kernel
theorem dL_of_1 : decode cL_of 1 = .ok (.iconst 0, 1) := by decide +kernel
theorem dL_of_2 : decode cL_of 2 = .ok (.aload_n 0, 1) := by decide +kernel
theorem dL_of_3 : decode cL_of 3 = .ok (.iload_n 1, 1) := by decide +kernel
theorem dL_of_4 : decode cL_of 4 = .ok (.iload_n 2, 1) := by decide +kernel
theorem dL_of_5 : decode cL_of 5 = .ok (.invokevirtual 43, 3) := by decide +kernel
theorem dL_of_8 : decode cL_of 8 = .ok (.dastore, 1) := by decide +kernel
theorem dL_of_9 : decode cL_of 9 = .ok (.goto 11, 3) := by decide +kernel
theorem dL_of_12 : decode cL_of 12 = .ok (.astore 4, 2) := by decide +kernel
theorem dL_of_14 : decode cL_of 14 = .ok (.iconst 1, 1) := by decide +kernel
theorem dL_of_15 : decode cL_of 15 = .ok (.ireturn, 1) := by decide +kernel
theorem dL_of_16 : decode cL_of 16 = .ok (.astore 4, 2) := by decide +kernel
theorem dL_of_18 : decode cL_of 18 = .ok (.iconst 2, 1) := by decide +kernel
theorem dL_of_19 : decode cL_of 19 = .ok (.ireturn, 1) := by decide +kernel
theorem dL_of_20 : decode cL_of 20 = .ok (.iconst 0, 1) := by decide +kernel
theorem dL_of_21 : decode cL_of 21 = .ok (.ireturn, 1) := by decide +kernel
set_option maxRecDepth 20000 in
theorem ggL_draws_X6_draws : GoodIn wsL_draws wsX6_draws := goodIn_ca (goodIn_ca (goodIn_r _ [7, 8, 9, 10, 11, 12, 13, 14, 6, 15, 16, 17, 18, 19, 20, 21, 22, 23, 24, 25, 26, 27, 28, 29, 30, 31, 32, 33, 34, 35, 36, 37, 38, 39, 40, 41, 42, 43, 44, 45, 46, 47, 48, 49, 50, 51, 52, 53] (by decide +kernel) (by decide +kernel)) (goodIn_sub (fun _ h => List.mem_cons_of_mem _ (List.mem_append_left _ (List.mem_append_right _ h))) (by decide +kernel))) (goodIn_sub (fun _ h => List.mem_cons_of_mem _ (List.mem_append_right _ h)) (by decide +kernel))
set_option maxRecDepth 20000 in
theorem gL_draws_X6_draws : GoodIn wsL_draws (wsV RL 46 RX6 yX6_draws wsX6_draws) := goodIn_app (goodIn_of _ (by decide +kernel)) ggL_draws_X6_draws
theorem dL_draws_0 : decode cL_draws 0 = .ok (.aload_n 3, 1) := by decide +kernel
theorem dL_draws_1 : decode cL_draws 1 = .ok (.iconst 0, 1) := by decide +kernel
theorem dL_draws_2 : decode cL_draws 2 = .ok (.aload_n 0, 1) := by decide +kernel
theorem dL_draws_3 : decode cL_draws 3 = .ok (.iload_n 1, 1) := by decide +kernel
theorem dL_draws_4 : decode cL_draws 4 = .ok (.iload_n 2, 1) := by decide +kernel
theorem dL_draws_5 : decode cL_draws 5 = .ok (.invokevirtual 46, 3) := by decide +kernel
theorem dL_draws_8 : decode cL_draws 8 = .ok (.dastore, 1) := by decide +kernel
theorem dL_draws_9 : decode cL_draws 9 = .ok (.goto 11, 3) := by decide +kernel
theorem dL_draws_12 : decode cL_draws 12 = .ok (.astore 4, 2) := by decide +kernel
theorem dL_draws_14 : decode cL_draws 14 = .ok (.iconst 1, 1) := by decide +kernel
theorem dL_draws_15 : decode cL_draws 15 = .ok (.ireturn, 1) := by decide +kernel
theorem dL_draws_16 : decode cL_draws 16 = .ok (.astore 4, 2) := by decide +kernel
theorem dL_draws_18 : decode cL_draws 18 = .ok (.iconst 2, 1) := by decide +kernel
theorem dL_draws_19 : decode cL_draws 19 = .ok (.ireturn, 1) := by decide +kernel
theorem dL_draws_20 : decode cL_draws 20 = .ok (.iconst 0, 1) := by decide +kernel
theorem dL_draws_21 : decode cL_draws 21 = .ok (.ireturn, 1) := by decide +kernel
set_option maxRecDepth 20000 in
theorem ggL_keeps_X6_keeps : GoodIn wsL_keeps wsX6_keeps := goodIn_ca (goodIn_ca (goodIn_r _ [7, 8, 9, 10, 11, 6, 12, 13, 14, 15, 16, 17, 18, 19, 20, 21, 22, 23, 24, 25, 26, 27, 28, 29, 30, 31, 32, 33, 34, 35, 36, 37, 38, 39, 40, 41, 42, 43, 44, 45, 46, 47, 48, 49, 50, 51, 52, 53, 54, 55, 56, 57, 58, 59, 60, 61] (by decide +kernel) (by decide +kernel)) (goodIn_sub (fun _ h => List.mem_cons_of_mem _ (List.mem_append_left _ (List.mem_append_right _ h))) (by decide +kernel))) (goodIn_sub (fun _ h => List.mem_cons_of_mem _ (List.mem_append_right _ h)) (by decide +kernel))
set_option maxRecDepth 20000 in
theorem gL_keeps_X6_keeps : GoodIn wsL_keeps (wsV RL 49 RX6 yX6_keeps wsX6_keeps) := goodIn_app (goodIn_of _ (by decide +kernel)) ggL_keeps_X6_keeps
theorem dL_keeps_0 : decode cL_keeps 0 = .ok (.aload_n 3, 1) := by decide +kernel
theorem dL_keeps_1 : decode cL_keeps 1 = .ok (.iconst 0, 1) := by decide +kernel
theorem dL_keeps_2 : decode cL_keeps 2 = .ok (.aload_n 0, 1) := by decide +kernel
theorem dL_keeps_3 : decode cL_keeps 3 = .ok (.dload_n 1, 1) := by decide +kernel
theorem dL_keeps_4 : decode cL_keeps 4 = .ok (.invokevirtual 49, 3) := by decide +kernel
theorem dL_keeps_7 : decode cL_keeps 7 = .ok (.ifCond .eq 7, 3) := by decide +kernel
theorem dL_keeps_10 : decode cL_keeps 10 = .ok (.lconst 1, 1) := by decide +kernel
theorem dL_keeps_11 : decode cL_keeps 11 = .ok (.goto 4, 3) := by decide +kernel
theorem dL_keeps_14 : decode cL_keeps 14 = .ok (.lconst 0, 1) := by decide +kernel
theorem dL_keeps_15 : decode cL_keeps 15 = .ok (.lastore, 1) := by decide +kernel
theorem dL_keeps_16 : decode cL_keeps 16 = .ok (.goto 11, 3) := by decide +kernel
theorem dL_keeps_19 : decode cL_keeps 19 = .ok (.astore 4, 2) := by decide +kernel
theorem dL_keeps_21 : decode cL_keeps 21 = .ok (.iconst 1, 1) := by decide +kernel
theorem dL_keeps_22 : decode cL_keeps 22 = .ok (.ireturn, 1) := by decide +kernel
theorem dL_keeps_23 : decode cL_keeps 23 = .ok (.astore 4, 2) := by decide +kernel
theorem dL_keeps_25 : decode cL_keeps 25 = .ok (.iconst 2, 1) := by decide +kernel
theorem dL_keeps_26 : decode cL_keeps 26 = .ok (.ireturn, 1) := by decide +kernel
theorem dL_keeps_27 : decode cL_keeps 27 = .ok (.iconst 0, 1) := by decide +kernel
theorem dL_keeps_28 : decode cL_keeps 28 = .ok (.ireturn, 1) := by decide +kernel
set_option maxRecDepth 20000 in
theorem ggL_list_X6_list : GoodIn wsL_list wsX6_list := goodIn_ca (goodIn_ca (goodIn_r _ [7, 8, 9, 10, 11, 12, 13, 14, 6, 15, 16, 17, 18, 19, 20, 21, 22, 23, 24, 25, 26, 27, 28, 29, 30, 31, 32, 33, 34, 35, 36, 37, 38, 39, 40, 41, 42, 43, 44, 45] (by decide +kernel) (by decide +kernel)) (goodIn_sub (fun _ h => List.mem_cons_of_mem _ (List.mem_append_left _ (List.mem_append_right _ h))) (by decide +kernel))) (goodIn_sub (fun _ h => List.mem_cons_of_mem _ (List.mem_append_right _ h)) (by decide +kernel))
set_option maxRecDepth 20000 in
theorem gL_list_X6_list : GoodIn wsL_list (wsV RL 53 RX6 yX6_list wsX6_list) := goodIn_app (goodIn_of _ (by decide +kernel)) ggL_list_X6_list
theorem dL_list_0 : decode cL_list 0 = .ok (.aload 4, 2) := by decide +kernel
theorem dL_list_2 : decode cL_list 2 = .ok (.iconst 0, 1) := by decide +kernel
theorem dL_list_3 : decode cL_list 3 = .ok (.aload_n 0, 1) := by decide +kernel
theorem dL_list_4 : decode cL_list 4 = .ok (.dload_n 1, 1) := by decide +kernel
theorem dL_list_5 : decode cL_list 5 = .ok (.iload_n 3, 1) := by decide +kernel
theorem dL_list_6 : decode cL_list 6 = .ok (.invokevirtual 53, 3) := by decide +kernel
theorem dL_list_9 : decode cL_list 9 = .ok (.i2l, 1) := by decide +kernel
theorem dL_list_10 : decode cL_list 10 = .ok (.lastore, 1) := by decide +kernel
theorem dL_list_11 : decode cL_list 11 = .ok (.goto 11, 3) := by decide +kernel
theorem dL_list_14 : decode cL_list 14 = .ok (.astore 5, 2) := by decide +kernel
theorem dL_list_16 : decode cL_list 16 = .ok (.iconst 1, 1) := by decide +kernel
theorem dL_list_17 : decode cL_list 17 = .ok (.ireturn, 1) := by decide +kernel
theorem dL_list_18 : decode cL_list 18 = .ok (.astore 5, 2) := by decide +kernel
theorem dL_list_20 : decode cL_list 20 = .ok (.iconst 2, 1) := by decide +kernel
theorem dL_list_21 : decode cL_list 21 = .ok (.ireturn, 1) := by decide +kernel
theorem dL_list_22 : decode cL_list 22 = .ok (.iconst 0, 1) := by decide +kernel
theorem dL_list_23 : decode cL_list 23 = .ok (.ireturn, 1) := by decide +kernel
set_option maxRecDepth 20000 in
theorem ggL_size_X6_size : GoodIn wsL_size wsX6_size := goodIn_ca (goodIn_ca (goodIn_r _ [7, 8, 9, 10, 11, 12, 13, 14, 15, 16, 6, 17, 18, 19, 20, 21, 22, 23, 24, 25, 26, 27, 28, 29, 30, 31, 32, 33, 34, 35, 36, 37, 38, 39, 40, 41, 42, 43, 44, 45, 46, 47, 48, 49, 50, 51, 52, 53, 54, 55, 56, 57, 58, 59, 60, 61, 62, 63, 64, 65, 66, 67, 68, 69, 70, 71, 72, 73, 74, 75, 76, 77, 78, 79, 80, 81, 82, 83, 84, 85, 86, 87, 88, 89, 90, 91, 92, 93, 94, 95, 96, 97, 98, 99, 100, 101, 102, 103, 104, 105, 106, 107, 108, 109, 110, 111, 112, 113, 114, 115, 116, 117, 118, 119, 120, 121, 122, 123, 124, 125, 126, 127, 128, 129, 130, 131, 132, 133, 134, 135, 136, 137, 138, 139, 140, 141, 142, 143, 144, 145, 146, 147, 148, 149, 150, 151, 152, 153, 154, 155, 156, 157, 158, 159, 160, 161, 162] (by decide +kernel) (by decide +kernel)) (goodIn_sub (fun _ h => List.mem_cons_of_mem _ (List.mem_append_left _ (List.mem_append_right _ h))) (by decide +kernel))) (goodIn_sub (fun _ h => List.mem_cons_of_mem _ (List.mem_append_right _ h)) (by decide +kernel))
set_option maxRecDepth 20000 in
theorem gL_size_X6_size : GoodIn wsL_size (wsV RL 57 RX6 yX6_size wsX6_size) := goodIn_app (goodIn_of _ (by decide +kernel)) ggL_size_X6_size
theorem dL_size_0 : decode cL_size 0 = .ok (.aload_n 2, 1) := by decide +kernel
theorem dL_size_1 : decode cL_size 1 = .ok (.iconst 0, 1) := by decide +kernel
theorem dL_size_2 : decode cL_size 2 = .ok (.aload_n 0, 1) := by decide +kernel
end
section
theorem dL_size_3 : decode cL_size 3 = .ok (.iload_n 1, 1) := by decide +kernel
theorem dL_size_4 : decode cL_size 4 = .ok (.invokevirtual 57, 3) := by decide +kernel
theorem dL_size_7 : decode cL_size 7 = .ok (.i2l, 1) := by decide +kernel
theorem dL_size_8 : decode cL_size 8 = .ok (.lastore, 1) := by decide +kernel
theorem dL_size_9 : decode cL_size 9 = .ok (.goto 9, 3) := by decide +kernel
theorem dL_size_12 : decode cL_size 12 = .ok (.astore_n 3, 1) := by decide +kernel
theorem dL_size_13 : decode cL_size 13 = .ok (.iconst 1, 1) := by decide +kernel
theorem dL_size_14 : decode cL_size 14 = .ok (.ireturn, 1) := by decide +kernel
theorem dL_size_15 : decode cL_size 15 = .ok (.astore_n 3, 1) := by decide +kernel
theorem dL_size_16 : decode cL_size 16 = .ok (.iconst 2, 1) := by decide +kernel
theorem dL_size_17 : decode cL_size 17 = .ok (.ireturn, 1) := by decide +kernel
theorem dL_size_18 : decode cL_size 18 = .ok (.iconst 0, 1) := by decide +kernel
theorem dL_size_19 : decode cL_size 19 = .ok (.ireturn, 1) := by decide +kernel
set_option maxRecDepth 20000 in
theorem ggL_read_X6_read : GoodIn wsL_read wsX6_read := goodIn_ca (goodIn_ca (goodIn_r _ [7, 8, 9, 10, 11, 12, 13, 14, 15, 6, 16, 17, 18, 19, 20, 21, 22, 23, 24, 25, 26, 27, 28, 29, 30, 31, 32, 33, 34, 35, 36, 37, 38, 39, 40, 41, 42, 43, 44] (by decide +kernel) (by decide +kernel)) (goodIn_sub (fun _ h => List.mem_cons_of_mem _ (List.mem_append_left _ (List.mem_append_right _ h))) (by decide +kernel))) (goodIn_sub (fun _ h => List.mem_cons_of_mem _ (List.mem_append_right _ h)) (by decide +kernel))
set_option maxRecDepth 20000 in
theorem gL_read_X6_read : GoodIn wsL_read (wsV RL 60 RX6 yX6_read wsX6_read) := goodIn_app (goodIn_of _ (by decide +kernel)) ggL_read_X6_read
theorem dL_read_0 : decode cL_read 0 = .ok (.aload_n 0, 1) := by decide +kernel
theorem dL_read_1 : decode cL_read 1 = .ok (.iload_n 1, 1) := by decide +kernel
theorem dL_read_2 : decode cL_read 2 = .ok (.dload_n 2, 1) := by decide +kernel
theorem dL_read_3 : decode cL_read 3 = .ok (.invokevirtual 60, 3) := by decide +kernel
theorem dL_read_6 : decode cL_read 6 = .ok (.goto 11, 3) := by decide +kernel
theorem dL_read_9 : decode cL_read 9 = .ok (.astore 4, 2) := by decide +kernel
theorem dL_read_11 : decode cL_read 11 = .ok (.iconst 1, 1) := by decide +kernel
theorem dL_read_12 : decode cL_read 12 = .ok (.ireturn, 1) := by decide +kernel
theorem dL_read_13 : decode cL_read 13 = .ok (.astore 4, 2) := by decide +kernel
theorem dL_read_15 : decode cL_read 15 = .ok (.iconst 2, 1) := by decide +kernel
theorem dL_read_16 : decode cL_read 16 = .ok (.ireturn, 1) := by decide +kernel
theorem dL_read_17 : decode cL_read 17 = .ok (.iconst 0, 1) := by decide +kernel
theorem dL_read_18 : decode cL_read 18 = .ok (.ireturn, 1) := by decide +kernel
set_option maxRecDepth 20000 in
theorem ggL_fit_X6_fit : GoodIn wsL_fit wsX6_fit := goodIn_ca (goodIn_ca (goodIn_r _ [7, 8, 9, 10, 11, 12, 6, 13, 14, 15, 16, 17, 18, 19, 20, 21, 22, 23, 24, 25, 26, 27, 28, 29, 30, 31, 32, 33, 34, 35, 36, 37, 38, 39, 40, 41, 42, 43, 44, 45, 46, 47, 48, 49, 50, 51, 52, 53, 54, 55, 56, 57, 58, 59, 60, 61, 62, 63, 64, 65, 66, 67, 68, 69, 70, 71, 72, 73, 74] (by decide +kernel) (by decide +kernel)) (goodIn_sub (fun _ h => List.mem_cons_of_mem _ (List.mem_append_left _ (List.mem_append_right _ h))) (by decide +kernel))) (goodIn_sub (fun _ h => List.mem_cons_of_mem _ (List.mem_append_right _ h)) (by decide +kernel))
set_option maxRecDepth 20000 in
theorem gL_fit_X6_fit : GoodIn wsL_fit (wsV RL 64 RX6 yX6_fit wsX6_fit) := goodIn_app (goodIn_of _ (by decide +kernel)) ggL_fit_X6_fit
theorem dL_fit_0 : decode cL_fit 0 = .ok (.aload_n 2, 1) := by decide +kernel
theorem dL_fit_1 : decode cL_fit 1 = .ok (.iconst 0, 1) := by decide +kernel
theorem dL_fit_2 : decode cL_fit 2 = .ok (.aload_n 0, 1) := by decide +kernel
theorem dL_fit_3 : decode cL_fit 3 = .ok (.iload_n 1, 1) := by decide +kernel
theorem dL_fit_4 : decode cL_fit 4 = .ok (.invokevirtual 64, 3) := by decide +kernel
theorem dL_fit_7 : decode cL_fit 7 = .ok (.dastore, 1) := by decide +kernel
theorem dL_fit_8 : decode cL_fit 8 = .ok (.goto 9, 3) := by decide +kernel
theorem dL_fit_11 : decode cL_fit 11 = .ok (.astore_n 3, 1) := by decide +kernel
theorem dL_fit_12 : decode cL_fit 12 = .ok (.iconst 1, 1) := by decide +kernel
theorem dL_fit_13 : decode cL_fit 13 = .ok (.ireturn, 1) := by decide +kernel
theorem dL_fit_14 : decode cL_fit 14 = .ok (.astore_n 3, 1) := by decide +kernel
theorem dL_fit_15 : decode cL_fit 15 = .ok (.iconst 2, 1) := by decide +kernel
theorem dL_fit_16 : decode cL_fit 16 = .ok (.ireturn, 1) := by decide +kernel
theorem dL_fit_17 : decode cL_fit 17 = .ok (.iconst 0, 1) := by decide +kernel
theorem dL_fit_18 : decode cL_fit 18 = .ok (.ireturn, 1) := by decide +kernel
set_option maxRecDepth 20000 in
theorem ggL_count_X6_count : GoodIn wsL_count wsX6_count := goodIn_ca (goodIn_r _ [6, 7, 8, 9, 10, 11, 12, 13, 14, 15, 5, 16, 17, 18, 19, 20, 21, 22, 23, 24, 25, 26, 27, 28, 29, 30, 31, 32, 33, 34, 35, 36, 37, 38, 39, 40, 41, 42, 43] (by decide +kernel) (by decide +kernel)) (goodIn_sub (fun _ h => List.mem_cons_of_mem _ (List.mem_append_right _ h)) (by decide +kernel))
set_option maxRecDepth 20000 in
theorem gL_count_X6_count : GoodIn wsL_count (wsV RL 68 RX6 yX6_count wsX6_count) := goodIn_app (goodIn_of _ (by decide +kernel)) ggL_count_X6_count
theorem dL_count_0 : decode cL_count 0 = .ok (.aload_n 2, 1) := by decide +kernel
theorem dL_count_1 : decode cL_count 1 = .ok (.iconst 0, 1) := by decide +kernel
theorem dL_count_2 : decode cL_count 2 = .ok (.aload_n 0, 1) := by decide +kernel
theorem dL_count_3 : decode cL_count 3 = .ok (.iload_n 1, 1) := by decide +kernel
theorem dL_count_4 : decode cL_count 4 = .ok (.invokevirtual 68, 3) := by decide +kernel
theorem dL_count_7 : decode cL_count 7 = .ok (.i2l, 1) := by decide +kernel
theorem dL_count_8 : decode cL_count 8 = .ok (.lastore, 1) := by decide +kernel
theorem dL_count_9 : decode cL_count 9 = .ok (.goto 6, 3) := by decide +kernel
theorem dL_count_12 : decode cL_count 12 = .ok (.astore_n 3, 1) := by decide +kernel
theorem dL_count_13 : decode cL_count 13 = .ok (.iconst 1, 1) := by decide +kernel
theorem dL_count_14 : decode cL_count 14 = .ok (.ireturn, 1) := by decide +kernel
theorem dL_count_15 : decode cL_count 15 = .ok (.iconst 0, 1) := by decide +kernel
theorem dL_count_16 : decode cL_count 16 = .ok (.ireturn, 1) := by decide +kernel
set_option maxRecDepth 20000 in
theorem ggL_law_X6_init : GoodIn wsL_law wsX6_init := goodIn_r _ [11, 12, 13, 14, 15, 16, 17, 18, 19, 20, 21, 22, 23, 24, 25, 26, 27, 28, 29, 30, 31, 32, 33, 34, 35, 36, 37, 38, 39, 40, 41, 42, 43, 44, 45, 46, 47, 7, 48, 49, 50, 51, 52, 53, 54, 55, 56, 57, 58, 59, 60, 61, 62, 63, 64, 65, 66, 67, 68, 69, 70, 71, 72, 73, 74, 75, 76, 77, 78, 79, 80, 81, 82, 83, 84, 85, 86, 87, 88, 89, 90, 91, 92, 93, 579, 580, 581, 582, 583, 548, 549, 550, 551, 552, 553, 554, 584, 585, 586, 587, 588, 589, 590, 591, 592, 593, 594, 595, 596, 597, 598, 599, 600, 601, 602, 603, 604, 605, 606, 607] (by decide +kernel) (by decide +kernel)
set_option maxRecDepth 20000 in
theorem gL_law_X6_init : GoodIn wsL_law (wsX6_init) := ggL_law_X6_init
set_option maxRecDepth 20000 in
theorem ggL_law_X7_init : GoodIn wsL_law wsX7_init := goodIn_r _ [96, 97, 13, 14, 98, 54, 99, 100, 7, 101, 102, 103, 70, 104, 105, 106, 107, 108, 109, 110, 111, 112, 113, 114, 115, 116, 117, 555, 556, 557, 558, 559, 560, 561, 562, 563, 564, 565, 566, 567, 568, 569, 570, 571, 572, 573, 574, 575, 576, 577, 578] (by decide +kernel) (by decide +kernel)
set_option maxRecDepth 20000 in
theorem gL_law_X7_init : GoodIn wsL_law (wsX7_init) := ggL_law_X7_init
set_option maxRecDepth 20000 in
theorem ggL_law_L_joint : GoodIn wsL_law wsL_joint := goodIn_ca (goodIn_r _ [121, 122, 123, 124, 125, 2, 126, 31, 32, 127, 128, 129, 130, 131, 548, 549, 550, 551, 552, 553, 554] (by decide +kernel) (by decide +kernel)) (goodIn_sub (fun _ h => List.mem_append_left _ (List.mem_append_left _ (List.mem_append_right _ h))) (by decide +kernel))
set_option maxRecDepth 20000 in
theorem gL_law_L_joint : GoodIn wsL_law (va_wsS RL 75 yL_joint wsL_joint) := goodIn_app (goodIn_of _ (by decide +kernel)) ggL_law_L_joint
set_option maxRecDepth 20000 in
theorem ggL_law_X7_joint : GoodIn wsL_law wsX7_joint := goodIn_r _ [135, 98, 136, 137, 555, 556, 557, 558, 559, 560, 561, 562, 563, 564, 565, 566, 567, 568, 569, 570, 571, 572, 573, 574, 575, 576, 577, 578] (by decide +kernel) (by decide +kernel)
set_option maxRecDepth 20000 in
theorem gL_law_X7_joint : GoodIn wsL_law (wsV RL 80 RX7 yX7_joint wsX7_joint) := goodIn_app (goodIn_of _ (by decide +kernel)) ggL_law_X7_joint
set_option maxRecDepth 20000 in
theorem ggL_law_X7_thrown : GoodIn wsL_law wsX7_thrown := goodIn_r _ [141, 136, 555, 556, 557, 558, 559, 560, 561, 562, 563, 564, 565, 566, 567, 568, 569, 570, 571, 572, 573, 574, 575, 576, 577, 578] (by decide +kernel) (by decide +kernel)
set_option maxRecDepth 20000 in
theorem gL_law_X7_thrown : GoodIn wsL_law (wsV RL 81 RX7 yX7_thrown wsX7_thrown) := goodIn_app (goodIn_of _ (by decide +kernel)) ggL_law_X7_thrown
set_option maxRecDepth 20000 in
theorem ggL_law_L_duct : GoodIn wsL_law wsL_duct := goodIn_ca (goodIn_ca (goodIn_ca (goodIn_r _ [144, 145, 146, 122, 147, 148, 149, 2, 150, 31, 151, 152, 20, 153, 32, 154, 155, 156, 157, 158, 159, 160, 161, 162, 163, 164, 165, 166, 127, 128, 129, 130, 131, 167, 168, 169, 38, 170, 53, 55, 56, 57, 171, 172, 173, 174, 58, 59, 175, 176, 177, 178, 61, 62, 548, 549, 550, 551, 552, 553, 554, 591, 592, 593, 594, 595, 596, 597, 598] (by decide +kernel) (by decide +kernel)) (goodIn_sub (fun _ h => List.mem_append_left _ (List.mem_append_right _ h)) (by decide +kernel))) (goodIn_sub (fun _ h => List.mem_append_right _ h) (by decide +kernel))) (goodIn_sub (fun _ h => List.mem_append_left _ (List.mem_append_left _ (List.mem_append_right _ h))) (by decide +kernel))
set_option maxRecDepth 20000 in
theorem gL_law_L_duct : GoodIn wsL_law (va_wsS RL 86 yL_duct wsL_duct) := goodIn_app (goodIn_of _ (by decide +kernel)) ggL_law_L_duct
set_option maxRecDepth 20000 in
theorem ggL_law_X7_duct : GoodIn wsL_law wsX7_duct := goodIn_r _ [182, 183, 184, 185, 136, 99, 100, 101, 102, 137, 186, 187, 5, 188, 189, 190, 191, 192, 98, 193, 194, 195, 555, 556, 557, 558, 559, 560, 561, 562, 563, 564, 565, 566, 567, 568, 569, 570, 571, 572, 573, 574, 575, 576, 577, 578] (by decide +kernel) (by decide +kernel)
set_option maxRecDepth 20000 in
theorem gL_law_X7_duct : GoodIn wsL_law (wsV RL 89 RX7 yX7_duct wsX7_duct) := goodIn_app (goodIn_of _ (by decide +kernel)) ggL_law_X7_duct
set_option maxRecDepth 20000 in
theorem ggL_law_L_machine : GoodIn wsL_law wsL_machine := goodIn_ca (goodIn_ca (goodIn_ca (goodIn_r _ [198, 145, 146, 122, 199, 200, 201, 2, 202, 31, 151, 203, 22, 204, 32, 154, 155, 156, 157, 158, 159, 160, 161, 162, 163, 164, 165, 166, 127, 128, 129, 130, 131, 205, 206, 207, 42, 208, 66, 67, 68, 548, 549, 550, 551, 552, 553, 554, 599, 600, 601, 602, 603, 604] (by decide +kernel) (by decide +kernel)) (goodIn_sub (fun _ h => List.mem_append_left _ (List.mem_append_right _ h)) (by decide +kernel))) (goodIn_sub (fun _ h => List.mem_append_right _ h) (by decide +kernel))) (goodIn_sub (fun _ h => List.mem_append_left _ (List.mem_append_left _ (List.mem_append_right _ h))) (by decide +kernel))
set_option maxRecDepth 20000 in
theorem gL_law_L_machine : GoodIn wsL_law (va_wsS RL 90 yL_machine wsL_machine) := goodIn_app (goodIn_of _ (by decide +kernel)) ggL_law_L_machine
set_option maxRecDepth 20000 in
theorem ggL_law_X7_machine : GoodIn wsL_law wsX7_machine := goodIn_r _ [212, 183, 213, 214, 136, 106, 107, 137, 189, 190, 191, 5, 192, 98, 193, 194, 195, 186, 187, 188, 555, 556, 557, 558, 559, 560, 561, 562, 563, 564, 565, 566, 567, 568, 569, 570, 571, 572, 573, 574, 575, 576, 577, 578] (by decide +kernel) (by decide +kernel)
set_option maxRecDepth 20000 in
theorem gL_law_X7_machine : GoodIn wsL_law (wsV RL 93 RX7 yX7_machine wsX7_machine) := goodIn_app (goodIn_of _ (by decide +kernel)) ggL_law_X7_machine
set_option maxRecDepth 20000 in
theorem ggL_law_L_use : GoodIn wsL_law wsL_use := goodIn_ca (goodIn_r _ [217, 145, 218, 219, 220, 2, 221, 22, 204, 32, 154, 155, 156, 157, 158, 222, 223, 224, 42, 225, 72, 548, 549, 550, 551, 552, 553, 554, 599, 600, 601, 602, 603, 604] (by decide +kernel) (by decide +kernel)) (goodIn_sub (fun _ h => List.mem_append_left _ (List.mem_append_right _ h)) (by decide +kernel))
set_option maxRecDepth 20000 in
theorem gL_law_L_use : GoodIn wsL_law (va_wsS RL 94 yL_use wsL_use) := goodIn_app (goodIn_of _ (by decide +kernel)) ggL_law_L_use
set_option maxRecDepth 20000 in
theorem ggL_law_X7_use : GoodIn wsL_law wsX7_use := goodIn_r _ [229, 136, 108, 137, 193, 194, 5, 195, 230, 231, 232, 233, 214, 555, 556, 557, 558, 559, 560, 561, 562, 563, 564, 565, 566, 567, 568, 569, 570, 571, 572, 573, 574, 575, 576, 577, 578] (by decide +kernel) (by decide +kernel)
set_option maxRecDepth 20000 in
theorem gL_law_X7_use : GoodIn wsL_law (wsV RL 97 RX7 yX7_use wsX7_use) := goodIn_app (goodIn_of _ (by decide +kernel)) ggL_law_X7_use
set_option maxRecDepth 20000 in
theorem ggL_law_L_fan : GoodIn wsL_law wsL_fan := goodIn_ca (goodIn_r _ [236, 146, 237, 238, 239, 2, 240, 203, 32, 18, 241, 242, 243, 159, 160, 161, 162, 163, 164, 165, 166, 548, 549, 550, 551, 552, 553, 554, 579, 580, 581, 582, 583, 605, 606, 607] (by decide +kernel) (by decide +kernel)) (goodIn_sub (fun _ h => List.mem_append_right _ h) (by decide +kernel))
set_option maxRecDepth 20000 in
theorem gL_law_L_fan : GoodIn wsL_law (va_wsS RL 98 yL_fan wsL_fan) := goodIn_app (goodIn_of _ (by decide +kernel)) ggL_law_L_fan
set_option maxRecDepth 20000 in
theorem ggL_law_X7_fan : GoodIn wsL_law wsX7_fan := goodIn_r _ [247, 213, 136, 112, 114, 137, 186, 187, 5, 188, 555, 556, 557, 558, 559, 560, 561, 562, 563, 564, 565, 566, 567, 568, 569, 570, 571, 572, 573, 574, 575, 576, 577, 578] (by decide +kernel) (by decide +kernel)
set_option maxRecDepth 20000 in
theorem gL_law_X7_fan : GoodIn wsL_law (wsV RL 101 RX7 yX7_fan wsX7_fan) := goodIn_app (goodIn_of _ (by decide +kernel)) ggL_law_X7_fan
set_option maxRecDepth 20000 in
theorem ggL_law_L_solve : GoodIn wsL_law wsL_solve := goodIn_ca (goodIn_r _ [250, 145, 251, 252, 253, 2, 254, 18, 32, 154, 155, 156, 157, 158, 255, 256, 257, 17, 258, 43, 47, 259, 48, 260, 261, 262, 42, 263, 66, 71, 72, 69, 264, 265, 266, 267, 268, 269, 270, 271, 272, 49, 39, 273, 274, 275, 276, 277, 278, 279, 280, 281, 282, 283, 284, 285, 286, 67, 287, 288, 289, 290, 291, 292, 293, 46, 294, 77, 79, 80, 295, 296, 297, 298, 299, 300, 301, 38, 302, 55, 56, 303, 304, 305, 306, 307, 308, 309, 310, 311, 312, 313, 314, 315, 316, 317, 318, 319, 320, 321, 322, 323, 548, 549, 550, 551, 552, 553, 554, 579, 580, 581, 582, 583, 605, 606, 607, 599, 600, 601, 602, 603, 604, 591, 592, 593, 594, 595, 596, 597, 598] (by decide +kernel) (by decide +kernel)) (goodIn_sub (fun _ h => List.mem_append_left _ (List.mem_append_right _ h)) (by decide +kernel))
set_option maxRecDepth 20000 in
theorem gL_law_L_solve : GoodIn wsL_law (va_wsS RL 102 yL_solve wsL_solve) := goodIn_app (goodIn_of _ (by decide +kernel)) ggL_law_L_solve
set_option maxRecDepth 20000 in
theorem ggL_law_X7_solve : GoodIn wsL_law wsX7_solve := goodIn_r _ [327, 136, 193, 194, 5, 195, 328, 329, 330, 331, 115, 110, 214, 108, 109, 332, 137, 333, 334, 335, 336, 337, 112, 114, 98, 185, 338, 339, 340, 341, 106, 342, 343, 344, 345, 346, 99, 100, 347, 348, 349, 350, 102, 101, 351, 352, 353, 354, 107, 213, 355, 356, 357, 358, 359, 555, 556, 557, 558, 559, 560, 561, 562, 563, 564, 565, 566, 567, 568, 569, 570, 571, 572, 573, 574, 575, 576, 577, 578] (by decide +kernel) (by decide +kernel)
set_option maxRecDepth 20000 in
theorem gL_law_X7_solve : GoodIn wsL_law (wsV RL 105 RX7 yX7_solve wsX7_solve) := goodIn_app (goodIn_of _ (by decide +kernel)) ggL_law_X7_solve
set_option maxRecDepth 20000 in
theorem ggL_law_L_at : GoodIn wsL_law wsL_at := goodIn_ca (goodIn_ca (goodIn_r _ [362, 145, 122, 363, 364, 365, 2, 366, 31, 32, 18, 367, 154, 155, 156, 157, 158, 127, 128, 129, 130, 131, 368, 369, 370, 17, 371, 43, 280, 305, 306, 307, 308, 39, 273, 279, 278, 48, 299, 300, 301, 38, 302, 55, 56, 283, 284, 285, 42, 286, 71, 67, 319, 320, 321, 322, 316, 281, 282, 323, 309, 310, 548, 549, 550, 551, 552, 553, 554, 579, 580, 581, 582, 583, 599, 600, 601, 602, 603, 604, 591, 592, 593, 594, 595, 596, 597, 598] (by decide +kernel) (by decide +kernel)) (goodIn_sub (fun _ h => List.mem_append_left _ (List.mem_append_right _ h)) (by decide +kernel))) (goodIn_sub (fun _ h => List.mem_append_left _ (List.mem_append_left _ (List.mem_append_right _ h))) (by decide +kernel))
set_option maxRecDepth 20000 in
theorem gL_law_L_at : GoodIn wsL_law (va_wsS RL 106 yL_at wsL_at) := goodIn_app (goodIn_of _ (by decide +kernel)) ggL_law_L_at
set_option maxRecDepth 20000 in
theorem ggL_law_X7_at : GoodIn wsL_law wsX7_at := goodIn_r _ [375, 115, 185, 100, 99, 214, 110, 106, 189, 190, 191, 5, 192, 98, 193, 194, 195, 376, 377, 378, 379, 137, 136, 380, 381, 382, 383, 347, 348, 349, 350, 102, 101, 356, 357, 358, 359, 109, 342, 555, 556, 557, 558, 559, 560, 561, 562, 563, 564, 565, 566, 567, 568, 569, 570, 571, 572, 573, 574, 575, 576, 577, 578] (by decide +kernel) (by decide +kernel)
set_option maxRecDepth 20000 in
theorem gL_law_X7_at : GoodIn wsL_law (wsV RL 109 RX7 yX7_at wsX7_at) := goodIn_app (goodIn_of _ (by decide +kernel)) ggL_law_X7_at
set_option maxRecDepth 20000 in
theorem ggL_law_L_of : GoodIn wsL_law wsL_of := goodIn_ca (goodIn_ca (goodIn_r _ [386, 145, 122, 387, 388, 389, 2, 390, 20, 153, 32, 18, 391, 26, 392, 154, 155, 156, 157, 158, 127, 128, 129, 130, 131, 393, 394, 395, 17, 396, 39, 278, 48, 397, 398, 399, 400, 401, 402, 403, 404, 303, 304, 548, 549, 550, 551, 552, 553, 554, 591, 592, 593, 594, 595, 596, 597, 598, 584, 585, 586, 579, 580, 581, 582, 583] (by decide +kernel) (by decide +kernel)) (goodIn_sub (fun _ h => List.mem_append_left _ (List.mem_append_right _ h)) (by decide +kernel))) (goodIn_sub (fun _ h => List.mem_append_left _ (List.mem_append_left _ (List.mem_append_right _ h))) (by decide +kernel))
set_option maxRecDepth 20000 in
theorem gL_law_L_of : GoodIn wsL_law (va_wsS RL 110 yL_of wsL_of) := goodIn_app (goodIn_of _ (by decide +kernel)) ggL_law_L_of
set_option maxRecDepth 20000 in
theorem ggL_law_X7_of : GoodIn wsL_law wsX7_of := goodIn_r _ [408, 185, 103, 193, 194, 5, 195, 376, 377, 378, 379, 137, 136, 380, 381, 382, 383, 115, 99, 100, 347, 348, 349, 350, 102, 101, 409, 410, 411, 412, 413, 414, 415, 555, 556, 557, 558, 559, 560, 561, 562, 563, 564, 565, 566, 567, 568, 569, 570, 571, 572, 573, 574, 575, 576, 577, 578] (by decide +kernel) (by decide +kernel)
set_option maxRecDepth 20000 in
theorem gL_law_X7_of : GoodIn wsL_law (wsV RL 112 RX7 yX7_of wsX7_of) := goodIn_app (goodIn_of _ (by decide +kernel)) ggL_law_X7_of
set_option maxRecDepth 20000 in
theorem ggL_law_L_draws : GoodIn wsL_law wsL_draws := goodIn_ca (goodIn_ca (goodIn_r _ [418, 145, 122, 419, 420, 421, 2, 422, 22, 204, 32, 423, 18, 154, 155, 156, 157, 158, 127, 128, 129, 130, 131, 424, 320, 321, 17, 322, 43, 316, 281, 282, 48, 323, 309, 310, 548, 549, 550, 551, 552, 553, 554, 599, 600, 601, 602, 603, 604, 579, 580, 581, 582, 583] (by decide +kernel) (by decide +kernel)) (goodIn_sub (fun _ h => List.mem_append_left _ (List.mem_append_right _ h)) (by decide +kernel))) (goodIn_sub (fun _ h => List.mem_append_left _ (List.mem_append_left _ (List.mem_append_right _ h))) (by decide +kernel))
set_option maxRecDepth 20000 in
theorem gL_law_L_draws : GoodIn wsL_law (va_wsS RL 113 yL_draws wsL_draws) := goodIn_app (goodIn_of _ (by decide +kernel)) ggL_law_L_draws
set_option maxRecDepth 20000 in
theorem ggL_law_X7_draws : GoodIn wsL_law wsX7_draws := goodIn_r _ [428, 109, 230, 231, 232, 5, 233, 214, 193, 194, 195, 376, 377, 378, 379, 137, 136, 356, 357, 358, 359, 110, 342, 115, 106, 555, 556, 557, 558, 559, 560, 561, 562, 563, 564, 565, 566, 567, 568, 569, 570, 571, 572, 573, 574, 575, 576, 577, 578] (by decide +kernel) (by decide +kernel)
set_option maxRecDepth 20000 in
theorem gL_law_X7_draws : GoodIn wsL_law (wsV RL 115 RX7 yX7_draws wsX7_draws) := goodIn_app (goodIn_of _ (by decide +kernel)) ggL_law_X7_draws
set_option maxRecDepth 20000 in
theorem ggL_law_L_keeps : GoodIn wsL_law wsL_keeps := goodIn_ca (goodIn_ca (goodIn_r _ [431, 146, 122, 432, 433, 434, 2, 435, 32, 18, 162, 163, 164, 165, 166, 127, 128, 129, 130, 131, 436, 437, 438, 17, 439, 39, 440, 441, 400, 401, 402, 403, 404, 394, 395, 396, 278, 48, 397, 398, 303, 304, 548, 549, 550, 551, 552, 553, 554, 579, 580, 581, 582, 583, 591, 592, 593, 594, 595, 596, 597, 598] (by decide +kernel) (by decide +kernel)) (goodIn_sub (fun _ h => List.mem_append_right _ h) (by decide +kernel))) (goodIn_sub (fun _ h => List.mem_append_left _ (List.mem_append_left _ (List.mem_append_right _ h))) (by decide +kernel))
set_option maxRecDepth 20000 in
theorem gL_law_L_keeps : GoodIn wsL_law (va_wsS RL 116 yL_keeps wsL_keeps) := goodIn_app (goodIn_of _ (by decide +kernel)) ggL_law_L_keeps
set_option maxRecDepth 20000 in
theorem ggL_law_X7_keeps : GoodIn wsL_law wsX7_keeps := goodIn_r _ [445, 137, 136, 185, 409, 410, 411, 5, 412, 102, 380, 381, 382, 383, 115, 99, 100, 347, 348, 349, 350, 101, 413, 414, 415, 555, 556, 557, 558, 559, 560, 561, 562, 563, 564, 565, 566, 567, 568, 569, 570, 571, 572, 573, 574, 575, 576, 577, 578] (by decide +kernel) (by decide +kernel)
set_option maxRecDepth 20000 in
theorem gL_law_X7_keeps : GoodIn wsL_law (wsV RL 119 RX7 yX7_keeps wsX7_keeps) := goodIn_app (goodIn_of _ (by decide +kernel)) ggL_law_X7_keeps
set_option maxRecDepth 20000 in
theorem ggL_law_L_list : GoodIn wsL_law wsL_list := goodIn_ca (goodIn_ca (goodIn_r _ [448, 146, 122, 449, 450, 451, 2, 452, 151, 152, 453, 30, 454, 159, 160, 161, 162, 163, 164, 165, 166, 127, 128, 129, 130, 131, 455, 456, 457, 29, 458, 90, 91, 92, 93, 548, 549, 550, 551, 552, 553, 554, 587, 588, 589, 590] (by decide +kernel) (by decide +kernel)) (goodIn_sub (fun _ h => List.mem_append_right _ h) (by decide +kernel))) (goodIn_sub (fun _ h => List.mem_append_left _ (List.mem_append_left _ (List.mem_append_right _ h))) (by decide +kernel))
set_option maxRecDepth 20000 in
theorem gL_law_L_list : GoodIn wsL_law (va_wsS RL 120 yL_list wsL_list) := goodIn_app (goodIn_of _ (by decide +kernel)) ggL_law_L_list
set_option maxRecDepth 20000 in
theorem ggL_law_X7_list : GoodIn wsL_law wsX7_list := goodIn_r _ [462, 183, 184, 463, 464, 136, 116, 117, 186, 187, 5, 188, 193, 194, 195, 555, 556, 557, 558, 559, 560, 561, 562, 563, 564, 565, 566, 567, 568, 569, 570, 571, 572, 573, 574, 575, 576, 577, 578] (by decide +kernel) (by decide +kernel)
set_option maxRecDepth 20000 in
theorem gL_law_X7_list : GoodIn wsL_law (wsV RL 123 RX7 yX7_list wsX7_list) := goodIn_app (goodIn_of _ (by decide +kernel)) ggL_law_X7_list
set_option maxRecDepth 20000 in
theorem ggL_law_L_size : GoodIn wsL_law wsL_size := goodIn_ca (goodIn_ca (goodIn_r _ [467, 145, 122, 468, 469, 470, 2, 471, 30, 454, 472, 20, 473, 18, 32, 154, 155, 156, 157, 158, 127, 128, 129, 130, 131, 474, 475, 476, 38, 477, 53, 171, 172, 173, 174, 58, 59, 57, 255, 256, 257, 17, 258, 43, 47, 259, 48, 260, 261, 262, 42, 263, 66, 71, 72, 69, 264, 265, 266, 267, 268, 269, 270, 271, 272, 49, 39, 273, 274, 275, 276, 277, 278, 279, 280, 281, 282, 283, 284, 285, 286, 67, 287, 288, 289, 290, 291, 292, 293, 46, 294, 77, 79, 80, 295, 296, 297, 298, 299, 300, 301, 302, 55, 56, 303, 304, 305, 306, 307, 308, 309, 310, 311, 312, 313, 314, 315, 316, 317, 318, 319, 320, 321, 322, 323, 478, 479, 480, 481, 482, 548, 549, 550, 551, 552, 553, 554, 587, 588, 589, 590, 591, 592, 593, 594, 595, 596, 597, 598, 579, 580, 581, 582, 583, 605, 606, 607, 599, 600, 601, 602, 603, 604] (by decide +kernel) (by decide +kernel)) (goodIn_sub (fun _ h => List.mem_append_left _ (List.mem_append_right _ h)) (by decide +kernel))) (goodIn_sub (fun _ h => List.mem_append_left _ (List.mem_append_left _ (List.mem_append_right _ h))) (by decide +kernel))
set_option maxRecDepth 20000 in
theorem gL_law_L_size : GoodIn wsL_law (va_wsS RL 124 yL_size wsL_size) := goodIn_app (goodIn_of _ (by decide +kernel)) ggL_law_L_size
set_option maxRecDepth 20000 in
theorem ggL_law_X7_size : GoodIn wsL_law wsX7_size := goodIn_r _ [486, 464, 136, 185, 102, 116, 193, 194, 5, 195, 487, 488, 489, 490, 117, 328, 329, 330, 331, 115, 110, 214, 108, 109, 332, 137, 333, 334, 335, 336, 337, 112, 114, 98, 338, 339, 340, 341, 106, 342, 343, 344, 345, 346, 99, 100, 347, 348, 349, 350, 101, 351, 352, 353, 354, 107, 213, 355, 356, 357, 358, 359, 491, 492, 493, 494, 495, 555, 556, 557, 558, 559, 560, 561, 562, 563, 564, 565, 566, 567, 568, 569, 570, 571, 572, 573, 574, 575, 576, 577, 578] (by decide +kernel) (by decide +kernel)
set_option maxRecDepth 20000 in
theorem gL_law_X7_size : GoodIn wsL_law (wsV RL 126 RX7 yX7_size wsX7_size) := goodIn_app (goodIn_of _ (by decide +kernel)) ggL_law_X7_size
set_option maxRecDepth 20000 in
theorem ggL_law_L_read : GoodIn wsL_law wsL_read := goodIn_ca (goodIn_ca (goodIn_r _ [498, 145, 146, 499, 500, 501, 2, 502, 20, 153, 503, 26, 504, 505, 154, 155, 156, 157, 158, 159, 160, 161, 162, 163, 164, 165, 166, 548, 549, 550, 551, 552, 553, 554, 591, 592, 593, 594, 595, 596, 597, 598, 584, 585, 586] (by decide +kernel) (by decide +kernel)) (goodIn_sub (fun _ h => List.mem_append_left _ (List.mem_append_right _ h)) (by decide +kernel))) (goodIn_sub (fun _ h => List.mem_append_right _ h) (by decide +kernel))
set_option maxRecDepth 20000 in
theorem gL_law_L_read : GoodIn wsL_law (va_wsS RL 127 yL_read wsL_read) := goodIn_app (goodIn_of _ (by decide +kernel)) ggL_law_L_read
set_option maxRecDepth 20000 in
theorem ggL_law_X7_read : GoodIn wsL_law wsX7_read := goodIn_r _ [509, 185, 510, 136, 104, 105, 193, 194, 5, 195, 186, 187, 188, 555, 556, 557, 558, 559, 560, 561, 562, 563, 564, 565, 566, 567, 568, 569, 570, 571, 572, 573, 574, 575, 576, 577, 578] (by decide +kernel) (by decide +kernel)
set_option maxRecDepth 20000 in
theorem gL_law_X7_read : GoodIn wsL_law (wsV RL 130 RX7 yX7_read wsX7_read) := goodIn_app (goodIn_of _ (by decide +kernel)) ggL_law_X7_read
set_option maxRecDepth 20000 in
theorem ggL_law_L_fit : GoodIn wsL_law wsL_fit := goodIn_ca (goodIn_ca (goodIn_r _ [513, 146, 122, 514, 515, 516, 2, 517, 32, 26, 18, 162, 163, 164, 165, 166, 127, 128, 129, 130, 131, 518, 519, 520, 25, 521, 86, 84, 522, 523, 524, 525, 526, 85, 527, 394, 395, 17, 396, 39, 278, 48, 397, 398, 303, 304, 309, 310, 528, 529, 530, 531, 548, 549, 550, 551, 552, 553, 554, 584, 585, 586, 579, 580, 581, 582, 583, 591, 592, 593, 594, 595, 596, 597, 598] (by decide +kernel) (by decide +kernel)) (goodIn_sub (fun _ h => List.mem_append_right _ h) (by decide +kernel))) (goodIn_sub (fun _ h => List.mem_append_left _ (List.mem_append_left _ (List.mem_append_right _ h))) (by decide +kernel))
set_option maxRecDepth 20000 in
theorem gL_law_L_fit : GoodIn wsL_law (va_wsS RL 131 yL_fit wsL_fit) := goodIn_app (goodIn_of _ (by decide +kernel)) ggL_law_L_fit
set_option maxRecDepth 20000 in
theorem ggL_law_X7_fit : GoodIn wsL_law wsX7_fit := goodIn_r _ [535, 137, 136, 185, 104, 103, 105, 536, 193, 194, 5, 195, 380, 381, 382, 383, 115, 99, 100, 347, 348, 349, 350, 102, 101, 413, 414, 415, 555, 556, 557, 558, 559, 560, 561, 562, 563, 564, 565, 566, 567, 568, 569, 570, 571, 572, 573, 574, 575, 576, 577, 578] (by decide +kernel) (by decide +kernel)
set_option maxRecDepth 20000 in
theorem gL_law_X7_fit : GoodIn wsL_law (wsV RL 134 RX7 yX7_fit wsX7_fit) := goodIn_app (goodIn_of _ (by decide +kernel)) ggL_law_X7_fit
set_option maxRecDepth 20000 in
theorem ggL_law_L_count : GoodIn wsL_law wsL_count := goodIn_ca (goodIn_r _ [539, 145, 540, 541, 542, 2, 543, 31, 20, 153, 22, 204, 30, 454, 154, 155, 156, 157, 158, 548, 549, 550, 551, 552, 553, 554, 591, 592, 593, 594, 595, 596, 597, 598, 599, 600, 601, 602, 603, 604, 587, 588, 589, 590] (by decide +kernel) (by decide +kernel)) (goodIn_sub (fun _ h => List.mem_append_left _ (List.mem_append_right _ h)) (by decide +kernel))
set_option maxRecDepth 20000 in
theorem gL_law_L_count : GoodIn wsL_law (va_wsS RL 135 yL_count wsL_count) := goodIn_app (goodIn_of _ (by decide +kernel)) ggL_law_L_count
set_option maxRecDepth 20000 in
theorem ggL_law_X7_count : GoodIn wsL_law wsX7_count := goodIn_r _ [547, 136, 98, 185, 214, 464, 193, 194, 5, 195, 555, 556, 557, 558, 559, 560, 561, 562, 563, 564, 565, 566, 567, 568, 569, 570, 571, 572, 573, 574, 575, 576, 577, 578] (by decide +kernel) (by decide +kernel)
set_option maxRecDepth 20000 in
theorem gL_law_X7_count : GoodIn wsL_law (wsV RL 137 RX7 yX7_count wsX7_count) := goodIn_app (goodIn_of _ (by decide +kernel)) ggL_law_X7_count
theorem dL_law_0 : decode cL_law 0 = .ok (.new 8, 3) := by decide +kernel
theorem dL_law_3 : decode cL_law 3 = .ok (.dup, 1) := by decide +kernel
theorem dL_law_4 : decode cL_law 4 = .ok (.invokespecial 71, 3) := by decide +kernel
theorem dL_law_7 : decode cL_law 7 = .ok (.astore_n 1, 1) := by decide +kernel
theorem dL_law_8 : decode cL_law 8 = .ok (.new 72, 3) := by decide +kernel
theorem dL_law_11 : decode cL_law 11 = .ok (.dup, 1) := by decide +kernel
theorem dL_law_12 : decode cL_law 12 = .ok (.invokespecial 74, 3) := by decide +kernel
theorem dL_law_15 : decode cL_law 15 = .ok (.astore_n 2, 1) := by decide +kernel
theorem dL_law_16 : decode cL_law 16 = .ok (.iconst 1, 1) := by decide +kernel
theorem dL_law_17 : decode cL_law 17 = .ok (.newarray .long, 2) := by decide +kernel
theorem dL_law_19 : decode cL_law 19 = .ok (.astore_n 3, 1) := by decide +kernel
theorem dL_law_20 : decode cL_law 20 = .ok (.iconst 1, 1) := by decide +kernel
theorem dL_law_21 : decode cL_law 21 = .ok (.newarray .double, 2) := by decide +kernel
theorem dL_law_23 : decode cL_law 23 = .ok (.astore 4, 2) := by decide +kernel
theorem dL_law_25 : decode cL_law 25 = .ok (.iconst 0, 1) := by decide +kernel
theorem dL_law_26 : decode cL_law 26 = .ok (.istore 5, 2) := by decide +kernel
theorem dL_law_28 : decode cL_law 28 = .ok (.iload 5, 2) := by decide +kernel
theorem dL_law_30 : decode cL_law 30 = .ok (.aload_n 0, 1) := by decide +kernel
theorem dL_law_31 : decode cL_law 31 = .ok (.arraylength, 1) := by decide +kernel
theorem dL_law_32 : decode cL_law 32 = .ok (.iconst 5, 1) := by decide +kernel
theorem dL_law_33 : decode cL_law 33 = .ok (.isub, 1) := by decide +kernel
theorem dL_law_34 : decode cL_law 34 = .ok (.if_icmp .gt 1191, 3) := by decide +kernel
theorem dL_law_37 : decode cL_law 37 = .ok (.aload_n 0, 1) := by decide +kernel
theorem dL_law_38 : decode cL_law 38 = .ok (.iload 5, 2) := by decide +kernel
theorem dL_law_40 : decode cL_law 40 = .ok (.iaload, 1) := by decide +kernel
theorem dL_law_41 : decode cL_law 41 = .ok (.bipush 15, 2) := by decide +kernel
theorem dL_law_43 : decode cL_law 43 = .ok (.iand, 1) := by decide +kernel
theorem dL_law_44 : decode cL_law 44 = .ok (.tableswitch 1175 0 14 #[76, 120, 232, 310, 386, 454, 510, 599, 688, 777, 850, 928, 984, 1042, 1119], 76) := by decide +kernel
theorem dL_law_120 : decode cL_law 120 = .ok (.aload_n 1, 1) := by decide +kernel
theorem dL_law_121 : decode cL_law 121 = .ok (.aload_n 3, 1) := by decide +kernel
theorem dL_law_122 : decode cL_law 122 = .ok (.invokestatic 75, 3) := by decide +kernel
theorem dL_law_125 : decode cL_law 125 = .ok (.istore 6, 2) := by decide +kernel
theorem dL_law_127 : decode cL_law 127 = .ok (.aload_n 2, 1) := by decide +kernel
theorem dL_law_128 : decode cL_law 128 = .ok (.invokevirtual 80, 3) := by decide +kernel
theorem dL_law_131 : decode cL_law 131 = .ok (.istore 7, 2) := by decide +kernel
theorem dL_law_133 : decode cL_law 133 = .ok (.aload_n 2, 1) := by decide +kernel
theorem dL_law_134 : decode cL_law 134 = .ok (.invokevirtual 81, 3) := by decide +kernel
theorem dL_law_137 : decode cL_law 137 = .ok (.iload 6, 2) := by decide +kernel
theorem dL_law_139 : decode cL_law 139 = .ok (.if_icmp .eq 5, 3) := by decide +kernel
theorem dL_law_142 : decode cL_law 142 = .ok (.iconst 0, 1) := by decide +kernel
theorem dL_law_143 : decode cL_law 143 = .ok (.ireturn, 1) := by decide +kernel
theorem dL_law_144 : decode cL_law 144 = .ok (.iload 6, 2) := by decide +kernel
theorem dL_law_146 : decode cL_law 146 = .ok (.ifCond .ne 15, 3) := by decide +kernel
theorem dL_law_149 : decode cL_law 149 = .ok (.aload_n 3, 1) := by decide +kernel
theorem dL_law_150 : decode cL_law 150 = .ok (.iconst 0, 1) := by decide +kernel
theorem dL_law_151 : decode cL_law 151 = .ok (.laload, 1) := by decide +kernel
theorem dL_law_152 : decode cL_law 152 = .ok (.iload 7, 2) := by decide +kernel
theorem dL_law_154 : decode cL_law 154 = .ok (.i2l, 1) := by decide +kernel
theorem dL_law_155 : decode cL_law 155 = .ok (.lcmp, 1) := by decide +kernel
theorem dL_law_156 : decode cL_law 156 = .ok (.ifCond .eq 5, 3) := by decide +kernel
theorem dL_law_159 : decode cL_law 159 = .ok (.iconst 0, 1) := by decide +kernel
theorem dL_law_160 : decode cL_law 160 = .ok (.ireturn, 1) := by decide +kernel
theorem dL_law_161 : decode cL_law 161 = .ok (.goto 1058, 3) := by decide +kernel
theorem dL_law_164 : decode cL_law 164 = .ok (.aload_n 1, 1) := by decide +kernel
theorem dL_law_165 : decode cL_law 165 = .ok (.aload_n 0, 1) := by decide +kernel
theorem dL_law_166 : decode cL_law 166 = .ok (.iload 5, 2) := by decide +kernel
theorem dL_law_168 : decode cL_law 168 = .ok (.iconst 1, 1) := by decide +kernel
theorem dL_law_169 : decode cL_law 169 = .ok (.iadd, 1) := by decide +kernel
theorem dL_law_170 : decode cL_law 170 = .ok (.iaload, 1) := by decide +kernel
theorem dL_law_171 : decode cL_law 171 = .ok (.aload_n 0, 1) := by decide +kernel
theorem dL_law_172 : decode cL_law 172 = .ok (.iload 5, 2) := by decide +kernel
theorem dL_law_174 : decode cL_law 174 = .ok (.iconst 2, 1) := by decide +kernel
theorem dL_law_175 : decode cL_law 175 = .ok (.iadd, 1) := by decide +kernel
theorem dL_law_176 : decode cL_law 176 = .ok (.iaload, 1) := by decide +kernel
theorem dL_law_177 : decode cL_law 177 = .ok (.aload_n 0, 1) := by decide +kernel
theorem dL_law_178 : decode cL_law 178 = .ok (.iload 5, 2) := by decide +kernel
theorem dL_law_180 : decode cL_law 180 = .ok (.iconst 3, 1) := by decide +kernel
theorem dL_law_181 : decode cL_law 181 = .ok (.iadd, 1) := by decide +kernel
theorem dL_law_182 : decode cL_law 182 = .ok (.iaload, 1) := by decide +kernel
theorem dL_law_183 : decode cL_law 183 = .ok (.i2d, 1) := by decide +kernel
theorem dL_law_184 : decode cL_law 184 = .ok (.ldc2_w 84, 3) := by decide +kernel
theorem dL_law_187 : decode cL_law 187 = .ok (.dmul, 1) := by decide +kernel
theorem dL_law_188 : decode cL_law 188 = .ok (.aload_n 0, 1) := by decide +kernel
theorem dL_law_189 : decode cL_law 189 = .ok (.iload 5, 2) := by decide +kernel
theorem dL_law_191 : decode cL_law 191 = .ok (.iconst 4, 1) := by decide +kernel
theorem dL_law_192 : decode cL_law 192 = .ok (.iadd, 1) := by decide +kernel
theorem dL_law_193 : decode cL_law 193 = .ok (.iaload, 1) := by decide +kernel
theorem dL_law_194 : decode cL_law 194 = .ok (.i2d, 1) := by decide +kernel
theorem dL_law_195 : decode cL_law 195 = .ok (.ldc2_w 84, 3) := by decide +kernel
theorem dL_law_198 : decode cL_law 198 = .ok (.dmul, 1) := by decide +kernel
theorem dL_law_199 : decode cL_law 199 = .ok (.aload_n 3, 1) := by decide +kernel
theorem dL_law_200 : decode cL_law 200 = .ok (.invokestatic 86, 3) := by decide +kernel
theorem dL_law_203 : decode cL_law 203 = .ok (.istore 6, 2) := by decide +kernel
theorem dL_law_205 : decode cL_law 205 = .ok (.aload_n 2, 1) := by decide +kernel
theorem dL_law_206 : decode cL_law 206 = .ok (.aload_n 0, 1) := by decide +kernel
theorem dL_law_207 : decode cL_law 207 = .ok (.iload 5, 2) := by decide +kernel
theorem dL_law_209 : decode cL_law 209 = .ok (.iconst 1, 1) := by decide +kernel
theorem dL_law_210 : decode cL_law 210 = .ok (.iadd, 1) := by decide +kernel
theorem dL_law_211 : decode cL_law 211 = .ok (.iaload, 1) := by decide +kernel
theorem dL_law_212 : decode cL_law 212 = .ok (.aload_n 0, 1) := by decide +kernel
theorem dL_law_213 : decode cL_law 213 = .ok (.iload 5, 2) := by decide +kernel
theorem dL_law_215 : decode cL_law 215 = .ok (.iconst 2, 1) := by decide +kernel
theorem dL_law_216 : decode cL_law 216 = .ok (.iadd, 1) := by decide +kernel
theorem dL_law_217 : decode cL_law 217 = .ok (.iaload, 1) := by decide +kernel
theorem dL_law_218 : decode cL_law 218 = .ok (.aload_n 0, 1) := by decide +kernel
theorem dL_law_219 : decode cL_law 219 = .ok (.iload 5, 2) := by decide +kernel
theorem dL_law_221 : decode cL_law 221 = .ok (.iconst 3, 1) := by decide +kernel
theorem dL_law_222 : decode cL_law 222 = .ok (.iadd, 1) := by decide +kernel
theorem dL_law_223 : decode cL_law 223 = .ok (.iaload, 1) := by decide +kernel
theorem dL_law_224 : decode cL_law 224 = .ok (.i2d, 1) := by decide +kernel
theorem dL_law_225 : decode cL_law 225 = .ok (.ldc2_w 84, 3) := by decide +kernel
theorem dL_law_228 : decode cL_law 228 = .ok (.dmul, 1) := by decide +kernel
theorem dL_law_229 : decode cL_law 229 = .ok (.aload_n 0, 1) := by decide +kernel
theorem dL_law_230 : decode cL_law 230 = .ok (.iload 5, 2) := by decide +kernel
theorem dL_law_232 : decode cL_law 232 = .ok (.iconst 4, 1) := by decide +kernel
theorem dL_law_233 : decode cL_law 233 = .ok (.iadd, 1) := by decide +kernel
theorem dL_law_234 : decode cL_law 234 = .ok (.iaload, 1) := by decide +kernel
theorem dL_law_235 : decode cL_law 235 = .ok (.i2d, 1) := by decide +kernel
theorem dL_law_236 : decode cL_law 236 = .ok (.ldc2_w 84, 3) := by decide +kernel
theorem dL_law_239 : decode cL_law 239 = .ok (.dmul, 1) := by decide +kernel
theorem dL_law_240 : decode cL_law 240 = .ok (.invokevirtual 89, 3) := by decide +kernel
theorem dL_law_243 : decode cL_law 243 = .ok (.istore 7, 2) := by decide +kernel
theorem dL_law_245 : decode cL_law 245 = .ok (.aload_n 2, 1) := by decide +kernel
theorem dL_law_246 : decode cL_law 246 = .ok (.invokevirtual 81, 3) := by decide +kernel
theorem dL_law_249 : decode cL_law 249 = .ok (.iload 6, 2) := by decide +kernel
theorem dL_law_251 : decode cL_law 251 = .ok (.if_icmp .eq 5, 3) := by decide +kernel
theorem dL_law_254 : decode cL_law 254 = .ok (.iconst 0, 1) := by decide +kernel
theorem dL_law_255 : decode cL_law 255 = .ok (.ireturn, 1) := by decide +kernel
theorem dL_law_256 : decode cL_law 256 = .ok (.iload 6, 2) := by decide +kernel
theorem dL_law_258 : decode cL_law 258 = .ok (.ifCond .ne 15, 3) := by decide +kernel
theorem dL_law_261 : decode cL_law 261 = .ok (.aload_n 3, 1) := by decide +kernel
theorem dL_law_262 : decode cL_law 262 = .ok (.iconst 0, 1) := by decide +kernel
theorem dL_law_263 : decode cL_law 263 = .ok (.laload, 1) := by decide +kernel
theorem dL_law_264 : decode cL_law 264 = .ok (.iload 7, 2) := by decide +kernel
theorem dL_law_266 : decode cL_law 266 = .ok (.i2l, 1) := by decide +kernel
theorem dL_law_267 : decode cL_law 267 = .ok (.lcmp, 1) := by decide +kernel
theorem dL_law_268 : decode cL_law 268 = .ok (.ifCond .eq 5, 3) := by decide +kernel
theorem dL_law_271 : decode cL_law 271 = .ok (.iconst 0, 1) := by decide +kernel
theorem dL_law_272 : decode cL_law 272 = .ok (.ireturn, 1) := by decide +kernel
theorem dL_law_273 : decode cL_law 273 = .ok (.goto 946, 3) := by decide +kernel
theorem dL_law_276 : decode cL_law 276 = .ok (.aload_n 1, 1) := by decide +kernel
theorem dL_law_277 : decode cL_law 277 = .ok (.aload_n 0, 1) := by decide +kernel
theorem dL_law_278 : decode cL_law 278 = .ok (.iload 5, 2) := by decide +kernel
theorem dL_law_280 : decode cL_law 280 = .ok (.iconst 1, 1) := by decide +kernel
theorem dL_law_281 : decode cL_law 281 = .ok (.iadd, 1) := by decide +kernel
theorem dL_law_282 : decode cL_law 282 = .ok (.iaload, 1) := by decide +kernel
theorem dL_law_283 : decode cL_law 283 = .ok (.aload_n 0, 1) := by decide +kernel
theorem dL_law_284 : decode cL_law 284 = .ok (.iload 5, 2) := by decide +kernel
theorem dL_law_286 : decode cL_law 286 = .ok (.iconst 2, 1) := by decide +kernel
theorem dL_law_287 : decode cL_law 287 = .ok (.iadd, 1) := by decide +kernel
theorem dL_law_288 : decode cL_law 288 = .ok (.iaload, 1) := by decide +kernel
theorem dL_law_289 : decode cL_law 289 = .ok (.i2d, 1) := by decide +kernel
theorem dL_law_290 : decode cL_law 290 = .ok (.ldc2_w 84, 3) := by decide +kernel
theorem dL_law_293 : decode cL_law 293 = .ok (.dmul, 1) := by decide +kernel
theorem dL_law_294 : decode cL_law 294 = .ok (.aload_n 3, 1) := by decide +kernel
theorem dL_law_295 : decode cL_law 295 = .ok (.invokestatic 90, 3) := by decide +kernel
theorem dL_law_298 : decode cL_law 298 = .ok (.istore 6, 2) := by decide +kernel
theorem dL_law_300 : decode cL_law 300 = .ok (.aload_n 2, 1) := by decide +kernel
theorem dL_law_301 : decode cL_law 301 = .ok (.aload_n 0, 1) := by decide +kernel
theorem dL_law_302 : decode cL_law 302 = .ok (.iload 5, 2) := by decide +kernel
theorem dL_law_304 : decode cL_law 304 = .ok (.iconst 1, 1) := by decide +kernel
theorem dL_law_305 : decode cL_law 305 = .ok (.iadd, 1) := by decide +kernel
theorem dL_law_306 : decode cL_law 306 = .ok (.iaload, 1) := by decide +kernel
theorem dL_law_307 : decode cL_law 307 = .ok (.aload_n 0, 1) := by decide +kernel
theorem dL_law_308 : decode cL_law 308 = .ok (.iload 5, 2) := by decide +kernel
theorem dL_law_310 : decode cL_law 310 = .ok (.iconst 2, 1) := by decide +kernel
theorem dL_law_311 : decode cL_law 311 = .ok (.iadd, 1) := by decide +kernel
theorem dL_law_312 : decode cL_law 312 = .ok (.iaload, 1) := by decide +kernel
theorem dL_law_313 : decode cL_law 313 = .ok (.i2d, 1) := by decide +kernel
theorem dL_law_314 : decode cL_law 314 = .ok (.ldc2_w 84, 3) := by decide +kernel
theorem dL_law_317 : decode cL_law 317 = .ok (.dmul, 1) := by decide +kernel
theorem dL_law_318 : decode cL_law 318 = .ok (.invokevirtual 93, 3) := by decide +kernel
theorem dL_law_321 : decode cL_law 321 = .ok (.istore 7, 2) := by decide +kernel
theorem dL_law_323 : decode cL_law 323 = .ok (.aload_n 2, 1) := by decide +kernel
theorem dL_law_324 : decode cL_law 324 = .ok (.invokevirtual 81, 3) := by decide +kernel
theorem dL_law_327 : decode cL_law 327 = .ok (.iload 6, 2) := by decide +kernel
theorem dL_law_329 : decode cL_law 329 = .ok (.if_icmp .eq 5, 3) := by decide +kernel
theorem dL_law_332 : decode cL_law 332 = .ok (.iconst 0, 1) := by decide +kernel
theorem dL_law_333 : decode cL_law 333 = .ok (.ireturn, 1) := by decide +kernel
theorem dL_law_334 : decode cL_law 334 = .ok (.iload 6, 2) := by decide +kernel
theorem dL_law_336 : decode cL_law 336 = .ok (.ifCond .ne 15, 3) := by decide +kernel
theorem dL_law_339 : decode cL_law 339 = .ok (.aload_n 3, 1) := by decide +kernel
theorem dL_law_340 : decode cL_law 340 = .ok (.iconst 0, 1) := by decide +kernel
theorem dL_law_341 : decode cL_law 341 = .ok (.laload, 1) := by decide +kernel
theorem dL_law_342 : decode cL_law 342 = .ok (.iload 7, 2) := by decide +kernel
theorem dL_law_344 : decode cL_law 344 = .ok (.i2l, 1) := by decide +kernel
theorem dL_law_345 : decode cL_law 345 = .ok (.lcmp, 1) := by decide +kernel
theorem dL_law_346 : decode cL_law 346 = .ok (.ifCond .eq 5, 3) := by decide +kernel
theorem dL_law_349 : decode cL_law 349 = .ok (.iconst 0, 1) := by decide +kernel
theorem dL_law_350 : decode cL_law 350 = .ok (.ireturn, 1) := by decide +kernel
theorem dL_law_351 : decode cL_law 351 = .ok (.goto 868, 3) := by decide +kernel
theorem dL_law_354 : decode cL_law 354 = .ok (.aload_n 1, 1) := by decide +kernel
theorem dL_law_355 : decode cL_law 355 = .ok (.aload_n 0, 1) := by decide +kernel
theorem dL_law_356 : decode cL_law 356 = .ok (.iload 5, 2) := by decide +kernel
theorem dL_law_358 : decode cL_law 358 = .ok (.iconst 1, 1) := by decide +kernel
theorem dL_law_359 : decode cL_law 359 = .ok (.iadd, 1) := by decide +kernel
theorem dL_law_360 : decode cL_law 360 = .ok (.iaload, 1) := by decide +kernel
theorem dL_law_361 : decode cL_law 361 = .ok (.aload_n 0, 1) := by decide +kernel
theorem dL_law_362 : decode cL_law 362 = .ok (.iload 5, 2) := by decide +kernel
theorem dL_law_364 : decode cL_law 364 = .ok (.iconst 2, 1) := by decide +kernel
theorem dL_law_365 : decode cL_law 365 = .ok (.iadd, 1) := by decide +kernel
theorem dL_law_366 : decode cL_law 366 = .ok (.iaload, 1) := by decide +kernel
theorem dL_law_367 : decode cL_law 367 = .ok (.aload_n 0, 1) := by decide +kernel
theorem dL_law_368 : decode cL_law 368 = .ok (.iload 5, 2) := by decide +kernel
theorem dL_law_370 : decode cL_law 370 = .ok (.iconst 3, 1) := by decide +kernel
theorem dL_law_371 : decode cL_law 371 = .ok (.iadd, 1) := by decide +kernel
theorem dL_law_372 : decode cL_law 372 = .ok (.iaload, 1) := by decide +kernel
theorem dL_law_373 : decode cL_law 373 = .ok (.ifCond .eq 7, 3) := by decide +kernel
theorem dL_law_376 : decode cL_law 376 = .ok (.iconst 1, 1) := by decide +kernel
theorem dL_law_377 : decode cL_law 377 = .ok (.goto 4, 3) := by decide +kernel
theorem dL_law_380 : decode cL_law 380 = .ok (.iconst 0, 1) := by decide +kernel
theorem dL_law_381 : decode cL_law 381 = .ok (.invokestatic 94, 3) := by decide +kernel
theorem dL_law_384 : decode cL_law 384 = .ok (.istore 6, 2) := by decide +kernel
theorem dL_law_386 : decode cL_law 386 = .ok (.aload_n 2, 1) := by decide +kernel
theorem dL_law_387 : decode cL_law 387 = .ok (.aload_n 0, 1) := by decide +kernel
theorem dL_law_388 : decode cL_law 388 = .ok (.iload 5, 2) := by decide +kernel
theorem dL_law_390 : decode cL_law 390 = .ok (.iconst 1, 1) := by decide +kernel
theorem dL_law_391 : decode cL_law 391 = .ok (.iadd, 1) := by decide +kernel
theorem dL_law_392 : decode cL_law 392 = .ok (.iaload, 1) := by decide +kernel
theorem dL_law_393 : decode cL_law 393 = .ok (.aload_n 0, 1) := by decide +kernel
theorem dL_law_394 : decode cL_law 394 = .ok (.iload 5, 2) := by decide +kernel
theorem dL_law_396 : decode cL_law 396 = .ok (.iconst 2, 1) := by decide +kernel
theorem dL_law_397 : decode cL_law 397 = .ok (.iadd, 1) := by decide +kernel
theorem dL_law_398 : decode cL_law 398 = .ok (.iaload, 1) := by decide +kernel
theorem dL_law_399 : decode cL_law 399 = .ok (.aload_n 0, 1) := by decide +kernel
theorem dL_law_400 : decode cL_law 400 = .ok (.iload 5, 2) := by decide +kernel
theorem dL_law_402 : decode cL_law 402 = .ok (.iconst 3, 1) := by decide +kernel
theorem dL_law_403 : decode cL_law 403 = .ok (.iadd, 1) := by decide +kernel
theorem dL_law_404 : decode cL_law 404 = .ok (.iaload, 1) := by decide +kernel
theorem dL_law_405 : decode cL_law 405 = .ok (.ifCond .eq 7, 3) := by decide +kernel
theorem dL_law_408 : decode cL_law 408 = .ok (.iconst 1, 1) := by decide +kernel
theorem dL_law_409 : decode cL_law 409 = .ok (.goto 4, 3) := by decide +kernel
theorem dL_law_412 : decode cL_law 412 = .ok (.iconst 0, 1) := by decide +kernel
theorem dL_law_413 : decode cL_law 413 = .ok (.invokevirtual 97, 3) := by decide +kernel
theorem dL_law_416 : decode cL_law 416 = .ok (.aload_n 2, 1) := by decide +kernel
theorem dL_law_417 : decode cL_law 417 = .ok (.invokevirtual 81, 3) := by decide +kernel
theorem dL_law_420 : decode cL_law 420 = .ok (.iload 6, 2) := by decide +kernel
theorem dL_law_422 : decode cL_law 422 = .ok (.if_icmp .eq 5, 3) := by decide +kernel
theorem dL_law_425 : decode cL_law 425 = .ok (.iconst 0, 1) := by decide +kernel
theorem dL_law_426 : decode cL_law 426 = .ok (.ireturn, 1) := by decide +kernel
theorem dL_law_427 : decode cL_law 427 = .ok (.goto 792, 3) := by decide +kernel
theorem dL_law_430 : decode cL_law 430 = .ok (.aload_n 1, 1) := by decide +kernel
theorem dL_law_431 : decode cL_law 431 = .ok (.aload_n 0, 1) := by decide +kernel
theorem dL_law_432 : decode cL_law 432 = .ok (.iload 5, 2) := by decide +kernel
theorem dL_law_434 : decode cL_law 434 = .ok (.iconst 1, 1) := by decide +kernel
theorem dL_law_435 : decode cL_law 435 = .ok (.iadd, 1) := by decide +kernel
theorem dL_law_436 : decode cL_law 436 = .ok (.iaload, 1) := by decide +kernel
theorem dL_law_437 : decode cL_law 437 = .ok (.i2d, 1) := by decide +kernel
theorem dL_law_438 : decode cL_law 438 = .ok (.ldc2_w 84, 3) := by decide +kernel
theorem dL_law_441 : decode cL_law 441 = .ok (.dmul, 1) := by decide +kernel
theorem dL_law_442 : decode cL_law 442 = .ok (.aload_n 0, 1) := by decide +kernel
theorem dL_law_443 : decode cL_law 443 = .ok (.iload 5, 2) := by decide +kernel
theorem dL_law_445 : decode cL_law 445 = .ok (.iconst 2, 1) := by decide +kernel
theorem dL_law_446 : decode cL_law 446 = .ok (.iadd, 1) := by decide +kernel
theorem dL_law_447 : decode cL_law 447 = .ok (.iaload, 1) := by decide +kernel
theorem dL_law_448 : decode cL_law 448 = .ok (.i2d, 1) := by decide +kernel
theorem dL_law_449 : decode cL_law 449 = .ok (.ldc2_w 84, 3) := by decide +kernel
theorem dL_law_452 : decode cL_law 452 = .ok (.dmul, 1) := by decide +kernel
theorem dL_law_453 : decode cL_law 453 = .ok (.invokestatic 98, 3) := by decide +kernel
theorem dL_law_456 : decode cL_law 456 = .ok (.istore 6, 2) := by decide +kernel
theorem dL_law_458 : decode cL_law 458 = .ok (.aload_n 2, 1) := by decide +kernel
theorem dL_law_459 : decode cL_law 459 = .ok (.aload_n 0, 1) := by decide +kernel
theorem dL_law_460 : decode cL_law 460 = .ok (.iload 5, 2) := by decide +kernel
theorem dL_law_462 : decode cL_law 462 = .ok (.iconst 1, 1) := by decide +kernel
theorem dL_law_463 : decode cL_law 463 = .ok (.iadd, 1) := by decide +kernel
theorem dL_law_464 : decode cL_law 464 = .ok (.iaload, 1) := by decide +kernel
theorem dL_law_465 : decode cL_law 465 = .ok (.i2d, 1) := by decide +kernel
theorem dL_law_466 : decode cL_law 466 = .ok (.ldc2_w 84, 3) := by decide +kernel
theorem dL_law_469 : decode cL_law 469 = .ok (.dmul, 1) := by decide +kernel
theorem dL_law_470 : decode cL_law 470 = .ok (.aload_n 0, 1) := by decide +kernel
theorem dL_law_471 : decode cL_law 471 = .ok (.iload 5, 2) := by decide +kernel
theorem dL_law_473 : decode cL_law 473 = .ok (.iconst 2, 1) := by decide +kernel
theorem dL_law_474 : decode cL_law 474 = .ok (.iadd, 1) := by decide +kernel
theorem dL_law_475 : decode cL_law 475 = .ok (.iaload, 1) := by decide +kernel
theorem dL_law_476 : decode cL_law 476 = .ok (.i2d, 1) := by decide +kernel
theorem dL_law_477 : decode cL_law 477 = .ok (.ldc2_w 84, 3) := by decide +kernel
theorem dL_law_480 : decode cL_law 480 = .ok (.dmul, 1) := by decide +kernel
theorem dL_law_481 : decode cL_law 481 = .ok (.invokevirtual 101, 3) := by decide +kernel
theorem dL_law_484 : decode cL_law 484 = .ok (.aload_n 2, 1) := by decide +kernel
theorem dL_law_485 : decode cL_law 485 = .ok (.invokevirtual 81, 3) := by decide +kernel
theorem dL_law_488 : decode cL_law 488 = .ok (.iload 6, 2) := by decide +kernel
theorem dL_law_490 : decode cL_law 490 = .ok (.if_icmp .eq 5, 3) := by decide +kernel
theorem dL_law_493 : decode cL_law 493 = .ok (.iconst 0, 1) := by decide +kernel
theorem dL_law_494 : decode cL_law 494 = .ok (.ireturn, 1) := by decide +kernel
theorem dL_law_495 : decode cL_law 495 = .ok (.goto 724, 3) := by decide +kernel
theorem dL_law_498 : decode cL_law 498 = .ok (.aload_n 1, 1) := by decide +kernel
theorem dL_law_499 : decode cL_law 499 = .ok (.aload_n 0, 1) := by decide +kernel
theorem dL_law_500 : decode cL_law 500 = .ok (.iload 5, 2) := by decide +kernel
theorem dL_law_502 : decode cL_law 502 = .ok (.iconst 1, 1) := by decide +kernel
theorem dL_law_503 : decode cL_law 503 = .ok (.iadd, 1) := by decide +kernel
theorem dL_law_504 : decode cL_law 504 = .ok (.iaload, 1) := by decide +kernel
theorem dL_law_505 : decode cL_law 505 = .ok (.aload_n 3, 1) := by decide +kernel
theorem dL_law_506 : decode cL_law 506 = .ok (.invokestatic 102, 3) := by decide +kernel
theorem dL_law_509 : decode cL_law 509 = .ok (.istore 6, 2) := by decide +kernel
theorem dL_law_511 : decode cL_law 511 = .ok (.aload_n 2, 1) := by decide +kernel
theorem dL_law_512 : decode cL_law 512 = .ok (.aload_n 0, 1) := by decide +kernel
theorem dL_law_513 : decode cL_law 513 = .ok (.iload 5, 2) := by decide +kernel
theorem dL_law_515 : decode cL_law 515 = .ok (.iconst 1, 1) := by decide +kernel
theorem dL_law_516 : decode cL_law 516 = .ok (.iadd, 1) := by decide +kernel
theorem dL_law_517 : decode cL_law 517 = .ok (.iaload, 1) := by decide +kernel
theorem dL_law_518 : decode cL_law 518 = .ok (.invokevirtual 105, 3) := by decide +kernel
theorem dL_law_521 : decode cL_law 521 = .ok (.istore 7, 2) := by decide +kernel
theorem dL_law_523 : decode cL_law 523 = .ok (.aload_n 2, 1) := by decide +kernel
theorem dL_law_524 : decode cL_law 524 = .ok (.invokevirtual 81, 3) := by decide +kernel
theorem dL_law_527 : decode cL_law 527 = .ok (.iload 6, 2) := by decide +kernel
theorem dL_law_529 : decode cL_law 529 = .ok (.if_icmp .eq 5, 3) := by decide +kernel
theorem dL_law_532 : decode cL_law 532 = .ok (.iconst 0, 1) := by decide +kernel
theorem dL_law_533 : decode cL_law 533 = .ok (.ireturn, 1) := by decide +kernel
theorem dL_law_534 : decode cL_law 534 = .ok (.iload 6, 2) := by decide +kernel
theorem dL_law_536 : decode cL_law 536 = .ok (.ifCond .ne 15, 3) := by decide +kernel
theorem dL_law_539 : decode cL_law 539 = .ok (.aload_n 3, 1) := by decide +kernel
theorem dL_law_540 : decode cL_law 540 = .ok (.iconst 0, 1) := by decide +kernel
theorem dL_law_541 : decode cL_law 541 = .ok (.laload, 1) := by decide +kernel
theorem dL_law_542 : decode cL_law 542 = .ok (.iload 7, 2) := by decide +kernel
theorem dL_law_544 : decode cL_law 544 = .ok (.i2l, 1) := by decide +kernel
theorem dL_law_545 : decode cL_law 545 = .ok (.lcmp, 1) := by decide +kernel
theorem dL_law_546 : decode cL_law 546 = .ok (.ifCond .eq 5, 3) := by decide +kernel
theorem dL_law_549 : decode cL_law 549 = .ok (.iconst 0, 1) := by decide +kernel
theorem dL_law_550 : decode cL_law 550 = .ok (.ireturn, 1) := by decide +kernel
theorem dL_law_551 : decode cL_law 551 = .ok (.goto 668, 3) := by decide +kernel
theorem dL_law_554 : decode cL_law 554 = .ok (.aload_n 1, 1) := by decide +kernel
theorem dL_law_555 : decode cL_law 555 = .ok (.aload_n 0, 1) := by decide +kernel
theorem dL_law_556 : decode cL_law 556 = .ok (.iload 5, 2) := by decide +kernel
theorem dL_law_558 : decode cL_law 558 = .ok (.iconst 1, 1) := by decide +kernel
theorem dL_law_559 : decode cL_law 559 = .ok (.iadd, 1) := by decide +kernel
theorem dL_law_560 : decode cL_law 560 = .ok (.iaload, 1) := by decide +kernel
theorem dL_law_561 : decode cL_law 561 = .ok (.aload_n 0, 1) := by decide +kernel
theorem dL_law_562 : decode cL_law 562 = .ok (.iload 5, 2) := by decide +kernel
theorem dL_law_564 : decode cL_law 564 = .ok (.iconst 2, 1) := by decide +kernel
theorem dL_law_565 : decode cL_law 565 = .ok (.iadd, 1) := by decide +kernel
theorem dL_law_566 : decode cL_law 566 = .ok (.iaload, 1) := by decide +kernel
theorem dL_law_567 : decode cL_law 567 = .ok (.aload 4, 2) := by decide +kernel
theorem dL_law_569 : decode cL_law 569 = .ok (.invokestatic 106, 3) := by decide +kernel
theorem dL_law_572 : decode cL_law 572 = .ok (.istore 6, 2) := by decide +kernel
theorem dL_law_574 : decode cL_law 574 = .ok (.aload_n 2, 1) := by decide +kernel
theorem dL_law_575 : decode cL_law 575 = .ok (.aload_n 0, 1) := by decide +kernel
theorem dL_law_576 : decode cL_law 576 = .ok (.iload 5, 2) := by decide +kernel
theorem dL_law_578 : decode cL_law 578 = .ok (.iconst 1, 1) := by decide +kernel
theorem dL_law_579 : decode cL_law 579 = .ok (.iadd, 1) := by decide +kernel
theorem dL_law_580 : decode cL_law 580 = .ok (.iaload, 1) := by decide +kernel
theorem dL_law_581 : decode cL_law 581 = .ok (.aload_n 0, 1) := by decide +kernel
theorem dL_law_582 : decode cL_law 582 = .ok (.iload 5, 2) := by decide +kernel
theorem dL_law_584 : decode cL_law 584 = .ok (.iconst 2, 1) := by decide +kernel
theorem dL_law_585 : decode cL_law 585 = .ok (.iadd, 1) := by decide +kernel
theorem dL_law_586 : decode cL_law 586 = .ok (.iaload, 1) := by decide +kernel
theorem dL_law_587 : decode cL_law 587 = .ok (.invokevirtual 109, 3) := by decide +kernel
theorem dL_law_590 : decode cL_law 590 = .ok (.dstore 7, 2) := by decide +kernel
theorem dL_law_592 : decode cL_law 592 = .ok (.aload_n 2, 1) := by decide +kernel
theorem dL_law_593 : decode cL_law 593 = .ok (.invokevirtual 81, 3) := by decide +kernel
theorem dL_law_596 : decode cL_law 596 = .ok (.iload 6, 2) := by decide +kernel
theorem dL_law_598 : decode cL_law 598 = .ok (.if_icmp .eq 5, 3) := by decide +kernel
theorem dL_law_601 : decode cL_law 601 = .ok (.iconst 0, 1) := by decide +kernel
theorem dL_law_602 : decode cL_law 602 = .ok (.ireturn, 1) := by decide +kernel
theorem dL_law_603 : decode cL_law 603 = .ok (.iload 6, 2) := by decide +kernel
theorem dL_law_605 : decode cL_law 605 = .ok (.ifCond .ne 35, 3) := by decide +kernel
theorem dL_law_608 : decode cL_law 608 = .ok (.aload 4, 2) := by decide +kernel
theorem dL_law_610 : decode cL_law 610 = .ok (.iconst 0, 1) := by decide +kernel
theorem dL_law_611 : decode cL_law 611 = .ok (.daload, 1) := by decide +kernel
theorem dL_law_612 : decode cL_law 612 = .ok (.dload 7, 2) := by decide +kernel
theorem dL_law_614 : decode cL_law 614 = .ok (.dcmp .l, 1) := by decide +kernel
theorem dL_law_615 : decode cL_law 615 = .ok (.ifCond .eq 25, 3) := by decide +kernel
theorem dL_law_618 : decode cL_law 618 = .ok (.aload 4, 2) := by decide +kernel
theorem dL_law_620 : decode cL_law 620 = .ok (.iconst 0, 1) := by decide +kernel
theorem dL_law_621 : decode cL_law 621 = .ok (.daload, 1) := by decide +kernel
theorem dL_law_622 : decode cL_law 622 = .ok (.aload 4, 2) := by decide +kernel
theorem dL_law_624 : decode cL_law 624 = .ok (.iconst 0, 1) := by decide +kernel
theorem dL_law_625 : decode cL_law 625 = .ok (.daload, 1) := by decide +kernel
theorem dL_law_626 : decode cL_law 626 = .ok (.dcmp .l, 1) := by decide +kernel
theorem dL_law_627 : decode cL_law 627 = .ok (.ifCond .eq 11, 3) := by decide +kernel
theorem dL_law_630 : decode cL_law 630 = .ok (.dload 7, 2) := by decide +kernel
theorem dL_law_632 : decode cL_law 632 = .ok (.dload 7, 2) := by decide +kernel
theorem dL_law_634 : decode cL_law 634 = .ok (.dcmp .l, 1) := by decide +kernel
theorem dL_law_635 : decode cL_law 635 = .ok (.ifCond .ne 5, 3) := by decide +kernel
theorem dL_law_638 : decode cL_law 638 = .ok (.iconst 0, 1) := by decide +kernel
theorem dL_law_639 : decode cL_law 639 = .ok (.ireturn, 1) := by decide +kernel
theorem dL_law_640 : decode cL_law 640 = .ok (.goto 579, 3) := by decide +kernel
theorem dL_law_643 : decode cL_law 643 = .ok (.aload_n 1, 1) := by decide +kernel
theorem dL_law_644 : decode cL_law 644 = .ok (.aload_n 0, 1) := by decide +kernel
theorem dL_law_645 : decode cL_law 645 = .ok (.iload 5, 2) := by decide +kernel
theorem dL_law_647 : decode cL_law 647 = .ok (.iconst 1, 1) := by decide +kernel
theorem dL_law_648 : decode cL_law 648 = .ok (.iadd, 1) := by decide +kernel
theorem dL_law_649 : decode cL_law 649 = .ok (.iaload, 1) := by decide +kernel
theorem dL_law_650 : decode cL_law 650 = .ok (.aload_n 0, 1) := by decide +kernel
theorem dL_law_651 : decode cL_law 651 = .ok (.iload 5, 2) := by decide +kernel
theorem dL_law_653 : decode cL_law 653 = .ok (.iconst 2, 1) := by decide +kernel
theorem dL_law_654 : decode cL_law 654 = .ok (.iadd, 1) := by decide +kernel
theorem dL_law_655 : decode cL_law 655 = .ok (.iaload, 1) := by decide +kernel
theorem dL_law_656 : decode cL_law 656 = .ok (.aload 4, 2) := by decide +kernel
theorem dL_law_658 : decode cL_law 658 = .ok (.invokestatic 110, 3) := by decide +kernel
theorem dL_law_661 : decode cL_law 661 = .ok (.istore 6, 2) := by decide +kernel
theorem dL_law_663 : decode cL_law 663 = .ok (.aload_n 2, 1) := by decide +kernel
theorem dL_law_664 : decode cL_law 664 = .ok (.aload_n 0, 1) := by decide +kernel
theorem dL_law_665 : decode cL_law 665 = .ok (.iload 5, 2) := by decide +kernel
theorem dL_law_667 : decode cL_law 667 = .ok (.iconst 1, 1) := by decide +kernel
theorem dL_law_668 : decode cL_law 668 = .ok (.iadd, 1) := by decide +kernel
theorem dL_law_669 : decode cL_law 669 = .ok (.iaload, 1) := by decide +kernel
theorem dL_law_670 : decode cL_law 670 = .ok (.aload_n 0, 1) := by decide +kernel
theorem dL_law_671 : decode cL_law 671 = .ok (.iload 5, 2) := by decide +kernel
theorem dL_law_673 : decode cL_law 673 = .ok (.iconst 2, 1) := by decide +kernel
theorem dL_law_674 : decode cL_law 674 = .ok (.iadd, 1) := by decide +kernel
theorem dL_law_675 : decode cL_law 675 = .ok (.iaload, 1) := by decide +kernel
theorem dL_law_676 : decode cL_law 676 = .ok (.invokevirtual 112, 3) := by decide +kernel
theorem dL_law_679 : decode cL_law 679 = .ok (.dstore 7, 2) := by decide +kernel
theorem dL_law_681 : decode cL_law 681 = .ok (.aload_n 2, 1) := by decide +kernel
theorem dL_law_682 : decode cL_law 682 = .ok (.invokevirtual 81, 3) := by decide +kernel
theorem dL_law_685 : decode cL_law 685 = .ok (.iload 6, 2) := by decide +kernel
theorem dL_law_687 : decode cL_law 687 = .ok (.if_icmp .eq 5, 3) := by decide +kernel
theorem dL_law_690 : decode cL_law 690 = .ok (.iconst 0, 1) := by decide +kernel
theorem dL_law_691 : decode cL_law 691 = .ok (.ireturn, 1) := by decide +kernel
theorem dL_law_692 : decode cL_law 692 = .ok (.iload 6, 2) := by decide +kernel
theorem dL_law_694 : decode cL_law 694 = .ok (.ifCond .ne 35, 3) := by decide +kernel
theorem dL_law_697 : decode cL_law 697 = .ok (.aload 4, 2) := by decide +kernel
theorem dL_law_699 : decode cL_law 699 = .ok (.iconst 0, 1) := by decide +kernel
theorem dL_law_700 : decode cL_law 700 = .ok (.daload, 1) := by decide +kernel
theorem dL_law_701 : decode cL_law 701 = .ok (.dload 7, 2) := by decide +kernel
theorem dL_law_703 : decode cL_law 703 = .ok (.dcmp .l, 1) := by decide +kernel
theorem dL_law_704 : decode cL_law 704 = .ok (.ifCond .eq 25, 3) := by decide +kernel
theorem dL_law_707 : decode cL_law 707 = .ok (.aload 4, 2) := by decide +kernel
theorem dL_law_709 : decode cL_law 709 = .ok (.iconst 0, 1) := by decide +kernel
theorem dL_law_710 : decode cL_law 710 = .ok (.daload, 1) := by decide +kernel
theorem dL_law_711 : decode cL_law 711 = .ok (.aload 4, 2) := by decide +kernel
theorem dL_law_713 : decode cL_law 713 = .ok (.iconst 0, 1) := by decide +kernel
theorem dL_law_714 : decode cL_law 714 = .ok (.daload, 1) := by decide +kernel
theorem dL_law_715 : decode cL_law 715 = .ok (.dcmp .l, 1) := by decide +kernel
theorem dL_law_716 : decode cL_law 716 = .ok (.ifCond .eq 11, 3) := by decide +kernel
theorem dL_law_719 : decode cL_law 719 = .ok (.dload 7, 2) := by decide +kernel
theorem dL_law_721 : decode cL_law 721 = .ok (.dload 7, 2) := by decide +kernel
theorem dL_law_723 : decode cL_law 723 = .ok (.dcmp .l, 1) := by decide +kernel
theorem dL_law_724 : decode cL_law 724 = .ok (.ifCond .ne 5, 3) := by decide +kernel
theorem dL_law_727 : decode cL_law 727 = .ok (.iconst 0, 1) := by decide +kernel
theorem dL_law_728 : decode cL_law 728 = .ok (.ireturn, 1) := by decide +kernel
theorem dL_law_729 : decode cL_law 729 = .ok (.goto 490, 3) := by decide +kernel
theorem dL_law_732 : decode cL_law 732 = .ok (.aload_n 1, 1) := by decide +kernel
theorem dL_law_733 : decode cL_law 733 = .ok (.aload_n 0, 1) := by decide +kernel
theorem dL_law_734 : decode cL_law 734 = .ok (.iload 5, 2) := by decide +kernel
theorem dL_law_736 : decode cL_law 736 = .ok (.iconst 1, 1) := by decide +kernel
theorem dL_law_737 : decode cL_law 737 = .ok (.iadd, 1) := by decide +kernel
theorem dL_law_738 : decode cL_law 738 = .ok (.iaload, 1) := by decide +kernel
theorem dL_law_739 : decode cL_law 739 = .ok (.aload_n 0, 1) := by decide +kernel
theorem dL_law_740 : decode cL_law 740 = .ok (.iload 5, 2) := by decide +kernel
theorem dL_law_742 : decode cL_law 742 = .ok (.iconst 2, 1) := by decide +kernel
theorem dL_law_743 : decode cL_law 743 = .ok (.iadd, 1) := by decide +kernel
theorem dL_law_744 : decode cL_law 744 = .ok (.iaload, 1) := by decide +kernel
theorem dL_law_745 : decode cL_law 745 = .ok (.aload 4, 2) := by decide +kernel
theorem dL_law_747 : decode cL_law 747 = .ok (.invokestatic 113, 3) := by decide +kernel
theorem dL_law_750 : decode cL_law 750 = .ok (.istore 6, 2) := by decide +kernel
theorem dL_law_752 : decode cL_law 752 = .ok (.aload_n 2, 1) := by decide +kernel
theorem dL_law_753 : decode cL_law 753 = .ok (.aload_n 0, 1) := by decide +kernel
theorem dL_law_754 : decode cL_law 754 = .ok (.iload 5, 2) := by decide +kernel
theorem dL_law_756 : decode cL_law 756 = .ok (.iconst 1, 1) := by decide +kernel
theorem dL_law_757 : decode cL_law 757 = .ok (.iadd, 1) := by decide +kernel
theorem dL_law_758 : decode cL_law 758 = .ok (.iaload, 1) := by decide +kernel
theorem dL_law_759 : decode cL_law 759 = .ok (.aload_n 0, 1) := by decide +kernel
theorem dL_law_760 : decode cL_law 760 = .ok (.iload 5, 2) := by decide +kernel
theorem dL_law_762 : decode cL_law 762 = .ok (.iconst 2, 1) := by decide +kernel
theorem dL_law_763 : decode cL_law 763 = .ok (.iadd, 1) := by decide +kernel
theorem dL_law_764 : decode cL_law 764 = .ok (.iaload, 1) := by decide +kernel
theorem dL_law_765 : decode cL_law 765 = .ok (.invokevirtual 115, 3) := by decide +kernel
theorem dL_law_768 : decode cL_law 768 = .ok (.dstore 7, 2) := by decide +kernel
theorem dL_law_770 : decode cL_law 770 = .ok (.aload_n 2, 1) := by decide +kernel
theorem dL_law_771 : decode cL_law 771 = .ok (.invokevirtual 81, 3) := by decide +kernel
theorem dL_law_774 : decode cL_law 774 = .ok (.iload 6, 2) := by decide +kernel
theorem dL_law_776 : decode cL_law 776 = .ok (.if_icmp .eq 5, 3) := by decide +kernel
theorem dL_law_779 : decode cL_law 779 = .ok (.iconst 0, 1) := by decide +kernel
theorem dL_law_780 : decode cL_law 780 = .ok (.ireturn, 1) := by decide +kernel
theorem dL_law_781 : decode cL_law 781 = .ok (.iload 6, 2) := by decide +kernel
theorem dL_law_783 : decode cL_law 783 = .ok (.ifCond .ne 35, 3) := by decide +kernel
theorem dL_law_786 : decode cL_law 786 = .ok (.aload 4, 2) := by decide +kernel
theorem dL_law_788 : decode cL_law 788 = .ok (.iconst 0, 1) := by decide +kernel
theorem dL_law_789 : decode cL_law 789 = .ok (.daload, 1) := by decide +kernel
theorem dL_law_790 : decode cL_law 790 = .ok (.dload 7, 2) := by decide +kernel
theorem dL_law_792 : decode cL_law 792 = .ok (.dcmp .l, 1) := by decide +kernel
theorem dL_law_793 : decode cL_law 793 = .ok (.ifCond .eq 25, 3) := by decide +kernel
theorem dL_law_796 : decode cL_law 796 = .ok (.aload 4, 2) := by decide +kernel
theorem dL_law_798 : decode cL_law 798 = .ok (.iconst 0, 1) := by decide +kernel
theorem dL_law_799 : decode cL_law 799 = .ok (.daload, 1) := by decide +kernel
theorem dL_law_800 : decode cL_law 800 = .ok (.aload 4, 2) := by decide +kernel
theorem dL_law_802 : decode cL_law 802 = .ok (.iconst 0, 1) := by decide +kernel
theorem dL_law_803 : decode cL_law 803 = .ok (.daload, 1) := by decide +kernel
theorem dL_law_804 : decode cL_law 804 = .ok (.dcmp .l, 1) := by decide +kernel
theorem dL_law_805 : decode cL_law 805 = .ok (.ifCond .eq 11, 3) := by decide +kernel
theorem dL_law_808 : decode cL_law 808 = .ok (.dload 7, 2) := by decide +kernel
theorem dL_law_810 : decode cL_law 810 = .ok (.dload 7, 2) := by decide +kernel
theorem dL_law_812 : decode cL_law 812 = .ok (.dcmp .l, 1) := by decide +kernel
theorem dL_law_813 : decode cL_law 813 = .ok (.ifCond .ne 5, 3) := by decide +kernel
theorem dL_law_816 : decode cL_law 816 = .ok (.iconst 0, 1) := by decide +kernel
theorem dL_law_817 : decode cL_law 817 = .ok (.ireturn, 1) := by decide +kernel
theorem dL_law_818 : decode cL_law 818 = .ok (.goto 401, 3) := by decide +kernel
theorem dL_law_821 : decode cL_law 821 = .ok (.aload_n 1, 1) := by decide +kernel
theorem dL_law_822 : decode cL_law 822 = .ok (.aload_n 0, 1) := by decide +kernel
theorem dL_law_823 : decode cL_law 823 = .ok (.iload 5, 2) := by decide +kernel
theorem dL_law_825 : decode cL_law 825 = .ok (.iconst 1, 1) := by decide +kernel
theorem dL_law_826 : decode cL_law 826 = .ok (.iadd, 1) := by decide +kernel
theorem dL_law_827 : decode cL_law 827 = .ok (.iaload, 1) := by decide +kernel
theorem dL_law_828 : decode cL_law 828 = .ok (.i2d, 1) := by decide +kernel
theorem dL_law_829 : decode cL_law 829 = .ok (.ldc2_w 84, 3) := by decide +kernel
theorem dL_law_832 : decode cL_law 832 = .ok (.dmul, 1) := by decide +kernel
theorem dL_law_833 : decode cL_law 833 = .ok (.aload_n 3, 1) := by decide +kernel
theorem dL_law_834 : decode cL_law 834 = .ok (.invokestatic 116, 3) := by decide +kernel
theorem dL_law_837 : decode cL_law 837 = .ok (.istore 6, 2) := by decide +kernel
theorem dL_law_839 : decode cL_law 839 = .ok (.aload_n 2, 1) := by decide +kernel
theorem dL_law_840 : decode cL_law 840 = .ok (.aload_n 0, 1) := by decide +kernel
theorem dL_law_841 : decode cL_law 841 = .ok (.iload 5, 2) := by decide +kernel
theorem dL_law_843 : decode cL_law 843 = .ok (.iconst 1, 1) := by decide +kernel
theorem dL_law_844 : decode cL_law 844 = .ok (.iadd, 1) := by decide +kernel
theorem dL_law_845 : decode cL_law 845 = .ok (.iaload, 1) := by decide +kernel
theorem dL_law_846 : decode cL_law 846 = .ok (.i2d, 1) := by decide +kernel
theorem dL_law_847 : decode cL_law 847 = .ok (.ldc2_w 84, 3) := by decide +kernel
theorem dL_law_850 : decode cL_law 850 = .ok (.dmul, 1) := by decide +kernel
theorem dL_law_851 : decode cL_law 851 = .ok (.invokevirtual 119, 3) := by decide +kernel
theorem dL_law_854 : decode cL_law 854 = .ok (.istore 7, 2) := by decide +kernel
theorem dL_law_856 : decode cL_law 856 = .ok (.aload_n 2, 1) := by decide +kernel
theorem dL_law_857 : decode cL_law 857 = .ok (.invokevirtual 81, 3) := by decide +kernel
theorem dL_law_860 : decode cL_law 860 = .ok (.iload 6, 2) := by decide +kernel
theorem dL_law_862 : decode cL_law 862 = .ok (.if_icmp .eq 5, 3) := by decide +kernel
theorem dL_law_865 : decode cL_law 865 = .ok (.iconst 0, 1) := by decide +kernel
theorem dL_law_866 : decode cL_law 866 = .ok (.ireturn, 1) := by decide +kernel
theorem dL_law_867 : decode cL_law 867 = .ok (.iload 6, 2) := by decide +kernel
theorem dL_law_869 : decode cL_law 869 = .ok (.ifCond .ne 22, 3) := by decide +kernel
theorem dL_law_872 : decode cL_law 872 = .ok (.aload_n 3, 1) := by decide +kernel
theorem dL_law_873 : decode cL_law 873 = .ok (.iconst 0, 1) := by decide +kernel
theorem dL_law_874 : decode cL_law 874 = .ok (.laload, 1) := by decide +kernel
theorem dL_law_875 : decode cL_law 875 = .ok (.iload 7, 2) := by decide +kernel
theorem dL_law_877 : decode cL_law 877 = .ok (.ifCond .eq 7, 3) := by decide +kernel
theorem dL_law_880 : decode cL_law 880 = .ok (.lconst 1, 1) := by decide +kernel
theorem dL_law_881 : decode cL_law 881 = .ok (.goto 4, 3) := by decide +kernel
theorem dL_law_884 : decode cL_law 884 = .ok (.lconst 0, 1) := by decide +kernel
theorem dL_law_885 : decode cL_law 885 = .ok (.lcmp, 1) := by decide +kernel
theorem dL_law_886 : decode cL_law 886 = .ok (.ifCond .eq 5, 3) := by decide +kernel
theorem dL_law_889 : decode cL_law 889 = .ok (.iconst 0, 1) := by decide +kernel
theorem dL_law_890 : decode cL_law 890 = .ok (.ireturn, 1) := by decide +kernel
theorem dL_law_891 : decode cL_law 891 = .ok (.goto 328, 3) := by decide +kernel
theorem dL_law_894 : decode cL_law 894 = .ok (.aload_n 1, 1) := by decide +kernel
theorem dL_law_895 : decode cL_law 895 = .ok (.aload_n 0, 1) := by decide +kernel
theorem dL_law_896 : decode cL_law 896 = .ok (.iload 5, 2) := by decide +kernel
theorem dL_law_898 : decode cL_law 898 = .ok (.iconst 1, 1) := by decide +kernel
theorem dL_law_899 : decode cL_law 899 = .ok (.iadd, 1) := by decide +kernel
theorem dL_law_900 : decode cL_law 900 = .ok (.iaload, 1) := by decide +kernel
theorem dL_law_901 : decode cL_law 901 = .ok (.i2d, 1) := by decide +kernel
theorem dL_law_902 : decode cL_law 902 = .ok (.ldc2_w 84, 3) := by decide +kernel
theorem dL_law_905 : decode cL_law 905 = .ok (.dmul, 1) := by decide +kernel
theorem dL_law_906 : decode cL_law 906 = .ok (.aload_n 0, 1) := by decide +kernel
theorem dL_law_907 : decode cL_law 907 = .ok (.iload 5, 2) := by decide +kernel
theorem dL_law_909 : decode cL_law 909 = .ok (.iconst 2, 1) := by decide +kernel
theorem dL_law_910 : decode cL_law 910 = .ok (.iadd, 1) := by decide +kernel
theorem dL_law_911 : decode cL_law 911 = .ok (.iaload, 1) := by decide +kernel
theorem dL_law_912 : decode cL_law 912 = .ok (.aload_n 3, 1) := by decide +kernel
theorem dL_law_913 : decode cL_law 913 = .ok (.invokestatic 120, 3) := by decide +kernel
theorem dL_law_916 : decode cL_law 916 = .ok (.istore 6, 2) := by decide +kernel
theorem dL_law_918 : decode cL_law 918 = .ok (.aload_n 2, 1) := by decide +kernel
theorem dL_law_919 : decode cL_law 919 = .ok (.aload_n 0, 1) := by decide +kernel
theorem dL_law_920 : decode cL_law 920 = .ok (.iload 5, 2) := by decide +kernel
theorem dL_law_922 : decode cL_law 922 = .ok (.iconst 1, 1) := by decide +kernel
theorem dL_law_923 : decode cL_law 923 = .ok (.iadd, 1) := by decide +kernel
theorem dL_law_924 : decode cL_law 924 = .ok (.iaload, 1) := by decide +kernel
theorem dL_law_925 : decode cL_law 925 = .ok (.i2d, 1) := by decide +kernel
theorem dL_law_926 : decode cL_law 926 = .ok (.ldc2_w 84, 3) := by decide +kernel
theorem dL_law_929 : decode cL_law 929 = .ok (.dmul, 1) := by decide +kernel
theorem dL_law_930 : decode cL_law 930 = .ok (.aload_n 0, 1) := by decide +kernel
theorem dL_law_931 : decode cL_law 931 = .ok (.iload 5, 2) := by decide +kernel
theorem dL_law_933 : decode cL_law 933 = .ok (.iconst 2, 1) := by decide +kernel
theorem dL_law_934 : decode cL_law 934 = .ok (.iadd, 1) := by decide +kernel
theorem dL_law_935 : decode cL_law 935 = .ok (.iaload, 1) := by decide +kernel
theorem dL_law_936 : decode cL_law 936 = .ok (.invokevirtual 123, 3) := by decide +kernel
theorem dL_law_939 : decode cL_law 939 = .ok (.istore 7, 2) := by decide +kernel
theorem dL_law_941 : decode cL_law 941 = .ok (.aload_n 2, 1) := by decide +kernel
theorem dL_law_942 : decode cL_law 942 = .ok (.invokevirtual 81, 3) := by decide +kernel
theorem dL_law_945 : decode cL_law 945 = .ok (.iload 6, 2) := by decide +kernel
theorem dL_law_947 : decode cL_law 947 = .ok (.if_icmp .eq 5, 3) := by decide +kernel
theorem dL_law_950 : decode cL_law 950 = .ok (.iconst 0, 1) := by decide +kernel
theorem dL_law_951 : decode cL_law 951 = .ok (.ireturn, 1) := by decide +kernel
theorem dL_law_952 : decode cL_law 952 = .ok (.iload 6, 2) := by decide +kernel
theorem dL_law_954 : decode cL_law 954 = .ok (.ifCond .ne 15, 3) := by decide +kernel
theorem dL_law_957 : decode cL_law 957 = .ok (.aload_n 3, 1) := by decide +kernel
theorem dL_law_958 : decode cL_law 958 = .ok (.iconst 0, 1) := by decide +kernel
theorem dL_law_959 : decode cL_law 959 = .ok (.laload, 1) := by decide +kernel
theorem dL_law_960 : decode cL_law 960 = .ok (.iload 7, 2) := by decide +kernel
theorem dL_law_962 : decode cL_law 962 = .ok (.i2l, 1) := by decide +kernel
theorem dL_law_963 : decode cL_law 963 = .ok (.lcmp, 1) := by decide +kernel
theorem dL_law_964 : decode cL_law 964 = .ok (.ifCond .eq 5, 3) := by decide +kernel
theorem dL_law_967 : decode cL_law 967 = .ok (.iconst 0, 1) := by decide +kernel
theorem dL_law_968 : decode cL_law 968 = .ok (.ireturn, 1) := by decide +kernel
theorem dL_law_969 : decode cL_law 969 = .ok (.goto 250, 3) := by decide +kernel
theorem dL_law_972 : decode cL_law 972 = .ok (.aload_n 1, 1) := by decide +kernel
theorem dL_law_973 : decode cL_law 973 = .ok (.aload_n 0, 1) := by decide +kernel
theorem dL_law_974 : decode cL_law 974 = .ok (.iload 5, 2) := by decide +kernel
theorem dL_law_976 : decode cL_law 976 = .ok (.iconst 1, 1) := by decide +kernel
theorem dL_law_977 : decode cL_law 977 = .ok (.iadd, 1) := by decide +kernel
theorem dL_law_978 : decode cL_law 978 = .ok (.iaload, 1) := by decide +kernel
theorem dL_law_979 : decode cL_law 979 = .ok (.aload_n 3, 1) := by decide +kernel
theorem dL_law_980 : decode cL_law 980 = .ok (.invokestatic 124, 3) := by decide +kernel
theorem dL_law_983 : decode cL_law 983 = .ok (.istore 6, 2) := by decide +kernel
theorem dL_law_985 : decode cL_law 985 = .ok (.aload_n 2, 1) := by decide +kernel
theorem dL_law_986 : decode cL_law 986 = .ok (.aload_n 0, 1) := by decide +kernel
theorem dL_law_987 : decode cL_law 987 = .ok (.iload 5, 2) := by decide +kernel
theorem dL_law_989 : decode cL_law 989 = .ok (.iconst 1, 1) := by decide +kernel
theorem dL_law_990 : decode cL_law 990 = .ok (.iadd, 1) := by decide +kernel
theorem dL_law_991 : decode cL_law 991 = .ok (.iaload, 1) := by decide +kernel
theorem dL_law_992 : decode cL_law 992 = .ok (.invokevirtual 126, 3) := by decide +kernel
theorem dL_law_995 : decode cL_law 995 = .ok (.istore 7, 2) := by decide +kernel
theorem dL_law_997 : decode cL_law 997 = .ok (.aload_n 2, 1) := by decide +kernel
theorem dL_law_998 : decode cL_law 998 = .ok (.invokevirtual 81, 3) := by decide +kernel
theorem dL_law_1001 : decode cL_law 1001 = .ok (.iload 6, 2) := by decide +kernel
theorem dL_law_1003 : decode cL_law 1003 = .ok (.if_icmp .eq 5, 3) := by decide +kernel
theorem dL_law_1006 : decode cL_law 1006 = .ok (.iconst 0, 1) := by decide +kernel
theorem dL_law_1007 : decode cL_law 1007 = .ok (.ireturn, 1) := by decide +kernel
theorem dL_law_1008 : decode cL_law 1008 = .ok (.iload 6, 2) := by decide +kernel
theorem dL_law_1010 : decode cL_law 1010 = .ok (.ifCond .ne 15, 3) := by decide +kernel
theorem dL_law_1013 : decode cL_law 1013 = .ok (.aload_n 3, 1) := by decide +kernel
theorem dL_law_1014 : decode cL_law 1014 = .ok (.iconst 0, 1) := by decide +kernel
theorem dL_law_1015 : decode cL_law 1015 = .ok (.laload, 1) := by decide +kernel
theorem dL_law_1016 : decode cL_law 1016 = .ok (.iload 7, 2) := by decide +kernel
theorem dL_law_1018 : decode cL_law 1018 = .ok (.i2l, 1) := by decide +kernel
theorem dL_law_1019 : decode cL_law 1019 = .ok (.lcmp, 1) := by decide +kernel
theorem dL_law_1020 : decode cL_law 1020 = .ok (.ifCond .eq 5, 3) := by decide +kernel
theorem dL_law_1023 : decode cL_law 1023 = .ok (.iconst 0, 1) := by decide +kernel
theorem dL_law_1024 : decode cL_law 1024 = .ok (.ireturn, 1) := by decide +kernel
theorem dL_law_1025 : decode cL_law 1025 = .ok (.goto 194, 3) := by decide +kernel
theorem dL_law_1028 : decode cL_law 1028 = .ok (.aload_n 1, 1) := by decide +kernel
theorem dL_law_1029 : decode cL_law 1029 = .ok (.aload_n 0, 1) := by decide +kernel
theorem dL_law_1030 : decode cL_law 1030 = .ok (.iload 5, 2) := by decide +kernel
theorem dL_law_1032 : decode cL_law 1032 = .ok (.iconst 1, 1) := by decide +kernel
theorem dL_law_1033 : decode cL_law 1033 = .ok (.iadd, 1) := by decide +kernel
theorem dL_law_1034 : decode cL_law 1034 = .ok (.iaload, 1) := by decide +kernel
theorem dL_law_1035 : decode cL_law 1035 = .ok (.aload_n 0, 1) := by decide +kernel
theorem dL_law_1036 : decode cL_law 1036 = .ok (.iload 5, 2) := by decide +kernel
theorem dL_law_1038 : decode cL_law 1038 = .ok (.iconst 2, 1) := by decide +kernel
theorem dL_law_1039 : decode cL_law 1039 = .ok (.iadd, 1) := by decide +kernel
theorem dL_law_1040 : decode cL_law 1040 = .ok (.iaload, 1) := by decide +kernel
theorem dL_law_1041 : decode cL_law 1041 = .ok (.i2d, 1) := by decide +kernel
theorem dL_law_1042 : decode cL_law 1042 = .ok (.ldc2_w 84, 3) := by decide +kernel
theorem dL_law_1045 : decode cL_law 1045 = .ok (.dmul, 1) := by decide +kernel
theorem dL_law_1046 : decode cL_law 1046 = .ok (.invokestatic 127, 3) := by decide +kernel
theorem dL_law_1049 : decode cL_law 1049 = .ok (.istore 6, 2) := by decide +kernel
theorem dL_law_1051 : decode cL_law 1051 = .ok (.aload_n 2, 1) := by decide +kernel
theorem dL_law_1052 : decode cL_law 1052 = .ok (.aload_n 0, 1) := by decide +kernel
theorem dL_law_1053 : decode cL_law 1053 = .ok (.iload 5, 2) := by decide +kernel
theorem dL_law_1055 : decode cL_law 1055 = .ok (.iconst 1, 1) := by decide +kernel
theorem dL_law_1056 : decode cL_law 1056 = .ok (.iadd, 1) := by decide +kernel
theorem dL_law_1057 : decode cL_law 1057 = .ok (.iaload, 1) := by decide +kernel
theorem dL_law_1058 : decode cL_law 1058 = .ok (.aload_n 0, 1) := by decide +kernel
theorem dL_law_1059 : decode cL_law 1059 = .ok (.iload 5, 2) := by decide +kernel
theorem dL_law_1061 : decode cL_law 1061 = .ok (.iconst 2, 1) := by decide +kernel
theorem dL_law_1062 : decode cL_law 1062 = .ok (.iadd, 1) := by decide +kernel
theorem dL_law_1063 : decode cL_law 1063 = .ok (.iaload, 1) := by decide +kernel
theorem dL_law_1064 : decode cL_law 1064 = .ok (.i2d, 1) := by decide +kernel
theorem dL_law_1065 : decode cL_law 1065 = .ok (.ldc2_w 84, 3) := by decide +kernel
theorem dL_law_1068 : decode cL_law 1068 = .ok (.dmul, 1) := by decide +kernel
theorem dL_law_1069 : decode cL_law 1069 = .ok (.invokevirtual 130, 3) := by decide +kernel
theorem dL_law_1072 : decode cL_law 1072 = .ok (.aload_n 2, 1) := by decide +kernel
theorem dL_law_1073 : decode cL_law 1073 = .ok (.invokevirtual 81, 3) := by decide +kernel
theorem dL_law_1076 : decode cL_law 1076 = .ok (.iload 6, 2) := by decide +kernel
theorem dL_law_1078 : decode cL_law 1078 = .ok (.if_icmp .eq 5, 3) := by decide +kernel
theorem dL_law_1081 : decode cL_law 1081 = .ok (.iconst 0, 1) := by decide +kernel
theorem dL_law_1082 : decode cL_law 1082 = .ok (.ireturn, 1) := by decide +kernel
theorem dL_law_1083 : decode cL_law 1083 = .ok (.goto 136, 3) := by decide +kernel
theorem dL_law_1086 : decode cL_law 1086 = .ok (.aload_n 1, 1) := by decide +kernel
theorem dL_law_1087 : decode cL_law 1087 = .ok (.aload_n 0, 1) := by decide +kernel
theorem dL_law_1088 : decode cL_law 1088 = .ok (.iload 5, 2) := by decide +kernel
theorem dL_law_1090 : decode cL_law 1090 = .ok (.iconst 1, 1) := by decide +kernel
theorem dL_law_1091 : decode cL_law 1091 = .ok (.iadd, 1) := by decide +kernel
theorem dL_law_1092 : decode cL_law 1092 = .ok (.iaload, 1) := by decide +kernel
theorem dL_law_1093 : decode cL_law 1093 = .ok (.aload 4, 2) := by decide +kernel
theorem dL_law_1095 : decode cL_law 1095 = .ok (.invokestatic 131, 3) := by decide +kernel
theorem dL_law_1098 : decode cL_law 1098 = .ok (.istore 6, 2) := by decide +kernel
theorem dL_law_1100 : decode cL_law 1100 = .ok (.aload_n 2, 1) := by decide +kernel
theorem dL_law_1101 : decode cL_law 1101 = .ok (.aload_n 0, 1) := by decide +kernel
theorem dL_law_1102 : decode cL_law 1102 = .ok (.iload 5, 2) := by decide +kernel
theorem dL_law_1104 : decode cL_law 1104 = .ok (.iconst 1, 1) := by decide +kernel
theorem dL_law_1105 : decode cL_law 1105 = .ok (.iadd, 1) := by decide +kernel
theorem dL_law_1106 : decode cL_law 1106 = .ok (.iaload, 1) := by decide +kernel
theorem dL_law_1107 : decode cL_law 1107 = .ok (.invokevirtual 134, 3) := by decide +kernel
theorem dL_law_1110 : decode cL_law 1110 = .ok (.dstore 7, 2) := by decide +kernel
theorem dL_law_1112 : decode cL_law 1112 = .ok (.aload_n 2, 1) := by decide +kernel
theorem dL_law_1113 : decode cL_law 1113 = .ok (.invokevirtual 81, 3) := by decide +kernel
theorem dL_law_1116 : decode cL_law 1116 = .ok (.iload 6, 2) := by decide +kernel
theorem dL_law_1118 : decode cL_law 1118 = .ok (.if_icmp .eq 5, 3) := by decide +kernel
theorem dL_law_1121 : decode cL_law 1121 = .ok (.iconst 0, 1) := by decide +kernel
theorem dL_law_1122 : decode cL_law 1122 = .ok (.ireturn, 1) := by decide +kernel
theorem dL_law_1123 : decode cL_law 1123 = .ok (.iload 6, 2) := by decide +kernel
theorem dL_law_1125 : decode cL_law 1125 = .ok (.ifCond .ne 35, 3) := by decide +kernel
theorem dL_law_1128 : decode cL_law 1128 = .ok (.aload 4, 2) := by decide +kernel
theorem dL_law_1130 : decode cL_law 1130 = .ok (.iconst 0, 1) := by decide +kernel
theorem dL_law_1131 : decode cL_law 1131 = .ok (.daload, 1) := by decide +kernel
theorem dL_law_1132 : decode cL_law 1132 = .ok (.dload 7, 2) := by decide +kernel
theorem dL_law_1134 : decode cL_law 1134 = .ok (.dcmp .l, 1) := by decide +kernel
theorem dL_law_1135 : decode cL_law 1135 = .ok (.ifCond .eq 25, 3) := by decide +kernel
theorem dL_law_1138 : decode cL_law 1138 = .ok (.aload 4, 2) := by decide +kernel
theorem dL_law_1140 : decode cL_law 1140 = .ok (.iconst 0, 1) := by decide +kernel
theorem dL_law_1141 : decode cL_law 1141 = .ok (.daload, 1) := by decide +kernel
theorem dL_law_1142 : decode cL_law 1142 = .ok (.aload 4, 2) := by decide +kernel
theorem dL_law_1144 : decode cL_law 1144 = .ok (.iconst 0, 1) := by decide +kernel
theorem dL_law_1145 : decode cL_law 1145 = .ok (.daload, 1) := by decide +kernel
theorem dL_law_1146 : decode cL_law 1146 = .ok (.dcmp .l, 1) := by decide +kernel
theorem dL_law_1147 : decode cL_law 1147 = .ok (.ifCond .eq 11, 3) := by decide +kernel
theorem dL_law_1150 : decode cL_law 1150 = .ok (.dload 7, 2) := by decide +kernel
theorem dL_law_1152 : decode cL_law 1152 = .ok (.dload 7, 2) := by decide +kernel
theorem dL_law_1154 : decode cL_law 1154 = .ok (.dcmp .l, 1) := by decide +kernel
theorem dL_law_1155 : decode cL_law 1155 = .ok (.ifCond .ne 5, 3) := by decide +kernel
theorem dL_law_1158 : decode cL_law 1158 = .ok (.iconst 0, 1) := by decide +kernel
theorem dL_law_1159 : decode cL_law 1159 = .ok (.ireturn, 1) := by decide +kernel
theorem dL_law_1160 : decode cL_law 1160 = .ok (.goto 59, 3) := by decide +kernel
theorem dL_law_1163 : decode cL_law 1163 = .ok (.aload_n 1, 1) := by decide +kernel
theorem dL_law_1164 : decode cL_law 1164 = .ok (.aload_n 0, 1) := by decide +kernel
theorem dL_law_1165 : decode cL_law 1165 = .ok (.iload 5, 2) := by decide +kernel
theorem dL_law_1167 : decode cL_law 1167 = .ok (.iconst 1, 1) := by decide +kernel
theorem dL_law_1168 : decode cL_law 1168 = .ok (.iadd, 1) := by decide +kernel
theorem dL_law_1169 : decode cL_law 1169 = .ok (.iaload, 1) := by decide +kernel
theorem dL_law_1170 : decode cL_law 1170 = .ok (.aload_n 3, 1) := by decide +kernel
theorem dL_law_1171 : decode cL_law 1171 = .ok (.invokestatic 135, 3) := by decide +kernel
theorem dL_law_1174 : decode cL_law 1174 = .ok (.istore 6, 2) := by decide +kernel
theorem dL_law_1176 : decode cL_law 1176 = .ok (.aload_n 2, 1) := by decide +kernel
theorem dL_law_1177 : decode cL_law 1177 = .ok (.aload_n 0, 1) := by decide +kernel
theorem dL_law_1178 : decode cL_law 1178 = .ok (.iload 5, 2) := by decide +kernel
theorem dL_law_1180 : decode cL_law 1180 = .ok (.iconst 1, 1) := by decide +kernel
theorem dL_law_1181 : decode cL_law 1181 = .ok (.iadd, 1) := by decide +kernel
theorem dL_law_1182 : decode cL_law 1182 = .ok (.iaload, 1) := by decide +kernel
theorem dL_law_1183 : decode cL_law 1183 = .ok (.invokevirtual 137, 3) := by decide +kernel
theorem dL_law_1186 : decode cL_law 1186 = .ok (.istore 7, 2) := by decide +kernel
theorem dL_law_1188 : decode cL_law 1188 = .ok (.aload_n 2, 1) := by decide +kernel
theorem dL_law_1189 : decode cL_law 1189 = .ok (.invokevirtual 81, 3) := by decide +kernel
theorem dL_law_1192 : decode cL_law 1192 = .ok (.iload 6, 2) := by decide +kernel
theorem dL_law_1194 : decode cL_law 1194 = .ok (.if_icmp .eq 5, 3) := by decide +kernel
theorem dL_law_1197 : decode cL_law 1197 = .ok (.iconst 0, 1) := by decide +kernel
theorem dL_law_1198 : decode cL_law 1198 = .ok (.ireturn, 1) := by decide +kernel
theorem dL_law_1199 : decode cL_law 1199 = .ok (.iload 6, 2) := by decide +kernel
theorem dL_law_1201 : decode cL_law 1201 = .ok (.ifCond .ne 15, 3) := by decide +kernel
theorem dL_law_1204 : decode cL_law 1204 = .ok (.aload_n 3, 1) := by decide +kernel
theorem dL_law_1205 : decode cL_law 1205 = .ok (.iconst 0, 1) := by decide +kernel
theorem dL_law_1206 : decode cL_law 1206 = .ok (.laload, 1) := by decide +kernel
theorem dL_law_1207 : decode cL_law 1207 = .ok (.iload 7, 2) := by decide +kernel
theorem dL_law_1209 : decode cL_law 1209 = .ok (.i2l, 1) := by decide +kernel
theorem dL_law_1210 : decode cL_law 1210 = .ok (.lcmp, 1) := by decide +kernel
theorem dL_law_1211 : decode cL_law 1211 = .ok (.ifCond .eq 5, 3) := by decide +kernel
theorem dL_law_1214 : decode cL_law 1214 = .ok (.iconst 0, 1) := by decide +kernel
theorem dL_law_1215 : decode cL_law 1215 = .ok (.ireturn, 1) := by decide +kernel
theorem dL_law_1216 : decode cL_law 1216 = .ok (.goto 3, 3) := by decide +kernel
theorem dL_law_1219 : decode cL_law 1219 = .ok (.iinc 5 5, 3) := by decide +kernel
theorem dL_law_1222 : decode cL_law 1222 = .ok (.goto (-1194), 3) := by decide +kernel
theorem dL_law_1225 : decode cL_law 1225 = .ok (.iconst 1, 1) := by decide +kernel
theorem dL_law_1226 : decode cL_law 1226 = .ok (.ireturn, 1) := by decide +kernel
end
section
/-! the world of all places: what is where, in words of values only -/
abbrev gK : Type := va_G × (Nat → ClassId) × (Nat → Nat)
abbrev gS : Type := (Nat → Int32) × (Nat → UInt64) × (Nat → Nat → Int32) × (Nat → Nat → UInt64) × (Nat → Int64)
def sN (σ : gS) (k : Nat) : Int32 := σ.1 k
def sD (σ : gS) (k : Nat) : UInt64 := σ.2.1 k
def sI (σ : gS) (k : Nat) : Nat → Int32 := σ.2.2.1 k
def sF (σ : gS) (k : Nat) : Nat → UInt64 := σ.2.2.2.1 k
def sL (σ : gS) : Nat → Int64 := σ.2.2.2.2
def uN (σ : gS) (k : Nat) (x : Int32) : gS := (va_up σ.1 k x, σ.2.1, σ.2.2.1, σ.2.2.2.1, σ.2.2.2.2)
def uD (σ : gS) (k : Nat) (x : UInt64) : gS := (σ.1, va_up σ.2.1 k x, σ.2.2.1, σ.2.2.2.1, σ.2.2.2.2)
def uI (σ : gS) (k : Nat) (f : Nat → Int32) : gS := (σ.1, σ.2.1, va_up σ.2.2.1 k f, σ.2.2.2.1, σ.2.2.2.2)
def uF (σ : gS) (k : Nat) (f : Nat → UInt64) : gS := (σ.1, σ.2.1, σ.2.2.1, va_up σ.2.2.2.1 k f, σ.2.2.2.2)
def uL (σ : gS) (f : Nat → Int64) : gS := (σ.1, σ.2.1, σ.2.2.1, σ.2.2.2.1, f)
theorem sN_uN (σ : gS) (k j : Nat) (x : Int32) : sN (uN σ k x) j = if j = k then x else sN σ j := rfl
theorem sN_uD (σ : gS) (k j : Nat) (x : UInt64) : sN (uD σ k x) j = sN σ j := rfl
theorem sN_uI (σ : gS) (k j : Nat) (x : Nat → Int32) : sN (uI σ k x) j = sN σ j := rfl
theorem sN_uF (σ : gS) (k j : Nat) (x : Nat → UInt64) : sN (uF σ k x) j = sN σ j := rfl
theorem sN_uL (σ : gS) (j : Nat) (f : Nat → Int64) : sN (uL σ f) j = sN σ j := rfl
theorem sL_uN (σ : gS) (k : Nat) (x : Int32) : sL (uN σ k x) = sL σ := rfl
theorem sN_self (σ : gS) (k : Nat) (x : Int32) : sN (uN σ k x) k = x := if_pos rfl
theorem sN_ne (σ : gS) {k j : Nat} (x : Int32) (h : j ≠ k) : sN (uN σ k x) j = sN σ j := if_neg h
theorem sD_uN (σ : gS) (k j : Nat) (x : Int32) : sD (uN σ k x) j = sD σ j := rfl
theorem sD_uD (σ : gS) (k j : Nat) (x : UInt64) : sD (uD σ k x) j = if j = k then x else sD σ j := rfl
theorem sD_uI (σ : gS) (k j : Nat) (x : Nat → Int32) : sD (uI σ k x) j = sD σ j := rfl
theorem sD_uF (σ : gS) (k j : Nat) (x : Nat → UInt64) : sD (uF σ k x) j = sD σ j := rfl
theorem sD_uL (σ : gS) (j : Nat) (f : Nat → Int64) : sD (uL σ f) j = sD σ j := rfl
theorem sL_uD (σ : gS) (k : Nat) (x : UInt64) : sL (uD σ k x) = sL σ := rfl
theorem sD_self (σ : gS) (k : Nat) (x : UInt64) : sD (uD σ k x) k = x := if_pos rfl
theorem sD_ne (σ : gS) {k j : Nat} (x : UInt64) (h : j ≠ k) : sD (uD σ k x) j = sD σ j := if_neg h
theorem sI_uN (σ : gS) (k j : Nat) (x : Int32) : sI (uN σ k x) j = sI σ j := rfl
theorem sI_uD (σ : gS) (k j : Nat) (x : UInt64) : sI (uD σ k x) j = sI σ j := rfl
theorem sI_uI (σ : gS) (k j : Nat) (x : Nat → Int32) : sI (uI σ k x) j = if j = k then x else sI σ j := rfl
theorem sI_uF (σ : gS) (k j : Nat) (x : Nat → UInt64) : sI (uF σ k x) j = sI σ j := rfl
theorem sI_uL (σ : gS) (j : Nat) (f : Nat → Int64) : sI (uL σ f) j = sI σ j := rfl
theorem sL_uI (σ : gS) (k : Nat) (x : Nat → Int32) : sL (uI σ k x) = sL σ := rfl
theorem sI_self (σ : gS) (k : Nat) (x : Nat → Int32) : sI (uI σ k x) k = x := if_pos rfl
theorem sI_ne (σ : gS) {k j : Nat} (x : Nat → Int32) (h : j ≠ k) : sI (uI σ k x) j = sI σ j := if_neg h
theorem sF_uN (σ : gS) (k j : Nat) (x : Int32) : sF (uN σ k x) j = sF σ j := rfl
theorem sF_uD (σ : gS) (k j : Nat) (x : UInt64) : sF (uD σ k x) j = sF σ j := rfl
theorem sF_uI (σ : gS) (k j : Nat) (x : Nat → Int32) : sF (uI σ k x) j = sF σ j := rfl
theorem sF_uF (σ : gS) (k j : Nat) (x : Nat → UInt64) : sF (uF σ k x) j = if j = k then x else sF σ j := rfl
theorem sF_uL (σ : gS) (j : Nat) (f : Nat → Int64) : sF (uL σ f) j = sF σ j := rfl
theorem sL_uF (σ : gS) (k : Nat) (x : Nat → UInt64) : sL (uF σ k x) = sL σ := rfl
theorem sF_self (σ : gS) (k : Nat) (x : Nat → UInt64) : sF (uF σ k x) k = x := if_pos rfl
theorem sF_ne (σ : gS) {k j : Nat} (x : Nat → UInt64) (h : j ≠ k) : sF (uF σ k x) j = sF σ j := if_neg h
theorem sL_uL (σ : gS) (f : Nat → Int64) : sL (uL σ f) = f := rfl
def gRows (K : gK) : Nat → Option Nat := fun i => if i < 10 then some (K.2.2 (45 + i)) else none
def wld (K : gK) (σ : gS) : va_W := [(K.2.2 0, .inr (6, [.ref (K.2.2 1), .ref (K.2.2 2), .ref (K.2.2 3), .ref (K.2.2 4), .ref (K.2.2 5), .int (sN σ 0), .int (sN σ 1)])), (K.2.2 1, .inr (0, [.ref (K.2.2 2), .ref (K.2.2 3), .ref (K.2.2 6), .ref (K.2.2 7), .ref (K.2.2 8)])), (K.2.2 2, .inr (1, [.int (sN σ 2), .ref (K.2.2 9), .ref (K.2.2 10), .ref (K.2.2 11), .ref (K.2.2 12), .ref (K.2.2 13), .ref (K.2.2 14), .ref (K.2.2 15)])), (K.2.2 3, .inr (4, [.int (sN σ 3), .ref (K.2.2 16), .ref (K.2.2 17), .ref (K.2.2 18), .ref (K.2.2 19), .ref (K.2.2 20)])), (K.2.2 4, .inr (3, [.ref (K.2.2 21), .ref (K.2.2 22), .ref (K.2.2 23)])), (K.2.2 5, .inr (5, [.int (sN σ 4), .ref (K.2.2 24), .ref (K.2.2 25), .ref (K.2.2 26)])), (K.2.2 6, .inr (2, [.double (sD σ 0), .double (sD σ 1), .double (sD σ 2)])), (K.2.2 7, .inl (K.2.1 0, 10, .inr (.inr (.inr (.inl (sF σ 7)))))), (K.2.2 8, .inl (K.2.1 0, 10, .inr (.inr (.inr (.inl (sF σ 8)))))), (K.2.2 9, .inl (K.2.1 1, 16, .inl (sI σ 9))), (K.2.2 10, .inl (K.2.1 1, 16, .inl (sI σ 10))), (K.2.2 11, .inl (K.2.1 0, 16, .inr (.inr (.inr (.inl (sF σ 11)))))), (K.2.2 12, .inl (K.2.1 0, 16, .inr (.inr (.inr (.inl (sF σ 12)))))), (K.2.2 13, .inl (K.2.1 0, 16, .inr (.inr (.inr (.inl (sF σ 13)))))), (K.2.2 14, .inl (K.2.1 3, 10, .inr (.inr (.inr (.inr (gRows K)))))), (K.2.2 15, .inl (K.2.1 1, 10, .inl (sI σ 15))), (K.2.2 16, .inl (K.2.1 1, 8, .inl (sI σ 16))), (K.2.2 17, .inl (K.2.1 0, 8, .inr (.inr (.inr (.inl (sF σ 17)))))), (K.2.2 18, .inl (K.2.1 0, 8, .inr (.inr (.inr (.inl (sF σ 18)))))), (K.2.2 19, .inl (K.2.1 2, 8, .inl (sI σ 19))), (K.2.2 20, .inl (K.2.1 1, 8, .inl (sI σ 20))), (K.2.2 21, .inl (K.2.1 0, 16, .inr (.inr (.inr (.inl (sF σ 21)))))), (K.2.2 22, .inl (K.2.1 0, 16, .inr (.inr (.inr (.inl (sF σ 22)))))), (K.2.2 23, .inl (K.2.1 2, 16, .inl (sI σ 23))), (K.2.2 24, .inl (K.2.1 0, 6, .inr (.inr (.inr (.inl (sF σ 24)))))), (K.2.2 25, .inl (K.2.1 1, 6, .inl (sI σ 25))), (K.2.2 26, .inl (K.2.1 1, 6, .inl (sI σ 26))), (K.2.2 27, .inr (7, [.int (sN σ 5), .int (sN σ 6), .int (sN σ 7), .ref (K.2.2 28), .ref (K.2.2 29), .ref (K.2.2 30), .ref (K.2.2 31), .ref (K.2.2 32), .ref (K.2.2 33), .ref (K.2.2 34), .int (sN σ 8), .ref (K.2.2 35), .ref (K.2.2 36), .ref (K.2.2 37), .ref (K.2.2 38), .ref (K.2.2 39), .double (sD σ 3), .double (sD σ 4), .ref (K.2.2 40), .double (sD σ 5), .int (sN σ 9), .int (sN σ 10), .ref (K.2.2 41), .ref (K.2.2 42)])), (K.2.2 28, .inl (K.2.1 1, 16, .inl (sI σ 28))), (K.2.2 29, .inl (K.2.1 1, 16, .inl (sI σ 29))), (K.2.2 30, .inl (K.2.1 0, 16, .inr (.inr (.inr (.inl (sF σ 30)))))), (K.2.2 31, .inl (K.2.1 0, 16, .inr (.inr (.inr (.inl (sF σ 31)))))), (K.2.2 32, .inl (K.2.1 0, 16, .inr (.inr (.inr (.inl (sF σ 32)))))), (K.2.2 33, .inl (K.2.1 2, 16, .inl (sI σ 33))), (K.2.2 34, .inl (K.2.1 0, 16, .inr (.inr (.inr (.inl (sF σ 34)))))), (K.2.2 35, .inl (K.2.1 1, 8, .inl (sI σ 35))), (K.2.2 36, .inl (K.2.1 0, 8, .inr (.inr (.inr (.inl (sF σ 36)))))), (K.2.2 37, .inl (K.2.1 2, 32, .inl (sI σ 37))), (K.2.2 38, .inl (K.2.1 0, 8, .inr (.inr (.inr (.inl (sF σ 38)))))), (K.2.2 39, .inl (K.2.1 2, 8, .inl (sI σ 39))), (K.2.2 40, .inl (K.2.1 0, 10, .inr (.inr (.inr (.inl (sF σ 40)))))), (K.2.2 41, .inl (K.2.1 0, 6, .inr (.inr (.inr (.inl (sF σ 41)))))), (K.2.2 42, .inl (K.2.1 1, 6, .inl (sI σ 42))), (K.2.2 43, .inl (K.2.1 4, 1, .inr (.inl (sL σ)))), (K.2.2 44, .inl (K.2.1 0, 1, .inr (.inr (.inr (.inl (sF σ 44)))))), (K.2.2 45, .inl (K.2.1 1, 16, .inl (sI σ 45))), (K.2.2 46, .inl (K.2.1 1, 16, .inl (sI σ 46))), (K.2.2 47, .inl (K.2.1 1, 16, .inl (sI σ 47))), (K.2.2 48, .inl (K.2.1 1, 16, .inl (sI σ 48))), (K.2.2 49, .inl (K.2.1 1, 16, .inl (sI σ 49))), (K.2.2 50, .inl (K.2.1 1, 16, .inl (sI σ 50))), (K.2.2 51, .inl (K.2.1 1, 16, .inl (sI σ 51))), (K.2.2 52, .inl (K.2.1 1, 16, .inl (sI σ 52))), (K.2.2 53, .inl (K.2.1 1, 16, .inl (sI σ 53))), (K.2.2 54, .inl (K.2.1 1, 16, .inl (sI σ 54)))]
def tyK (K : gK) : List (ClassId × FieldType) := [(K.2.1 0, .double), (K.2.1 1, .int), (K.2.1 2, .boolean), (K.2.1 3, .array .int), (K.2.1 4, .long)]
theorem wl0 {K : gK} {σ : gS} : (wld K σ)[0]? = some (K.2.2 0, .inr (6, [.ref (K.2.2 1), .ref (K.2.2 2), .ref (K.2.2 3), .ref (K.2.2 4), .ref (K.2.2 5), .int (sN σ 0), .int (sN σ 1)])) := rfl
theorem wl1 {K : gK} {σ : gS} : (wld K σ)[1]? = some (K.2.2 1, .inr (0, [.ref (K.2.2 2), .ref (K.2.2 3), .ref (K.2.2 6), .ref (K.2.2 7), .ref (K.2.2 8)])) := rfl
theorem wl2 {K : gK} {σ : gS} : (wld K σ)[2]? = some (K.2.2 2, .inr (1, [.int (sN σ 2), .ref (K.2.2 9), .ref (K.2.2 10), .ref (K.2.2 11), .ref (K.2.2 12), .ref (K.2.2 13), .ref (K.2.2 14), .ref (K.2.2 15)])) := rfl
theorem wl3 {K : gK} {σ : gS} : (wld K σ)[3]? = some (K.2.2 3, .inr (4, [.int (sN σ 3), .ref (K.2.2 16), .ref (K.2.2 17), .ref (K.2.2 18), .ref (K.2.2 19), .ref (K.2.2 20)])) := rfl
theorem wl4 {K : gK} {σ : gS} : (wld K σ)[4]? = some (K.2.2 4, .inr (3, [.ref (K.2.2 21), .ref (K.2.2 22), .ref (K.2.2 23)])) := rfl
theorem wl5 {K : gK} {σ : gS} : (wld K σ)[5]? = some (K.2.2 5, .inr (5, [.int (sN σ 4), .ref (K.2.2 24), .ref (K.2.2 25), .ref (K.2.2 26)])) := rfl
theorem wl6 {K : gK} {σ : gS} : (wld K σ)[6]? = some (K.2.2 6, .inr (2, [.double (sD σ 0), .double (sD σ 1), .double (sD σ 2)])) := rfl
theorem wl7 {K : gK} {σ : gS} : (wld K σ)[7]? = some (K.2.2 7, .inl (K.2.1 0, 10, .inr (.inr (.inr (.inl (sF σ 7)))))) := rfl
theorem wl8 {K : gK} {σ : gS} : (wld K σ)[8]? = some (K.2.2 8, .inl (K.2.1 0, 10, .inr (.inr (.inr (.inl (sF σ 8)))))) := rfl
theorem wl9 {K : gK} {σ : gS} : (wld K σ)[9]? = some (K.2.2 9, .inl (K.2.1 1, 16, .inl (sI σ 9))) := rfl
theorem wl10 {K : gK} {σ : gS} : (wld K σ)[10]? = some (K.2.2 10, .inl (K.2.1 1, 16, .inl (sI σ 10))) := rfl
theorem wl11 {K : gK} {σ : gS} : (wld K σ)[11]? = some (K.2.2 11, .inl (K.2.1 0, 16, .inr (.inr (.inr (.inl (sF σ 11)))))) := rfl
theorem wl12 {K : gK} {σ : gS} : (wld K σ)[12]? = some (K.2.2 12, .inl (K.2.1 0, 16, .inr (.inr (.inr (.inl (sF σ 12)))))) := rfl
theorem wl13 {K : gK} {σ : gS} : (wld K σ)[13]? = some (K.2.2 13, .inl (K.2.1 0, 16, .inr (.inr (.inr (.inl (sF σ 13)))))) := rfl
theorem wl14 {K : gK} {σ : gS} : (wld K σ)[14]? = some (K.2.2 14, .inl (K.2.1 3, 10, .inr (.inr (.inr (.inr (gRows K)))))) := rfl
theorem wl15 {K : gK} {σ : gS} : (wld K σ)[15]? = some (K.2.2 15, .inl (K.2.1 1, 10, .inl (sI σ 15))) := rfl
theorem wl16 {K : gK} {σ : gS} : (wld K σ)[16]? = some (K.2.2 16, .inl (K.2.1 1, 8, .inl (sI σ 16))) := rfl
theorem wl17 {K : gK} {σ : gS} : (wld K σ)[17]? = some (K.2.2 17, .inl (K.2.1 0, 8, .inr (.inr (.inr (.inl (sF σ 17)))))) := rfl
theorem wl18 {K : gK} {σ : gS} : (wld K σ)[18]? = some (K.2.2 18, .inl (K.2.1 0, 8, .inr (.inr (.inr (.inl (sF σ 18)))))) := rfl
theorem wl19 {K : gK} {σ : gS} : (wld K σ)[19]? = some (K.2.2 19, .inl (K.2.1 2, 8, .inl (sI σ 19))) := rfl
theorem wl20 {K : gK} {σ : gS} : (wld K σ)[20]? = some (K.2.2 20, .inl (K.2.1 1, 8, .inl (sI σ 20))) := rfl
theorem wl21 {K : gK} {σ : gS} : (wld K σ)[21]? = some (K.2.2 21, .inl (K.2.1 0, 16, .inr (.inr (.inr (.inl (sF σ 21)))))) := rfl
theorem wl22 {K : gK} {σ : gS} : (wld K σ)[22]? = some (K.2.2 22, .inl (K.2.1 0, 16, .inr (.inr (.inr (.inl (sF σ 22)))))) := rfl
theorem wl23 {K : gK} {σ : gS} : (wld K σ)[23]? = some (K.2.2 23, .inl (K.2.1 2, 16, .inl (sI σ 23))) := rfl
theorem wl24 {K : gK} {σ : gS} : (wld K σ)[24]? = some (K.2.2 24, .inl (K.2.1 0, 6, .inr (.inr (.inr (.inl (sF σ 24)))))) := rfl
theorem wl25 {K : gK} {σ : gS} : (wld K σ)[25]? = some (K.2.2 25, .inl (K.2.1 1, 6, .inl (sI σ 25))) := rfl
theorem wl26 {K : gK} {σ : gS} : (wld K σ)[26]? = some (K.2.2 26, .inl (K.2.1 1, 6, .inl (sI σ 26))) := rfl
theorem wl27 {K : gK} {σ : gS} : (wld K σ)[27]? = some (K.2.2 27, .inr (7, [.int (sN σ 5), .int (sN σ 6), .int (sN σ 7), .ref (K.2.2 28), .ref (K.2.2 29), .ref (K.2.2 30), .ref (K.2.2 31), .ref (K.2.2 32), .ref (K.2.2 33), .ref (K.2.2 34), .int (sN σ 8), .ref (K.2.2 35), .ref (K.2.2 36), .ref (K.2.2 37), .ref (K.2.2 38), .ref (K.2.2 39), .double (sD σ 3), .double (sD σ 4), .ref (K.2.2 40), .double (sD σ 5), .int (sN σ 9), .int (sN σ 10), .ref (K.2.2 41), .ref (K.2.2 42)])) := rfl
theorem wl28 {K : gK} {σ : gS} : (wld K σ)[28]? = some (K.2.2 28, .inl (K.2.1 1, 16, .inl (sI σ 28))) := rfl
theorem wl29 {K : gK} {σ : gS} : (wld K σ)[29]? = some (K.2.2 29, .inl (K.2.1 1, 16, .inl (sI σ 29))) := rfl
theorem wl30 {K : gK} {σ : gS} : (wld K σ)[30]? = some (K.2.2 30, .inl (K.2.1 0, 16, .inr (.inr (.inr (.inl (sF σ 30)))))) := rfl
theorem wl31 {K : gK} {σ : gS} : (wld K σ)[31]? = some (K.2.2 31, .inl (K.2.1 0, 16, .inr (.inr (.inr (.inl (sF σ 31)))))) := rfl
theorem wl32 {K : gK} {σ : gS} : (wld K σ)[32]? = some (K.2.2 32, .inl (K.2.1 0, 16, .inr (.inr (.inr (.inl (sF σ 32)))))) := rfl
theorem wl33 {K : gK} {σ : gS} : (wld K σ)[33]? = some (K.2.2 33, .inl (K.2.1 2, 16, .inl (sI σ 33))) := rfl
theorem wl34 {K : gK} {σ : gS} : (wld K σ)[34]? = some (K.2.2 34, .inl (K.2.1 0, 16, .inr (.inr (.inr (.inl (sF σ 34)))))) := rfl
theorem wl35 {K : gK} {σ : gS} : (wld K σ)[35]? = some (K.2.2 35, .inl (K.2.1 1, 8, .inl (sI σ 35))) := rfl
theorem wl36 {K : gK} {σ : gS} : (wld K σ)[36]? = some (K.2.2 36, .inl (K.2.1 0, 8, .inr (.inr (.inr (.inl (sF σ 36)))))) := rfl
theorem wl37 {K : gK} {σ : gS} : (wld K σ)[37]? = some (K.2.2 37, .inl (K.2.1 2, 32, .inl (sI σ 37))) := rfl
theorem wl38 {K : gK} {σ : gS} : (wld K σ)[38]? = some (K.2.2 38, .inl (K.2.1 0, 8, .inr (.inr (.inr (.inl (sF σ 38)))))) := rfl
theorem wl39 {K : gK} {σ : gS} : (wld K σ)[39]? = some (K.2.2 39, .inl (K.2.1 2, 8, .inl (sI σ 39))) := rfl
theorem wl40 {K : gK} {σ : gS} : (wld K σ)[40]? = some (K.2.2 40, .inl (K.2.1 0, 10, .inr (.inr (.inr (.inl (sF σ 40)))))) := rfl
theorem wl41 {K : gK} {σ : gS} : (wld K σ)[41]? = some (K.2.2 41, .inl (K.2.1 0, 6, .inr (.inr (.inr (.inl (sF σ 41)))))) := rfl
theorem wl42 {K : gK} {σ : gS} : (wld K σ)[42]? = some (K.2.2 42, .inl (K.2.1 1, 6, .inl (sI σ 42))) := rfl
theorem wl43 {K : gK} {σ : gS} : (wld K σ)[43]? = some (K.2.2 43, .inl (K.2.1 4, 1, .inr (.inl (sL σ)))) := rfl
theorem wl44 {K : gK} {σ : gS} : (wld K σ)[44]? = some (K.2.2 44, .inl (K.2.1 0, 1, .inr (.inr (.inr (.inl (sF σ 44)))))) := rfl
theorem wl45 {K : gK} {σ : gS} : (wld K σ)[45]? = some (K.2.2 45, .inl (K.2.1 1, 16, .inl (sI σ 45))) := rfl
theorem wl46 {K : gK} {σ : gS} : (wld K σ)[46]? = some (K.2.2 46, .inl (K.2.1 1, 16, .inl (sI σ 46))) := rfl
theorem wl47 {K : gK} {σ : gS} : (wld K σ)[47]? = some (K.2.2 47, .inl (K.2.1 1, 16, .inl (sI σ 47))) := rfl
theorem wl48 {K : gK} {σ : gS} : (wld K σ)[48]? = some (K.2.2 48, .inl (K.2.1 1, 16, .inl (sI σ 48))) := rfl
theorem wl49 {K : gK} {σ : gS} : (wld K σ)[49]? = some (K.2.2 49, .inl (K.2.1 1, 16, .inl (sI σ 49))) := rfl
theorem wl50 {K : gK} {σ : gS} : (wld K σ)[50]? = some (K.2.2 50, .inl (K.2.1 1, 16, .inl (sI σ 50))) := rfl
theorem wl51 {K : gK} {σ : gS} : (wld K σ)[51]? = some (K.2.2 51, .inl (K.2.1 1, 16, .inl (sI σ 51))) := rfl
theorem wl52 {K : gK} {σ : gS} : (wld K σ)[52]? = some (K.2.2 52, .inl (K.2.1 1, 16, .inl (sI σ 52))) := rfl
theorem wl53 {K : gK} {σ : gS} : (wld K σ)[53]? = some (K.2.2 53, .inl (K.2.1 1, 16, .inl (sI σ 53))) := rfl
theorem wl54 {K : gK} {σ : gS} : (wld K σ)[54]? = some (K.2.2 54, .inl (K.2.1 1, 16, .inl (sI σ 54))) := rfl
theorem wsN0 {K : gK} {σ : gS} {x : Int32} : (wld K σ).set 0 (K.2.2 0, .inr (6, List.set [.ref (K.2.2 1), .ref (K.2.2 2), .ref (K.2.2 3), .ref (K.2.2 4), .ref (K.2.2 5), .int (sN σ 0), .int (sN σ 1)] 5 (.int x))) = wld K (uN σ 0 x) := rfl
theorem wsN1 {K : gK} {σ : gS} {x : Int32} : (wld K σ).set 0 (K.2.2 0, .inr (6, List.set [.ref (K.2.2 1), .ref (K.2.2 2), .ref (K.2.2 3), .ref (K.2.2 4), .ref (K.2.2 5), .int (sN σ 0), .int (sN σ 1)] 6 (.int x))) = wld K (uN σ 1 x) := rfl
theorem wsN2 {K : gK} {σ : gS} {x : Int32} : (wld K σ).set 2 (K.2.2 2, .inr (1, List.set [.int (sN σ 2), .ref (K.2.2 9), .ref (K.2.2 10), .ref (K.2.2 11), .ref (K.2.2 12), .ref (K.2.2 13), .ref (K.2.2 14), .ref (K.2.2 15)] 0 (.int x))) = wld K (uN σ 2 x) := rfl
theorem wsN3 {K : gK} {σ : gS} {x : Int32} : (wld K σ).set 3 (K.2.2 3, .inr (4, List.set [.int (sN σ 3), .ref (K.2.2 16), .ref (K.2.2 17), .ref (K.2.2 18), .ref (K.2.2 19), .ref (K.2.2 20)] 0 (.int x))) = wld K (uN σ 3 x) := rfl
theorem wsN4 {K : gK} {σ : gS} {x : Int32} : (wld K σ).set 5 (K.2.2 5, .inr (5, List.set [.int (sN σ 4), .ref (K.2.2 24), .ref (K.2.2 25), .ref (K.2.2 26)] 0 (.int x))) = wld K (uN σ 4 x) := rfl
theorem wsD0 {K : gK} {σ : gS} {x : UInt64} : (wld K σ).set 6 (K.2.2 6, .inr (2, List.set [.double (sD σ 0), .double (sD σ 1), .double (sD σ 2)] 0 (.double x))) = wld K (uD σ 0 x) := rfl
theorem wsD1 {K : gK} {σ : gS} {x : UInt64} : (wld K σ).set 6 (K.2.2 6, .inr (2, List.set [.double (sD σ 0), .double (sD σ 1), .double (sD σ 2)] 1 (.double x))) = wld K (uD σ 1 x) := rfl
theorem wsD2 {K : gK} {σ : gS} {x : UInt64} : (wld K σ).set 6 (K.2.2 6, .inr (2, List.set [.double (sD σ 0), .double (sD σ 1), .double (sD σ 2)] 2 (.double x))) = wld K (uD σ 2 x) := rfl
theorem wsN5 {K : gK} {σ : gS} {x : Int32} : (wld K σ).set 27 (K.2.2 27, .inr (7, List.set [.int (sN σ 5), .int (sN σ 6), .int (sN σ 7), .ref (K.2.2 28), .ref (K.2.2 29), .ref (K.2.2 30), .ref (K.2.2 31), .ref (K.2.2 32), .ref (K.2.2 33), .ref (K.2.2 34), .int (sN σ 8), .ref (K.2.2 35), .ref (K.2.2 36), .ref (K.2.2 37), .ref (K.2.2 38), .ref (K.2.2 39), .double (sD σ 3), .double (sD σ 4), .ref (K.2.2 40), .double (sD σ 5), .int (sN σ 9), .int (sN σ 10), .ref (K.2.2 41), .ref (K.2.2 42)] 0 (.int x))) = wld K (uN σ 5 x) := rfl
theorem wsN6 {K : gK} {σ : gS} {x : Int32} : (wld K σ).set 27 (K.2.2 27, .inr (7, List.set [.int (sN σ 5), .int (sN σ 6), .int (sN σ 7), .ref (K.2.2 28), .ref (K.2.2 29), .ref (K.2.2 30), .ref (K.2.2 31), .ref (K.2.2 32), .ref (K.2.2 33), .ref (K.2.2 34), .int (sN σ 8), .ref (K.2.2 35), .ref (K.2.2 36), .ref (K.2.2 37), .ref (K.2.2 38), .ref (K.2.2 39), .double (sD σ 3), .double (sD σ 4), .ref (K.2.2 40), .double (sD σ 5), .int (sN σ 9), .int (sN σ 10), .ref (K.2.2 41), .ref (K.2.2 42)] 1 (.int x))) = wld K (uN σ 6 x) := rfl
theorem wsN7 {K : gK} {σ : gS} {x : Int32} : (wld K σ).set 27 (K.2.2 27, .inr (7, List.set [.int (sN σ 5), .int (sN σ 6), .int (sN σ 7), .ref (K.2.2 28), .ref (K.2.2 29), .ref (K.2.2 30), .ref (K.2.2 31), .ref (K.2.2 32), .ref (K.2.2 33), .ref (K.2.2 34), .int (sN σ 8), .ref (K.2.2 35), .ref (K.2.2 36), .ref (K.2.2 37), .ref (K.2.2 38), .ref (K.2.2 39), .double (sD σ 3), .double (sD σ 4), .ref (K.2.2 40), .double (sD σ 5), .int (sN σ 9), .int (sN σ 10), .ref (K.2.2 41), .ref (K.2.2 42)] 2 (.int x))) = wld K (uN σ 7 x) := rfl
theorem wsN8 {K : gK} {σ : gS} {x : Int32} : (wld K σ).set 27 (K.2.2 27, .inr (7, List.set [.int (sN σ 5), .int (sN σ 6), .int (sN σ 7), .ref (K.2.2 28), .ref (K.2.2 29), .ref (K.2.2 30), .ref (K.2.2 31), .ref (K.2.2 32), .ref (K.2.2 33), .ref (K.2.2 34), .int (sN σ 8), .ref (K.2.2 35), .ref (K.2.2 36), .ref (K.2.2 37), .ref (K.2.2 38), .ref (K.2.2 39), .double (sD σ 3), .double (sD σ 4), .ref (K.2.2 40), .double (sD σ 5), .int (sN σ 9), .int (sN σ 10), .ref (K.2.2 41), .ref (K.2.2 42)] 10 (.int x))) = wld K (uN σ 8 x) := rfl
theorem wsD3 {K : gK} {σ : gS} {x : UInt64} : (wld K σ).set 27 (K.2.2 27, .inr (7, List.set [.int (sN σ 5), .int (sN σ 6), .int (sN σ 7), .ref (K.2.2 28), .ref (K.2.2 29), .ref (K.2.2 30), .ref (K.2.2 31), .ref (K.2.2 32), .ref (K.2.2 33), .ref (K.2.2 34), .int (sN σ 8), .ref (K.2.2 35), .ref (K.2.2 36), .ref (K.2.2 37), .ref (K.2.2 38), .ref (K.2.2 39), .double (sD σ 3), .double (sD σ 4), .ref (K.2.2 40), .double (sD σ 5), .int (sN σ 9), .int (sN σ 10), .ref (K.2.2 41), .ref (K.2.2 42)] 16 (.double x))) = wld K (uD σ 3 x) := rfl
theorem wsD4 {K : gK} {σ : gS} {x : UInt64} : (wld K σ).set 27 (K.2.2 27, .inr (7, List.set [.int (sN σ 5), .int (sN σ 6), .int (sN σ 7), .ref (K.2.2 28), .ref (K.2.2 29), .ref (K.2.2 30), .ref (K.2.2 31), .ref (K.2.2 32), .ref (K.2.2 33), .ref (K.2.2 34), .int (sN σ 8), .ref (K.2.2 35), .ref (K.2.2 36), .ref (K.2.2 37), .ref (K.2.2 38), .ref (K.2.2 39), .double (sD σ 3), .double (sD σ 4), .ref (K.2.2 40), .double (sD σ 5), .int (sN σ 9), .int (sN σ 10), .ref (K.2.2 41), .ref (K.2.2 42)] 17 (.double x))) = wld K (uD σ 4 x) := rfl
theorem wsD5 {K : gK} {σ : gS} {x : UInt64} : (wld K σ).set 27 (K.2.2 27, .inr (7, List.set [.int (sN σ 5), .int (sN σ 6), .int (sN σ 7), .ref (K.2.2 28), .ref (K.2.2 29), .ref (K.2.2 30), .ref (K.2.2 31), .ref (K.2.2 32), .ref (K.2.2 33), .ref (K.2.2 34), .int (sN σ 8), .ref (K.2.2 35), .ref (K.2.2 36), .ref (K.2.2 37), .ref (K.2.2 38), .ref (K.2.2 39), .double (sD σ 3), .double (sD σ 4), .ref (K.2.2 40), .double (sD σ 5), .int (sN σ 9), .int (sN σ 10), .ref (K.2.2 41), .ref (K.2.2 42)] 19 (.double x))) = wld K (uD σ 5 x) := rfl
theorem wsN9 {K : gK} {σ : gS} {x : Int32} : (wld K σ).set 27 (K.2.2 27, .inr (7, List.set [.int (sN σ 5), .int (sN σ 6), .int (sN σ 7), .ref (K.2.2 28), .ref (K.2.2 29), .ref (K.2.2 30), .ref (K.2.2 31), .ref (K.2.2 32), .ref (K.2.2 33), .ref (K.2.2 34), .int (sN σ 8), .ref (K.2.2 35), .ref (K.2.2 36), .ref (K.2.2 37), .ref (K.2.2 38), .ref (K.2.2 39), .double (sD σ 3), .double (sD σ 4), .ref (K.2.2 40), .double (sD σ 5), .int (sN σ 9), .int (sN σ 10), .ref (K.2.2 41), .ref (K.2.2 42)] 20 (.int x))) = wld K (uN σ 9 x) := rfl
theorem wsN10 {K : gK} {σ : gS} {x : Int32} : (wld K σ).set 27 (K.2.2 27, .inr (7, List.set [.int (sN σ 5), .int (sN σ 6), .int (sN σ 7), .ref (K.2.2 28), .ref (K.2.2 29), .ref (K.2.2 30), .ref (K.2.2 31), .ref (K.2.2 32), .ref (K.2.2 33), .ref (K.2.2 34), .int (sN σ 8), .ref (K.2.2 35), .ref (K.2.2 36), .ref (K.2.2 37), .ref (K.2.2 38), .ref (K.2.2 39), .double (sD σ 3), .double (sD σ 4), .ref (K.2.2 40), .double (sD σ 5), .int (sN σ 9), .int (sN σ 10), .ref (K.2.2 41), .ref (K.2.2 42)] 21 (.int x))) = wld K (uN σ 10 x) := rfl
theorem wsA7 {K : gK} {σ : gS} {f : Nat → UInt64} : (wld K σ).set 7 (K.2.2 7, .inl (K.2.1 0, 10, .inr (.inr (.inr (.inl f))))) = wld K (uF σ 7 f) := rfl
theorem wsA8 {K : gK} {σ : gS} {f : Nat → UInt64} : (wld K σ).set 8 (K.2.2 8, .inl (K.2.1 0, 10, .inr (.inr (.inr (.inl f))))) = wld K (uF σ 8 f) := rfl
theorem wsA9 {K : gK} {σ : gS} {f : Nat → Int32} : (wld K σ).set 9 (K.2.2 9, .inl (K.2.1 1, 16, .inl f)) = wld K (uI σ 9 f) := rfl
theorem wsA10 {K : gK} {σ : gS} {f : Nat → Int32} : (wld K σ).set 10 (K.2.2 10, .inl (K.2.1 1, 16, .inl f)) = wld K (uI σ 10 f) := rfl
theorem wsA11 {K : gK} {σ : gS} {f : Nat → UInt64} : (wld K σ).set 11 (K.2.2 11, .inl (K.2.1 0, 16, .inr (.inr (.inr (.inl f))))) = wld K (uF σ 11 f) := rfl
theorem wsA12 {K : gK} {σ : gS} {f : Nat → UInt64} : (wld K σ).set 12 (K.2.2 12, .inl (K.2.1 0, 16, .inr (.inr (.inr (.inl f))))) = wld K (uF σ 12 f) := rfl
theorem wsA13 {K : gK} {σ : gS} {f : Nat → UInt64} : (wld K σ).set 13 (K.2.2 13, .inl (K.2.1 0, 16, .inr (.inr (.inr (.inl f))))) = wld K (uF σ 13 f) := rfl
theorem wsA15 {K : gK} {σ : gS} {f : Nat → Int32} : (wld K σ).set 15 (K.2.2 15, .inl (K.2.1 1, 10, .inl f)) = wld K (uI σ 15 f) := rfl
theorem wsA16 {K : gK} {σ : gS} {f : Nat → Int32} : (wld K σ).set 16 (K.2.2 16, .inl (K.2.1 1, 8, .inl f)) = wld K (uI σ 16 f) := rfl
theorem wsA17 {K : gK} {σ : gS} {f : Nat → UInt64} : (wld K σ).set 17 (K.2.2 17, .inl (K.2.1 0, 8, .inr (.inr (.inr (.inl f))))) = wld K (uF σ 17 f) := rfl
theorem wsA18 {K : gK} {σ : gS} {f : Nat → UInt64} : (wld K σ).set 18 (K.2.2 18, .inl (K.2.1 0, 8, .inr (.inr (.inr (.inl f))))) = wld K (uF σ 18 f) := rfl
theorem wsA19 {K : gK} {σ : gS} {f : Nat → Int32} : (wld K σ).set 19 (K.2.2 19, .inl (K.2.1 2, 8, .inl f)) = wld K (uI σ 19 f) := rfl
theorem wsA20 {K : gK} {σ : gS} {f : Nat → Int32} : (wld K σ).set 20 (K.2.2 20, .inl (K.2.1 1, 8, .inl f)) = wld K (uI σ 20 f) := rfl
theorem wsA21 {K : gK} {σ : gS} {f : Nat → UInt64} : (wld K σ).set 21 (K.2.2 21, .inl (K.2.1 0, 16, .inr (.inr (.inr (.inl f))))) = wld K (uF σ 21 f) := rfl
theorem wsA22 {K : gK} {σ : gS} {f : Nat → UInt64} : (wld K σ).set 22 (K.2.2 22, .inl (K.2.1 0, 16, .inr (.inr (.inr (.inl f))))) = wld K (uF σ 22 f) := rfl
theorem wsA23 {K : gK} {σ : gS} {f : Nat → Int32} : (wld K σ).set 23 (K.2.2 23, .inl (K.2.1 2, 16, .inl f)) = wld K (uI σ 23 f) := rfl
theorem wsA24 {K : gK} {σ : gS} {f : Nat → UInt64} : (wld K σ).set 24 (K.2.2 24, .inl (K.2.1 0, 6, .inr (.inr (.inr (.inl f))))) = wld K (uF σ 24 f) := rfl
theorem wsA25 {K : gK} {σ : gS} {f : Nat → Int32} : (wld K σ).set 25 (K.2.2 25, .inl (K.2.1 1, 6, .inl f)) = wld K (uI σ 25 f) := rfl
theorem wsA26 {K : gK} {σ : gS} {f : Nat → Int32} : (wld K σ).set 26 (K.2.2 26, .inl (K.2.1 1, 6, .inl f)) = wld K (uI σ 26 f) := rfl
theorem wsA28 {K : gK} {σ : gS} {f : Nat → Int32} : (wld K σ).set 28 (K.2.2 28, .inl (K.2.1 1, 16, .inl f)) = wld K (uI σ 28 f) := rfl
theorem wsA29 {K : gK} {σ : gS} {f : Nat → Int32} : (wld K σ).set 29 (K.2.2 29, .inl (K.2.1 1, 16, .inl f)) = wld K (uI σ 29 f) := rfl
theorem wsA30 {K : gK} {σ : gS} {f : Nat → UInt64} : (wld K σ).set 30 (K.2.2 30, .inl (K.2.1 0, 16, .inr (.inr (.inr (.inl f))))) = wld K (uF σ 30 f) := rfl
theorem wsA31 {K : gK} {σ : gS} {f : Nat → UInt64} : (wld K σ).set 31 (K.2.2 31, .inl (K.2.1 0, 16, .inr (.inr (.inr (.inl f))))) = wld K (uF σ 31 f) := rfl
theorem wsA32 {K : gK} {σ : gS} {f : Nat → UInt64} : (wld K σ).set 32 (K.2.2 32, .inl (K.2.1 0, 16, .inr (.inr (.inr (.inl f))))) = wld K (uF σ 32 f) := rfl
theorem wsA33 {K : gK} {σ : gS} {f : Nat → Int32} : (wld K σ).set 33 (K.2.2 33, .inl (K.2.1 2, 16, .inl f)) = wld K (uI σ 33 f) := rfl
theorem wsA34 {K : gK} {σ : gS} {f : Nat → UInt64} : (wld K σ).set 34 (K.2.2 34, .inl (K.2.1 0, 16, .inr (.inr (.inr (.inl f))))) = wld K (uF σ 34 f) := rfl
theorem wsA35 {K : gK} {σ : gS} {f : Nat → Int32} : (wld K σ).set 35 (K.2.2 35, .inl (K.2.1 1, 8, .inl f)) = wld K (uI σ 35 f) := rfl
theorem wsA36 {K : gK} {σ : gS} {f : Nat → UInt64} : (wld K σ).set 36 (K.2.2 36, .inl (K.2.1 0, 8, .inr (.inr (.inr (.inl f))))) = wld K (uF σ 36 f) := rfl
theorem wsA37 {K : gK} {σ : gS} {f : Nat → Int32} : (wld K σ).set 37 (K.2.2 37, .inl (K.2.1 2, 32, .inl f)) = wld K (uI σ 37 f) := rfl
theorem wsA38 {K : gK} {σ : gS} {f : Nat → UInt64} : (wld K σ).set 38 (K.2.2 38, .inl (K.2.1 0, 8, .inr (.inr (.inr (.inl f))))) = wld K (uF σ 38 f) := rfl
theorem wsA39 {K : gK} {σ : gS} {f : Nat → Int32} : (wld K σ).set 39 (K.2.2 39, .inl (K.2.1 2, 8, .inl f)) = wld K (uI σ 39 f) := rfl
theorem wsA40 {K : gK} {σ : gS} {f : Nat → UInt64} : (wld K σ).set 40 (K.2.2 40, .inl (K.2.1 0, 10, .inr (.inr (.inr (.inl f))))) = wld K (uF σ 40 f) := rfl
theorem wsA41 {K : gK} {σ : gS} {f : Nat → UInt64} : (wld K σ).set 41 (K.2.2 41, .inl (K.2.1 0, 6, .inr (.inr (.inr (.inl f))))) = wld K (uF σ 41 f) := rfl
theorem wsA42 {K : gK} {σ : gS} {f : Nat → Int32} : (wld K σ).set 42 (K.2.2 42, .inl (K.2.1 1, 6, .inl f)) = wld K (uI σ 42 f) := rfl
theorem wsA43 {K : gK} {σ : gS} {f : Nat → Int64} : (wld K σ).set 43 (K.2.2 43, .inl (K.2.1 4, 1, .inr (.inl f))) = wld K (uL σ f) := rfl
theorem wsA44 {K : gK} {σ : gS} {f : Nat → UInt64} : (wld K σ).set 44 (K.2.2 44, .inl (K.2.1 0, 1, .inr (.inr (.inr (.inl f))))) = wld K (uF σ 44 f) := rfl
theorem wsA45 {K : gK} {σ : gS} {f : Nat → Int32} : (wld K σ).set 45 (K.2.2 45, .inl (K.2.1 1, 16, .inl f)) = wld K (uI σ 45 f) := rfl
theorem wsA46 {K : gK} {σ : gS} {f : Nat → Int32} : (wld K σ).set 46 (K.2.2 46, .inl (K.2.1 1, 16, .inl f)) = wld K (uI σ 46 f) := rfl
theorem wsA47 {K : gK} {σ : gS} {f : Nat → Int32} : (wld K σ).set 47 (K.2.2 47, .inl (K.2.1 1, 16, .inl f)) = wld K (uI σ 47 f) := rfl
theorem wsA48 {K : gK} {σ : gS} {f : Nat → Int32} : (wld K σ).set 48 (K.2.2 48, .inl (K.2.1 1, 16, .inl f)) = wld K (uI σ 48 f) := rfl
theorem wsA49 {K : gK} {σ : gS} {f : Nat → Int32} : (wld K σ).set 49 (K.2.2 49, .inl (K.2.1 1, 16, .inl f)) = wld K (uI σ 49 f) := rfl
theorem wsA50 {K : gK} {σ : gS} {f : Nat → Int32} : (wld K σ).set 50 (K.2.2 50, .inl (K.2.1 1, 16, .inl f)) = wld K (uI σ 50 f) := rfl
theorem wsA51 {K : gK} {σ : gS} {f : Nat → Int32} : (wld K σ).set 51 (K.2.2 51, .inl (K.2.1 1, 16, .inl f)) = wld K (uI σ 51 f) := rfl
theorem wsA52 {K : gK} {σ : gS} {f : Nat → Int32} : (wld K σ).set 52 (K.2.2 52, .inl (K.2.1 1, 16, .inl f)) = wld K (uI σ 52 f) := rfl
theorem wsA53 {K : gK} {σ : gS} {f : Nat → Int32} : (wld K σ).set 53 (K.2.2 53, .inl (K.2.1 1, 16, .inl f)) = wld K (uI σ 53 f) := rfl
theorem wsA54 {K : gK} {σ : gS} {f : Nat → Int32} : (wld K σ).set 54 (K.2.2 54, .inl (K.2.1 1, 16, .inl f)) = wld K (uI σ 54 f) := rfl
theorem wl_row {K : gK} {σ : gS} {j : Nat} (h : j < 10) : (wld K σ)[45 + j]? = some (K.2.2 (45 + j), .inl (K.2.1 1, 16, .inl (sI σ (45 + j)))) := by
  rcases (show j = 0 ∨ j = 1 ∨ j = 2 ∨ j = 3 ∨ j = 4 ∨ j = 5 ∨ j = 6 ∨ j = 7 ∨ j = 8 ∨ j = 9 by omega) with rfl | rfl | rfl | rfl | rfl | rfl | rfl | rfl | rfl | rfl <;> rfl
theorem ws_row {K : gK} {σ : gS} {j : Nat} (h : j < 10) {f : Nat → Int32} : (wld K σ).set (45 + j) (K.2.2 (45 + j), .inl (K.2.1 1, 16, .inl f)) = wld K (uI σ (45 + j) f) := by
  rcases (show j = 0 ∨ j = 1 ∨ j = 2 ∨ j = 3 ∨ j = 4 ∨ j = 5 ∨ j = 6 ∨ j = 7 ∨ j = 8 ∨ j = 9 by omega) with rfl | rfl | rfl | rfl | rfl | rfl | rfl | rfl | rfl | rfl <;> rfl
theorem wl_adr {K : gK} {σ : gS} : (wld K σ).map Prod.fst = (List.range 55).map K.2.2 := rfl
theorem wl_at {K : gK} {σ : gS} {k : Nat} {q : Nat × va_E} (h : (wld K σ)[k]? = some q) : k < 55 ∧ q.1 = K.2.2 k := by
  have h1 : ((wld K σ).map Prod.fst)[k]? = some q.1 := by rw [List.getElem?_map, h]; rfl
  rw [wl_adr, List.getElem?_map] at h1
  by_cases hk : k < 55
  · rw [List.getElem?_range hk] at h1
    exact ⟨hk, (Option.some.inj h1).symm⟩
  · rw [List.getElem?_eq_none (by rw [List.length_range]; omega)] at h1
    cases h1
end
section
/-! G: a method at a place: the world's values σ, the listed locals, the stack; X holds all that stays -/
abbrev gX : Type := Program × Launch × Env × Room × State × MethodId × Array Value × List Frame × Method × Code × (State → Prop) × (Nat → Prop) × Heap × gK × (Option Value → gS → Prop)
abbrev xp (X : gX) : Program := X.1
abbrev xl (X : gX) : Launch := X.2.1
abbrev xe (X : gX) : Env := X.2.2.1
abbrev xR (X : gX) : Room := X.2.2.2.1
abbrev xs (X : gX) : State := X.2.2.2.2.1
abbrev xm (X : gX) : MethodId := X.2.2.2.2.2.1
abbrev xa (X : gX) : Array Value := X.2.2.2.2.2.2.1
abbrev xb (X : gX) : List Frame := X.2.2.2.2.2.2.2.1
abbrev xme (X : gX) : Method := X.2.2.2.2.2.2.2.2.1
abbrev xc (X : gX) : Code := X.2.2.2.2.2.2.2.2.2.1
abbrev xQ (X : gX) : State → Prop := X.2.2.2.2.2.2.2.2.2.2.1
abbrev xA (X : gX) : Nat → Prop := X.2.2.2.2.2.2.2.2.2.2.2.1
abbrev xH (X : gX) : Heap := X.2.2.2.2.2.2.2.2.2.2.2.2.1
abbrev xK (X : gX) : gK := X.2.2.2.2.2.2.2.2.2.2.2.2.2.1
abbrev xF (X : gX) : Option Value → gS → Prop := X.2.2.2.2.2.2.2.2.2.2.2.2.2.2
/-- the private methods that other classes of the nest call, and constructors -/
def nws : List Cond := [.methodLinkNest RX0 98 yX6_magnitude RX6, .methodLinkNest RX0 105 yX6_notBelowZero RX6, .methodLinkNest RX3 38 yX6_magnitude RX6, .methodLinkNest RX3 28 yX6_notBelowZero RX6]
theorem nws_warm {s U : State} (hW : s.WarmedH U.vm) (h : ∀ w ∈ nws, va_Nw w s) : ∀ w ∈ nws, va_Nw w U := by
  intro w hw
  have h0 := h w hw
  simp only [nws, List.mem_cons, List.not_mem_nil, or_false] at hw
  rcases hw with rfl | rfl | rfl | rfl <;> exact va_Nw.warmM hW h0
theorem nws_same {s U : State} (e : s.vm = U.vm) (h : ∀ w ∈ nws, va_Nw w s) : ∀ w ∈ nws, va_Nw w U := by
  intro w hw
  have h0 := h w hw
  simp only [nws, List.mem_cons, List.not_mem_nil, or_false] at hw
  rcases hw with rfl | rfl | rfl | rfl <;> exact va_Nw.same rfl e h0
/-- no two places are one cell -/
def gD (K : gK) : Prop := ∀ i j : Nat, i < 55 → j < 55 → K.2.2 i = K.2.2 j → i = j
/-- what a method may change -/
def gR (K : gK) (sz : Nat) : Nat → Prop := fun q => (∃ k, k < 55 ∧ q = K.2.2 k) ∨ sz ≤ q
theorem gD.va {K : gK} (h : gD K) {A : Nat → Prop} (hA : ∀ k, k < 55 → A (K.2.2 k)) (σ : gS) : va_D A (wld K σ) := by
  refine ⟨fun i j p q hi hj e => ?_, fun k q hk => ?_⟩
  · obtain ⟨h1, h2⟩ := wl_at hi
    obtain ⟨h3, h4⟩ := wl_at hj
    exact h i j h1 h3 (by rw [← h2, ← h4, e])
  · obtain ⟨h1, h2⟩ := wl_at hk
    rw [h2]; exact hA k h1
def gB (K : gK) (σ : gS) (sz : Nat) : State → Prop := fun U => U.heap.size = sz ∧ va_P K.1 vwCl (wld K σ) U.heap ∧ va_K K.1 vwCl (tyK K) U ∧ ∀ w ∈ nws, va_Nw w U
def gQ (K : gK) (Rf : Option Value → gS → Prop) (sz : Nat) : Array Value → State → Outcome → State → Prop := fun _ st oc t => (∃ (rv : Option Value) (σ' : gS), oc = .returned rv ∧ Rf rv σ' ∧ va_P K.1 vwCl (wld K σ') t.heap) ∧ va_F (gR K sz) st t
/-- a contract: from σ, with these arguments, it returns rv and leaves σ' with Rf rv σ' -/
def Ct (l : Launch) (y : MethodName) (ws : List Cond) (rm : Room) (K : gK) (As : List Value) (σ : gS) (Rf : Option Value → gS → Prop) : Prop := ∀ sz : Nat, Met l y ws rm (va_Pc As (gB K σ sz)) (gQ K Rf sz) rm.cells rm.slots (gR K sz)
def G (X : gX) (nL k n : Nat) (σ : gS) (lv : List (Nat × Value)) (pc : Nat) (st : List Value) : Prop :=
  ∀ (H : Heap) (locs : List Loc) (ls : Array Slot), va_P (xK X).1 vwCl (wld (xK X) σ) H → va_S (xA X) (xH X) H locs → lv_has ls nL lv → W (xp X) (xl X) (xe X) (xR X) (xs X) (xm X) (xa X) (xb X) (xme X) (xc X) H locs k n (xQ X) (F0 (xm X) pc ls st)
/-- what stays through a method's body -/
def gC (X : gX) (nL : Nat) (cc : ByteArray) (own : String) (Ts : List Cond) (ret : Option FieldType) (rm : Room) : Prop :=
  (xp X).tables.exec = Jvm.exec ∧ (xc X).code = cc ∧ (xc X).maxLocals = nL ∧ (xs X).vm.findClass own = some (xm X).cls ∧ (∀ w ∈ Ts, w.before (xa X) (xs X) = true) ∧ va_K (xK X).1 vwCl (tyK (xK X)) (xs X) ∧ (∀ w ∈ nws, va_Nw w (xs X)) ∧ gD (xK X) ∧ (∀ q, gR (xK X) (xH X).size q → xA X q) ∧ xR X = rm ∧ (xme X).sig.returnType = ret ∧ (xme X).locks = false ∧
  ∃ (Qc : Array Value → State → Outcome → State → Prop) (free : Addr → Prop), (∀ (rv : Option Value) (σ' : gS) (H : Heap) (locs : List Loc) (t : State), xF X rv σ' → va_P (xK X).1 vwCl (wld (xK X) σ') H → va_S (xA X) (xH X) H locs → t.heap = H → Qc (xa X) (xs X) (.returned rv) t) ∧ (∀ q, xA X q → free q) ∧
    ∀ (H : Heap) (locs : List Loc) (g : JFrame), W (xp X) (xl X) (xe X) (xR X) (xs X) (xm X) (xa X) (xb X) (xme X) (xc X) H locs rm.cells rm.slots (MQ (xb X) Qc (xa X) (xs X) rm.cells rm.slots free) g → W (xp X) (xl X) (xe X) (xR X) (xs X) (xm X) (xa X) (xb X) (xme X) (xc X) H locs rm.cells rm.slots (xQ X) g
section GC
variable {X : gX} {nL : Nat} {cc : ByteArray} {own : String} {Ts : List Cond} {ret : Option FieldType} {rm : Room}
theorem gC.hx (C : gC X nL cc own Ts ret rm) : (xp X).tables.exec = Jvm.exec := C.1
theorem gC.hb (C : gC X nL cc own Ts ret rm) : (xc X).code = cc := C.2.1
theorem gC.hml (C : gC X nL cc own Ts ret rm) : (xc X).maxLocals = nL := C.2.2.1
theorem gC.hown (C : gC X nL cc own Ts ret rm) : (xs X).vm.findClass own = some (xm X).cls := C.2.2.2.1
theorem gC.hts (C : gC X nL cc own Ts ret rm) : ∀ w ∈ Ts, w.before (xa X) (xs X) = true := C.2.2.2.2.1
theorem gC.hK (C : gC X nL cc own Ts ret rm) : va_K (xK X).1 vwCl (tyK (xK X)) (xs X) := C.2.2.2.2.2.1
theorem gC.hN (C : gC X nL cc own Ts ret rm) : ∀ w ∈ nws, va_Nw w (xs X) := C.2.2.2.2.2.2.1
theorem gC.hD (C : gC X nL cc own Ts ret rm) : gD (xK X) := C.2.2.2.2.2.2.2.1
theorem gC.hA (C : gC X nL cc own Ts ret rm) : ∀ q, gR (xK X) (xH X).size q → xA X q := C.2.2.2.2.2.2.2.2.1
theorem gC.hR (C : gC X nL cc own Ts ret rm) : xR X = rm := C.2.2.2.2.2.2.2.2.2.1
theorem gC.hr (C : gC X nL cc own Ts ret rm) : (xme X).sig.returnType = ret := C.2.2.2.2.2.2.2.2.2.2.1
theorem gC.hlocks (C : gC X nL cc own Ts ret rm) : (xme X).locks = false := C.2.2.2.2.2.2.2.2.2.2.2.1
theorem gC.vaD (C : gC X nL cc own Ts ret rm) (σ : gS) : va_D (xA X) (wld (xK X) σ) := C.hD.va (fun k hk => C.hA _ (Or.inl ⟨k, hk, rfl⟩)) σ
theorem gC.w (C : gC X nL cc own Ts ret rm) (i : Nat) {w : Cond} (h : Ts[i]? = some w) : w.before (xa X) (xs X) = true := C.hts w (List.mem_of_getElem? h)
end GC
theorem gB_blind {K : gK} {σ : gS} {sz : Nat} {As : List Value} : FrameBlind (va_Pc As (gB K σ sz)) := by
  intro a U g mk h
  obtain ⟨h1, h2, h3, h4, h5⟩ := h
  exact ⟨h1, h2, h3, va_K.moved (u := U) (U := U.calling g mk a) (Vm.Alike.refl U.vm) h4, nws_same (s := U) (U := U.calling g mk a) rfl h5⟩
theorem Ct.of {l : Launch} {y : MethodName} {ws ws' : List Cond} {rm : Room} {K : gK} {As : List Value} {σ : gS} {Rf : Option Value → gS → Prop} {cc : ByteArray} {maxL : Nat} {ret : Option FieldType} (hD : gD K) (hy : plainName y.cls = true) (hw : ws = Cond.code y cc maxL ret :: ws') (hl : (lg_sl As).length ≤ maxL)
    (body : ∀ X : gX, xl X = l → xK X = K → xF X = Rf → gC X maxL cc y.cls ws ret rm → G X maxL 0 0 σ (lv_args 0 As) 0 []) : Ct l y ws rm K As σ Rf := by
  intro sz
  refine Met.ofW (cc := cc) (maxL := maxL) (ret := ret) hy hw ?_
  intro p e s m args below meth c s₁ B hml hv
  obtain ⟨rfl, hsz, hP, hK, hN⟩ := hv
  subst hsz
  have hts := atoms_spec (ws := ws) B.pre
  have hown : s.vm.findClass y.cls = some m.cls := findClass_of_methodNamed B.named
  have hlv := lv_entry As (n := maxL) hl
  have b := body (p, l, e, (headSpec ws rm).room, s, m, As.toArray, below, meth, c, MQ below (gQ K Rf s.heap.size) As.toArray s rm.cells rm.slots (gR K s.heap.size), gR K s.heap.size, s.heap, K, Rf) rfl rfl rfl
    ⟨B.exec, B.bytes, hml, hown, hts, hK, hN, hD, fun _ h => h, rfl, B.returns, B.notSynchronized, gQ K Rf s.heap.size, gR K s.heap.size, fun rv σ' H locs t h1 h2 h3 h4 => ⟨⟨rv, σ', rfl, h1, by rw [h4]; exact h2⟩, h3.F h4⟩, fun _ h => h, fun _ _ _ h => h⟩
  rw [lg_entry_eq]
  exact b s.heap [] _ hP va_S.rf hlv
section GR
variable {X : gX} {nL : Nat} {cc : ByteArray} {own : String} {Ts : List Cond} {ret : Option FieldType} {rm : Room} {k n : Nat} {σ : gS} {lv : List (Nat × Value)} {pc : Nat} {st : List Value}
theorem g_eq {lv2 : List (Nat × Value)} {st2 : List Value} {σ2 : gS} (h1 : σ = σ2) (h2 : lv = lv2) (h3 : st = st2) (kk : G X nL k n σ2 lv2 pc st2) : G X nL k n σ lv pc st := by
  subst h1; subst h2; subst h3; exact kk
theorem g_lv (ks : List Nat) {lv2 : List (Nat × Value)} (h : lv_pick lv ks = lv2) (kk : G X nL k n σ lv2 pc st) : G X nL k n σ lv pc st := fun H locs ls hP hS hl => kk H locs ls hP hS (lv_sub hl ks h)
theorem g_widen {k2 n2 : Nat} (h1 : k ≤ k2) (h2 : n ≤ n2) (kk : G X nL k2 n2 σ lv pc st) : G X nL k n σ lv pc st := fun H locs ls hP hS hl => W.widen h1 h2 (kk H locs ls hP hS hl)
theorem g_iload (C : gC X nL cc own Ts ret rm) {i : Nat} {x : Int32} (hdg : decode cc pc = .ok (.iload i, 2)) (j : Nat) (h : lv[j]? = some (i, .int x)) (kk : G X nL k n σ lv (pc + 2) (.int x :: st)) : G X nL k n σ lv pc st := fun H locs ls hP hS hl => lv_iload C.hx C.hb hdg (lv_at hl j h) (kk H locs ls hP hS hl)
theorem g_iload_n (C : gC X nL cc own Ts ret rm) {q : Fin 4} {i : Nat} {x : Int32} (hdg : decode cc pc = .ok (.iload_n q, 1)) (j : Nat) (h : lv[j]? = some (i, .int x)) (hi : (q : Nat) = i) (kk : G X nL k n σ lv (pc + 1) (.int x :: st)) : G X nL k n σ lv pc st := fun H locs ls hP hS hl => lv_iload_n C.hx C.hb hdg hi (lv_at hl j h) (kk H locs ls hP hS hl)
theorem g_istore (C : gC X nL cc own Ts ret rm) {i : Nat} {x : Int32} {lv' : List (Nat × Value)} (hdg : decode cc pc = .ok (.istore i, 2)) (hn : i < nL) (h : (i, Value.int x) :: lv.filter (fun q => !(q.1 == i) && !(q.1 + 1 == i && q.2.category == 2)) = lv') (kk : G X nL k n σ lv' (pc + 2) st) : G X nL k n σ lv pc (.int x :: st) := fun H locs ls hP hS hl => lv_istore C.hx C.hb hdg hl hn h (fun ls2 hl2 => kk H locs ls2 hP hS hl2)
theorem g_istore_n (C : gC X nL cc own Ts ret rm) {q : Fin 4} {i : Nat} {x : Int32} {lv' : List (Nat × Value)} (hdg : decode cc pc = .ok (.istore_n q, 1)) (hi : (q : Nat) = i) (hn : i < nL) (h : (i, Value.int x) :: lv.filter (fun q => !(q.1 == i) && !(q.1 + 1 == i && q.2.category == 2)) = lv') (kk : G X nL k n σ lv' (pc + 1) st) : G X nL k n σ lv pc (.int x :: st) := fun H locs ls hP hS hl => lv_istore_n C.hx C.hb hdg hi hl hn h (fun ls2 hl2 => kk H locs ls2 hP hS hl2)
theorem g_aload (C : gC X nL cc own Ts ret rm) {i : Nat} {x : Nat} (hdg : decode cc pc = .ok (.aload i, 2)) (j : Nat) (h : lv[j]? = some (i, .ref x)) (kk : G X nL k n σ lv (pc + 2) (.ref x :: st)) : G X nL k n σ lv pc st := fun H locs ls hP hS hl => lv_aload C.hx C.hb hdg (lv_at hl j h) (kk H locs ls hP hS hl)
theorem g_aload_n (C : gC X nL cc own Ts ret rm) {q : Fin 4} {i : Nat} {x : Nat} (hdg : decode cc pc = .ok (.aload_n q, 1)) (j : Nat) (h : lv[j]? = some (i, .ref x)) (hi : (q : Nat) = i) (kk : G X nL k n σ lv (pc + 1) (.ref x :: st)) : G X nL k n σ lv pc st := fun H locs ls hP hS hl => lv_aload_n C.hx C.hb hdg hi (lv_at hl j h) (kk H locs ls hP hS hl)
theorem g_astore (C : gC X nL cc own Ts ret rm) {i : Nat} {x : Nat} {lv' : List (Nat × Value)} (hdg : decode cc pc = .ok (.astore i, 2)) (hn : i < nL) (h : (i, Value.ref x) :: lv.filter (fun q => !(q.1 == i) && !(q.1 + 1 == i && q.2.category == 2)) = lv') (kk : G X nL k n σ lv' (pc + 2) st) : G X nL k n σ lv pc (.ref x :: st) := fun H locs ls hP hS hl => lv_astore C.hx C.hb hdg hl hn h (fun ls2 hl2 => kk H locs ls2 hP hS hl2)
theorem g_astore_n (C : gC X nL cc own Ts ret rm) {q : Fin 4} {i : Nat} {x : Nat} {lv' : List (Nat × Value)} (hdg : decode cc pc = .ok (.astore_n q, 1)) (hi : (q : Nat) = i) (hn : i < nL) (h : (i, Value.ref x) :: lv.filter (fun q => !(q.1 == i) && !(q.1 + 1 == i && q.2.category == 2)) = lv') (kk : G X nL k n σ lv' (pc + 1) st) : G X nL k n σ lv pc (.ref x :: st) := fun H locs ls hP hS hl => lv_astore_n C.hx C.hb hdg hi hl hn h (fun ls2 hl2 => kk H locs ls2 hP hS hl2)
theorem g_dload (C : gC X nL cc own Ts ret rm) {i : Nat} {x : UInt64} (hdg : decode cc pc = .ok (.dload i, 2)) (j : Nat) (h : lv[j]? = some (i, .double x)) (kk : G X nL k n σ lv (pc + 2) (.double x :: st)) : G X nL k n σ lv pc st := fun H locs ls hP hS hl => lv_dload C.hx C.hb hdg (lv_at hl j h) (kk H locs ls hP hS hl)
theorem g_dload_n (C : gC X nL cc own Ts ret rm) {q : Fin 4} {i : Nat} {x : UInt64} (hdg : decode cc pc = .ok (.dload_n q, 1)) (j : Nat) (h : lv[j]? = some (i, .double x)) (hi : (q : Nat) = i) (kk : G X nL k n σ lv (pc + 1) (.double x :: st)) : G X nL k n σ lv pc st := fun H locs ls hP hS hl => lv_dload_n C.hx C.hb hdg hi (lv_at hl j h) (kk H locs ls hP hS hl)
theorem g_dstore (C : gC X nL cc own Ts ret rm) {i : Nat} {x : UInt64} {lv' : List (Nat × Value)} (hdg : decode cc pc = .ok (.dstore i, 2)) (hn : i + 1 < nL) (h : (i, Value.double x) :: lv.filter (fun q => !(q.1 == i) && (!(q.1 == i + 1) && !(q.1 + 1 == i && q.2.category == 2))) = lv') (kk : G X nL k n σ lv' (pc + 2) st) : G X nL k n σ lv pc (.double x :: st) := fun H locs ls hP hS hl => lv_dstore C.hx C.hb hdg hl hn h (fun ls2 hl2 => kk H locs ls2 hP hS hl2)
theorem g_dstore_n (C : gC X nL cc own Ts ret rm) {q : Fin 4} {i : Nat} {x : UInt64} {lv' : List (Nat × Value)} (hdg : decode cc pc = .ok (.dstore_n q, 1)) (hi : (q : Nat) = i) (hn : i + 1 < nL) (h : (i, Value.double x) :: lv.filter (fun q => !(q.1 == i) && (!(q.1 == i + 1) && !(q.1 + 1 == i && q.2.category == 2))) = lv') (kk : G X nL k n σ lv' (pc + 1) st) : G X nL k n σ lv pc (.double x :: st) := fun H locs ls hP hS hl => lv_dstore_n C.hx C.hb hdg hi hl hn h (fun ls2 hl2 => kk H locs ls2 hP hS hl2)
theorem g_iinc (C : gC X nL cc own Ts ret rm) {i : Nat} {z : Int} {x v : Int32} {lv' : List (Nat × Value)} (hdg : decode cc pc = .ok (.iinc i z, 3)) (j : Nat) (hj : lv[j]? = some (i, .int x)) (hv : x + Int32.ofInt z = v) (hn : i < nL) (h : (i, Value.int v) :: lv.filter (fun q => !(q.1 == i) && !(q.1 + 1 == i && q.2.category == 2)) = lv') (kk : G X nL k n σ lv' (pc + 3) st) : G X nL k n σ lv pc st := fun H locs ls hP hS hl => lv_iinc C.hx C.hb hdg hl hj hv hn h (fun ls2 hl2 => kk H locs ls2 hP hS hl2)
theorem g_iconst (C : gC X nL cc own Ts ret rm) {z : Int} {v : Int32} (hdg : decode cc pc = .ok (.iconst z, 1)) (hv : Int32.ofInt z = v) (kk : G X nL k n σ lv (pc + 1) (.int v :: st)) : G X nL k n σ lv pc st := fun H locs ls hP hS hl => lv_iconst C.hx C.hb hdg hv (kk H locs ls hP hS hl)
theorem g_bipush (C : gC X nL cc own Ts ret rm) {z : Int} {v : Int32} (hdg : decode cc pc = .ok (.bipush z, 2)) (hv : (Int8.ofInt z).toInt32 = v) (kk : G X nL k n σ lv (pc + 2) (.int v :: st)) : G X nL k n σ lv pc st := fun H locs ls hP hS hl => lv_bipush C.hx C.hb hdg hv (kk H locs ls hP hS hl)
theorem g_lconst (C : gC X nL cc own Ts ret rm) {z : Fin 2} {v : Int64} (hdg : decode cc pc = .ok (.lconst z, 1)) (hv : Int64.ofNat (z : Nat) = v) (kk : G X nL k n σ lv (pc + 1) (.long v :: st)) : G X nL k n σ lv pc st := fun H locs ls hP hS hl => lv_lconst C.hx C.hb hdg hv (kk H locs ls hP hS hl)
theorem g_dconst0 (C : gC X nL cc own Ts ret rm)  (hdg : decode cc pc = .ok (.dconst 0, 1)) (kk : G X nL k n σ lv (pc + 1) (.double FP.dconst0 :: st)) : G X nL k n σ lv pc st := fun H locs ls hP hS hl => lv_dconst0 C.hx C.hb hdg (kk H locs ls hP hS hl)
theorem g_dconst1 (C : gC X nL cc own Ts ret rm)  (hdg : decode cc pc = .ok (.dconst 1, 1)) (kk : G X nL k n σ lv (pc + 1) (.double FP.dconst1 :: st)) : G X nL k n σ lv pc st := fun H locs ls hP hS hl => lv_dconst1 C.hx C.hb hdg (kk H locs ls hP hS hl)
theorem g_ldc2d (C : gC X nL cc own Ts ret rm) {index : Nat} {v : UInt64} (hdg : decode cc pc = .ok (.ldc2_w index, 3)) (j : Nat) (hw : Ts[j]? = some (.constantDouble own index v)) (kk : G X nL k n σ lv (pc + 3) (.double v :: st)) : G X nL k n σ lv pc st := fun H locs ls hP hS hl => lv_ldc2d C.hx C.hb C.hown (C.w j hw) hdg (kk H locs ls hP hS hl)
theorem g_ldc (C : gC X nL cc own Ts ret rm) {index : Nat} {v : Int32} (hdg : decode cc pc = .ok (.ldc index, 2)) (j : Nat) (hw : Ts[j]? = some (.constant own index v)) (kk : G X nL k n σ lv (pc + 2) (.int v :: st)) : G X nL k n σ lv pc st := fun H locs ls hP hS hl => lv_ldc C.hx C.hb C.hown (C.w j hw) hdg (kk H locs ls hP hS hl)
theorem g_iadd (C : gC X nL cc own Ts ret rm) {x y : Int32} (hdg : decode cc pc = .ok (.iadd, 1)) (kk : G X nL k n σ lv (pc + 1) (.int (x + y) :: st)) : G X nL k n σ lv pc (.int y :: .int x :: st) := fun H locs ls hP hS hl => lv_iadd C.hx C.hb hdg (kk H locs ls hP hS hl)
theorem g_isub (C : gC X nL cc own Ts ret rm) {x y : Int32} (hdg : decode cc pc = .ok (.isub, 1)) (kk : G X nL k n σ lv (pc + 1) (.int (x - y) :: st)) : G X nL k n σ lv pc (.int y :: .int x :: st) := fun H locs ls hP hS hl => lv_isub C.hx C.hb hdg (kk H locs ls hP hS hl)
theorem g_imul (C : gC X nL cc own Ts ret rm) {x y : Int32} (hdg : decode cc pc = .ok (.imul, 1)) (kk : G X nL k n σ lv (pc + 1) (.int (x * y) :: st)) : G X nL k n σ lv pc (.int y :: .int x :: st) := fun H locs ls hP hS hl => lv_imul C.hx C.hb hdg (kk H locs ls hP hS hl)
theorem g_iand (C : gC X nL cc own Ts ret rm) {x y : Int32} (hdg : decode cc pc = .ok (.iand, 1)) (kk : G X nL k n σ lv (pc + 1) (.int (x &&& y) :: st)) : G X nL k n σ lv pc (.int y :: .int x :: st) := fun H locs ls hP hS hl => lv_iand C.hx C.hb hdg (kk H locs ls hP hS hl)
theorem g_ior (C : gC X nL cc own Ts ret rm) {x y : Int32} (hdg : decode cc pc = .ok (.ior, 1)) (kk : G X nL k n σ lv (pc + 1) (.int (x ||| y) :: st)) : G X nL k n σ lv pc (.int y :: .int x :: st) := fun H locs ls hP hS hl => lv_ior C.hx C.hb hdg (kk H locs ls hP hS hl)
theorem g_ixor (C : gC X nL cc own Ts ret rm) {x y : Int32} (hdg : decode cc pc = .ok (.ixor, 1)) (kk : G X nL k n σ lv (pc + 1) (.int (x ^^^ y) :: st)) : G X nL k n σ lv pc (.int y :: .int x :: st) := fun H locs ls hP hS hl => lv_ixor C.hx C.hb hdg (kk H locs ls hP hS hl)
theorem g_ishl (C : gC X nL cc own Ts ret rm) {x y : Int32} (hdg : decode cc pc = .ok (.ishl, 1)) (kk : G X nL k n σ lv (pc + 1) (.int (x <<< (y &&& 31)) :: st)) : G X nL k n σ lv pc (.int y :: .int x :: st) := fun H locs ls hP hS hl => lv_ishl C.hx C.hb hdg (kk H locs ls hP hS hl)
theorem g_ishr (C : gC X nL cc own Ts ret rm) {x y : Int32} (hdg : decode cc pc = .ok (.ishr, 1)) (kk : G X nL k n σ lv (pc + 1) (.int (x >>> (y &&& 31)) :: st)) : G X nL k n σ lv pc (.int y :: .int x :: st) := fun H locs ls hP hS hl => lv_ishr C.hx C.hb hdg (kk H locs ls hP hS hl)
theorem g_dadd (C : gC X nL cc own Ts ret rm) {x y : UInt64} (hdg : decode cc pc = .ok (.dadd, 1)) (hne : vf_n64 (FP.dadd x y)) (kk : G X nL k n σ lv (pc + 1) (.double (FP.dadd x y) :: st)) : G X nL k n σ lv pc (.double y :: .double x :: st) := fun H locs ls hP hS hl => lv_dadd C.hx C.hb hdg hne (kk H locs ls hP hS hl)
theorem g_dsub (C : gC X nL cc own Ts ret rm) {x y : UInt64} (hdg : decode cc pc = .ok (.dsub, 1)) (hne : vf_n64 (FP.dsub x y)) (kk : G X nL k n σ lv (pc + 1) (.double (FP.dsub x y) :: st)) : G X nL k n σ lv pc (.double y :: .double x :: st) := fun H locs ls hP hS hl => lv_dsub C.hx C.hb hdg hne (kk H locs ls hP hS hl)
theorem g_dmul (C : gC X nL cc own Ts ret rm) {x y : UInt64} (hdg : decode cc pc = .ok (.dmul, 1)) (hne : vf_n64 (FP.dmul x y)) (kk : G X nL k n σ lv (pc + 1) (.double (FP.dmul x y) :: st)) : G X nL k n σ lv pc (.double y :: .double x :: st) := fun H locs ls hP hS hl => lv_dmul C.hx C.hb hdg hne (kk H locs ls hP hS hl)
theorem g_ddiv (C : gC X nL cc own Ts ret rm) {x y : UInt64} (hdg : decode cc pc = .ok (.ddiv, 1)) (hne : vf_n64 (FP.ddiv x y)) (kk : G X nL k n σ lv (pc + 1) (.double (FP.ddiv x y) :: st)) : G X nL k n σ lv pc (.double y :: .double x :: st) := fun H locs ls hP hS hl => lv_ddiv C.hx C.hb hdg hne (kk H locs ls hP hS hl)
theorem g_dneg (C : gC X nL cc own Ts ret rm) {x : UInt64} (hdg : decode cc pc = .ok (.dneg, 1)) (kk : G X nL k n σ lv (pc + 1) (.double (FP.dneg x) :: st)) : G X nL k n σ lv pc (.double x :: st) := fun H locs ls hP hS hl => lv_dneg C.hx C.hb hdg (kk H locs ls hP hS hl)
theorem g_dcmp (C : gC X nL cc own Ts ret rm) {x y : UInt64} {op : CmpOp} (hdg : decode cc pc = .ok (.dcmp op, 1)) (kk : G X nL k n σ lv (pc + 1) (.int (Op.cmpValue (FP.dcmp x y) op) :: st)) : G X nL k n σ lv pc (.double y :: .double x :: st) := fun H locs ls hP hS hl => lv_dcmp C.hx C.hb hdg (kk H locs ls hP hS hl)
theorem g_i2d (C : gC X nL cc own Ts ret rm) {x : Int32} (hdg : decode cc pc = .ok (.i2d, 1)) (kk : G X nL k n σ lv (pc + 1) (.double (FP.i2d x) :: st)) : G X nL k n σ lv pc (.int x :: st) := fun H locs ls hP hS hl => lv_i2d C.hx C.hb hdg (kk H locs ls hP hS hl)
theorem g_i2l (C : gC X nL cc own Ts ret rm) {x : Int32} (hdg : decode cc pc = .ok (.i2l, 1)) (kk : G X nL k n σ lv (pc + 1) (.long x.toInt64 :: st)) : G X nL k n σ lv pc (.int x :: st) := fun H locs ls hP hS hl => lv_i2l C.hx C.hb hdg rfl (kk H locs ls hP hS hl)
theorem g_dup (C : gC X nL cc own Ts ret rm) {va : Value} (hdg : decode cc pc = .ok (.dup, 1)) (hva : va.category = 1) (kk : G X nL k n σ lv (pc + 1) (va :: va :: st)) : G X nL k n σ lv pc (va :: st) := fun H locs ls hP hS hl => lv_dup C.hx C.hb hdg hva (kk H locs ls hP hS hl)
theorem g_dup2 (C : gC X nL cc own Ts ret rm) {va vb : Value} (hdg : decode cc pc = .ok (.dup2, 1)) (hva : va.category = 1) (hvb : vb.category = 1) (kk : G X nL k n σ lv (pc + 1) (va :: vb :: va :: vb :: st)) : G X nL k n σ lv pc (va :: vb :: st) := fun H locs ls hP hS hl => lv_dup2_11 C.hx C.hb hdg hva hvb (kk H locs ls hP hS hl)
theorem g_goto (C : gC X nL cc own Ts ret rm) {off : Int} {tgt : Nat} (hdg : decode cc pc = .ok (.goto off, 3)) (ht : (pc : Int) + off = (tgt : Int)) (kk : G X nL k n σ lv tgt st) : G X nL k n σ lv pc st := fun H locs ls hP hS hl => lv_goto C.hx C.hb hdg ht (kk H locs ls hP hS hl)
theorem g_lcmp (C : gC X nL cc own Ts ret rm) {x y : Int64} (hdg : decode cc pc = .ok (.lcmp, 1)) (kk : G X nL k n σ lv (pc + 1) (.int (lg_cmp x y) :: st)) : G X nL k n σ lv pc (.long y :: .long x :: st) := fun H locs ls hP hS hl => W.lcmp C.hx C.hb hdg (kk H locs ls hP hS hl)
theorem g_if_eq (C : gC X nL cc own Ts ret rm) {x : Int32} {off : Int} {tgt : Nat} (hdg : decode cc pc = .ok (.ifCond .eq off, 3)) (ht : (pc : Int) + off = (tgt : Int)) (kt : x = 0 → G X nL k n σ lv tgt st) (kf : ¬ x = 0 → G X nL k n σ lv (pc + 3) st) : G X nL k n σ lv pc (.int x :: st) := fun H locs ls hP hS hl => lv_if_eq C.hx C.hb hdg ht (fun h => kt h H locs ls hP hS hl) (fun h => kf h H locs ls hP hS hl)
theorem g_if_ne (C : gC X nL cc own Ts ret rm) {x : Int32} {off : Int} {tgt : Nat} (hdg : decode cc pc = .ok (.ifCond .ne off, 3)) (ht : (pc : Int) + off = (tgt : Int)) (kt : ¬ x = 0 → G X nL k n σ lv tgt st) (kf : x = 0 → G X nL k n σ lv (pc + 3) st) : G X nL k n σ lv pc (.int x :: st) := fun H locs ls hP hS hl => lv_if_ne C.hx C.hb hdg ht (fun h => kt h H locs ls hP hS hl) (fun h => kf h H locs ls hP hS hl)
theorem g_if_lt (C : gC X nL cc own Ts ret rm) {x : Int32} {off : Int} {tgt : Nat} (hdg : decode cc pc = .ok (.ifCond .lt off, 3)) (ht : (pc : Int) + off = (tgt : Int)) (kt : x < 0 → G X nL k n σ lv tgt st) (kf : ¬ x < 0 → G X nL k n σ lv (pc + 3) st) : G X nL k n σ lv pc (.int x :: st) := fun H locs ls hP hS hl => lv_if_lt C.hx C.hb hdg ht (fun h => kt h H locs ls hP hS hl) (fun h => kf h H locs ls hP hS hl)
theorem g_if_ge (C : gC X nL cc own Ts ret rm) {x : Int32} {off : Int} {tgt : Nat} (hdg : decode cc pc = .ok (.ifCond .ge off, 3)) (ht : (pc : Int) + off = (tgt : Int)) (kt : 0 ≤ x → G X nL k n σ lv tgt st) (kf : ¬ 0 ≤ x → G X nL k n σ lv (pc + 3) st) : G X nL k n σ lv pc (.int x :: st) := fun H locs ls hP hS hl => lv_if_ge C.hx C.hb hdg ht (fun h => kt h H locs ls hP hS hl) (fun h => kf h H locs ls hP hS hl)
theorem g_if_gt (C : gC X nL cc own Ts ret rm) {x : Int32} {off : Int} {tgt : Nat} (hdg : decode cc pc = .ok (.ifCond .gt off, 3)) (ht : (pc : Int) + off = (tgt : Int)) (kt : 0 < x → G X nL k n σ lv tgt st) (kf : ¬ 0 < x → G X nL k n σ lv (pc + 3) st) : G X nL k n σ lv pc (.int x :: st) := fun H locs ls hP hS hl => lv_if_gt C.hx C.hb hdg ht (fun h => kt h H locs ls hP hS hl) (fun h => kf h H locs ls hP hS hl)
theorem g_if_le (C : gC X nL cc own Ts ret rm) {x : Int32} {off : Int} {tgt : Nat} (hdg : decode cc pc = .ok (.ifCond .le off, 3)) (ht : (pc : Int) + off = (tgt : Int)) (kt : x ≤ 0 → G X nL k n σ lv tgt st) (kf : ¬ x ≤ 0 → G X nL k n σ lv (pc + 3) st) : G X nL k n σ lv pc (.int x :: st) := fun H locs ls hP hS hl => lv_if_le C.hx C.hb hdg ht (fun h => kt h H locs ls hP hS hl) (fun h => kf h H locs ls hP hS hl)
theorem g_icmp_eq (C : gC X nL cc own Ts ret rm) {x y : Int32} {off : Int} {tgt : Nat} (hdg : decode cc pc = .ok (.if_icmp .eq off, 3)) (ht : (pc : Int) + off = (tgt : Int)) (kt : x = y → G X nL k n σ lv tgt st) (kf : ¬ x = y → G X nL k n σ lv (pc + 3) st) : G X nL k n σ lv pc (.int y :: .int x :: st) := fun H locs ls hP hS hl => lv_icmp_eq C.hx C.hb hdg ht (fun h => kt h H locs ls hP hS hl) (fun h => kf h H locs ls hP hS hl)
theorem g_icmp_ne (C : gC X nL cc own Ts ret rm) {x y : Int32} {off : Int} {tgt : Nat} (hdg : decode cc pc = .ok (.if_icmp .ne off, 3)) (ht : (pc : Int) + off = (tgt : Int)) (kt : ¬ x = y → G X nL k n σ lv tgt st) (kf : x = y → G X nL k n σ lv (pc + 3) st) : G X nL k n σ lv pc (.int y :: .int x :: st) := fun H locs ls hP hS hl => lv_icmp_ne C.hx C.hb hdg ht (fun h => kt h H locs ls hP hS hl) (fun h => kf h H locs ls hP hS hl)
theorem g_icmp_lt (C : gC X nL cc own Ts ret rm) {x y : Int32} {off : Int} {tgt : Nat} (hdg : decode cc pc = .ok (.if_icmp .lt off, 3)) (ht : (pc : Int) + off = (tgt : Int)) (kt : x < y → G X nL k n σ lv tgt st) (kf : ¬ x < y → G X nL k n σ lv (pc + 3) st) : G X nL k n σ lv pc (.int y :: .int x :: st) := fun H locs ls hP hS hl => lv_icmp_lt C.hx C.hb hdg ht (fun h => kt h H locs ls hP hS hl) (fun h => kf h H locs ls hP hS hl)
theorem g_icmp_ge (C : gC X nL cc own Ts ret rm) {x y : Int32} {off : Int} {tgt : Nat} (hdg : decode cc pc = .ok (.if_icmp .ge off, 3)) (ht : (pc : Int) + off = (tgt : Int)) (kt : y ≤ x → G X nL k n σ lv tgt st) (kf : ¬ y ≤ x → G X nL k n σ lv (pc + 3) st) : G X nL k n σ lv pc (.int y :: .int x :: st) := fun H locs ls hP hS hl => lv_icmp_ge C.hx C.hb hdg ht (fun h => kt h H locs ls hP hS hl) (fun h => kf h H locs ls hP hS hl)
theorem g_icmp_gt (C : gC X nL cc own Ts ret rm) {x y : Int32} {off : Int} {tgt : Nat} (hdg : decode cc pc = .ok (.if_icmp .gt off, 3)) (ht : (pc : Int) + off = (tgt : Int)) (kt : y < x → G X nL k n σ lv tgt st) (kf : ¬ y < x → G X nL k n σ lv (pc + 3) st) : G X nL k n σ lv pc (.int y :: .int x :: st) := fun H locs ls hP hS hl => lv_icmp_gt C.hx C.hb hdg ht (fun h => kt h H locs ls hP hS hl) (fun h => kf h H locs ls hP hS hl)
theorem g_icmp_le (C : gC X nL cc own Ts ret rm) {x y : Int32} {off : Int} {tgt : Nat} (hdg : decode cc pc = .ok (.if_icmp .le off, 3)) (ht : (pc : Int) + off = (tgt : Int)) (kt : x ≤ y → G X nL k n σ lv tgt st) (kf : ¬ x ≤ y → G X nL k n σ lv (pc + 3) st) : G X nL k n σ lv pc (.int y :: .int x :: st) := fun H locs ls hP hS hl => lv_icmp_le C.hx C.hb hdg ht (fun h => kt h H locs ls hP hS hl) (fun h => kf h H locs ls hP hS hl)
theorem g_tableIn (C : gC X nL cc own Ts ret rm) {dflt lo hi : Int} {offs : Array Int} {len : Nat} {x : Int32} {off : Int} {tgt : Nat} (hdg : decode cc pc = .ok (.tableswitch dflt lo hi offs, len)) (h1 : ¬ x.toInt < lo) (h2 : ¬ hi < x.toInt) (ho : offs[(x.toInt - lo).toNat]? = some off) (ht : (pc : Int) + off = (tgt : Int)) (kk : G X nL k n σ lv tgt st) : G X nL k n σ lv pc (.int x :: st) := fun H locs ls hP hS hl => lv_tableIn C.hx C.hb hdg h1 h2 ho ht (kk H locs ls hP hS hl)
theorem g_tableOut (C : gC X nL cc own Ts ret rm) {dflt lo hi : Int} {offs : Array Int} {len : Nat} {x : Int32} {tgt : Nat} (hdg : decode cc pc = .ok (.tableswitch dflt lo hi offs, len)) (h : x.toInt < lo ∨ hi < x.toInt) (ht : (pc : Int) + dflt = (tgt : Int)) (kk : G X nL k n σ lv tgt st) : G X nL k n σ lv pc (.int x :: st) := fun H locs ls hP hS hl => lv_tableOut C.hx C.hb hdg h ht (kk H locs ls hP hS hl)
theorem g_get (C : gC X nL cc own Ts ret rm) {ref Cn : String} {T : u_T} {N ci index a q0 : Nat} {fs : List Value} {v : Value} (hdg : decode cc pc = .ok (.getfield index, 3)) (he : (wld (xK X) σ)[q0]? = some (a, .inr (ci, fs))) (hc : vwCl[ci]? = some (Cn, T, N)) (f : Nat) (hf : f < N) (j : Nat) (hw : Ts[j]? = some (.fieldLink own index ref (T f).2.1 (T f).2.2.1)) (hrf : (T f).1 = ref) (hv : fs[f]? = some v) (hin : ∀ w ∈ u_ws Cn T N, w ∈ Ts) (kk : G X nL k n σ lv (pc + 3) (v :: st)) : G X nL k n σ lv pc (.ref a :: st) := fun H locs ls hP hS hl => va_get C.hx C.hb C.hts hin C.hown C.hK hP q0 he hc f hf (C.w j hw) (fun _ h => by rw [← hrf]; exact h) hv hdg (kk H locs ls hP hS hl)
theorem g_put (C : gC X nL cc own Ts ret rm) {ref Cn : String} {T : u_T} {N ci index a q0 : Nat} {fs : List Value} {v : Value} {ty : FieldType} {ty0 : Nat → FieldType} {σ' : gS} (hdg : decode cc pc = .ok (.putfield index, 3)) (he : (wld (xK X) σ)[q0]? = some (a, .inr (ci, fs))) (hc : vwCl[ci]? = some (Cn, T, N)) (f : Nat) (hf : f < N) (j : Nat) (hw : Ts[j]? = some (.fieldLink own index ref (T f).2.1 (T f).2.2.1)) (hrf : (T f).1 = ref) (hin : ∀ w ∈ u_ws Cn T N, w ∈ Ts) (hty : ∀ k, k < N → parseFieldDescriptor (T k).2.2.1 = some (ty0 k)) (hnm : ∀ a, a < N → ∀ b, b < N → a ≠ b → (T a).2.1 ≠ (T b).2.1) (hfin : (T f).2.2.2 = false) (hd : parseFieldDescriptor (T f).2.2.1 = some ty) (hn : narrow ty v = v) (hfit : fits ty v = true) (hlen : f < fs.length) (hset : (wld (xK X) σ).set q0 (a, .inr (ci, fs.set f v)) = wld (xK X) σ') (kk : G X nL k n σ' lv (pc + 3) st) : G X nL k n σ lv pc (v :: .ref a :: st) := fun H locs ls hP hS hl => va_put C.hx C.hb C.hts hin ty0 hty hnm C.hown C.hK hP (C.vaD σ) hS q0 he hc f hf (C.w j hw) (fun _ h => by rw [← hrf]; exact h) hfin hd hn hfit hlen hdg (fun H1 locs1 hP1 _ hS1 => kk H1 locs1 ls (by rw [hset] at hP1; exact hP1) hS1 hl)
theorem g_iald (C : gC X nL cc own Ts ret rm) {a q0 N j : Nat} {f : Nat → Int32} {i : Int32} (hdg : decode cc pc = .ok (.iaload, 1)) (he : (wld (xK X) σ)[q0]? = some (a, .inl ((xK X).2.1 1, N, .inl f))) (hi : i = nI j) (hj : j < N) (hN : N < 2 ^ 31) (kk : G X nL k n σ lv (pc + 1) (.int (f j) :: st)) : G X nL k n σ lv pc (.int i :: .ref a :: st) := by
  subst hi
  intro H locs ls hP hS hl
  refine va_iald C.hx C.hb C.hK hP q0 1 he rfl (vp_in_nI hj hN) hdg ?_
  rw [nI_clamp (Nat.lt_trans hj hN)]
  exact kk H locs ls hP hS hl
theorem g_zald (C : gC X nL cc own Ts ret rm) {a q0 N j : Nat} {f : Nat → Int32} {i : Int32} (hdg : decode cc pc = .ok (.baload, 1)) (he : (wld (xK X) σ)[q0]? = some (a, .inl ((xK X).2.1 2, N, .inl f))) (hi : i = nI j) (hj : j < N) (hN : N < 2 ^ 31) (kk : G X nL k n σ lv (pc + 1) (.int (f j) :: st)) : G X nL k n σ lv pc (.int i :: .ref a :: st) := by
  subst hi
  intro H locs ls hP hS hl
  refine va_zald C.hx C.hb C.hK hP q0 2 he rfl (vp_in_nI hj hN) hdg ?_
  rw [nI_clamp (Nat.lt_trans hj hN)]
  exact kk H locs ls hP hS hl
theorem g_dald (C : gC X nL cc own Ts ret rm) {a q0 N j : Nat} {f : Nat → UInt64} {i : Int32} (hdg : decode cc pc = .ok (.daload, 1)) (he : (wld (xK X) σ)[q0]? = some (a, .inl ((xK X).2.1 0, N, .inr (.inr (.inr (.inl f)))))) (hi : i = nI j) (hj : j < N) (hN : N < 2 ^ 31) (kk : G X nL k n σ lv (pc + 1) (.double (f j) :: st)) : G X nL k n σ lv pc (.int i :: .ref a :: st) := by
  subst hi
  intro H locs ls hP hS hl
  refine va_dald C.hx C.hb C.hK hP q0 0 he rfl (vp_in_nI hj hN) hdg ?_
  rw [nI_clamp (Nat.lt_trans hj hN)]
  exact kk H locs ls hP hS hl
theorem g_lald (C : gC X nL cc own Ts ret rm) {a q0 N j : Nat} {f : Nat → Int64} {i : Int32} (hdg : decode cc pc = .ok (.laload, 1)) (he : (wld (xK X) σ)[q0]? = some (a, .inl ((xK X).2.1 4, N, .inr (.inl f)))) (hi : i = nI j) (hj : j < N) (hN : N < 2 ^ 31) (kk : G X nL k n σ lv (pc + 1) (.long (f j) :: st)) : G X nL k n σ lv pc (.int i :: .ref a :: st) := by
  subst hi
  intro H locs ls hP hS hl
  refine va_lald C.hx C.hb C.hK hP q0 4 he rfl (vp_in_nI hj hN) hdg ?_
  rw [nI_clamp (Nat.lt_trans hj hN)]
  exact kk H locs ls hP hS hl
theorem g_iast (C : gC X nL cc own Ts ret rm) {a q0 N j : Nat} {f : Nat → Int32} {i : Int32} {x : Int32} {σ' : gS} (hdg : decode cc pc = .ok (.iastore, 1)) (he : (wld (xK X) σ)[q0]? = some (a, .inl ((xK X).2.1 1, N, .inl f))) (hi : i = nI j) (hj : j < N) (hN : N < 2 ^ 31) (hset : (wld (xK X) σ).set q0 (a, .inl ((xK X).2.1 1, N, .inl (upd f j x))) = wld (xK X) σ') (kk : G X nL k n σ' lv (pc + 1) st) : G X nL k n σ lv pc (.int x :: .int i :: .ref a :: st) := by
  subst hi
  intro H locs ls hP hS hl
  refine va_iast C.hx C.hb C.hK hP (C.vaD σ) hS q0 1 he rfl (vp_in_nI hj hN) hdg (fun H1 locs1 hP1 _ hS1 => ?_)
  rw [nI_clamp (Nat.lt_trans hj hN), hset] at hP1
  exact kk H1 locs1 ls hP1 hS1 hl
theorem g_zast (C : gC X nL cc own Ts ret rm) {a q0 N j : Nat} {f : Nat → Int32} {i : Int32} {x : Int32} {σ' : gS} (hdg : decode cc pc = .ok (.bastore, 1)) (he : (wld (xK X) σ)[q0]? = some (a, .inl ((xK X).2.1 2, N, .inl f))) (hi : i = nI j) (hj : j < N) (hN : N < 2 ^ 31) (hset : (wld (xK X) σ).set q0 (a, .inl ((xK X).2.1 2, N, .inl (upd f j (vp_nar .boolean x)))) = wld (xK X) σ') (kk : G X nL k n σ' lv (pc + 1) st) : G X nL k n σ lv pc (.int x :: .int i :: .ref a :: st) := by
  subst hi
  intro H locs ls hP hS hl
  refine va_zast C.hx C.hb C.hK hP (C.vaD σ) hS q0 2 he rfl (vp_in_nI hj hN) hdg (fun H1 locs1 hP1 _ hS1 => ?_)
  rw [nI_clamp (Nat.lt_trans hj hN), hset] at hP1
  exact kk H1 locs1 ls hP1 hS1 hl
theorem g_dast (C : gC X nL cc own Ts ret rm) {a q0 N j : Nat} {f : Nat → UInt64} {i : Int32} {x : UInt64} {σ' : gS} (hdg : decode cc pc = .ok (.dastore, 1)) (he : (wld (xK X) σ)[q0]? = some (a, .inl ((xK X).2.1 0, N, .inr (.inr (.inr (.inl f)))))) (hi : i = nI j) (hj : j < N) (hN : N < 2 ^ 31) (hset : (wld (xK X) σ).set q0 (a, .inl ((xK X).2.1 0, N, .inr (.inr (.inr (.inl (vf_upd f j x)))))) = wld (xK X) σ') (kk : G X nL k n σ' lv (pc + 1) st) : G X nL k n σ lv pc (.double x :: .int i :: .ref a :: st) := by
  subst hi
  intro H locs ls hP hS hl
  refine va_dast C.hx C.hb C.hK hP (C.vaD σ) hS q0 0 he rfl (vp_in_nI hj hN) hdg (fun H1 locs1 hP1 _ hS1 => ?_)
  rw [nI_clamp (Nat.lt_trans hj hN), hset] at hP1
  exact kk H1 locs1 ls hP1 hS1 hl
theorem g_last (C : gC X nL cc own Ts ret rm) {a q0 N j : Nat} {f : Nat → Int64} {i : Int32} {x : Int64} {σ' : gS} (hdg : decode cc pc = .ok (.lastore, 1)) (he : (wld (xK X) σ)[q0]? = some (a, .inl ((xK X).2.1 4, N, .inr (.inl f)))) (hi : i = nI j) (hj : j < N) (hN : N < 2 ^ 31) (hset : (wld (xK X) σ).set q0 (a, .inl ((xK X).2.1 4, N, .inr (.inl (vp_updL f j x)))) = wld (xK X) σ') (kk : G X nL k n σ' lv (pc + 1) st) : G X nL k n σ lv pc (.long x :: .int i :: .ref a :: st) := by
  subst hi
  intro H locs ls hP hS hl
  refine va_last C.hx C.hb C.hK hP (C.vaD σ) hS q0 4 he rfl (vp_in_nI hj hN) hdg (fun H1 locs1 hP1 _ hS1 => ?_)
  rw [nI_clamp (Nat.lt_trans hj hN), hset] at hP1
  exact kk H1 locs1 ls hP1 hS1 hl
theorem g_rald (C : gC X nL cc own Ts ret rm) {j : Nat} {i : Int32} (hdg : decode cc pc = .ok (.aaload, 1)) (hi : i = nI j) (hj : j < 10) (kk : G X nL k n σ lv (pc + 1) (.ref ((xK X).2.2 (45 + j)) :: st)) : G X nL k n σ lv pc (.int i :: .ref ((xK X).2.2 14) :: st) := by
  subst hi
  intro H locs ls hP hS hl
  have hv : gRows (xK X) j = some ((xK X).2.2 (45 + j)) := if_pos hj
  have e : va_rf (gRows (xK X) j) = .ref ((xK X).2.2 (45 + j)) := by rw [hv]; rfl
  exact W.aald (v := .ref ((xK X).2.2 (45 + j))) (ty := .array .int) C.hx C.hb (hP 14 _ wl14) ((C.hK.2 3 _ rfl).1 10 (fun j => va_rf (gRows (xK X) j))) rfl (fun q => by cases q) (by show ¬ (_ ∨ (arrV _ _ _).slots.size ≤ _); rw [arrV_size]; exact vp_in_nI (N := 10) hj (by decide)) (by show (arrV _ _ _).slots[_]? = _; rw [nI_clamp (by omega), arrV_read _ _ hj, e]) rfl rfl hdg (kk H locs ls hP hS hl)
theorem g_topi {x y : Int32} (h : x = y) (kk : G X nL k n σ lv pc (.int y :: st)) : G X nL k n σ lv pc (.int x :: st) := by subst h; exact kk
theorem g_topd {x y : UInt64} (h : x = y) (kk : G X nL k n σ lv pc (.double y :: st)) : G X nL k n σ lv pc (.double x :: st) := by subst h; exact kk
theorem g_topl {x y : Int64} (h : x = y) (kk : G X nL k n σ lv pc (.long y :: st)) : G X nL k n σ lv pc (.long x :: st) := by subst h; exact kk
theorem g_iret (C : gC X nL cc own Ts ret rm) {v : Int32} (hdg : decode cc pc = .ok (.ireturn, 1)) (hr : ret = some .int) (hk : k ≤ rm.cells ∧ n ≤ rm.slots) (h : xF X (some (.int v)) σ) : G X nL k n σ lv pc [.int v] := by
  obtain ⟨Qc, free, e1, e2, e3⟩ := C.2.2.2.2.2.2.2.2.2.2.2.2
  exact fun H locs ls hP hS hl => W.widen hk.1 hk.2 (e3 H locs _ (W.iret C.hx C.hb (C.hr.trans hr) (fun t ht _ => e1 _ σ H locs t h hP hS ht) (fun q hq => e2 _ (hS.2.2 q hq)) hdg C.hlocks))
theorem g_zret (C : gC X nL cc own Ts ret rm) {v : Int32} (hdg : decode cc pc = .ok (.ireturn, 1)) (hr : ret = some .boolean) (hn : narrow .boolean (.int v) = .int v) (hk : k ≤ rm.cells ∧ n ≤ rm.slots) (h : xF X (some (.int v)) σ) : G X nL k n σ lv pc [.int v] := by
  obtain ⟨Qc, free, e1, e2, e3⟩ := C.2.2.2.2.2.2.2.2.2.2.2.2
  exact fun H locs ls hP hS hl => W.widen hk.1 hk.2 (e3 H locs _ (W.zret C.hx C.hb (C.hr.trans hr) hn (fun t ht _ => e1 _ σ H locs t h hP hS ht) (fun q hq => e2 _ (hS.2.2 q hq)) hdg C.hlocks))
theorem g_dret (C : gC X nL cc own Ts ret rm) {v : UInt64} (hdg : decode cc pc = .ok (.dreturn, 1)) (hr : ret = some .double) (hk : k ≤ rm.cells ∧ n ≤ rm.slots) (h : xF X (some (.double v)) σ) : G X nL k n σ lv pc [.double v] := by
  obtain ⟨Qc, free, e1, e2, e3⟩ := C.2.2.2.2.2.2.2.2.2.2.2.2
  have hlk := C.hlocks
  exact fun H locs ls hP hS hl => W.widen hk.1 hk.2 (e3 H locs _ (W.dret C.hx C.hb (C.hr.trans hr) (fun t ht _ => e1 _ σ H locs t h hP hS ht) (fun q hq => e2 _ (hS.2.2 q hq)) hdg hlk))
theorem g_vret (C : gC X nL cc own Ts ret rm) (hdg : decode cc pc = .ok (.return_, 1)) (hr : ret = none) (hk : k ≤ rm.cells ∧ n ≤ rm.slots) (h : xF X none σ) : G X nL k n σ lv pc [] := by
  obtain ⟨Qc, free, e1, e2, e3⟩ := C.2.2.2.2.2.2.2.2.2.2.2.2
  exact fun H locs ls hP hS hl => W.widen hk.1 hk.2 (e3 H locs _ (W.vret C.hx C.hb (C.hr.trans hr) (fun t ht _ => e1 _ σ H locs t h hP hS ht) (fun q hq => e2 _ (hS.2.2 q hq)) hdg C.hlocks))
theorem g_run (C : gC X nL cc own Ts ret rm) {H : Heap} {locs : List Loc} {ls : Array Slot} {mc ms : Nat} {rest st0 : List Value} {a : Array Value} {Rf : Option Value → gS → Prop} (hS : va_S (xA X) (xH X) H locs) (hl : lv_has ls nL lv)
    (hr : va_Run (xp X) (xl X) (xe X) (xR X) (xs X) (xm X) (xa X) (xb X) (xme X) (xc X) H locs k n mc ms (F0 (xm X) pc ls st0) rest (gQ (xK X) Rf H.size a) (gR (xK X) H.size))
    (kk : ∀ (rv : Option Value) (σ' : gS), Rf rv σ' → G X nL (k + mc) (n + ms) σ' lv (pc + 3) (rv.toList ++ rest)) : W (xp X) (xl X) (xe X) (xR X) (xs X) (xm X) (xa X) (xb X) (xme X) (xc X) H locs k n (xQ X) (F0 (xm X) pc ls st0) := by
  have hA : ∀ q, gR (xK X) H.size q → xA X q := fun q h => C.hA q (h.elim Or.inl fun h => Or.inr (Nat.le_trans hS.1 h))
  intro T hT Y
  obtain ⟨v, st₀, t, T', L, h0, Y', hL, e1, e2, ⟨⟨rv, σ', hv, hp, hP1⟩, hz, hk⟩, stp⟩ := hr T hT Y
  cases hv
  rw [h0] at hz hk
  obtain ⟨t2, a1, b1⟩ := kk v σ' hp T'.heap (locs ++ L) ls (by rw [e1]; exact hP1)
    ⟨Nat.le_trans hS.1 (by rw [e1]; exact hz), fun q h1 h2 => by rw [e1, hk q (Nat.lt_of_lt_of_le h1 hS.1) (fun z => h2 (hA q z))]; exact hS.2.1 q h1 h2, fun q hq => by
      rcases List.mem_append.mp hq with h | h
      · exact hS.2.2 q h
      · exact hA _ (hL q h)⟩ hl T' rfl Y'
  exact ⟨t2, stp t2 a1, b1⟩
theorem gC.pre (C : gC X nL cc own Ts ret rm) {H : Heap} (hP : va_P (xK X).1 vwCl (wld (xK X) σ) H) {As : List Value} : ∀ U : State, U.heap = H → (xs X).WarmedH U.vm → va_Pc As (gB (xK X) σ H.size) As.toArray U := fun U hU hW => ⟨rfl, by rw [hU], by rw [hU]; exact hP, va_K.moved hW.alike C.hK, nws_warm hW C.hN⟩
theorem g_callV (C : gC X nL cc own Ts ret rm) {y : MethodName} {wsy ws' : List Cond} {by_ : ByteArray} {maxL : Nat} {rty : Option FieldType} {rmy : Room} {index b : Nat} {As rest : List Value} {Rf : Option Value → gS → Prop} {Cn : String} {T : u_T} {N ci q0 : Nat} {fs : List Value}
    (hdg : decode cc pc = .ok (.invokevirtual index, 3)) (hM : Ct (xl X) y wsy rmy (xK X) (.ref b :: As) σ Rf) (he : (wld (xK X) σ)[q0]? = some (b, .inr (ci, fs))) (hc : vwCl[ci]? = some (Cn, T, N)) (np : Nat) (hG : GoodIn Ts (wsV own index Cn y wsy)) (hw : wsy = Cond.code y by_ maxL rty :: ws')
    (hd : y.cls = Cn ∧ y.cls ≠ "java/lang/invoke/MethodHandle" ∧ y.cls ≠ "java/lang/invoke/VarHandle" ∧ (parseMethodDescriptor y.desc).map (fun d => d.parameters.length) = some np) (hR : rmy.frames + 1 ≤ rm.frames ∧ 8 + (maxL + 11) + rmy.locals ≤ rm.locals) (hcs : k + rmy.cells ≤ rm.cells ∧ n + rmy.slots ≤ rm.slots) (hnp : As.length = np) (hst : st = As.reverse ++ .ref b :: rest) (hcat : (rest.map fun v => v.category).sum ≤ 8)
    (kk : ∀ (rv : Option Value) (σ' : gS), Rf rv σ' → G X nL (k + rmy.cells) (n + rmy.slots) σ' lv (pc + 3) (rv.toList ++ rest)) : G X nL k n σ lv pc st := by
  subst hst
  intro H locs ls hP hS hl
  exact g_run C hS hl (va_runV (As := As) (rest := rest) ⟨C.hx, C.hb, C.hml, C.hown, C.hts⟩ (hM H.size) (cwV np C.hts hG hw rfl rfl hd (by rw [C.hR]; exact hR)) ⟨gB_blind, va_recv C.hK hP hc he, C.pre hP⟩ rfl hnp hl.1 rfl (lv_room hcat) hdg (by rw [C.hR]; exact hcs)) kk
theorem g_callS (C : gC X nL cc own Ts ret rm) {y : MethodName} {wsy ws' : List Cond} {by_ : ByteArray} {maxL : Nat} {rty : Option FieldType} {rmy : Room} {index : Nat} {As rest : List Value} {Rf : Option Value → gS → Prop}
    (hdg : decode cc pc = .ok (.invokestatic index, 3)) (hM : Ct (xl X) y wsy rmy (xK X) As σ Rf) (np : Nat) (hG : GoodIn Ts (va_wsS own index y wsy)) (hw : wsy = Cond.code y by_ maxL rty :: ws')
    (hd : y.cls ≠ "java/lang/invoke/MethodHandle" ∧ y.cls ≠ "java/lang/invoke/VarHandle" ∧ (parseMethodDescriptor y.desc).map (fun d => d.parameters.length) = some np) (hR : rmy.frames + 1 ≤ rm.frames ∧ 8 + (maxL + 11) + rmy.locals ≤ rm.locals) (hcs : k + rmy.cells ≤ rm.cells ∧ n + rmy.slots ≤ rm.slots) (hnp : As.length = np) (hst : st = As.reverse ++ rest) (hcat : (rest.map fun v => v.category).sum ≤ 8)
    (kk : ∀ (rv : Option Value) (σ' : gS), Rf rv σ' → G X nL (k + rmy.cells) (n + rmy.slots) σ' lv (pc + 3) (rv.toList ++ rest)) : G X nL k n σ lv pc st := by
  subst hst
  intro H locs ls hP hS hl
  exact g_run C hS hl (va_runS (As := As) (rest := rest) ⟨C.hx, C.hb, C.hml, C.hown, C.hts⟩ (hM H.size) (va_cwS np C.hts hG hw rfl rfl hd (by rw [C.hR]; exact hR)) ⟨gB_blind, C.pre hP⟩ rfl hnp hl.1 rfl (lv_room hcat) hdg (by rw [C.hR]; exact hcs)) kk
theorem g_callSN (C : gC X nL cc own Ts ret rm) {y : MethodName} {host : String} {wsy ws' : List Cond} {by_ : ByteArray} {maxL : Nat} {rty : Option FieldType} {rmy : Room} {index : Nat} {As rest : List Value} {Rf : Option Value → gS → Prop}
    (hdg : decode cc pc = .ok (.invokestatic index, 3)) (hM : Ct (xl X) y wsy rmy (xK X) As σ Rf) (np : Nat) (hG : GoodIn Ts wsy) (hw : wsy = Cond.code y by_ maxL rty :: ws') (jn : Nat) (hnw : nws[jn]? = some (.methodLinkNest own index y host)) (ji : Nat) (hini : Ts[ji]? = some (.initialized y.cls)) (js : Nat) (hsta : Ts[js]? = some (.static y))
    (hd : y.cls ≠ "java/lang/invoke/MethodHandle" ∧ y.cls ≠ "java/lang/invoke/VarHandle" ∧ (parseMethodDescriptor y.desc).map (fun d => d.parameters.length) = some np) (hR : rmy.frames + 1 ≤ rm.frames ∧ 8 + (maxL + 11) + rmy.locals ≤ rm.locals) (hcs : k + rmy.cells ≤ rm.cells ∧ n + rmy.slots ≤ rm.slots) (hnp : As.length = np) (hst : st = As.reverse ++ rest) (hcat : (rest.map fun v => v.category).sum ≤ 8)
    (kk : ∀ (rv : Option Value) (σ' : gS), Rf rv σ' → G X nL (k + rmy.cells) (n + rmy.slots) σ' lv (pc + 3) (rv.toList ++ rest)) : G X nL k n σ lv pc st := by
  subst hst
  intro H locs ls hP hS hl
  exact g_run C hS hl (va_runSN (As := As) (rest := rest) ⟨C.hx, C.hb, C.hml, C.hown, C.hts⟩ (hM H.size) ⟨va_cnB np C.hts hG hw rfl rfl (C.hN _ (List.mem_of_getElem? hnw)) (C.w ji hini) hd (by rw [C.hR]; exact hR), C.w js hsta, trivial⟩ ⟨gB_blind, C.pre hP⟩ rfl hnp hl.1 rfl (lv_room hcat) hdg (by rw [C.hR]; exact hcs)) kk
end GR
end
section
/-! numbers: the value of a double, in units of 2^-1074; what its operations do to it -/
abbrev fv (x : UInt64) : FP.Core.Datum := FP.Core.val64 x
def dv (x : UInt64) : Int := FP.Core.zval FP.Core.b64 (fv x)
def dm (x : UInt64) : Nat := FP.Core.zmag FP.Core.b64 (fv x)
abbrev dF (x : UInt64) : Prop := FP.Core.DFin x
abbrev dN (x : UInt64) : Prop := fv x ≠ .nan
theorem dF.nn {x : UInt64} (h : dF x) : dN x := FP.Core.DFin.ne_nan h
theorem dN.ok {x : UInt64} (h : dN x) : vf_n64 x := by
  have h1 := (FP.Core.ne_nan x).mp h
  unfold vf_n64
  rw [UInt64.le_iff_toNat_le, FP.Core.mask_toNat]
  exact h1
theorem dF.ok {x : UInt64} (h : dF x) : vf_n64 x := h.nn.ok
theorem ft {x : UInt64} : FP.Core.fits FP.Core.b64 (fv x) := FP.Core.val64_fits x
theorem dv_abs (x : UInt64) : (dv x).natAbs = dm x := FP.Core.natAbs_signed _ _
theorem fl_top : FP.Core.b64.tails * 2 ^ (FP.Core.b64.exps - 2) = 2 ^ 2098 := by decide +kernel
theorem fl_qmin : FP.Core.b64.qmin = -1074 := by decide +kernel
theorem dF.lt {x : UInt64} (h : dF x) : dm x < 2 ^ 2098 := by
  have h1 := FP.Core.DFin.zval_lt h
  rw [fl_top] at h1
  exact h1
theorem dF_of {x : UInt64} (h : dN x) (h1 : dm x < 2 ^ 2098) : dF x := by
  unfold dN fv at h
  unfold dm fv at h1
  unfold dF FP.Core.DFin
  cases e : FP.Core.val64 x with
  | nan => exact absurd e h
  | inf s =>
    exfalso
    rw [e] at h1
    have h2 : FP.Core.zmag FP.Core.b64 (.inf s) = FP.Core.b64.tails * 2 ^ (FP.Core.b64.exps - 2) := rfl
    rw [h2, fl_top] at h1
    exact Nat.lt_irrefl _ h1
  | fin s c q => exact ⟨s, c, q, rfl⟩
theorem dF_two {x : UInt64} (h : dN x) {a b : Int} (h1 : a ≤ dv x) (h2 : dv x ≤ b) (ha : -(2 ^ 2098) < a) (hb : b < 2 ^ 2098) : dF x := by
  refine dF_of h ?_
  rw [← dv_abs]
  generalize dv x = z at h1 h2 ⊢
  have e : ((2 ^ 2098 : Nat) : Int) = 2 ^ 2098 := by decide +kernel
  generalize (2 ^ 2098 : Nat) = N at e ⊢
  rw [← e] at ha hb
  omega
/-! the operations -/
theorem dadd_nn {x y : UInt64} (hx : dF x) (hy : dF y) : dN (FP.dadd x y) := by
  obtain ⟨s, c, q, ex⟩ := hx
  obtain ⟨t, d, r, ey⟩ := hy
  unfold dN fv
  rw [FP.dadd_core, FP.Core.val64_dadd, ex, ey]
  exact FP.Core.roundRatio_ne_nan _ _ _ _ _
theorem dadd_le {x y v : UInt64} (hx : dF x) (hy : dF y) (hv : dN v) (h : dv x + dv y ≤ dv v) : dv (FP.dadd x y) ≤ dv v := by
  unfold dv fv at *
  rw [FP.dadd_core, FP.Core.val64_dadd]
  exact FP.Core.sum_le FP.Core.good_b64 hx hy ft ft ft hv h
theorem dadd_ge {x y v : UInt64} (hx : dF x) (hy : dF y) (hv : dN v) (h : dv v ≤ dv x + dv y) : dv v ≤ dv (FP.dadd x y) := by
  unfold dv fv at *
  rw [FP.dadd_core, FP.Core.val64_dadd]
  exact FP.Core.sum_ge FP.Core.good_b64 hx hy ft ft ft hv h
theorem dneg_v (x : UInt64) : dv (FP.dneg x) = - dv x := by
  unfold dv fv
  rw [FP.val64_dneg, FP.Core.zval_negate]
theorem dneg_F {x : UInt64} (h : dF x) : dF (FP.dneg x) := by
  obtain ⟨s, c, q, ex⟩ := h
  exact ⟨!s, c, q, by rw [FP.val64_dneg, ex]; rfl⟩
theorem dsub_add {x y : UInt64} (hy : dF y) : FP.dsub x y = FP.dadd x (FP.dneg y) := by
  rw [FP.dsub_core, FP.dadd_core, FP.dneg_core hy.notNaN]
  exact FP.Core.dsub_eq x y
theorem dsub_nn {x y : UInt64} (hx : dF x) (hy : dF y) : dN (FP.dsub x y) := by rw [dsub_add hy]; exact dadd_nn hx (dneg_F hy)
theorem dsub_le {x y v : UInt64} (hx : dF x) (hy : dF y) (hv : dN v) (h : dv x - dv y ≤ dv v) : dv (FP.dsub x y) ≤ dv v := by
  rw [dsub_add hy]; exact dadd_le hx (dneg_F hy) hv (by rw [dneg_v]; omega)
theorem dsub_ge {x y v : UInt64} (hx : dF x) (hy : dF y) (hv : dN v) (h : dv v ≤ dv x - dv y) : dv v ≤ dv (FP.dsub x y) := by
  rw [dsub_add hy]; exact dadd_ge hx (dneg_F hy) hv (by rw [dneg_v]; omega)
theorem dmul_nn {x y : UInt64} (hx : dF x) (hy : dF y) : dN (FP.dmul x y) := by
  obtain ⟨s, c, q, ex⟩ := hx
  obtain ⟨t, d, r, ey⟩ := hy
  unfold dN fv
  rw [FP.dmul_core, FP.Core.val64_dmul, ex, ey]
  exact FP.Core.roundRatio_ne_nan _ _ _ _ _
theorem dmul_ex {x y : UInt64} (hx : dF x) (hy : dF y) : ∃ (s : Bool) (c : Nat) (q : Int), fv (FP.dmul x y) = FP.Core.round FP.Core.b64 (.fin s c q) ∧ 2 * FP.Core.b64.qmin ≤ q ∧ FP.Core.signed s (FP.Core.inUnits c q (2 * FP.Core.b64.qmin)) = dv x * dv y := by
  obtain ⟨s, c, q, ex⟩ := hx
  obtain ⟨t, d, r, ey⟩ := hy
  have fx := ft (x := x)
  have fy := ft (x := y)
  unfold fv at fx fy
  rw [ex] at fx
  rw [ey] at fy
  obtain ⟨e1, e2, e3⟩ := FP.Core.product_units fx fy
  refine ⟨(s != t), c * d, q + r, ?_, e2, ?_⟩
  · unfold fv
    rw [FP.dmul_core, FP.Core.val64_dmul, ex, ey, e1]
  · rw [e3, FP.Core.signed_xor]
    unfold dv fv FP.Core.zval
    rw [ex, ey]
    rfl
theorem fl_e0 : (2 * FP.Core.b64.qmin : Int) ≤ FP.Core.b64.qmin := by decide +kernel
theorem fl_p0 : (2 ^ (FP.Core.b64.qmin - 2 * FP.Core.b64.qmin).toNat : Nat) = 2 ^ 1074 := by decide +kernel
theorem dmul_le {x y v : UInt64} (hx : dF x) (hy : dF y) (hv : dN v) (h : dv x * dv y ≤ dv v * ((2 ^ 1074 : Nat) : Int)) : dv (FP.dmul x y) ≤ dv v := by
  obtain ⟨s, c, q, e1, e2, e3⟩ := dmul_ex hx hy
  have h0 := FP.Core.zval_round_le FP.Core.good_b64 (s := s) (c := c) (q := q) (V := fv v) ft hv fl_e0 e2 (by rw [e3, fl_p0]; exact h)
  rw [← e1] at h0
  exact h0
theorem dmul_ge {x y v : UInt64} (hx : dF x) (hy : dF y) (hv : dN v) (h : dv v * ((2 ^ 1074 : Nat) : Int) ≤ dv x * dv y) : dv v ≤ dv (FP.dmul x y) := by
  obtain ⟨s, c, q, e1, e2, e3⟩ := dmul_ex hx hy
  have h0 := FP.Core.zval_round_ge FP.Core.good_b64 (s := s) (c := c) (q := q) (V := fv v) ft hv fl_e0 e2 (by rw [e3, fl_p0]; exact h)
  rw [← e1] at h0
  exact h0
theorem ddiv_ex {x y : UInt64} (hx : dF x) (hy : dF y) (h0 : 0 < dm y) : ∃ s : Bool, fv (FP.ddiv x y) = FP.Core.roundRatio FP.Core.b64 s (dm x * 2 ^ 1074) (dm y) FP.Core.b64.qmin ∧ (0 < dv y → s = FP.Core.sgn (fv x)) := by
  obtain ⟨s, c, q, ex⟩ := hx
  obtain ⟨t, d, r, ey⟩ := hy
  have fx := ft (x := x)
  have fy := ft (x := y)
  unfold fv at fx fy
  rw [ex] at fx
  rw [ey] at fy
  have hmx : dm x = c * 2 ^ (q - FP.Core.b64.qmin).toNat := by unfold dm fv; rw [ex]; rfl
  have hmy : dm y = d * 2 ^ (r - FP.Core.b64.qmin).toNat := by unfold dm fv; rw [ey]; rfl
  have hd : d ≠ 0 := by
    intro h
    rw [hmy, h, Nat.zero_mul] at h0
    exact Nat.lt_irrefl _ h0
  refine ⟨(s != t), ?_, ?_⟩
  · unfold fv
    rw [FP.ddiv_core, FP.Core.val64_ddiv, ex, ey]
    show (if d = 0 then _ else FP.Core.roundRatio FP.Core.b64 (s != t) c d (q - r)) = _
    rw [if_neg hd]
    refine FP.Core.roundRatio_congr (Nat.pos_of_ne_zero hd) h0 ?_
    have q1 := fx.2.1
    have q2 := fy.2.1
    rw [hmx, hmy]
    rw [fl_qmin] at q1 q2 ⊢
    have e : (r - -1074).toNat + (q - r - -1074).toNat = (q - -1074).toNat + 1074 + (-1074 - (q - r)).toNat := by omega
    calc c * (d * 2 ^ (r - -1074).toNat) * 2 ^ (q - r - -1074).toNat = c * d * (2 ^ ((r - -1074).toNat + (q - r - -1074).toNat)) := by rw [Nat.pow_add]; ac_rfl
      _ = c * 2 ^ (q - -1074).toNat * 2 ^ 1074 * d * 2 ^ (-1074 - (q - r)).toNat := by
        rw [e, Nat.pow_add, Nat.pow_add]
        generalize (2 : Nat) ^ 1074 = z1
        generalize 2 ^ (q - -1074).toNat = z2
        generalize 2 ^ (-1074 - (q - r)).toNat = z3
        ac_rfl
  · intro hp
    have ht : t = false := by
      cases t
      · rfl
      · exfalso
        have : dv y ≤ 0 := by
          unfold dv fv FP.Core.zval
          rw [ey]
          show -((_ : Nat) : Int) ≤ 0
          omega
        omega
    subst ht
    show (s != false) = FP.Core.sgn (FP.Core.val64 x)
    rw [ex]
    show (s != false) = s
    cases s <;> rfl
theorem ddiv_nn {x y : UInt64} (hx : dF x) (hy : dF y) (h0 : 0 < dm y) : dN (FP.ddiv x y) := by
  obtain ⟨s, e, -⟩ := ddiv_ex hx hy h0
  unfold dN
  rw [e]
  exact FP.Core.roundRatio_ne_nan _ _ _ _ _
theorem fl_u (a : Nat) : FP.Core.inUnits a FP.Core.b64.qmin FP.Core.b64.qmin = a := by
  unfold FP.Core.inUnits
  rw [Int.sub_self]
  exact Nat.mul_one a
theorem ddiv_mle {x y v : UInt64} (hx : dF x) (hy : dF y) (h0 : 0 < dm y) (hv : dN v) (h : dm x * 2 ^ 1074 ≤ dm v * dm y) : dm (FP.ddiv x y) ≤ dm v := by
  obtain ⟨s, e, -⟩ := ddiv_ex hx hy h0
  have k := FP.Core.zmag_roundRatio_le FP.Core.good_b64 (s := s) (A := dm x * 2 ^ 1074) (B := dm y) (e := FP.Core.b64.qmin) (e0 := FP.Core.b64.qmin) (V := fv v) h0 ft hv (Int.le_refl _) (Int.le_refl _) (by rw [fl_u, Int.sub_self]; exact Nat.le_trans h (Nat.le_of_eq (by show _ = dm v * 1 * dm y; rw [Nat.mul_one])))
  unfold dm at k ⊢
  rw [e]
  exact k
theorem ddiv_mge {x y v : UInt64} (hx : dF x) (hy : dF y) (h0 : 0 < dm y) (h : dm v * dm y ≤ dm x * 2 ^ 1074) : dm v ≤ dm (FP.ddiv x y) := by
  obtain ⟨s, e, -⟩ := ddiv_ex hx hy h0
  have k := FP.Core.zmag_roundRatio_ge FP.Core.good_b64 (s := s) (A := dm x * 2 ^ 1074) (B := dm y) (e := FP.Core.b64.qmin) (e0 := FP.Core.b64.qmin) (V := fv v) h0 ft (Int.le_refl _) (Int.le_refl _) (by rw [fl_u, Int.sub_self]; exact Nat.le_trans (Nat.le_of_eq (by show dm v * 1 * dm y = _; rw [Nat.mul_one])) h)
  unfold dm at k ⊢
  rw [e]
  exact k
theorem dv_sg (x : UInt64) : dv x = if FP.Core.sgn (fv x) then -(dm x : Int) else (dm x : Int) := rfl
theorem dv_pos {x : UInt64} (h : 0 ≤ dv x) : dv x = (dm x : Int) := by rw [← dv_abs]; omega
theorem dv_neg {x : UInt64} (h : dv x ≤ 0) : dv x = -(dm x : Int) := by rw [← dv_abs]; omega
theorem dm_0 {x : UInt64} (h : dm x = 0) : dv x = 0 := by have := dv_abs x; omega
theorem ddiv_sg {x y : UInt64} (hx : dF x) (hy : dF y) (h0 : 0 < dv y) : (0 ≤ dv x → 0 ≤ dv (FP.ddiv x y)) ∧ (dv x ≤ 0 → dv (FP.ddiv x y) ≤ 0) := by
  have hm : 0 < dm y := by rw [← dv_abs]; omega
  have hz : dm x = 0 → dv (FP.ddiv x y) = 0 := fun h => dm_0 (Nat.le_zero.mp (by
    have h1 := ddiv_mle hx hy hm (v := x) hx.nn (by rw [h, Nat.zero_mul, Nat.zero_mul]; exact Nat.le_refl _)
    rw [h] at h1
    exact h1))
  obtain ⟨s, e, hs⟩ := ddiv_ex hx hy hm
  have hs := hs h0
  have e2 : FP.Core.sgn (fv (FP.ddiv x y)) = s := by rw [e]; exact FP.Core.sgn_roundRatio _ _ _ _ _
  rw [dv_sg (FP.ddiv x y), e2]
  rw [dv_sg (FP.ddiv x y), e2] at hz
  rw [dv_sg x, ← hs]
  cases s
  · refine ⟨fun _ => Int.natCast_nonneg _, fun h => ?_⟩
    have h9 : dm x = 0 := by
      have h : ((dm x : Nat) : Int) ≤ 0 := h
      omega
    exact Int.le_of_eq (hz h9)
  · refine ⟨fun h => ?_, fun _ => ?_⟩
    · have h9 : dm x = 0 := by
        have h : 0 ≤ -((dm x : Nat) : Int) := h
        omega
      exact Int.le_of_eq (hz h9).symm
    · show -((_ : Nat) : Int) ≤ 0
      omega
/-! sums of one sign, exactly: monotone, and a factor 2^10 comes out -/
def fR (n : Nat) : Nat := FP.Core.nearest n (2 ^ (n.log2 - 52)) * 2 ^ (n.log2 - 52)
theorem fl_settle {s : Bool} {m : Nat} {k : Nat} (hm : m ≤ 2 ^ 53) (hk : k < 2045) : FP.Core.zmag FP.Core.b64 (FP.Core.settle FP.Core.b64 s m (-1074 + (k : Int))) = m * 2 ^ k := by
  have hq : FP.Core.b64.qmax = 971 := by decide +kernel
  have hp : (2 : Nat) ^ FP.Core.b64.p = 2 ^ 53 := by decide +kernel
  have ht : FP.Core.b64.tails = 2 ^ 52 := by decide +kernel
  unfold FP.Core.settle FP.Core.bound
  rw [hp, hq, ht]
  by_cases h : m < 2 ^ 53
  · rw [if_pos h, if_pos (by omega)]
    show m * 2 ^ ((-1074 + (k : Int)) - FP.Core.b64.qmin).toNat = _
    rw [fl_qmin, show ((-1074 + (k : Int)) - -1074).toNat = k by omega]
  · rw [if_neg h, if_pos (by omega)]
    show 2 ^ 52 * 2 ^ ((-1074 + (k : Int) + 1) - FP.Core.b64.qmin).toNat = _
    rw [fl_qmin, show ((-1074 + (k : Int) + 1) - -1074).toNat = k + 1 by omega, show m = 2 ^ 53 by omega, ← Nat.pow_add, ← Nat.pow_add]
    congr 1
    omega
theorem fR_spec {s : Bool} {n : Nat} (hn : n < 2 ^ 2097) : FP.Core.zmag FP.Core.b64 (FP.Core.roundRatio FP.Core.b64 s n 1 FP.Core.b64.qmin) = fR n := by
  by_cases h0 : n = 0
  · subst h0
    decide +revert +kernel
  have hl : FP.Core.leading n 1 = (n.log2 : Int) := by
    unfold FP.Core.leading
    have h1 : (1 : Nat).log2 = 0 := by decide +kernel
    rw [h1]
    have h2 : 2 ^ n.log2 ≤ n := Nat.log2_self_le h0
    show (if 1 * 2 ^ ((n.log2 : Int) - ((0 : Nat) : Int)).toNat ≤ n * 2 ^ (-((n.log2 : Int) - ((0 : Nat) : Int))).toNat then (n.log2 : Int) - ((0 : Nat) : Int) else (n.log2 : Int) - ((0 : Nat) : Int) - 1) = _
    rw [if_pos]
    · omega
    · rw [show ((n.log2 : Int) - ((0 : Nat) : Int)).toNat = n.log2 by omega, show (-((n.log2 : Int) - ((0 : Nat) : Int))).toNat = 0 by omega]
      omega
  have hlg : n.log2 < 2097 := (Nat.log2_lt h0).mpr hn
  have hq : FP.Core.quantum FP.Core.b64 n 1 FP.Core.b64.qmin = -1074 + ((n.log2 - 52 : Nat) : Int) := by
    unfold FP.Core.quantum
    rw [hl, fl_qmin]
    have hp : ((FP.Core.b64.p : Nat) : Int) = 53 := by decide +kernel
    rw [hp]
    omega
  unfold FP.Core.roundRatio
  rw [if_neg h0, hq]
  unfold FP.Core.roundAt FP.Core.unitsNum FP.Core.unitsDen
  rw [fl_qmin, show ((-1074 : Int) - (-1074 + ((n.log2 - 52 : Nat) : Int))).toNat = 0 by omega, show ((-1074 + ((n.log2 - 52 : Nat) : Int)) - (-1074 : Int)).toNat = n.log2 - 52 by omega, Nat.pow_zero, Nat.mul_one, Nat.one_mul]
  refine fl_settle (FP.Core.nearest_le (Nat.two_pow_pos _) ?_) (by omega)
  have h3 : n < 2 ^ (n.log2 + 1) := Nat.lt_log2_self
  rw [← Nat.pow_add]
  exact Nat.le_of_lt (Nat.lt_of_lt_of_le h3 (Nat.pow_le_pow_right (by decide) (by omega)))
theorem fl_near_mono {a b D : Nat} (hD : 0 < D) (h : a ≤ b) : FP.Core.nearest a D ≤ FP.Core.nearest b D := by
  have ha := FP.Core.nearest_spec a D hD
  have hb := FP.Core.nearest_spec b D hD
  refine Nat.le_of_not_lt fun hlt => ?_
  generalize FP.Core.nearest a D = x at *
  generalize FP.Core.nearest b D = y at *
  obtain ⟨a1, a2, a3⟩ := ha
  obtain ⟨b1, b2, b3⟩ := hb
  have e1 : (2 * y + 1) * D ≤ (2 * x - 1) * D := Nat.mul_le_mul_right _ (by omega)
  have e2 : (2 * x - 1) * D + D = 2 * x * D := by
    rw [show 2 * x * D = ((2 * x - 1) + 1) * D by rw [show 2 * x - 1 + 1 = 2 * x by omega], Nat.add_mul, Nat.one_mul]
  by_cases hxy : x = y + 1
  · subst hxy
    have e3 : (2 * y + 1) * D = (2 * (y + 1) - 1) * D := by rw [show 2 * (y + 1) - 1 = 2 * y + 1 by omega]
    have g1 : 2 * a = (2 * y + 1) * D := by omega
    have g2 : 2 * b = (2 * y + 1) * D := by omega
    have p1 := a3 (.inr (by omega))
    have p2 := b3 (.inl g2)
    omega
  · have e4 : (2 * y + 1) * D < (2 * x - 1) * D := Nat.mul_lt_mul_of_pos_right (by omega) hD
    omega
theorem fR_mono {a b : Nat} (h : a ≤ b) : fR a ≤ fR b := by
  by_cases h0 : a = 0
  · subst h0
    have : fR 0 = 0 := by decide +kernel
    rw [this]
    exact Nat.zero_le _
  have hb0 : b ≠ 0 := by omega
  have ha1 : 2 ^ a.log2 ≤ a := Nat.log2_self_le h0
  have ha2 : a < 2 ^ (a.log2 + 1) := Nat.lt_log2_self
  have hb1 : 2 ^ b.log2 ≤ b := Nat.log2_self_le hb0
  have hb2 : b < 2 ^ (b.log2 + 1) := Nat.lt_log2_self
  have hl : a.log2 ≤ b.log2 := by
    have : a.log2 < b.log2 + 1 := (Nat.log2_lt h0).mpr (by omega)
    omega
  unfold fR
  by_cases hk : a.log2 - 52 = b.log2 - 52
  · rw [hk]
    exact Nat.mul_le_mul_right _ (fl_near_mono (Nat.two_pow_pos _) h)
  · have hb3 : 53 ≤ b.log2 := by omega
    have e1 : a ≤ 2 ^ b.log2 := by
      have : 2 ^ (a.log2 + 1) ≤ 2 ^ b.log2 := Nat.pow_le_pow_right (by decide) (by omega)
      omega
    have g1 : FP.Core.nearest a (2 ^ (a.log2 - 52)) * 2 ^ (a.log2 - 52) ≤ 2 ^ b.log2 := by
      have e2 : (2 : Nat) ^ b.log2 = 2 ^ (b.log2 - (a.log2 - 52)) * 2 ^ (a.log2 - 52) := by rw [← Nat.pow_add]; congr 1; omega
      rw [e2]
      exact Nat.mul_le_mul_right _ (FP.Core.nearest_le (Nat.two_pow_pos _) (by rw [← e2]; exact e1))
    have g2 : 2 ^ b.log2 ≤ FP.Core.nearest b (2 ^ (b.log2 - 52)) * 2 ^ (b.log2 - 52) := by
      have e2 : (2 : Nat) ^ b.log2 = 2 ^ 52 * 2 ^ (b.log2 - 52) := by rw [← Nat.pow_add]; congr 1; omega
      rw [e2]
      exact Nat.mul_le_mul_right _ (FP.Core.nearest_ge (Nat.two_pow_pos _) (by rw [← e2]; exact hb1))
    exact Nat.le_trans g1 g2
theorem fR_small {n : Nat} (h : n.log2 ≤ 52) : fR n = n := by
  unfold fR
  rw [show n.log2 - 52 = 0 by omega, Nat.pow_zero, Nat.mul_one]
  have := FP.Core.nearest_exact (B := 1) n (by decide)
  rw [Nat.mul_one] at this
  exact this
theorem fR_scale (j n : Nat) : fR (n * 2 ^ j) = fR n * 2 ^ j := by
  by_cases h0 : n = 0
  · subst h0
    rw [Nat.zero_mul]
    have : fR 0 = 0 := by decide +kernel
    rw [this, Nat.zero_mul]
  have hl : (n * 2 ^ j).log2 = n.log2 + j := by
    have h1 : 2 ^ n.log2 ≤ n := Nat.log2_self_le h0
    have h2 : n < 2 ^ (n.log2 + 1) := Nat.lt_log2_self
    have hp := Nat.two_pow_pos j
    have hn0 : n * 2 ^ j ≠ 0 := Nat.mul_ne_zero h0 (by omega)
    have h3 : (n * 2 ^ j).log2 < n.log2 + j + 1 := (Nat.log2_lt hn0).mpr (by
      rw [show n.log2 + j + 1 = (n.log2 + 1) + j by omega, Nat.pow_add]
      exact Nat.mul_lt_mul_of_pos_right h2 hp)
    have h4 : ¬ (n * 2 ^ j).log2 < n.log2 + j := fun h => by
      have := (Nat.log2_lt hn0).mp h
      rw [Nat.pow_add] at this
      exact absurd this (Nat.not_lt.mpr (Nat.mul_le_mul_right _ h1))
    omega
  by_cases h52 : 52 ≤ n.log2
  · unfold fR
    rw [hl, show n.log2 + j - 52 = (n.log2 - 52) + j by omega, Nat.pow_add, FP.Core.nearest_scale _ _ _ (Nat.two_pow_pos j)]
    ac_rfl
  · by_cases h2 : n.log2 + j ≤ 52
    · rw [fR_small (by omega), fR_small (by omega)]
    · rw [fR_small (n := n) (by omega)]
      unfold fR
      rw [hl]
      have e : n * 2 ^ j = (n * 2 ^ (52 - n.log2)) * 2 ^ (n.log2 + j - 52) := by
        rw [Nat.mul_assoc, ← Nat.pow_add]
        congr 2
        omega
      rw [e, FP.Core.nearest_exact _ (Nat.two_pow_pos _)]
theorem dadd_same {x y : UInt64} (hx : dF x) (hy : dF y) (h : (0 ≤ dv x ∧ 0 ≤ dv y) ∨ (dv x ≤ 0 ∧ dv y ≤ 0)) (hs : dm x + dm y < 2 ^ 2097) : dm (FP.dadd x y) = fR (dm x + dm y) := by
  obtain ⟨s, c, q, ex⟩ := hx
  obtain ⟨t, d, r, ey⟩ := hy
  have fx := ft (x := x)
  have fy := ft (x := y)
  unfold fv at fx fy
  rw [ex] at fx
  rw [ey] at fy
  obtain ⟨sg, n, e, h1, h2, h3⟩ := FP.Core.sum_units fx fy
  have hvx : dv x = FP.Core.zval FP.Core.b64 (.fin s c q) := by unfold dv fv; rw [ex]
  have hvy : dv y = FP.Core.zval FP.Core.b64 (.fin t d r) := by unfold dv fv; rw [ey]
  rw [← hvx, ← hvy] at h3
  have hn : FP.Core.inUnits n e FP.Core.b64.qmin = dm x + dm y := by
    have h4 := congrArg Int.natAbs h3
    rw [FP.Core.natAbs_signed] at h4
    rw [h4, ← dv_abs, ← dv_abs]
    omega
  have hr : fv (FP.dadd x y) = FP.Core.roundRatio FP.Core.b64 sg (dm x + dm y) 1 FP.Core.b64.qmin := by
    unfold fv
    rw [FP.dadd_core, FP.Core.val64_dadd, ex, ey, h1, ← FP.Core.round_inUnits sg n h2, hn]
    rfl
  unfold dm
  rw [hr]
  exact fR_spec hs
theorem fR_self {x : UInt64} (hx : dF x) (h : dm x < 2 ^ 2097) : fR (dm x) = dm x := by
  have fx := ft (x := x)
  obtain ⟨s, c, q, ex⟩ := hx
  unfold fv at fx
  rw [ex] at fx
  have h1 := FP.Core.round_of_fits FP.Core.good_b64 fx
  rw [← FP.Core.round_inUnits s c fx.2.1] at h1
  have h2 : dm x = FP.Core.inUnits c q FP.Core.b64.qmin := by unfold dm fv; rw [ex]; rfl
  rw [← h2] at h1
  have h3 := fR_spec (s := s) h
  have h4 : FP.Core.roundRatio FP.Core.b64 s (dm x) 1 FP.Core.b64.qmin = .fin s c q := h1
  rw [h4] at h3
  rw [← h3, h2]
  rfl
end
section
/-! ranges of doubles: bounds by powers of two, and what the class's numbers keep -/
def U1 : Nat := 2 ^ 1074
theorem U1_pos : 0 < U1 := Nat.two_pow_pos _
/-- the double 2^j -/
def pw (j : Nat) : UInt64 := UInt64.ofNat ((1023 + j) * 2 ^ 52)
theorem pw_all : ∀ j, j < 100 → dm (pw j) = 2 ^ j * U1 ∧ 0 ≤ dv (pw j) ∧ fv (pw j) ≠ .nan := by decide +kernel
theorem pw_m {j : Nat} (h : j < 100) : dm (pw j) = 2 ^ j * U1 := (pw_all j h).1
theorem pw_v {j : Nat} (h : j < 100) : dv (pw j) = ((2 ^ j * U1 : Nat) : Int) := by rw [dv_pos (pw_all j h).2.1, pw_m h]
theorem pw_n {j : Nat} (h : j < 100) : dN (pw j) := (pw_all j h).2.2
theorem U1_top : 2 ^ 100 * U1 < 2 ^ 2098 := by decide +kernel
theorem U1_top97 : 2 ^ 100 * U1 < 2 ^ 2097 := by decide +kernel
theorem dF_small {x : UInt64} (h : dN x) (h1 : dm x ≤ 2 ^ 100 * U1) : dF x := dF_of h (Nat.lt_of_le_of_lt h1 U1_top)
theorem pw_F {j : Nat} (h : j < 100) : dF (pw j) := dF_small (pw_n h) (by rw [pw_m h]; exact Nat.mul_le_mul_right _ (Nat.pow_le_pow_right (by decide) (by omega)))
def Bd (j : Nat) (x : UInt64) : Prop := dF x ∧ dm x ≤ 2 ^ j * U1
theorem Bd.F {j : Nat} {x : UInt64} (h : Bd j x) : dF x := h.1
theorem Bd.mono {i j : Nat} {x : UInt64} (h : Bd i x) (hij : i ≤ j) : Bd j x := ⟨h.1, Nat.le_trans h.2 (Nat.mul_le_mul_right _ (Nat.pow_le_pow_right (by decide) hij))⟩
theorem Bd.lo {j : Nat} {x : UInt64} (h : Bd j x) : -((2 ^ j * U1 : Nat) : Int) ≤ dv x := by
  have h1 := h.2
  rw [← dv_abs] at h1
  omega
theorem Bd.hi {j : Nat} {x : UInt64} (h : Bd j x) : dv x ≤ ((2 ^ j * U1 : Nat) : Int) := by
  have h1 := h.2
  rw [← dv_abs] at h1
  omega
theorem Bd.of {j : Nat} {x : UInt64} (hj : j < 100) (hn : dN x) (h1 : -((2 ^ j * U1 : Nat) : Int) ≤ dv x) (h2 : dv x ≤ ((2 ^ j * U1 : Nat) : Int)) : Bd j x := by
  have h3 : dm x ≤ 2 ^ j * U1 := by
    rw [← dv_abs]
    generalize 2 ^ j * U1 = N at h1 h2 ⊢
    omega
  exact ⟨dF_small hn (Nat.le_trans h3 (Nat.mul_le_mul_right _ (Nat.pow_le_pow_right (by decide) (by omega)))), h3⟩
theorem dneg_pw {j : Nat} (h : j < 100) : dv (FP.dneg (pw j)) = -((2 ^ j * U1 : Nat) : Int) ∧ dN (FP.dneg (pw j)) := ⟨by rw [dneg_v, pw_v h], (dneg_F (pw_F h)).nn⟩
theorem Bd.add {j k : Nat} {x y : UInt64} (hx : Bd j x) (hy : Bd j y) (hk : j + 1 = k ∧ k < 100) : Bd k (FP.dadd x y) := by
  obtain ⟨rfl, hj⟩ := hk
  have e : 2 ^ (j + 1) * U1 = 2 ^ j * U1 + 2 ^ j * U1 := by rw [Nat.pow_succ, Nat.mul_comm (2 ^ j) 2, Nat.mul_assoc]; omega
  refine Bd.of hj (dadd_nn hx.F hy.F) ?_ ?_
  · rw [← (dneg_pw hj).1]
    refine dadd_ge hx.F hy.F (dneg_pw hj).2 ?_
    rw [(dneg_pw hj).1, e]
    have := hx.lo; have := hy.lo
    generalize 2 ^ j * U1 = N at *
    omega
  · rw [← pw_v hj]
    refine dadd_le hx.F hy.F (pw_n hj) ?_
    rw [pw_v hj, e]
    have := hx.hi; have := hy.hi
    generalize 2 ^ j * U1 = N at *
    omega
theorem Bd.neg {j : Nat} {x : UInt64} (hx : Bd j x) : Bd j (FP.dneg x) := ⟨dneg_F hx.1, by have h := hx.2; rw [← dv_abs] at h ⊢; rw [dneg_v, Int.natAbs_neg]; exact h⟩
theorem Bd.sub {j k : Nat} {x y : UInt64} (hx : Bd j x) (hy : Bd j y) (hj : j + 1 = k ∧ k < 100) : Bd k (FP.dsub x y) := by
  rw [dsub_add hy.F]; exact hx.add hy.neg hj
theorem fl_abs_mul {x y : Int} {a b : Nat} (hx : x.natAbs ≤ a) (hy : y.natAbs ≤ b) : -((a * b : Nat) : Int) ≤ x * y ∧ x * y ≤ ((a * b : Nat) : Int) := by
  have h1 : (x * y).natAbs ≤ a * b := by rw [Int.natAbs_mul]; exact Nat.mul_le_mul hx hy
  omega
theorem Bd.mul {i j k : Nat} {x y : UInt64} (hx : Bd i x) (hy : Bd j y) (hk : i + j = k ∧ k < 100) : Bd k (FP.dmul x y) := by
  obtain ⟨rfl, hj⟩ := hk
  have h1 : (dv x).natAbs ≤ 2 ^ i * U1 := by rw [dv_abs]; exact hx.2
  have h2 : (dv y).natAbs ≤ 2 ^ j * U1 := by rw [dv_abs]; exact hy.2
  obtain ⟨g1, g2⟩ := fl_abs_mul h1 h2
  have e : 2 ^ i * U1 * (2 ^ j * U1) = 2 ^ (i + j) * U1 * U1 := by rw [Nat.pow_add]; generalize U1 = u; ac_rfl
  rw [e] at g1 g2
  have eu : ((2 ^ 1074 : Nat) : Int) = (U1 : Int) := rfl
  refine Bd.of hj (dmul_nn hx.F hy.F) ?_ ?_
  · rw [← (dneg_pw hj).1]
    refine dmul_ge hx.F hy.F (dneg_pw hj).2 ?_
    rw [(dneg_pw hj).1, eu, Int.neg_mul, ← Int.natCast_mul]
    exact g1
  · rw [← pw_v hj]
    refine dmul_le hx.F hy.F (pw_n hj) ?_
    rw [pw_v hj, eu, ← Int.natCast_mul]
    exact g2
theorem Bd.div {i j k : Nat} {x y : UInt64} (hx : Bd i x) (hy : dF y) (h : U1 ≤ 2 ^ j * dm y) (hk : i + j = k ∧ k < 100) : Bd k (FP.ddiv x y) := by
  obtain ⟨rfl, hj⟩ := hk
  have h0 : 0 < dm y := Nat.pos_of_ne_zero (fun h0 => by rw [h0, Nat.mul_zero] at h; exact absurd U1_pos (by omega))
  have h3 : dm (FP.ddiv x y) ≤ dm (pw (i + j)) := by
    refine ddiv_mle hx.F hy h0 (pw_n hj) ?_
    rw [pw_m hj]
    show dm x * U1 ≤ _
    calc dm x * U1 ≤ 2 ^ i * U1 * (2 ^ j * dm y) := Nat.mul_le_mul hx.2 h
      _ = 2 ^ (i + j) * U1 * dm y := by rw [Nat.pow_add]; generalize U1 = u; ac_rfl
  rw [pw_m hj] at h3
  exact ⟨dF_small (ddiv_nn hx.F hy h0) (Nat.le_trans h3 (Nat.mul_le_mul_right _ (Nat.pow_le_pow_right (by decide) (by omega)))), h3⟩
/-! comparisons -/
theorem dc_spec {x y : UInt64} (hx : dN x) (hy : dN y) : FP.dcmp x y = some (compare (dv x) (dv y)) := by
  rw [FP.dcmp_core]
  exact FP.Core.dcmp_zval hx hy
theorem dc_nan {x y : UInt64} (h : ¬ (dN x ∧ dN y)) : FP.dcmp x y = none := by
  cases e : FP.dcmp x y with
  | none => rfl
  | some o => rw [FP.dcmp_core] at e; exact absurd (FP.Core.dcmp_some e) h
theorem cv_lt {x y : UInt64} {op : CmpOp} (hx : dN x) (hy : dN y) : Op.cmpValue (FP.dcmp x y) op < 0 ↔ dv x < dv y := by
  rw [dc_spec hx hy]
  rcases Int.lt_trichotomy (dv x) (dv y) with h | h | h
  · rw [(FP.Core.compare_lt_iff _ _).mpr h]; exact ⟨fun _ => h, fun _ => by cases op <;> decide⟩
  · rw [(FP.Core.compare_eq_iff _ _).mpr h]; exact ⟨fun h2 => absurd h2 (by cases op <;> decide), fun h2 => by omega⟩
  · rw [(FP.Core.compare_gt_iff _ _).mpr h]; exact ⟨fun h2 => absurd h2 (by cases op <;> decide), fun h2 => by omega⟩
theorem cv_gt {x y : UInt64} {op : CmpOp} (hx : dN x) (hy : dN y) : 0 < Op.cmpValue (FP.dcmp x y) op ↔ dv y < dv x := by
  rw [dc_spec hx hy]
  rcases Int.lt_trichotomy (dv x) (dv y) with h | h | h
  · rw [(FP.Core.compare_lt_iff _ _).mpr h]; exact ⟨fun h2 => absurd h2 (by cases op <;> decide), fun h2 => by omega⟩
  · rw [(FP.Core.compare_eq_iff _ _).mpr h]; exact ⟨fun h2 => absurd h2 (by cases op <;> decide), fun h2 => by omega⟩
  · rw [(FP.Core.compare_gt_iff _ _).mpr h]; exact ⟨fun _ => h, fun _ => by cases op <;> decide⟩
theorem cv_ge {x y : UInt64} {op : CmpOp} (hx : dN x) (hy : dN y) : 0 ≤ Op.cmpValue (FP.dcmp x y) op ↔ dv y ≤ dv x := by
  have h := cv_lt (op := op) hx hy
  constructor
  · intro h1
    refine Int.not_lt.mp fun h2 => ?_
    exact absurd (h.mpr h2) (by rw [Int32.not_lt]; exact h1)
  · intro h1
    rw [← Int32.not_lt]
    intro h2
    have := h.mp h2
    omega
theorem cv_le {x y : UInt64} {op : CmpOp} (hx : dN x) (hy : dN y) : Op.cmpValue (FP.dcmp x y) op ≤ 0 ↔ dv x ≤ dv y := by
  have h := cv_gt (op := op) hx hy
  constructor
  · intro h1
    refine Int.not_lt.mp fun h2 => ?_
    exact absurd (h.mpr h2) (by rw [Int32.not_lt]; exact h1)
  · intro h1
    rw [← Int32.not_lt]
    intro h2
    have := h.mp h2
    omega
/-- 'x >= y' that held: neither is a NaN -/
theorem cv_geN {x y : UInt64} (h : 0 ≤ Op.cmpValue (FP.dcmp x y) .l) : dN x ∧ dN y := by
  refine Classical.byContradiction fun hn => ?_
  rw [dc_nan hn] at h
  exact absurd h (by decide)
/-- 'x <= y' that held -/
theorem cv_leN {x y : UInt64} (h : Op.cmpValue (FP.dcmp x y) .g ≤ 0) : dN x ∧ dN y := by
  refine Classical.byContradiction fun hn => ?_
  rw [dc_nan hn] at h
  exact absurd h (by decide)
/-- 'x > y' that held -/
theorem cv_gtN {x y : UInt64} (h : 0 < Op.cmpValue (FP.dcmp x y) .l) : dN x ∧ dN y := by
  refine Classical.byContradiction fun hn => ?_
  rw [dc_nan hn] at h
  exact absurd h (by decide)
/-- 'x < y' that held -/
theorem cv_ltN {x y : UInt64} (h : Op.cmpValue (FP.dcmp x y) .g < 0) : dN x ∧ dN y := by
  refine Classical.byContradiction fun hn => ?_
  rw [dc_nan hn] at h
  exact absurd h (by decide)
end
section
/-! what is reckoned: one text for the class and for the reference -/
def tn (x : Int32) : Nat := x.toNatClampNeg
theorem tn_nI {n : Nat} (h : n < 2 ^ 31) : tn (nI n) = n := nI_clamp h
def bI (b : Bool) : Int32 := if b then nI 1 else nI 0
theorem bI_1 : bI true = nI 1 := rfl
theorem bI_0 : bI false = nI 0 := rfl
theorem bI_ne (b : Bool) : bI b = 0 ↔ b = false := by cases b <;> decide
def mg (x : UInt64) : UInt64 := if 0 ≤ Op.cmpValue (FP.dcmp x FP.dconst0) .g then x else FP.dneg x
def nb (x : UInt64) : UInt64 := if 0 ≤ Op.cmpValue (FP.dcmp x FP.dconst0) .g then x else FP.dconst0
def mx (c m : UInt64) : UInt64 := if Op.cmpValue (FP.dcmp m c) .l ≤ 0 then c else m
def wiB (x lo hi : UInt64) : Bool := !decide (Op.cmpValue (FP.dcmp x lo) .l < 0) && !decide (0 < Op.cmpValue (FP.dcmp x hi) .g)
def eas (w l : UInt64) : UInt64 := FP.ddiv (FP.dmul (FP.dmul w w) w) l
/-- sums over those of 0 .. n-1 that p names, in turn -/
def accF (a : UInt64) (p : Nat → Bool) (g : Nat → UInt64) : Nat → UInt64
  | 0 => a
  | n + 1 => if p n then FP.dadd (accF a p g n) (g n) else accF a p g n
theorem accF_yes {a : UInt64} {p : Nat → Bool} {g : Nat → UInt64} {n : Nat} (h : p n = true) : accF a p g (n + 1) = FP.dadd (accF a p g n) (g n) := by
  show (if p n then _ else _) = _
  rw [if_pos h]
theorem accF_no {a : UInt64} {p : Nat → Bool} {g : Nat → UInt64} {n : Nat} (h : p n = false) : accF a p g (n + 1) = accF a p g n := by
  show (if p n then _ else _) = _
  rw [if_neg (by rw [h]; decide)]
theorem accF_congr {a : UInt64} {p q : Nat → Bool} {g h : Nat → UInt64} : ∀ {n : Nat}, (∀ k, k < n → p k = q k) → (∀ k, k < n → q k = true → g k = h k) → accF a p g n = accF a q h n
  | 0, _, _ => rfl
  | n + 1, h1, h2 => by
    have ih := accF_congr (a := a) (n := n) (fun k hk => h1 k (by omega)) (fun k hk => h2 k (by omega))
    have h3 := h1 n (by omega)
    cases hq : q n with
    | true => rw [accF_yes (h3.trans hq), accF_yes hq, ih, h2 n (by omega) hq]
    | false => rw [accF_no (h3.trans hq), accF_no hq, ih]
/-- how many of 0 .. n-1 p names -/
def ctF (p : Nat → Bool) : Nat → Nat
  | 0 => 0
  | n + 1 => if p n then ctF p n + 1 else ctF p n
theorem ctF_yes {p : Nat → Bool} {n : Nat} (h : p n = true) : ctF p (n + 1) = ctF p n + 1 := by
  show (if p n then _ else _) = _
  rw [if_pos h]
theorem ctF_no {p : Nat → Bool} {n : Nat} (h : p n = false) : ctF p (n + 1) = ctF p n := by
  show (if p n then _ else _) = _
  rw [if_neg (by rw [h]; decide)]
theorem ctF_le (p : Nat → Bool) : ∀ n, ctF p n ≤ n
  | 0 => Nat.le_refl _
  | n + 1 => by
    have := ctF_le p n
    cases h : p n with
    | true => rw [ctF_yes h]; omega
    | false => rw [ctF_no h]; omega
theorem ctF_congr {p q : Nat → Bool} : ∀ {n : Nat}, (∀ k, k < n → p k = q k) → ctF p n = ctF q n
  | 0, _ => rfl
  | n + 1, h1 => by
    have ih := ctF_congr (n := n) (fun k hk => h1 k (by omega))
    have h3 := h1 n (by omega)
    cases hq : q n with
    | true => rw [ctF_yes (h3.trans hq), ctF_yes hq, ih]
    | false => rw [ctF_no (h3.trans hq), ctF_no hq, ih]
theorem ctF_mono (p : Nat → Bool) {m : Nat} : ∀ {n : Nat}, m ≤ n → ctF p m ≤ ctF p n
  | 0, h => by rw [show m = 0 by omega]; exact Nat.le_refl _
  | n + 1, h => by
    by_cases hm : m = n + 1
    · rw [hm]; exact Nat.le_refl _
    · have := ctF_mono p (m := m) (n := n) (by omega)
      cases hq : p n with
      | true => rw [ctF_yes hq]; omega
      | false => rw [ctF_no hq]; exact this
/-- a list du of those that p names, in turn: the sum along the list is the sum over all -/
theorem accF_list {a : UInt64} {p : Nat → Bool} {g : Nat → UInt64} {du : Nat → Nat} : ∀ {n : Nat}, (∀ d, d < n → p d = true → du (ctF p d) = d) → accF a (fun _ => true) (fun t => g (du t)) (ctF p n) = accF a p g n
  | 0, _ => rfl
  | n + 1, h => by
    have ih := accF_list (a := a) (g := g) (n := n) (fun d hd => h d (by omega))
    cases hp : p n with
    | true => rw [ctF_yes hp, accF_yes hp, accF_yes rfl, ih, h n (by omega) hp]
    | false => rw [ctF_no hp, accF_no hp, ih]
/-- the t-th of the list is one that p names -/
theorem du_at {p : Nat → Bool} {du : Nat → Nat} : ∀ {n : Nat}, (∀ d, d < n → p d = true → du (ctF p d) = d) → ∀ t, t < ctF p n → du t < n ∧ p (du t) = true ∧ ctF p (du t) = t
  | 0, _, t, ht => absurd ht (Nat.not_lt_zero _)
  | n + 1, h, t, ht => by
    cases hp : p n with
    | true =>
      rw [ctF_yes hp] at ht
      by_cases e : t = ctF p n
      · subst e
        rw [h n (by omega) hp]
        exact ⟨by omega, hp, rfl⟩
      · obtain ⟨h1, h2, h3⟩ := du_at (n := n) (fun d hd => h d (by omega)) t (by omega)
        exact ⟨by omega, h2, h3⟩
    | false =>
      rw [ctF_no hp] at ht
      obtain ⟨h1, h2, h3⟩ := du_at (n := n) (fun d hd => h d (by omega)) t ht
      exact ⟨by omega, h2, h3⟩
/-- ducts and machines as they stand: number of ducts, of machines, first and second ends, eases, machines' joints, open, needs, strength, fall -/
abbrev Ph : Type := Nat × Nat × (Nat → Nat) × (Nat → Nat) × (Nat → UInt64) × (Nat → Nat) × (Nat → Bool) × (Nat → UInt64) × UInt64 × UInt64
def pD (h : Ph) : Nat := h.1
def pM (h : Ph) : Nat := h.2.1
def pA (h : Ph) : Nat → Nat := h.2.2.1
def pB (h : Ph) : Nat → Nat := h.2.2.2.1
def pE (h : Ph) : Nat → UInt64 := h.2.2.2.2.1
def pJ (h : Ph) : Nat → Nat := h.2.2.2.2.2.1
def pO (h : Ph) : Nat → Bool := h.2.2.2.2.2.2.1
def pN (h : Ph) : Nat → UInt64 := h.2.2.2.2.2.2.2.1
def pS (h : Ph) : UInt64 := h.2.2.2.2.2.2.2.2.1
def pL (h : Ph) : UInt64 := h.2.2.2.2.2.2.2.2.2
def atj (h : Ph) (j d : Nat) : Bool := decide (pA h d = j) || decide (pB h d = j)
def oth (h : Ph) (j d : Nat) : Nat := if pA h d = j then pB h d else pA h d
def hasD (h : Ph) (j : Nat) : Bool := decide (ctF (atj h j) (pD h) ≠ 0)
def pulV (h : Ph) (P : Nat → UInt64) (j : Nat) : UInt64 := accF FP.dconst0 (atj h j) (fun d => FP.dmul (pE h d) (P (oth h j d))) (pD h)
def wgE (h : Ph) (j : Nat) : UInt64 := accF FP.dconst0 (atj h j) (pE h) (pD h)
def opAt (h : Ph) (j m : Nat) : Bool := pO h m && decide (pJ h m = j)
def wgt (h : Ph) (g : Nat → UInt64) (j : Nat) : UInt64 := accF (wgE h j) (opAt h j) (fun m => FP.dmul (g m) 4620693217682128896) (pM h)
def floV (h : Ph) (P : Nat → UInt64) (j : Nat) : UInt64 := accF FP.dconst0 (atj h j) (fun d => FP.dmul (pE h d) (FP.dsub (P (oth h j d)) (P j))) (pD h)
def hldV (h : Ph) (fl : UInt64) : UInt64 := FP.dsub FP.dconst0 (FP.dsub (pS h) (FP.dmul (pL h) fl))
/-- above 0 it is 0 -/
def na (x : UInt64) : UInt64 := if Op.cmpValue (FP.dcmp x FP.dconst0) .l ≤ 0 then x else FP.dconst0
/-- one joint of a round -/
def stJ (h : Ph) (g : Nat → UInt64) (j : Nat) (s : (Nat → UInt64) × UInt64) : (Nat → UInt64) × UInt64 :=
  if hasD h j then (vf_upd s.1 j (FP.ddiv (pulV h s.1 j) (wgt h g j)), mx s.2 (mg (FP.dsub (FP.ddiv (pulV h s.1 j) (wgt h g j)) (s.1 j)))) else s
def rdN (h : Ph) (g : Nat → UInt64) (s : (Nat → UInt64) × UInt64) : Nat → (Nat → UInt64) × UInt64
  | 0 => s
  | i + 1 => stJ h g (i + 1) (rdN h g s i)
/-- a round: pressures and the fan's flow; its change -/
def rdP (h : Ph) (g : Nat → UInt64) (s : (Nat → UInt64) × UInt64) : Nat → UInt64 := (rdN h g (vf_upd s.1 0 (na (hldV h s.2)), FP.dconst0) 9).1
def rdC (h : Ph) (g : Nat → UInt64) (s : (Nat → UInt64) × UInt64) : UInt64 := (rdN h g (vf_upd s.1 0 (na (hldV h s.2)), FP.dconst0) 9).2
def rdF (h : Ph) (g : Nat → UInt64) (s : (Nat → UInt64) × UInt64) : UInt64 := nb (floV h (rdP h g s) 0)
def rdS (h : Ph) (g : Nat → UInt64) (s : (Nat → UInt64) × UInt64) : (Nat → UInt64) × UInt64 := (rdP h g s, rdF h g s)
/-- k rounds -/
def itR (h : Ph) (g : Nat → UInt64) (s : (Nat → UInt64) × UInt64) : Nat → (Nat → UInt64) × UInt64
  | 0 => s
  | k + 1 => rdS h g (itR h g s k)
/-- the change of the k-th round is small -/
def smC (x : UInt64) : Bool := decide (Op.cmpValue (FP.dcmp x 4517110426252607488) .g < 0)
/-- the first of k, k+1 .. that p names, f tries -/
def srch (p : Nat → Bool) : Nat → Nat → Option Nat
  | 0, _ => none
  | f + 1, k => if p k then some k else srch p f (k + 1)
def seK (h : Ph) (g : Nat → UInt64) (s : (Nat → UInt64) × UInt64) : Option Nat := srch (fun k => smC (rdC h g (itR h g s (k - 1)))) 100 1
/-- what a machine draws -/
def drV (h : Ph) (P g : Nat → UInt64) (m : Nat) : UInt64 := if pO h m then nb (FP.dmul (FP.dmul (g m) 4620693217682128896) (FP.dsub FP.dconst0 (P (pJ h m)))) else FP.dconst0
/-- draws more than its need -/
def ovr (h : Ph) (P g : Nat → UInt64) (m : Nat) : Bool := pO h m && decide (0 < Op.cmpValue (FP.dcmp (drV h P g m) (pN h m)) .l)
def far (h : Ph) (P g : Nat → UInt64) (m : Nat) : Bool := decide (0 < Op.cmpValue (FP.dcmp (FP.dmul (drV h P g m) 4652007308841189376) (FP.dmul (pN h m) 4652016104934211584)) .l)
/-- the gates closed, machine by machine; whether one was far above -/
def clG (h : Ph) (P g : Nat → UInt64) : Nat → (Nat → UInt64)
  | 0 => g
  | m + 1 => if ovr h P g m then vf_upd (clG h P g m) m (FP.ddiv (FP.dmul (g m) (pN h m)) (drV h P g m)) else clG h P g m
def clB (h : Ph) (P g : Nat → UInt64) : Nat → Bool
  | 0 => false
  | m + 1 => if ovr h P g m then (clB h P g m || far h P g m) else clB h P g m
end
section
/-! what keeps all numbers finite: pressures between -1024 and 0, eases, gates, needs, readings in their ranges -/
def okP (p : UInt64) : Prop := dF p ∧ -((2 ^ 10 * U1 : Nat) : Int) ≤ dv p ∧ dv p ≤ 0
def okE (e : UInt64) : Prop := Bd 24 e ∧ 0 < dv e
def okG (g : UInt64) : Prop := Bd 0 g ∧ 0 ≤ dv g
def okN (n : UInt64) : Prop := Bd 10 n ∧ U1 ≤ 2 ^ 3 * dm n ∧ 0 ≤ dv n
def okS (x : UInt64) : Prop := Bd 10 x ∧ 0 ≤ dv x
def okQ (x : UInt64) : Prop := Bd 51 x ∧ 0 ≤ dv x
def okW (w : UInt64) : Prop := Bd 7 w ∧ U1 ≤ 2 ^ 3 * dm w ∧ 0 ≤ dv w
def okR (x : UInt64) : Prop := Bd 14 x ∧ 0 ≤ dv x
theorem okP.B {p : UInt64} (h : okP p) : Bd 10 p := Bd.of (by decide) h.1.nn h.2.1 (Int.le_trans h.2.2 (Int.natCast_nonneg _))
theorem d0_v : dv FP.dconst0 = 0 := by decide +kernel
theorem d0_F : dF FP.dconst0 := ⟨false, 0, _, FP.Core.val64_dconst0⟩
theorem d0_B (j : Nat) : Bd j FP.dconst0 := ⟨d0_F, by rw [show dm FP.dconst0 = 0 by decide +kernel]; exact Nat.zero_le _⟩
theorem okP_0 : okP FP.dconst0 := ⟨d0_F, by rw [d0_v]; have := Int.natCast_nonneg (2 ^ 10 * U1); omega, by rw [d0_v]; exact Int.le_refl _⟩
theorem okQ_0 : okQ FP.dconst0 := ⟨d0_B _, by rw [d0_v]; exact Int.le_refl _⟩
theorem okG_0 : okG FP.dconst0 := ⟨d0_B _, by rw [d0_v]; exact Int.le_refl _⟩
theorem okR_0 : okR FP.dconst0 := ⟨d0_B _, by rw [d0_v]; exact Int.le_refl _⟩
theorem d1_m : dm FP.dconst1 = U1 := by decide +kernel
theorem d1_v : 0 ≤ dv FP.dconst1 := by decide +kernel
theorem d1_F : dF FP.dconst1 := ⟨false, _, _, FP.Core.val64_dconst1⟩
theorem okG_1 : okG FP.dconst1 := ⟨⟨d1_F, by rw [d1_m]; omega⟩, d1_v⟩
theorem c8_B : Bd 3 4620693217682128896 ∧ 0 ≤ dv 4620693217682128896 := ⟨⟨dF_small (by decide +kernel) (by decide +kernel), by decide +kernel⟩, by decide +kernel⟩
theorem c1000_B : Bd 10 4652007308841189376 := ⟨dF_small (by decide +kernel) (by decide +kernel), by decide +kernel⟩
theorem c1001_B : Bd 10 4652016104934211584 := ⟨dF_small (by decide +kernel) (by decide +kernel), by decide +kernel⟩
theorem c2_F : dF 4611686018427387904 ∧ U1 ≤ 2 ^ 0 * dm 4611686018427387904 ∧ 0 < dv 4611686018427387904 := ⟨dF_small (by decide +kernel) (by decide +kernel), by decide +kernel, by decide +kernel⟩
theorem c9375_B : Bd 0 4606619468846596096 := ⟨dF_small (by decide +kernel) (by decide +kernel), by decide +kernel⟩
theorem ceps_N : dN 4517110426252607488 := by decide +kernel
/-! mg, nb, mx, na -/
theorem mg_B {j : Nat} {x : UInt64} (h : Bd j x) : Bd j (mg x) ∧ 0 ≤ dv (mg x) := by
  unfold mg
  by_cases c : 0 ≤ Op.cmpValue (FP.dcmp x FP.dconst0) .g
  · rw [if_pos c]
    have := (cv_ge h.F.nn d0_F.nn).mp c
    rw [d0_v] at this
    exact ⟨h, this⟩
  · rw [if_neg c]
    have : ¬ dv FP.dconst0 ≤ dv x := fun h2 => c ((cv_ge h.F.nn d0_F.nn).mpr h2)
    rw [d0_v] at this
    exact ⟨h.neg, by rw [dneg_v]; omega⟩
theorem nb_B {j : Nat} {x : UInt64} (h : Bd j x) : Bd j (nb x) ∧ 0 ≤ dv (nb x) := by
  unfold nb
  by_cases c : 0 ≤ Op.cmpValue (FP.dcmp x FP.dconst0) .g
  · rw [if_pos c]
    have := (cv_ge h.F.nn d0_F.nn).mp c
    rw [d0_v] at this
    exact ⟨h, this⟩
  · rw [if_neg c]
    exact ⟨d0_B _, by rw [d0_v]; exact Int.le_refl _⟩
theorem nb_le {x : UInt64} (h : dF x) {b : Int} (h0 : 0 ≤ b) (hb : dv x ≤ b) : dv (nb x) ≤ b := by
  unfold nb
  by_cases c : 0 ≤ Op.cmpValue (FP.dcmp x FP.dconst0) .g
  · rw [if_pos c]; exact hb
  · rw [if_neg c, d0_v]; exact h0
theorem na_P {x : UInt64} (h : dF x) (h1 : -((2 ^ 10 * U1 : Nat) : Int) ≤ dv x) : okP (na x) := by
  unfold na
  by_cases c : Op.cmpValue (FP.dcmp x FP.dconst0) .l ≤ 0
  · rw [if_pos c]
    have := (cv_le h.nn d0_F.nn).mp c
    rw [d0_v] at this
    exact ⟨h, h1, this⟩
  · rw [if_neg c]
    exact okP_0
/-! sums -/
theorem accF_B {a : UInt64} {p : Nat → Bool} {g : Nat → UInt64} {k : Nat} (ha : Bd k a) : ∀ {n : Nat}, k + n < 100 → (∀ i, i < n → p i = true → Bd k (g i)) → Bd (k + n) (accF a p g n)
  | 0, _, _ => ha
  | n + 1, hk, hg => by
    have ih := accF_B (p := p) (g := g) ha (n := n) (by omega) (fun i hi => hg i (by omega))
    cases hp : p n with
    | true =>
      rw [accF_yes hp]
      exact ih.add ((hg n (by omega) hp).mono (by omega)) (by omega)
    | false =>
      rw [accF_no hp]
      exact ih.mono (by omega)
theorem accF_ok {a : UInt64} {p : Nat → Bool} {g : Nat → UInt64} {k : Nat} (ha : Bd k a) {n i : Nat} (hk : k + n < 100) (hi : i < n) (hg : ∀ i, i < n → p i = true → Bd k (g i)) (hp : p i = true) : vf_n64 (FP.dadd (accF a p g i) (g i)) :=
  (dadd_nn (accF_B ha (n := i) (by omega) (fun q hq => hg q (by omega))).F (hg i hi hp).F).ok
/-- what stands: eases, needs, the fan -/
def PhF (h : Ph) : Prop := pD h ≤ 16 ∧ pM h ≤ 8 ∧ (∀ d, d < pD h → okE (pE h d) ∧ pA h d < 10 ∧ pB h d < 10) ∧ (∀ m, m < pM h → okN (pN h m) ∧ pJ h m < 10) ∧ okS (pS h) ∧ okS (pL h)
theorem oth_lt {h : Ph} (hF : PhF h) {j d : Nat} (hd : d < pD h) : oth h j d < 10 := by
  unfold oth
  split
  · exact (hF.2.2.1 d hd).2.2
  · exact (hF.2.2.1 d hd).2.1
theorem pul_g {h : Ph} (hF : PhF h) {P : Nat → UInt64} (hP : ∀ j, j < 10 → okP (P j)) {j d : Nat} (hd : d < pD h) : Bd 34 (FP.dmul (pE h d) (P (oth h j d))) := (hF.2.2.1 d hd).1.1.mul (hP _ (oth_lt hF hd)).B (by decide)
theorem flo_s {h : Ph} {P : Nat → UInt64} (hP : ∀ j, j < 10 → okP (P j)) {a b : Nat} (ha : a < 10) (hb : b < 10) : Bd 11 (FP.dsub (P a) (P b)) := (hP a ha).B.sub (hP b hb).B (by decide)
theorem flo_g {h : Ph} (hF : PhF h) {P : Nat → UInt64} (hP : ∀ j, j < 10 → okP (P j)) {a b d : Nat} (hd : d < pD h) (ha : a < 10) (hb : b < 10) : Bd 35 (FP.dmul (pE h d) (FP.dsub (P a) (P b))) := (hF.2.2.1 d hd).1.1.mul (flo_s (h := h) hP ha hb) (by decide)
theorem pulV_B {h : Ph} (hF : PhF h) {P : Nat → UInt64} (hP : ∀ j, j < 10 → okP (P j)) (j : Nat) : Bd 50 (pulV h P j) := (accF_B (d0_B 34) (n := pD h) (by have := hF.1; omega) (fun d hd _ => pul_g hF hP hd)).mono (by have := hF.1; omega)
theorem floV_B {h : Ph} (hF : PhF h) {P : Nat → UInt64} (hP : ∀ j, j < 10 → okP (P j)) {j : Nat} (hj : j < 10) : Bd 51 (floV h P j) := (accF_B (d0_B 35) (n := pD h) (by have := hF.1; omega) (fun d hd _ => flo_g hF hP hd (oth_lt hF hd) hj)).mono (by have := hF.1; omega)
theorem wgE_B {h : Ph} (hF : PhF h) (j : Nat) : Bd 40 (wgE h j) := (accF_B (d0_B 24) (n := pD h) (by have := hF.1; omega) (fun d hd _ => (hF.2.2.1 d hd).1.1)).mono (by have := hF.1; omega)
theorem gat_g {g : Nat → UInt64} {n m : Nat} (hg : ∀ m, m < n → okG (g m)) (hm : m < n) : Bd 3 (FP.dmul (g m) 4620693217682128896) := (hg m hm).1.mul c8_B.1 (by decide)
theorem wgt_B {h : Ph} (hF : PhF h) {g : Nat → UInt64} (hg : ∀ m, m < pM h → okG (g m)) (j : Nat) : Bd 48 (wgt h g j) := (accF_B (wgE_B hF j) (n := pM h) (by have := hF.2.1; omega) (fun m hm _ => (gat_g hg hm).mono (by decide))).mono (by have := hF.2.1; omega)
/-- a product with 2^10, exactly -/
theorem dmul_int {x y : UInt64} (hx : dF x) (hy : dF y) {n : Nat} (hn : n < 2 ^ 2097) (h : dm x * dm y = n * U1) : dm (FP.dmul x y) = fR n := by
  obtain ⟨s, c, q, e1, e2, e3⟩ := dmul_ex hx hy
  have e4 : FP.Core.inUnits c q (2 * FP.Core.b64.qmin) = n * U1 := by
    have h4 := congrArg Int.natAbs e3
    rw [FP.Core.natAbs_signed, Int.natAbs_mul, dv_abs, dv_abs, h] at h4
    exact h4
  have e5 : FP.Core.round FP.Core.b64 (.fin s c q) = FP.Core.roundRatio FP.Core.b64 s n 1 FP.Core.b64.qmin := by
    refine FP.Core.roundRatio_congr (by decide) (by decide) ?_
    unfold FP.Core.inUnits U1 at e4
    rw [fl_qmin] at e2 e4 ⊢
    rw [Nat.mul_one, Nat.mul_one]
    refine Nat.eq_of_mul_eq_mul_right (Nat.two_pow_pos 1074) ?_
    have g1 : (q - -1074).toNat + 1074 = (q - 2 * -1074).toNat + (-1074 - q).toNat := by omega
    rw [Nat.mul_assoc, ← Nat.pow_add, g1, Nat.pow_add, ← Nat.mul_assoc, e4]
    generalize (2 : Nat) ^ 1074 = z
    ac_rfl
  unfold dm
  rw [e1, e5]
  exact fR_spec hn
theorem dmul_1024 {e : UInt64} (he : Bd 24 e) : dm (FP.dmul e (pw 10)) = dm e * 2 ^ 10 := by
  have h1 : dm e * 2 ^ 10 ≤ 2 ^ 34 * U1 := by
    calc dm e * 2 ^ 10 ≤ 2 ^ 24 * U1 * 2 ^ 10 := Nat.mul_le_mul_right _ he.2
      _ = 2 ^ 34 * U1 := by rw [show (2 : Nat) ^ 34 = 2 ^ 24 * 2 ^ 10 by decide +kernel]; generalize U1 = u; ac_rfl
  have h2 : 2 ^ 34 * U1 < 2 ^ 2097 := Nat.lt_of_le_of_lt (Nat.mul_le_mul_right _ (Nat.pow_le_pow_right (by decide) (by decide))) U1_top97
  have h3 : dm e < 2 ^ 2097 := Nat.lt_of_le_of_lt he.2 (Nat.lt_of_le_of_lt (Nat.mul_le_mul_right _ (Nat.pow_le_pow_right (by decide) (by decide))) U1_top97)
  rw [dmul_int he.F (pw_F (by decide)) (n := dm e * 2 ^ 10) (Nat.lt_of_le_of_lt h1 h2) (by rw [pw_m (by decide)]; generalize U1 = u; ac_rfl), fR_scale, fR_self he.F h3]
theorem mul_P {e p : UInt64} (he : okE e) (hp : okP p) : dm (FP.dmul e p) ≤ dm e * 2 ^ 10 ∧ dv (FP.dmul e p) ≤ 0 := by
  have hB : Bd 34 (FP.dmul e p) := he.1.mul hp.B (by decide)
  have h1 : dv (FP.dmul e p) ≤ dv FP.dconst0 := by
    refine dmul_le he.1.F hp.1 d0_F.nn ?_
    rw [d0_v, Int.zero_mul]
    exact Int.mul_nonpos_of_nonneg_of_nonpos (Int.le_of_lt he.2) hp.2.2
  rw [d0_v] at h1
  have hV : dF (FP.dmul e (pw 10)) := (he.1.mul (k := 34) (Bd.mono (i := 10) (j := 10) ⟨pw_F (by decide), by rw [pw_m (by decide)]; exact Nat.le_refl _⟩ (by decide)) (by decide)).F
  have hV0 : 0 ≤ dv (FP.dmul e (pw 10)) := by
    rw [← d0_v]
    refine dmul_ge he.1.F (pw_F (by decide)) d0_F.nn ?_
    rw [d0_v, Int.zero_mul, pw_v (by decide)]
    exact Int.mul_nonneg (Int.le_of_lt he.2) (Int.natCast_nonneg _)
  have hVv : dv (FP.dmul e (pw 10)) = ((dm e * 2 ^ 10 : Nat) : Int) := by rw [dv_pos hV0, dmul_1024 he.1]
  have h2 : dv (FP.dneg (FP.dmul e (pw 10))) ≤ dv (FP.dmul e p) := by
    refine dmul_ge he.1.F hp.1 (dneg_F hV).nn ?_
    rw [dneg_v, hVv]
    have e1 : dv e = (dm e : Int) := dv_pos (Int.le_of_lt he.2)
    have e2 : -((2 ^ 10 * U1 : Nat) : Int) ≤ dv p := hp.2.1
    have e3 : (dm e : Int) * -((2 ^ 10 * U1 : Nat) : Int) ≤ (dm e : Int) * dv p := Int.mul_le_mul_of_nonneg_left e2 (Int.natCast_nonneg _)
    rw [e1]
    refine Int.le_trans (Int.le_of_eq ?_) e3
    have e4 : ((2 ^ 1074 : Nat) : Int) = (U1 : Int) := rfl
    rw [e4, Int.neg_mul, Int.mul_neg, ← Int.natCast_mul, ← Int.natCast_mul, Nat.mul_assoc]
  rw [dneg_v, hVv] at h2
  refine ⟨?_, h1⟩
  rw [← dv_abs]
  omega
/-- the sums of a joint, side by side -/
theorem pul_wg {h : Ph} (hF : PhF h) {P : Nat → UInt64} (hP : ∀ j, j < 10 → okP (P j)) (j : Nat) : ∀ n, n ≤ pD h →
    Bd (34 + n) (accF FP.dconst0 (atj h j) (fun d => FP.dmul (pE h d) (P (oth h j d))) n) ∧ dv (accF FP.dconst0 (atj h j) (fun d => FP.dmul (pE h d) (P (oth h j d))) n) ≤ 0 ∧
    Bd (24 + n) (accF FP.dconst0 (atj h j) (pE h) n) ∧ 0 ≤ dv (accF FP.dconst0 (atj h j) (pE h) n) ∧
    dm (accF FP.dconst0 (atj h j) (fun d => FP.dmul (pE h d) (P (oth h j d))) n) ≤ dm (accF FP.dconst0 (atj h j) (pE h) n) * 2 ^ 10 ∧
    (ctF (atj h j) n ≠ 0 → 0 < dm (accF FP.dconst0 (atj h j) (pE h) n))
  | 0, _ => ⟨d0_B _, Int.le_of_eq d0_v, d0_B _, Int.le_of_eq d0_v.symm, by show dm FP.dconst0 ≤ _; rw [show dm FP.dconst0 = 0 by decide +kernel]; exact Nat.zero_le _, fun h0 => absurd rfl h0⟩
  | n + 1, hn => by
    obtain ⟨a1, a2, a3, a4, a5, a6⟩ := pul_wg hF hP j n (by omega)
    have h16 := hF.1
    cases hp : atj h j n with
    | false =>
      rw [accF_no hp, accF_no hp, ctF_no hp]
      exact ⟨a1.mono (by omega), a2, a3.mono (by omega), a4, a5, a6⟩
    | true =>
      rw [accF_yes hp, accF_yes hp]
      have hE := (hF.2.2.1 n (by omega)).1
      have hO := hP _ (oth_lt hF (j := j) (d := n) (by omega))
      obtain ⟨m1, m2⟩ := mul_P hE hO
      have mB : Bd 34 (FP.dmul (pE h n) (P (oth h j n))) := hE.1.mul hO.B (by decide)
      have hE0 : 0 ≤ dv (pE h n) := Int.le_of_lt hE.2
      generalize accF FP.dconst0 (atj h j) (fun d => FP.dmul (pE h d) (P (oth h j d))) n = a at *
      generalize accF FP.dconst0 (atj h j) (pE h) n = b at *
      generalize FP.dmul (pE h n) (P (oth h j n)) = ep at m1 m2 mB ⊢
      have t1 : 2 ^ (34 + n) * U1 + 2 ^ 34 * U1 < 2 ^ 2097 := by
        refine Nat.lt_of_le_of_lt ?_ U1_top97
        rw [← Nat.add_mul]
        refine Nat.mul_le_mul_right _ ?_
        have : (2 : Nat) ^ (34 + n) ≤ 2 ^ 50 := Nat.pow_le_pow_right (by decide) (by omega)
        have e9 : (2 : Nat) ^ 50 + 2 ^ 34 ≤ 2 ^ 100 := by decide +kernel
        omega
      have t2 : 2 ^ (24 + n) * U1 + 2 ^ 24 * U1 < 2 ^ 2097 := by
        refine Nat.lt_of_le_of_lt ?_ U1_top97
        rw [← Nat.add_mul]
        refine Nat.mul_le_mul_right _ ?_
        have : (2 : Nat) ^ (24 + n) ≤ 2 ^ 40 := Nat.pow_le_pow_right (by decide) (by omega)
        have e9 : (2 : Nat) ^ 40 + 2 ^ 24 ≤ 2 ^ 100 := by decide +kernel
        omega
      have A1 := dadd_same a1.F mB.F (.inr ⟨a2, m2⟩) (Nat.lt_of_le_of_lt (Nat.add_le_add a1.2 mB.2) t1)
      have S1 := dadd_same a3.F hE.1.F (.inl ⟨a4, hE0⟩) (Nat.lt_of_le_of_lt (Nat.add_le_add a3.2 hE.1.2) t2)
      have A2 : dv (FP.dadd a ep) ≤ 0 := by
        rw [← d0_v]
        exact dadd_le a1.F mB.F d0_F.nn (by rw [d0_v]; omega)
      have S2 : dv (pE h n) ≤ dv (FP.dadd b (pE h n)) := dadd_ge a3.F hE.1.F hE.1.F.nn (by omega)
      refine ⟨a1.add (mB.mono (by omega)) (by omega), A2, a3.add (hE.1.mono (by omega)) (by omega), by omega, ?_, fun _ => ?_⟩
      · rw [A1, S1, ← fR_scale]
        refine fR_mono ?_
        rw [Nat.add_mul]
        exact Nat.add_le_add a5 m1
      · have := hE.2
        rw [← dv_abs]
        omega
theorem accF_up {a : UInt64} {p : Nat → Bool} {g : Nat → UInt64} {k : Nat} (ha : Bd k a) (ha0 : 0 ≤ dv a) : ∀ {n : Nat}, k + n < 100 → (∀ i, i < n → p i = true → Bd k (g i) ∧ 0 ≤ dv (g i)) → dv a ≤ dv (accF a p g n)
  | 0, _, _ => Int.le_refl _
  | n + 1, hk, hg => by
    have ih := accF_up ha ha0 (p := p) (g := g) (n := n) (by omega) (fun i hi => hg i (by omega))
    cases hp : p n with
    | true =>
      rw [accF_yes hp]
      have hB := accF_B ha (p := p) (g := g) (n := n) (by omega) (fun i hi hpi => (hg i (by omega) hpi).1)
      have g0 := hg n (by omega) hp
      exact Int.le_trans ih (dadd_ge hB.F g0.1.F hB.F.nn (by have := g0.2; omega))
    | false => rw [accF_no hp]; exact ih
theorem gat_0 {g : UInt64} (hg : okG g) : 0 ≤ dv (FP.dmul g 4620693217682128896) := by
  rw [← d0_v]
  refine dmul_ge hg.1.F c8_B.1.F d0_F.nn ?_
  rw [d0_v, Int.zero_mul]
  exact Int.mul_nonneg hg.2 c8_B.2
/-- a joint's new pressure -/
theorem newP {h : Ph} (hF : PhF h) {P g : Nat → UInt64} (hP : ∀ j, j < 10 → okP (P j)) (hg : ∀ m, m < pM h → okG (g m)) {j : Nat} (hj : hasD h j = true) : okP (FP.ddiv (pulV h P j) (wgt h g j)) ∧ 0 < dm (wgt h g j) ∧ 0 < dv (wgt h g j) := by
  obtain ⟨a1, a2, a3, a4, a5, a6⟩ := pul_wg hF hP j (pD h) (Nat.le_refl _)
  have hS : 0 < dm (wgE h j) := a6 (of_decide_eq_true hj)
  have hS0 : 0 ≤ dv (wgE h j) := a4
  have hW := wgt_B hF hg j
  have hup : dv (wgE h j) ≤ dv (wgt h g j) := accF_up (wgE_B hF j) hS0 (n := pM h) (by have := hF.2.1; omega) (fun m hm _ => ⟨(gat_g hg hm).mono (by decide), gat_0 (hg m hm)⟩)
  have hSd := dv_abs (wgE h j)
  have hWd := dv_abs (wgt h g j)
  have hW1 : dm (wgE h j) ≤ dm (wgt h g j) := by omega
  have hWp : 0 < dm (wgt h g j) := by omega
  have hWv : 0 < dv (wgt h g j) := by omega
  refine ⟨?_, hWp, hWv⟩
  have hA := pulV_B hF hP j
  have hd : dm (FP.ddiv (pulV h P j) (wgt h g j)) ≤ dm (pw 10) := by
    refine ddiv_mle hA.F hW.F hWp (pw_n (by decide)) ?_
    rw [pw_m (by decide)]
    calc dm (pulV h P j) * U1 ≤ dm (wgE h j) * 2 ^ 10 * U1 := Nat.mul_le_mul_right _ a5
      _ ≤ dm (wgt h g j) * 2 ^ 10 * U1 := Nat.mul_le_mul_right _ (Nat.mul_le_mul_right _ hW1)
      _ = 2 ^ 10 * U1 * dm (wgt h g j) := by generalize U1 = u; ac_rfl
  rw [pw_m (by decide)] at hd
  have hs := (ddiv_sg hA.F hW.F hWv).2 a2
  have hn := ddiv_nn hA.F hW.F hWp
  have h3 : -((2 ^ 10 * U1 : Nat) : Int) ≤ dv (FP.ddiv (pulV h P j) (wgt h g j)) := by
    rw [← dv_abs] at hd
    omega
  exact ⟨(Bd.of (by decide) hn h3 (Int.le_trans hs (Int.natCast_nonneg _))).F, h3, hs⟩
theorem hld_ok {h : Ph} (hF : PhF h) {fl : UInt64} (hq : okQ fl) : Bd 61 (FP.dmul (pL h) fl) ∧ Bd 62 (FP.dsub (pS h) (FP.dmul (pL h) fl)) ∧ Bd 63 (hldV h fl) ∧ okP (na (hldV h fl)) := by
  have hS := hF.2.2.2.2.1
  have hL := hF.2.2.2.2.2
  have b1 : Bd 61 (FP.dmul (pL h) fl) := hL.1.mul hq.1 (by decide)
  have p1 : 0 ≤ dv (FP.dmul (pL h) fl) := by
    rw [← d0_v]
    refine dmul_ge hL.1.F hq.1.F d0_F.nn ?_
    rw [d0_v, Int.zero_mul]
    exact Int.mul_nonneg hL.2 hq.2
  have b2 : Bd 62 (FP.dsub (pS h) (FP.dmul (pL h) fl)) := (hS.1.mono (by decide)).sub b1 (by decide)
  have p2 : dv (FP.dsub (pS h) (FP.dmul (pL h) fl)) ≤ dv (pS h) := dsub_le hS.1.F b1.F hS.1.F.nn (by omega)
  have b3 : Bd 63 (hldV h fl) := (d0_B 62).sub b2 (by decide)
  refine ⟨b1, b2, b3, na_P b3.F ?_⟩
  rw [← (dneg_pw (j := 10) (by decide)).1]
  refine dsub_ge d0_F b2.F (dneg_pw (by decide)).2 ?_
  rw [(dneg_pw (j := 10) (by decide)).1, d0_v]
  have := hS.1.hi
  omega
/-- a round keeps the pressures in their range -/
theorem stJ_ok {h : Ph} (hF : PhF h) {g : Nat → UInt64} (hg : ∀ m, m < pM h → okG (g m)) {s : (Nat → UInt64) × UInt64} {j : Nat} (hP : ∀ i, i < 10 → okP (s.1 i)) : ∀ i, i < 10 → okP ((stJ h g j s).1 i) := by
  intro i hi
  unfold stJ
  cases hj : hasD h j with
  | false => exact hP i hi
  | true =>
    show okP (vf_upd s.1 j _ i)
    unfold vf_upd
    by_cases e : i = j
    · rw [if_pos e]; exact (newP hF hP hg hj).1
    · rw [if_neg e]; exact hP i hi
theorem rdN_ok {h : Ph} (hF : PhF h) {g : Nat → UInt64} (hg : ∀ m, m < pM h → okG (g m)) {s : (Nat → UInt64) × UInt64} (hP : ∀ i, i < 10 → okP (s.1 i)) : ∀ n, ∀ i, i < 10 → okP ((rdN h g s n).1 i)
  | 0 => hP
  | n + 1 => stJ_ok hF hg (rdN_ok hF hg hP n)
theorem vf_at {α : Type} {f : Nat → α} {k : Nat} {x : α} : vf_upd f k x k = x := if_pos rfl
theorem vf_ne {α : Type} {f : Nat → α} {k j : Nat} {x : α} (h : j ≠ k) : vf_upd f k x j = f j := if_neg h
theorem upd_okP {P : Nat → UInt64} (hP : ∀ i, i < 10 → okP (P i)) {k : Nat} {x : UInt64} (hx : okP x) : ∀ i, i < 10 → okP (vf_upd P k x i) := by
  intro i hi
  unfold vf_upd
  split
  · exact hx
  · exact hP i hi
def SdF (s : (Nat → UInt64) × UInt64) : Prop := (∀ i, i < 10 → okP (s.1 i)) ∧ okQ s.2
theorem rdS_ok {h : Ph} (hF : PhF h) {g : Nat → UInt64} (hg : ∀ m, m < pM h → okG (g m)) {s : (Nat → UInt64) × UInt64} (hs : SdF s) : SdF (rdS h g s) := by
  have h1 : ∀ i, i < 10 → okP (rdP h g s i) := rdN_ok hF hg (s := (vf_upd s.1 0 (na (hldV h s.2)), FP.dconst0)) (upd_okP hs.1 (hld_ok hF hs.2).2.2.2) 9
  exact ⟨h1, nb_B (floV_B hF h1 (by decide))⟩
theorem itR_ok {h : Ph} (hF : PhF h) {g : Nat → UInt64} (hg : ∀ m, m < pM h → okG (g m)) {s : (Nat → UInt64) × UInt64} (hs : SdF s) : ∀ k, SdF (itR h g s k)
  | 0 => hs
  | k + 1 => rdS_ok hF hg (itR_ok hF hg hs k)
/-! draws and gates -/
theorem drV_B {h : Ph} (hF : PhF h) {P g : Nat → UInt64} (hP : ∀ j, j < 10 → okP (P j)) (hg : ∀ m, m < pM h → okG (g m)) {m : Nat} (hm : m < pM h) : Bd 11 (FP.dsub FP.dconst0 (P (pJ h m))) ∧ Bd 14 (FP.dmul (FP.dmul (g m) 4620693217682128896) (FP.dsub FP.dconst0 (P (pJ h m)))) ∧ Bd 14 (drV h P g m) ∧ 0 ≤ dv (drV h P g m) := by
  have b1 : Bd 11 (FP.dsub FP.dconst0 (P (pJ h m))) := (d0_B 10).sub (hP _ (hF.2.2.2.1 m hm).2).B (by decide)
  have b2 : Bd 14 (FP.dmul (FP.dmul (g m) 4620693217682128896) (FP.dsub FP.dconst0 (P (pJ h m)))) := (gat_g hg hm).mul b1 (by decide)
  refine ⟨b1, b2, ?_⟩
  unfold drV
  split
  · exact nb_B b2
  · exact ⟨d0_B _, Int.le_of_eq d0_v.symm⟩
theorem ovr_ok {h : Ph} (hF : PhF h) {P g : Nat → UInt64} (hP : ∀ j, j < 10 → okP (P j)) (hg : ∀ m, m < pM h → okG (g m)) {m : Nat} (hm : m < pM h) (ho : 0 < Op.cmpValue (FP.dcmp (drV h P g m) (pN h m)) .l) : Bd 10 (FP.dmul (g m) (pN h m)) ∧ okG (FP.ddiv (FP.dmul (g m) (pN h m)) (drV h P g m)) := by
  obtain ⟨-, -, d1, d2⟩ := drV_B hF hP hg hm
  have hN := (hF.2.2.2.1 m hm).1
  have hG := hg m hm
  have hlt := (cv_gt d1.F.nn hN.1.F.nn).mp ho
  have b1 : Bd 10 (FP.dmul (g m) (pN h m)) := hG.1.mul hN.1 (by decide)
  have p0 : 0 ≤ dv (FP.dmul (g m) (pN h m)) := by
    rw [← d0_v]
    refine dmul_ge hG.1.F hN.1.F d0_F.nn ?_
    rw [d0_v, Int.zero_mul]
    exact Int.mul_nonneg hG.2 hN.2.2
  have p1 : dv (FP.dmul (g m) (pN h m)) ≤ dv (pN h m) := by
    refine dmul_le hG.1.F hN.1.F hN.1.F.nn ?_
    rw [Int.mul_comm (dv (pN h m))]
    refine Int.mul_le_mul_of_nonneg_right ?_ hN.2.2
    have := hG.1.hi
    rw [Nat.pow_zero, Nat.one_mul] at this
    exact this
  have e1 := dv_abs (FP.dmul (g m) (pN h m))
  have e2 := dv_abs (pN h m)
  have e3 := dv_abs (drV h P g m)
  have hd : U1 ≤ 2 ^ 3 * dm (drV h P g m) := by
    have := hN.2.1
    omega
  have hdp : 0 < dm (drV h P g m) := by omega
  have hle : dm (FP.dmul (g m) (pN h m)) ≤ dm (drV h P g m) := by omega
  have hm2 : dm (FP.ddiv (FP.dmul (g m) (pN h m)) (drV h P g m)) ≤ dm FP.dconst1 := by
    refine ddiv_mle b1.F d1.F hdp d1_F.nn ?_
    rw [d1_m]
    show _ * U1 ≤ _
    rw [Nat.mul_comm U1]
    exact Nat.mul_le_mul_right _ hle
  rw [d1_m] at hm2
  have hB : Bd 13 (FP.ddiv (FP.dmul (g m) (pN h m)) (drV h P g m)) := b1.div (j := 3) d1.F hd (by decide)
  exact ⟨b1, ⟨hB.F, by rw [Nat.pow_zero, Nat.one_mul]; exact hm2⟩, (ddiv_sg b1.F d1.F (by omega)).1 p0⟩
theorem clG_ok {h : Ph} (hF : PhF h) {P g : Nat → UInt64} (hP : ∀ j, j < 10 → okP (P j)) (hg : ∀ m, m < pM h → okG (g m)) : ∀ n, n ≤ pM h → ∀ m, m < pM h → okG (clG h P g n m)
  | 0, _ => hg
  | n + 1, hn => by
    intro m hm
    have ih := clG_ok hF hP hg n (by omega)
    show okG ((if ovr h P g n then vf_upd (clG h P g n) n _ else clG h P g n) m)
    cases ho : ovr h P g n with
    | false => exact ih m hm
    | true =>
      show okG (vf_upd (clG h P g n) n _ m)
      unfold vf_upd
      split
      · unfold ovr at ho
        rw [Bool.and_eq_true] at ho
        exact (ovr_ok hF hP hg (by omega) (of_decide_eq_true ho.2)).2
      · exact ih m hm
/-- a gate that is not yet reached is as it was -/
theorem clG_at {h : Ph} {P g : Nat → UInt64} : ∀ n m, n ≤ m → clG h P g n m = g m
  | 0, _, _ => rfl
  | n + 1, m, hm => by
    show (if ovr h P g n then vf_upd (clG h P g n) n _ else clG h P g n) m = g m
    split
    · rw [vf_ne (by omega)]; exact clG_at n m (by omega)
    · exact clG_at n m (by omega)
/-! eases -/
theorem eas_ok {w l : UInt64} (hw : okW w) (hl : okW l) : Bd 14 (FP.dmul w w) ∧ Bd 21 (FP.dmul (FP.dmul w w) w) ∧ okE (eas w l) ∧ U1 ≤ 2 ^ 6 * dm (FP.dmul w w) ∧ 0 ≤ dv (FP.dmul w w) := by
  have b1 : Bd 14 (FP.dmul w w) := hw.1.mul hw.1 (by decide)
  have b2 : Bd 21 (FP.dmul (FP.dmul w w) w) := b1.mul hw.1 (by decide)
  have i3 : dv 4593671619917905920 = dv 4593671619917905920 ∧ 2 ^ 3 * dm 4593671619917905920 = U1 := ⟨rfl, by decide +kernel⟩
  have lowmul : ∀ {x y v : UInt64} (a b c : Nat), dF x → dF y → 0 ≤ dv x → 0 ≤ dv y → dN v → 0 ≤ dv v → U1 ≤ 2 ^ a * dm x → U1 ≤ 2 ^ b * dm y → a + b = c → 2 ^ c * dm v = U1 → dv v ≤ dv (FP.dmul x y) := by
    intro x y v a b c hx hy x0 y0 hv v0 h1 h2 hc h3
    subst hc
    refine dmul_ge hx hy hv ?_
    rw [dv_pos x0, dv_pos y0, dv_pos v0, ← Int.natCast_mul, ← Int.natCast_mul]
    refine Int.ofNat_le.mpr ?_
    show dm v * U1 ≤ _
    refine Nat.le_of_mul_le_mul_left ?_ (Nat.two_pow_pos (a + b))
    calc 2 ^ (a + b) * (dm v * U1) = U1 * U1 := by rw [← Nat.mul_assoc, h3]
      _ ≤ 2 ^ a * dm x * (2 ^ b * dm y) := Nat.mul_le_mul h1 h2
      _ = 2 ^ (a + b) * (dm x * dm y) := by rw [Nat.pow_add]; generalize U1 = u; ac_rfl
  have v6 : dN 4580160821035794432 ∧ 0 ≤ dv 4580160821035794432 ∧ 2 ^ 6 * dm 4580160821035794432 = U1 := by decide +kernel
  have v9 : dN 4566650022153682944 ∧ 0 ≤ dv 4566650022153682944 ∧ 2 ^ 9 * dm 4566650022153682944 = U1 := by decide +kernel
  have g1 := lowmul 3 3 6 hw.1.F hw.1.F hw.2.2 hw.2.2 v6.1 v6.2.1 hw.2.1 hw.2.1 rfl v6.2.2
  have p1 : 0 ≤ dv (FP.dmul w w) := Int.le_trans v6.2.1 g1
  have q1 : U1 ≤ 2 ^ 6 * dm (FP.dmul w w) := by
    have := dv_abs (FP.dmul w w); have := dv_abs 4580160821035794432; have := v6.2.2
    omega
  have g2 := lowmul 6 3 9 b1.F hw.1.F p1 hw.2.2 v9.1 v9.2.1 q1 hw.2.1 rfl v9.2.2
  have p2 : 0 ≤ dv (FP.dmul (FP.dmul w w) w) := Int.le_trans v9.2.1 g2
  have q2 : U1 ≤ 2 ^ 9 * dm (FP.dmul (FP.dmul w w) w) := by
    have := dv_abs (FP.dmul (FP.dmul w w) w); have := dv_abs 4566650022153682944; have := v9.2.2
    omega
  have b3 : Bd 24 (eas w l) := b2.div (j := 3) hl.1.F hl.2.1 (by decide)
  have hl0 : 0 < dm l := Nat.pos_of_ne_zero (fun h0 => by have h9 := hl.2.1; rw [h0, Nat.mul_zero] at h9; exact absurd U1_pos (by omega))
  have hlv : 0 < dv l := by have := dv_abs l; have := hl.2.2; omega
  have v16 : dN 4535124824762089472 ∧ 2 ^ 16 * dm 4535124824762089472 = U1 := by decide +kernel
  have g3 : dm 4535124824762089472 ≤ dm (eas w l) := by
    refine ddiv_mge b2.F hl.1.F hl0 ?_
    show _ ≤ _ * U1
    refine Nat.le_of_mul_le_mul_left ?_ (Nat.two_pow_pos 16)
    calc 2 ^ 16 * (dm 4535124824762089472 * dm l) = U1 * dm l := by rw [← Nat.mul_assoc, v16.2]
      _ ≤ U1 * (2 ^ 7 * U1) := Nat.mul_le_mul_left _ hl.1.2
      _ = U1 * 2 ^ 7 * U1 := by generalize U1 = u; ac_rfl
      _ ≤ 2 ^ 9 * dm (FP.dmul (FP.dmul w w) w) * 2 ^ 7 * U1 := Nat.mul_le_mul_right _ (Nat.mul_le_mul_right _ q2)
      _ = 2 ^ 16 * (dm (FP.dmul (FP.dmul w w) w) * U1) := by rw [show (2 : Nat) ^ 16 = 2 ^ 9 * 2 ^ 7 by decide +kernel]; generalize U1 = u; ac_rfl
  have s3 := (ddiv_sg b2.F hl.1.F hlv).1 p2
  have e9 := dv_abs (eas w l)
  have u9 := U1_pos
  have w9 := v16.2
  refine ⟨b1, b2, ⟨b3, ?_⟩, q1, p1⟩
  have : 0 ≤ dv (eas w l) := s3
  omega
end
section
/-! the class: its words for the state, its leaves -/
def phC (σ : gS) : Ph := (tn (sN σ 2), tn (sN σ 3), fun d => tn (sI σ 9 d), fun d => tn (sI σ 10 d), fun d => eas (sF σ 12 d) (sF σ 11 d), fun m => tn (sI σ 16 m), fun m => decide (¬ sI σ 19 m = 0), sF σ 17, sD σ 0, sD σ 1)
def cntC (σ : gS) (j : Nat) : Nat := ctF (atj (phC σ) j) (pD (phC σ))
def duC (σ : gS) (j t : Nat) : Nat := tn (sI σ (45 + j) t)
/-- the class's whole numbers stand -/
def Wc (σ : gS) : Prop := sN σ 2 = nI (pD (phC σ)) ∧ pD (phC σ) ≤ 16 ∧ sN σ 3 = nI (pM (phC σ)) ∧ pM (phC σ) ≤ 8 ∧
  (∀ d, d < pD (phC σ) → (sI σ 9 d = nI (pA (phC σ) d) ∧ pA (phC σ) d < 10) ∧ (sI σ 10 d = nI (pB (phC σ) d) ∧ pB (phC σ) d < 10) ∧ pA (phC σ) d ≠ pB (phC σ) d) ∧
  (∀ m, m < pM (phC σ) → sI σ 16 m = nI (pJ (phC σ) m) ∧ pJ (phC σ) m < 10 ∧ pJ (phC σ) m ≠ 0) ∧
  (∀ j, j < 10 → sI σ 15 j = nI (cntC σ j) ∧ ∀ d, d < pD (phC σ) → atj (phC σ) j d = true → sI σ (45 + j) (ctF (atj (phC σ) j) d) = nI d)
theorem Wc.nd {σ : gS} (h : Wc σ) : sN σ 2 = nI (pD (phC σ)) := h.1
theorem Wc.nd16 {σ : gS} (h : Wc σ) : pD (phC σ) ≤ 16 := h.2.1
theorem Wc.nm {σ : gS} (h : Wc σ) : sN σ 3 = nI (pM (phC σ)) := h.2.2.1
theorem Wc.nm8 {σ : gS} (h : Wc σ) : pM (phC σ) ≤ 8 := h.2.2.2.1
theorem Wc.fr {σ : gS} (h : Wc σ) {d : Nat} (hd : d < pD (phC σ)) : sI σ 9 d = nI (pA (phC σ) d) ∧ pA (phC σ) d < 10 := (h.2.2.2.2.1 d hd).1
theorem Wc.to {σ : gS} (h : Wc σ) {d : Nat} (hd : d < pD (phC σ)) : sI σ 10 d = nI (pB (phC σ) d) ∧ pB (phC σ) d < 10 := (h.2.2.2.2.1 d hd).2.1
theorem Wc.mj {σ : gS} (h : Wc σ) {m : Nat} (hm : m < pM (phC σ)) : sI σ 16 m = nI (pJ (phC σ) m) ∧ pJ (phC σ) m < 10 ∧ pJ (phC σ) m ≠ 0 := h.2.2.2.2.2.1 m hm
theorem Wc.ct {σ : gS} (h : Wc σ) {j : Nat} (hj : j < 10) : sI σ 15 j = nI (cntC σ j) := (h.2.2.2.2.2.2 j hj).1
theorem cntC_le {σ : gS} (h : Wc σ) (j : Nat) : cntC σ j ≤ 16 := Nat.le_trans (ctF_le _ _) h.nd16
theorem Wc.du {σ : gS} (h : Wc σ) {j : Nat} (hj : j < 10) : ∀ d, d < pD (phC σ) → atj (phC σ) j d = true → duC σ j (ctF (atj (phC σ) j) d) = d := by
  intro d hd ha
  unfold duC
  rw [(h.2.2.2.2.2.2 j hj).2 d hd ha]
  exact tn_nI (by have := h.nd16; omega)
theorem Wc.row {σ : gS} (h : Wc σ) {j t : Nat} (hj : j < 10) (ht : t < cntC σ j) : sI σ (45 + j) t = nI (duC σ j t) ∧ duC σ j t < pD (phC σ) ∧ atj (phC σ) j (duC σ j t) = true := by
  obtain ⟨h1, h2, h3⟩ := du_at (h.du hj) t ht
  refine ⟨?_, h1, h2⟩
  have h4 := (h.2.2.2.2.2.2 j hj).2 (duC σ j t) h1 h2
  rw [h3] at h4
  exact h4
def Ec (σ : gS) : Prop := ∀ d, d < pD (phC σ) → sF σ 13 d = pE (phC σ) d
def Pc_ (σ : gS) : Prop := ∀ j, j < 10 → okP (sF σ 7 j)
def Gc_ (σ : gS) : Prop := ∀ m, m < pM (phC σ) → okG (sF σ 18 m)
def flw (h : Ph) (P : Nat → UInt64) (d : Nat) : UInt64 := FP.dmul (pE h d) (FP.dsub (P (pA h d)) (P (pB h d)))

set_option maxHeartbeats 4000000 in
set_option maxRecDepth 100000 in
theorem kX6_magnitude (l : Launch) (K : gK) (hD : gD K) (σ : gS) (x : UInt64) : Ct l yX6_magnitude wsX6_magnitude { frames := 0, cells := 0, slots := 0, locals := 0 } K [.double x] σ (fun r t => r = some (.double (mg x)) ∧ t = σ) := by
  refine Ct.of hD (by decide) rfl (Nat.le_of_ble_eq_true rfl) ?_
  intro X hL hK hF C
  subst hL; subst hK
  refine g_eq (σ2 := σ) (lv2 := [(0, .double x)]) (st2 := []) rfl rfl rfl ?_
  refine g_dload_n C dX6_magnitude_0 0 rfl rfl ?_
  refine g_dconst0 C dX6_magnitude_1 ?_
  refine g_dcmp C dX6_magnitude_2 ?_
  refine g_if_ge (tgt := 11) C dX6_magnitude_3 (by decide) (fun c_3 => ?_) (fun c_3 => ?_)
  · refine g_dload_n C dX6_magnitude_11 0 rfl rfl ?_
    refine g_dret C dX6_magnitude_12 rfl ⟨Nat.le_of_ble_eq_true rfl, Nat.le_of_ble_eq_true rfl⟩ ?_
    rw [hF]
    exact ⟨by unfold mg; first | rw [if_pos (by assumption)] | rw [if_neg (by assumption)], rfl⟩
  · refine g_dload_n C dX6_magnitude_6 0 rfl rfl ?_
    refine g_dneg C dX6_magnitude_7 ?_
    refine g_goto (tgt := 12) C dX6_magnitude_8 (by decide) ?_
    refine g_dret C dX6_magnitude_12 rfl ⟨Nat.le_of_ble_eq_true rfl, Nat.le_of_ble_eq_true rfl⟩ ?_
    rw [hF]
    exact ⟨by unfold mg; first | rw [if_pos (by assumption)] | rw [if_neg (by assumption)], rfl⟩

set_option maxHeartbeats 4000000 in
set_option maxRecDepth 100000 in
theorem kX6_notBelowZero (l : Launch) (K : gK) (hD : gD K) (σ : gS) (x : UInt64) : Ct l yX6_notBelowZero wsX6_notBelowZero { frames := 0, cells := 0, slots := 0, locals := 0 } K [.double x] σ (fun r t => r = some (.double (nb x)) ∧ t = σ) := by
  refine Ct.of hD (by decide) rfl (Nat.le_of_ble_eq_true rfl) ?_
  intro X hL hK hF C
  subst hL; subst hK
  refine g_eq (σ2 := σ) (lv2 := [(0, .double x)]) (st2 := []) rfl rfl rfl ?_
  refine g_dload_n C dX6_notBelowZero_0 0 rfl rfl ?_
  refine g_dconst0 C dX6_notBelowZero_1 ?_
  refine g_dcmp C dX6_notBelowZero_2 ?_
  refine g_if_ge (tgt := 10) C dX6_notBelowZero_3 (by decide) (fun c_3 => ?_) (fun c_3 => ?_)
  · refine g_dload_n C dX6_notBelowZero_10 0 rfl rfl ?_
    refine g_dret C dX6_notBelowZero_11 rfl ⟨Nat.le_of_ble_eq_true rfl, Nat.le_of_ble_eq_true rfl⟩ ?_
    rw [hF]
    exact ⟨by unfold nb; first | rw [if_pos (by assumption)] | rw [if_neg (by assumption)], rfl⟩
  · refine g_dconst0 C dX6_notBelowZero_6 ?_
    refine g_goto (tgt := 11) C dX6_notBelowZero_7 (by decide) ?_
    refine g_dret C dX6_notBelowZero_11 rfl ⟨Nat.le_of_ble_eq_true rfl, Nat.le_of_ble_eq_true rfl⟩ ?_
    rw [hF]
    exact ⟨by unfold nb; first | rw [if_pos (by assumption)] | rw [if_neg (by assumption)], rfl⟩

theorem inX4_isOpenAt_X4 : ∀ w ∈ u_ws RX4 TX4 6, w ∈ wsX4_isOpenAt := by decide +kernel
set_option maxHeartbeats 4000000 in
set_option maxRecDepth 100000 in
theorem kX4_isOpenAt (l : Launch) (K : gK) (hD : gD K) (σ : gS) (hW : Wc σ) {m j : Nat} (hm : m < pM (phC σ)) (hj : j < 10) : Ct l yX4_isOpenAt wsX4_isOpenAt { frames := 0, cells := 0, slots := 0, locals := 0 } K [.ref (K.2.2 3), .int (nI m), .int (nI j)] σ (fun r t => r = some (.int (bI (opAt (phC σ) j m))) ∧ t = σ) := by
  refine Ct.of hD (by decide) rfl (Nat.le_of_ble_eq_true rfl) ?_
  intro X hL hK hF C
  subst hL; subst hK
  refine g_eq (σ2 := σ) (lv2 := [(0, .ref ((xK X).2.2 3)), (1, .int (nI m)), (2, .int (nI j))]) (st2 := []) rfl rfl rfl ?_
  have h8 : m < 8 := by have := hW.nm8; omega
  refine g_aload_n C dX4_isOpenAt_0 0 rfl rfl ?_
  refine g_get C dX4_isOpenAt_1 wl3 rfl 4 (by decide) 1 rfl rfl rfl inX4_isOpenAt_X4 ?_
  refine g_iload_n C dX4_isOpenAt_4 1 rfl rfl ?_
  refine g_zald (j := m) C dX4_isOpenAt_5 wl19 rfl (by omega) (by decide) ?_
  refine g_if_eq (tgt := 23) C dX4_isOpenAt_6 (by decide) (fun c_6 => ?_) (fun c_6 => ?_)
  · refine g_iconst (v := nI 0) C dX4_isOpenAt_23 (by decide +kernel) ?_
    refine g_zret C dX4_isOpenAt_24 rfl rfl ⟨Nat.le_of_ble_eq_true rfl, Nat.le_of_ble_eq_true rfl⟩ ?_
    rw [hF]
    refine ⟨?_, rfl⟩
    have hh := (hW.mj hm).1
    have hk := (hW.mj hm).2.1
    have ho : pO (phC σ) m = decide (¬ sI σ 19 m = 0) := rfl
    unfold opAt
    rw [ho]
    simp_all [bI, nI_eq (show pJ (phC σ) m < 2 ^ 31 by omega) (show j < 2 ^ 31 by omega)]
  · refine g_aload_n C dX4_isOpenAt_9 0 rfl rfl ?_
    refine g_get C dX4_isOpenAt_10 wl3 rfl 1 (by decide) 2 rfl rfl rfl inX4_isOpenAt_X4 ?_
    refine g_iload_n C dX4_isOpenAt_13 1 rfl rfl ?_
    refine g_iald (j := m) C dX4_isOpenAt_14 wl16 rfl (by omega) (by decide) ?_
    refine g_iload_n C dX4_isOpenAt_15 2 rfl rfl ?_
    refine g_icmp_ne (tgt := 23) C dX4_isOpenAt_16 (by decide) (fun c_16 => ?_) (fun c_16 => ?_)
    · refine g_iconst (v := nI 0) C dX4_isOpenAt_23 (by decide +kernel) ?_
      refine g_zret C dX4_isOpenAt_24 rfl rfl ⟨Nat.le_of_ble_eq_true rfl, Nat.le_of_ble_eq_true rfl⟩ ?_
      rw [hF]
      refine ⟨?_, rfl⟩
      have hh := (hW.mj hm).1
      have hk := (hW.mj hm).2.1
      have ho : pO (phC σ) m = decide (¬ sI σ 19 m = 0) := rfl
      unfold opAt
      rw [ho]
      simp_all [bI, nI_eq (show pJ (phC σ) m < 2 ^ 31 by omega) (show j < 2 ^ 31 by omega)]
    · refine g_iconst (v := nI 1) C dX4_isOpenAt_19 (by decide +kernel) ?_
      refine g_goto (tgt := 24) C dX4_isOpenAt_20 (by decide) ?_
      refine g_zret C dX4_isOpenAt_24 rfl rfl ⟨Nat.le_of_ble_eq_true rfl, Nat.le_of_ble_eq_true rfl⟩ ?_
      rw [hF]
      refine ⟨?_, rfl⟩
      have hh := (hW.mj hm).1
      have hk := (hW.mj hm).2.1
      have ho : pO (phC σ) m = decide (¬ sI σ 19 m = 0) := rfl
      unfold opAt
      rw [ho]
      simp_all [bI, nI_eq (show pJ (phC σ) m < 2 ^ 31 by omega) (show j < 2 ^ 31 by omega)]

theorem inX1_otherEnd_X1 : ∀ w ∈ u_ws RX1 TX1 8, w ∈ wsX1_otherEnd := by decide +kernel
set_option maxHeartbeats 4000000 in
set_option maxRecDepth 100000 in
theorem kX1_otherEnd (l : Launch) (K : gK) (hD : gD K) (σ : gS) (hW : Wc σ) {d j : Nat} (hd : d < pD (phC σ)) (hj : j < 10) : Ct l yX1_otherEnd wsX1_otherEnd { frames := 0, cells := 0, slots := 0, locals := 0 } K [.ref (K.2.2 2), .int (nI d), .int (nI j)] σ (fun r t => r = some (.int (nI (oth (phC σ) j d))) ∧ t = σ) := by
  refine Ct.of hD (by decide) rfl (Nat.le_of_ble_eq_true rfl) ?_
  intro X hL hK hF C
  subst hL; subst hK
  refine g_eq (σ2 := σ) (lv2 := [(0, .ref ((xK X).2.2 2)), (1, .int (nI d)), (2, .int (nI j))]) (st2 := []) rfl rfl rfl ?_
  have h16 : d < 16 := by have := hW.nd16; omega
  refine g_aload_n C dX1_otherEnd_0 0 rfl rfl ?_
  refine g_get C dX1_otherEnd_1 wl2 rfl 1 (by decide) 1 rfl rfl rfl inX1_otherEnd_X1 ?_
  refine g_iload_n C dX1_otherEnd_4 1 rfl rfl ?_
  refine g_iald (j := d) C dX1_otherEnd_5 wl9 rfl (by omega) (by decide) ?_
  refine g_iload_n C dX1_otherEnd_6 2 rfl rfl ?_
  refine g_icmp_ne (tgt := 19) C dX1_otherEnd_7 (by decide) (fun c_7 => ?_) (fun c_7 => ?_)
  · refine g_aload_n C dX1_otherEnd_19 0 rfl rfl ?_
    refine g_get C dX1_otherEnd_20 wl2 rfl 1 (by decide) 1 rfl rfl rfl inX1_otherEnd_X1 ?_
    refine g_iload_n C dX1_otherEnd_23 1 rfl rfl ?_
    refine g_iald (j := d) C dX1_otherEnd_24 wl9 rfl (by omega) (by decide) ?_
    refine g_iret C dX1_otherEnd_25 rfl ⟨Nat.le_of_ble_eq_true rfl, Nat.le_of_ble_eq_true rfl⟩ ?_
    rw [hF]
    refine ⟨?_, rfl⟩
    have h1 := (hW.fr hd).1
    have h2 := (hW.to hd).1
    have h3 := (hW.fr hd).2
    unfold oth
    first
      | rw [if_pos (by simp_all [nI_eq (show pA (phC σ) d < 2 ^ 31 by omega) (show j < 2 ^ 31 by omega)]), h2]
      | rw [if_neg (by simp_all [nI_eq (show pA (phC σ) d < 2 ^ 31 by omega) (show j < 2 ^ 31 by omega)]), h1]
  · refine g_aload_n C dX1_otherEnd_10 0 rfl rfl ?_
    refine g_get C dX1_otherEnd_11 wl2 rfl 2 (by decide) 2 rfl rfl rfl inX1_otherEnd_X1 ?_
    refine g_iload_n C dX1_otherEnd_14 1 rfl rfl ?_
    refine g_iald (j := d) C dX1_otherEnd_15 wl10 rfl (by omega) (by decide) ?_
    refine g_goto (tgt := 25) C dX1_otherEnd_16 (by decide) ?_
    refine g_iret C dX1_otherEnd_25 rfl ⟨Nat.le_of_ble_eq_true rfl, Nat.le_of_ble_eq_true rfl⟩ ?_
    rw [hF]
    refine ⟨?_, rfl⟩
    have h1 := (hW.fr hd).1
    have h2 := (hW.to hd).1
    have h3 := (hW.fr hd).2
    unfold oth
    first
      | rw [if_pos (by simp_all [nI_eq (show pA (phC σ) d < 2 ^ 31 by omega) (show j < 2 ^ 31 by omega)]), h2]
      | rw [if_neg (by simp_all [nI_eq (show pA (phC σ) d < 2 ^ 31 by omega) (show j < 2 ^ 31 by omega)]), h1]

theorem inX2_hold_X2 : ∀ w ∈ u_ws RX2 TX2 3, w ∈ wsX2_hold := by decide +kernel
set_option maxHeartbeats 4000000 in
set_option maxRecDepth 100000 in
theorem kX2_hold (l : Launch) (K : gK) (hD : gD K) (σ : gS) (hp : PhF (phC σ)) (hq : okQ (sD σ 2)) : Ct l yX2_hold wsX2_hold { frames := 0, cells := 0, slots := 0, locals := 0 } K [.ref (K.2.2 6)] σ (fun r t => r = some (.double (na (hldV (phC σ) (sD σ 2)))) ∧ t = σ) := by
  refine Ct.of hD (by decide) rfl (Nat.le_of_ble_eq_true rfl) ?_
  intro X hL hK hF C
  subst hL; subst hK
  refine g_eq (σ2 := σ) (lv2 := [(0, .ref ((xK X).2.2 6))]) (st2 := []) rfl rfl rfl ?_
  refine g_dconst0 C dX2_hold_0 ?_
  refine g_aload_n C dX2_hold_1 0 rfl rfl ?_
  refine g_get C dX2_hold_2 wl6 rfl 0 (by decide) 1 rfl rfl rfl inX2_hold_X2 ?_
  refine g_aload_n C dX2_hold_5 0 rfl rfl ?_
  refine g_get C dX2_hold_6 wl6 rfl 1 (by decide) 2 rfl rfl rfl inX2_hold_X2 ?_
  refine g_aload_n C dX2_hold_9 0 rfl rfl ?_
  refine g_get C dX2_hold_10 wl6 rfl 2 (by decide) 3 rfl rfl rfl inX2_hold_X2 ?_
  refine g_dmul C dX2_hold_13 ((hld_ok hp hq).1.F.ok) ?_
  refine g_dsub C dX2_hold_14 ((hld_ok hp hq).2.1.F.ok) ?_
  refine g_dsub C dX2_hold_15 ((hld_ok hp hq).2.2.1.F.ok) ?_
  refine g_dstore_n (lv' := [(1, .double (FP.dsub FP.dconst0 (FP.dsub (sD σ 0) (FP.dmul (sD σ 1) (sD σ 2))))), (0, .ref ((xK X).2.2 6))]) C dX2_hold_16 rfl (by decide) rfl ?_
  refine g_dload_n C dX2_hold_17 0 rfl rfl ?_
  refine g_dconst0 C dX2_hold_18 ?_
  refine g_dcmp C dX2_hold_19 ?_
  refine g_if_le (tgt := 27) C dX2_hold_20 (by decide) (fun c_20 => ?_) (fun c_20 => ?_)
  · refine g_dload_n C dX2_hold_27 0 rfl rfl ?_
    refine g_dret C dX2_hold_28 rfl ⟨Nat.le_of_ble_eq_true rfl, Nat.le_of_ble_eq_true rfl⟩ ?_
    rw [hF]
    exact ⟨by unfold na; first | rw [if_pos (by assumption)]; rfl | rw [if_neg (by assumption)], rfl⟩
  · refine g_dconst0 C dX2_hold_23 ?_
    refine g_goto (tgt := 28) C dX2_hold_24 (by decide) ?_
    refine g_dret C dX2_hold_28 rfl ⟨Nat.le_of_ble_eq_true rfl, Nat.le_of_ble_eq_true rfl⟩ ?_
    rw [hF]
    exact ⟨by unfold na; first | rw [if_pos (by assumption)]; rfl | rw [if_neg (by assumption)], rfl⟩

theorem inX0_flow_X0 : ∀ w ∈ u_ws RX0 TX0 5, w ∈ wsX0_flow := by decide +kernel
theorem inX0_flow_X1 : ∀ w ∈ u_ws RX1 TX1 8, w ∈ wsX0_flow := by decide +kernel
set_option maxHeartbeats 4000000 in
set_option maxRecDepth 100000 in
theorem kX0_flow (l : Launch) (K : gK) (hD : gD K) (σ : gS) (hW : Wc σ) (hE : Ec σ) (hp : PhF (phC σ)) (hP : Pc_ σ) {d : Nat} (hd : d < pD (phC σ)) : Ct l yX0_flow wsX0_flow { frames := 0, cells := 0, slots := 0, locals := 0 } K [.ref (K.2.2 1), .int (nI d)] σ (fun r t => r = some (.double (flw (phC σ) (sF σ 7) d)) ∧ t = σ) := by
  refine Ct.of hD (by decide) rfl (Nat.le_of_ble_eq_true rfl) ?_
  intro X hL hK hF C
  subst hL; subst hK
  refine g_eq (σ2 := σ) (lv2 := [(0, .ref ((xK X).2.2 1)), (1, .int (nI d))]) (st2 := []) rfl rfl rfl ?_
  have h16 : d < 16 := by have := hW.nd16; omega
  refine g_aload_n C dX0_flow_0 0 rfl rfl ?_
  refine g_get C dX0_flow_1 wl1 rfl 0 (by decide) 1 rfl rfl rfl inX0_flow_X0 ?_
  refine g_get C dX0_flow_4 wl2 rfl 5 (by decide) 2 rfl rfl rfl inX0_flow_X1 ?_
  refine g_iload_n C dX0_flow_7 1 rfl rfl ?_
  refine g_dald (j := d) C dX0_flow_8 wl13 rfl (by omega) (by decide) ?_
  refine g_topd (y := pE (phC σ) d) (hE d hd) ?_
  refine g_aload_n C dX0_flow_9 0 rfl rfl ?_
  refine g_get C dX0_flow_10 wl1 rfl 3 (by decide) 3 rfl rfl rfl inX0_flow_X0 ?_
  refine g_aload_n C dX0_flow_13 0 rfl rfl ?_
  refine g_get C dX0_flow_14 wl1 rfl 0 (by decide) 1 rfl rfl rfl inX0_flow_X0 ?_
  refine g_get C dX0_flow_17 wl2 rfl 1 (by decide) 4 rfl rfl rfl inX0_flow_X1 ?_
  refine g_iload_n C dX0_flow_20 1 rfl rfl ?_
  refine g_iald (j := d) C dX0_flow_21 wl9 rfl (by omega) (by decide) ?_
  refine g_dald (j := pA (phC σ) d) C dX0_flow_22 wl7 ((hW.fr hd).1) ((hW.fr hd).2) (by decide) ?_
  refine g_aload_n C dX0_flow_23 0 rfl rfl ?_
  refine g_get C dX0_flow_24 wl1 rfl 3 (by decide) 3 rfl rfl rfl inX0_flow_X0 ?_
  refine g_aload_n C dX0_flow_27 0 rfl rfl ?_
  refine g_get C dX0_flow_28 wl1 rfl 0 (by decide) 1 rfl rfl rfl inX0_flow_X0 ?_
  refine g_get C dX0_flow_31 wl2 rfl 2 (by decide) 5 rfl rfl rfl inX0_flow_X1 ?_
  refine g_iload_n C dX0_flow_34 1 rfl rfl ?_
  refine g_iald (j := d) C dX0_flow_35 wl10 rfl (by omega) (by decide) ?_
  refine g_dald (j := pB (phC σ) d) C dX0_flow_36 wl7 ((hW.to hd).1) ((hW.to hd).2) (by decide) ?_
  refine g_dsub C dX0_flow_37 ((flo_s (h := phC σ) hP (hW.fr hd).2 (hW.to hd).2).F.ok) ?_
  refine g_dmul C dX0_flow_38 ((flo_g hp hP hd (hW.fr hd).2 (hW.to hd).2).F.ok) ?_
  refine g_dret C dX0_flow_39 rfl ⟨Nat.le_of_ble_eq_true rfl, Nat.le_of_ble_eq_true rfl⟩ ?_
  rw [hF]
  exact ⟨rfl, rfl⟩

def spd (h : Ph) (P w : Nat → UInt64) (d : Nat) : UInt64 := FP.ddiv (mg (flw h P d)) (FP.dmul (w d) (w d))

theorem spd_ok {h : Ph} (hp : PhF h) {P w : Nat → UInt64} (hP : ∀ j, j < 10 → okP (P j)) {d : Nat} (hd : d < pD h) (hw : okW (w d)) : Bd 14 (FP.dmul (w d) (w d)) ∧ Bd 41 (spd h P w d) := by
  have h1 := eas_ok hw hw
  exact ⟨h1.1, (mg_B (flo_g hp hP hd (hp.2.2.1 d hd).2.1 (hp.2.2.1 d hd).2.2)).1.div (j := 6) h1.1.F h1.2.2.2.1 (by decide)⟩

theorem inX0_speed_X0 : ∀ w ∈ u_ws RX0 TX0 5, w ∈ wsX0_speed := by decide +kernel
theorem inX0_speed_X1 : ∀ w ∈ u_ws RX1 TX1 8, w ∈ wsX0_speed := by decide +kernel
set_option maxHeartbeats 4000000 in
set_option maxRecDepth 100000 in
theorem kX0_speed (l : Launch) (K : gK) (hD : gD K) (σ : gS) (hW : Wc σ) (hE : Ec σ) (hp : PhF (phC σ)) (hP : Pc_ σ) {d : Nat} (hd : d < pD (phC σ)) (hok : okW (sF σ 12 d)) : Ct l yX0_speed wsX0_speed { frames := 1, cells := 0, slots := 0, locals := 21 } K [.ref (K.2.2 1), .int (nI d)] σ (fun r t => r = some (.double (spd (phC σ) (sF σ 7) (sF σ 12) d)) ∧ t = σ) := by
  refine Ct.of hD (by decide) rfl (Nat.le_of_ble_eq_true rfl) ?_
  intro X hL hK hF C
  subst hL; subst hK
  refine g_eq (σ2 := σ) (lv2 := [(0, .ref ((xK X).2.2 1)), (1, .int (nI d))]) (st2 := []) rfl rfl rfl ?_
  have h16 : d < 16 := by have := hW.nd16; omega
  have hw := spd_ok hp hP (w := sF σ 12) hd hok
  refine g_aload_n C dX0_speed_0 0 rfl rfl ?_
  refine g_iload_n C dX0_speed_1 1 rfl rfl ?_
  refine g_callV (As := [.int (nI d)]) (rest := []) C dX0_speed_2 (kX0_flow (xl X) (xK X) C.hD σ hW hE hp hP hd) wl1 rfl 1 gX0_speed_X0_flow rfl (by decide +kernel) ⟨Nat.le_of_ble_eq_true rfl, Nat.le_of_ble_eq_true rfl⟩ ⟨Nat.le_of_ble_eq_true rfl, Nat.le_of_ble_eq_true rfl⟩ rfl rfl (Nat.le_of_ble_eq_true rfl) (fun rv9 σ9 h9 => ?_)
  obtain ⟨h9a, h9b⟩ := h9
  refine g_eq (σ2 := σ) (lv2 := [(0, .ref ((xK X).2.2 1)), (1, .int (nI d))]) (st2 := [.double (flw (phC σ) (sF σ 7) d)]) h9b rfl (by rw [h9a]; rfl) ?_
  refine g_callSN (As := [.double (flw (phC σ) (sF σ 7) d)]) (rest := []) C dX0_speed_5 (kX6_magnitude (xl X) (xK X) C.hD σ _) 1 gX0_speed_X6_magnitude_n98 rfl 0 rfl 13 rfl 12 rfl (by decide +kernel) ⟨Nat.le_of_ble_eq_true rfl, Nat.le_of_ble_eq_true rfl⟩ ⟨Nat.le_of_ble_eq_true rfl, Nat.le_of_ble_eq_true rfl⟩ rfl rfl (Nat.le_of_ble_eq_true rfl) (fun rv9 σ9 h9 => ?_)
  obtain ⟨h9a, h9b⟩ := h9
  refine g_eq (σ2 := σ) (lv2 := [(0, .ref ((xK X).2.2 1)), (1, .int (nI d))]) (st2 := [.double (mg (flw (phC σ) (sF σ 7) d))]) h9b rfl (by rw [h9a]; rfl) ?_
  refine g_aload_n C dX0_speed_8 0 rfl rfl ?_
  refine g_get C dX0_speed_9 wl1 rfl 0 (by decide) 1 rfl rfl rfl inX0_speed_X0 ?_
  refine g_get C dX0_speed_12 wl2 rfl 4 (by decide) 2 rfl rfl rfl inX0_speed_X1 ?_
  refine g_iload_n C dX0_speed_15 1 rfl rfl ?_
  refine g_dald (j := d) C dX0_speed_16 wl12 rfl (by omega) (by decide) ?_
  refine g_aload_n C dX0_speed_17 0 rfl rfl ?_
  refine g_get C dX0_speed_18 wl1 rfl 0 (by decide) 1 rfl rfl rfl inX0_speed_X0 ?_
  refine g_get C dX0_speed_21 wl2 rfl 4 (by decide) 2 rfl rfl rfl inX0_speed_X1 ?_
  refine g_iload_n C dX0_speed_24 1 rfl rfl ?_
  refine g_dald (j := d) C dX0_speed_25 wl12 rfl (by omega) (by decide) ?_
  refine g_dmul C dX0_speed_26 hw.1.F.ok ?_
  refine g_ddiv C dX0_speed_27 hw.2.F.ok ?_
  refine g_dret C dX0_speed_28 rfl ⟨Nat.le_of_ble_eq_true rfl, Nat.le_of_ble_eq_true rfl⟩ ?_
  rw [hF]
  exact ⟨rfl, rfl⟩

theorem inX0_pull_X0 : ∀ w ∈ u_ws RX0 TX0 5, w ∈ wsX0_pull := by decide +kernel
theorem inX0_pull_X1 : ∀ w ∈ u_ws RX1 TX1 8, w ∈ wsX0_pull := by decide +kernel
set_option maxHeartbeats 4000000 in
set_option maxRecDepth 100000 in
theorem kX0_pull (l : Launch) (K : gK) (hD : gD K) (σ : gS) (hW : Wc σ) (hE : Ec σ) (hp : PhF (phC σ)) (hP : Pc_ σ) {j : Nat} (hj : j < 10) : Ct l yX0_pull wsX0_pull { frames := 1, cells := 0, slots := 0, locals := 22 } K [.ref (K.2.2 1), .int (nI j)] σ (fun r t => r = some (.double (pulV (phC σ) (sF σ 7) j)) ∧ t = σ) := by
  refine Ct.of hD (by decide) rfl (Nat.le_of_ble_eq_true rfl) ?_
  intro X hL hK hF C
  subst hL; subst hK
  refine g_eq (σ2 := σ) (lv2 := [(0, .ref ((xK X).2.2 1)), (1, .int (nI j))]) (st2 := []) rfl rfl rfl ?_
  refine g_dconst0 C dX0_pull_0 ?_
  refine g_dstore_n (lv' := [(2, .double FP.dconst0), (0, .ref ((xK X).2.2 1)), (1, .int (nI j))]) C dX0_pull_1 rfl (by decide) rfl ?_
  refine g_iconst (v := nI 0) C dX0_pull_2 (by decide +kernel) ?_
  refine g_istore (lv' := [(4, .int (nI 0)), (2, .double FP.dconst0), (0, .ref ((xK X).2.2 1)), (1, .int (nI j))]) C dX0_pull_3 (by decide) rfl ?_
  have loop5 : ∀ (r9 : Nat) (t : Nat), cntC σ j - t < r9 → (t ≤ cntC σ j) → G X 6 0 0 σ [(0, .ref ((xK X).2.2 1)), (1, .int (nI j)), (2, .double (accF FP.dconst0 (fun _ => true) (fun t => FP.dmul (pE (phC σ) (duC σ j t)) (sF σ 7 (oth (phC σ) j (duC σ j t)))) t)), (4, .int (nI t))] 5 [] := by
    intro r9
    induction r9 with
    | zero => intro t h9; exact absurd h9 (Nat.not_lt_zero _)
    | succ r9 ih5 =>
      intro t hm5 ht
      refine g_iload C dX0_pull_5 3 rfl ?_
      refine g_aload_n C dX0_pull_7 0 rfl rfl ?_
      refine g_get C dX0_pull_8 wl1 rfl 0 (by decide) 1 rfl rfl rfl inX0_pull_X0 ?_
      refine g_get C dX0_pull_11 wl2 rfl 7 (by decide) 2 rfl rfl rfl inX0_pull_X1 ?_
      refine g_iload_n C dX0_pull_14 1 rfl rfl ?_
      refine g_iald (j := j) C dX0_pull_15 wl15 rfl (by omega) (by decide) ?_
      refine g_topi (y := nI (cntC σ j)) (hW.ct hj) ?_
      refine g_icmp_ge (tgt := 68) C dX0_pull_16 (by decide) (fun c_16 => ?_) (fun c_16 => ?_)
      · have hte : t = cntC σ j := Nat.le_antisymm ht ((nI_leI (by have := cntC_le hW j; omega) (by have := cntC_le hW j; omega)).mp c_16)
        subst hte
        refine g_dload_n C dX0_pull_68 2 rfl rfl ?_
        refine g_dret C dX0_pull_69 rfl ⟨Nat.le_of_ble_eq_true rfl, Nat.le_of_ble_eq_true rfl⟩ ?_
        rw [hF]
        exact ⟨congrArg (fun z => some (Value.double z)) (accF_list (a := FP.dconst0) (g := fun d => FP.dmul (pE (phC σ) d) (sF σ 7 (oth (phC σ) j d))) (hW.du hj)), rfl⟩
      · have hlt : t < cntC σ j := by
          refine Nat.lt_of_not_le fun h => c_16 ?_
          exact (nI_leI (by have := cntC_le hW j; omega) (by have := cntC_le hW j; omega)).mpr h
        refine g_aload_n C dX0_pull_19 0 rfl rfl ?_
        refine g_get C dX0_pull_20 wl1 rfl 0 (by decide) 1 rfl rfl rfl inX0_pull_X0 ?_
        refine g_get C dX0_pull_23 wl2 rfl 6 (by decide) 3 rfl rfl rfl inX0_pull_X1 ?_
        refine g_iload_n C dX0_pull_26 1 rfl rfl ?_
        refine g_rald (j := j) C dX0_pull_27 rfl hj ?_
        refine g_iload C dX0_pull_28 3 rfl ?_
        refine g_iald (j := t) C dX0_pull_30 (wl_row hj) rfl (by have := cntC_le hW j; omega) (by decide) ?_
        refine g_topi (y := nI (duC σ j t)) ((hW.row hj hlt).1) ?_
        refine g_istore (lv' := [(5, .int (nI (duC σ j t))), (0, .ref ((xK X).2.2 1)), (1, .int (nI j)), (2, .double (accF FP.dconst0 (fun _ => true) (fun t => FP.dmul (pE (phC σ) (duC σ j t)) (sF σ 7 (oth (phC σ) j (duC σ j t)))) t)), (4, .int (nI t))]) C dX0_pull_31 (by decide) rfl ?_
        refine g_dload_n C dX0_pull_33 3 rfl rfl ?_
        refine g_aload_n C dX0_pull_34 1 rfl rfl ?_
        refine g_get C dX0_pull_35 wl1 rfl 0 (by decide) 1 rfl rfl rfl inX0_pull_X0 ?_
        refine g_get C dX0_pull_38 wl2 rfl 5 (by decide) 4 rfl rfl rfl inX0_pull_X1 ?_
        refine g_iload C dX0_pull_41 0 rfl ?_
        refine g_dald (j := (duC σ j t)) C dX0_pull_43 wl13 rfl (by have := (hW.row hj hlt).2.1; have := hW.nd16; omega) (by decide) ?_
        refine g_topd (y := pE (phC σ) (duC σ j t)) (hE _ (hW.row hj hlt).2.1) ?_
        refine g_aload_n C dX0_pull_44 1 rfl rfl ?_
        refine g_get C dX0_pull_45 wl1 rfl 3 (by decide) 5 rfl rfl rfl inX0_pull_X0 ?_
        refine g_aload_n C dX0_pull_48 1 rfl rfl ?_
        refine g_get C dX0_pull_49 wl1 rfl 0 (by decide) 1 rfl rfl rfl inX0_pull_X0 ?_
        refine g_iload C dX0_pull_52 0 rfl ?_
        refine g_iload_n C dX0_pull_54 2 rfl rfl ?_
        refine g_callV (As := [.int (nI (duC σ j t)), .int (nI j)]) (rest := [.ref ((xK X).2.2 7), .double (pE (phC σ) (duC σ j t)), .double (accF FP.dconst0 (fun _ => true) (fun t => FP.dmul (pE (phC σ) (duC σ j t)) (sF σ 7 (oth (phC σ) j (duC σ j t)))) t)]) C dX0_pull_55 (kX1_otherEnd (xl X) (xK X) C.hD σ hW (hW.row hj hlt).2.1 hj) wl2 rfl 2 gX0_pull_X1_otherEnd rfl (by decide +kernel) ⟨Nat.le_of_ble_eq_true rfl, Nat.le_of_ble_eq_true rfl⟩ ⟨Nat.le_of_ble_eq_true rfl, Nat.le_of_ble_eq_true rfl⟩ rfl rfl (Nat.le_of_ble_eq_true rfl) (fun rv9 σ9 h9 => ?_)
        obtain ⟨h9a, h9b⟩ := h9
        refine g_eq (σ2 := σ) (lv2 := [(5, .int (nI (duC σ j t))), (0, .ref ((xK X).2.2 1)), (1, .int (nI j)), (2, .double (accF FP.dconst0 (fun _ => true) (fun t => FP.dmul (pE (phC σ) (duC σ j t)) (sF σ 7 (oth (phC σ) j (duC σ j t)))) t)), (4, .int (nI t))]) (st2 := [.int (nI (oth (phC σ) j (duC σ j t))), .ref ((xK X).2.2 7), .double (pE (phC σ) (duC σ j t)), .double (accF FP.dconst0 (fun _ => true) (fun t => FP.dmul (pE (phC σ) (duC σ j t)) (sF σ 7 (oth (phC σ) j (duC σ j t)))) t)]) h9b rfl (by rw [h9a]; rfl) ?_
        refine g_dald (j := (oth (phC σ) j (duC σ j t))) C dX0_pull_58 wl7 rfl (oth_lt hp (hW.row hj hlt).2.1) (by decide) ?_
        refine g_dmul C dX0_pull_59 ((pul_g hp hP (hW.row hj hlt).2.1).F.ok) ?_
        refine g_dadd C dX0_pull_60 (accF_ok (d0_B 34) (n := cntC σ j) (by have := cntC_le hW j; omega) hlt (p := fun _ => true) (g := fun t => FP.dmul (pE (phC σ) (duC σ j t)) (sF σ 7 (oth (phC σ) j (duC σ j t)))) (fun t hi _ => (pul_g hp hP (hW.row hj hi).2.1)) rfl) ?_
        refine g_topd (y := accF FP.dconst0 (fun _ => true) (fun t => FP.dmul (pE (phC σ) (duC σ j t)) (sF σ 7 (oth (phC σ) j (duC σ j t)))) (t + 1)) (accF_yes (p := fun _ => true) rfl |>.symm) ?_
        refine g_dstore_n (lv' := [(2, .double (accF FP.dconst0 (fun _ => true) (fun t => FP.dmul (pE (phC σ) (duC σ j t)) (sF σ 7 (oth (phC σ) j (duC σ j t)))) (t + 1))), (5, .int (nI (duC σ j t))), (0, .ref ((xK X).2.2 1)), (1, .int (nI j)), (4, .int (nI t))]) C dX0_pull_61 rfl (by decide) rfl ?_
        refine g_iinc (v := nI (t + 1)) (lv' := [(4, .int (nI (t + 1))), (2, .double (accF FP.dconst0 (fun _ => true) (fun t => FP.dmul (pE (phC σ) (duC σ j t)) (sF σ 7 (oth (phC σ) j (duC σ j t)))) (t + 1))), (5, .int (nI (duC σ j t))), (0, .ref ((xK X).2.2 1)), (1, .int (nI j))]) C dX0_pull_62 4 rfl (nI_1 t) (by decide) rfl ?_
        refine g_goto (tgt := 5) C dX0_pull_65 (by decide) ?_
        refine g_lv [3, 4, 1, 0] rfl ?_
        exact ih5 (t + 1) (by omega) (by omega)
  refine g_lv [2, 3, 1, 0] rfl ?_
  exact loop5 (cntC σ j + 1) 0 (by omega) (Nat.zero_le _)

theorem inX0_flowsTo_X0 : ∀ w ∈ u_ws RX0 TX0 5, w ∈ wsX0_flowsTo := by decide +kernel
theorem inX0_flowsTo_X1 : ∀ w ∈ u_ws RX1 TX1 8, w ∈ wsX0_flowsTo := by decide +kernel
set_option maxHeartbeats 4000000 in
set_option maxRecDepth 100000 in
theorem kX0_flowsTo (l : Launch) (K : gK) (hD : gD K) (σ : gS) (hW : Wc σ) (hE : Ec σ) (hp : PhF (phC σ)) (hP : Pc_ σ) {j : Nat} (hj : j < 10) : Ct l yX0_flowsTo wsX0_flowsTo { frames := 1, cells := 0, slots := 0, locals := 22 } K [.ref (K.2.2 1), .int (nI j)] σ (fun r t => r = some (.double (floV (phC σ) (sF σ 7) j)) ∧ t = σ) := by
  refine Ct.of hD (by decide) rfl (Nat.le_of_ble_eq_true rfl) ?_
  intro X hL hK hF C
  subst hL; subst hK
  refine g_eq (σ2 := σ) (lv2 := [(0, .ref ((xK X).2.2 1)), (1, .int (nI j))]) (st2 := []) rfl rfl rfl ?_
  refine g_dconst0 C dX0_flowsTo_0 ?_
  refine g_dstore_n (lv' := [(2, .double FP.dconst0), (0, .ref ((xK X).2.2 1)), (1, .int (nI j))]) C dX0_flowsTo_1 rfl (by decide) rfl ?_
  refine g_iconst (v := nI 0) C dX0_flowsTo_2 (by decide +kernel) ?_
  refine g_istore (lv' := [(4, .int (nI 0)), (2, .double FP.dconst0), (0, .ref ((xK X).2.2 1)), (1, .int (nI j))]) C dX0_flowsTo_3 (by decide) rfl ?_
  have loop5 : ∀ (r9 : Nat) (t : Nat), cntC σ j - t < r9 → (t ≤ cntC σ j) → G X 6 0 0 σ [(0, .ref ((xK X).2.2 1)), (1, .int (nI j)), (2, .double (accF FP.dconst0 (fun _ => true) (fun t => FP.dmul (pE (phC σ) (duC σ j t)) (FP.dsub (sF σ 7 (oth (phC σ) j (duC σ j t))) (sF σ 7 j))) t)), (4, .int (nI t))] 5 [] := by
    intro r9
    induction r9 with
    | zero => intro t h9; exact absurd h9 (Nat.not_lt_zero _)
    | succ r9 ih5 =>
      intro t hm5 ht
      refine g_iload C dX0_flowsTo_5 3 rfl ?_
      refine g_aload_n C dX0_flowsTo_7 0 rfl rfl ?_
      refine g_get C dX0_flowsTo_8 wl1 rfl 0 (by decide) 1 rfl rfl rfl inX0_flowsTo_X0 ?_
      refine g_get C dX0_flowsTo_11 wl2 rfl 7 (by decide) 2 rfl rfl rfl inX0_flowsTo_X1 ?_
      refine g_iload_n C dX0_flowsTo_14 1 rfl rfl ?_
      refine g_iald (j := j) C dX0_flowsTo_15 wl15 rfl (by omega) (by decide) ?_
      refine g_topi (y := nI (cntC σ j)) (hW.ct hj) ?_
      refine g_icmp_ge (tgt := 75) C dX0_flowsTo_16 (by decide) (fun c_16 => ?_) (fun c_16 => ?_)
      · have hte : t = cntC σ j := Nat.le_antisymm ht ((nI_leI (by have := cntC_le hW j; omega) (by have := cntC_le hW j; omega)).mp c_16)
        subst hte
        refine g_dload_n C dX0_flowsTo_75 2 rfl rfl ?_
        refine g_dret C dX0_flowsTo_76 rfl ⟨Nat.le_of_ble_eq_true rfl, Nat.le_of_ble_eq_true rfl⟩ ?_
        rw [hF]
        exact ⟨congrArg (fun z => some (Value.double z)) (accF_list (a := FP.dconst0) (g := fun d => FP.dmul (pE (phC σ) d) (FP.dsub (sF σ 7 (oth (phC σ) j d)) (sF σ 7 j))) (hW.du hj)), rfl⟩
      · have hlt : t < cntC σ j := by
          refine Nat.lt_of_not_le fun h => c_16 ?_
          exact (nI_leI (by have := cntC_le hW j; omega) (by have := cntC_le hW j; omega)).mpr h
        refine g_aload_n C dX0_flowsTo_19 0 rfl rfl ?_
        refine g_get C dX0_flowsTo_20 wl1 rfl 0 (by decide) 1 rfl rfl rfl inX0_flowsTo_X0 ?_
        refine g_get C dX0_flowsTo_23 wl2 rfl 6 (by decide) 3 rfl rfl rfl inX0_flowsTo_X1 ?_
        refine g_iload_n C dX0_flowsTo_26 1 rfl rfl ?_
        refine g_rald (j := j) C dX0_flowsTo_27 rfl hj ?_
        refine g_iload C dX0_flowsTo_28 3 rfl ?_
        refine g_iald (j := t) C dX0_flowsTo_30 (wl_row hj) rfl (by have := cntC_le hW j; omega) (by decide) ?_
        refine g_topi (y := nI (duC σ j t)) ((hW.row hj hlt).1) ?_
        refine g_istore (lv' := [(5, .int (nI (duC σ j t))), (0, .ref ((xK X).2.2 1)), (1, .int (nI j)), (2, .double (accF FP.dconst0 (fun _ => true) (fun t => FP.dmul (pE (phC σ) (duC σ j t)) (FP.dsub (sF σ 7 (oth (phC σ) j (duC σ j t))) (sF σ 7 j))) t)), (4, .int (nI t))]) C dX0_flowsTo_31 (by decide) rfl ?_
        refine g_dload_n C dX0_flowsTo_33 3 rfl rfl ?_
        refine g_aload_n C dX0_flowsTo_34 1 rfl rfl ?_
        refine g_get C dX0_flowsTo_35 wl1 rfl 0 (by decide) 1 rfl rfl rfl inX0_flowsTo_X0 ?_
        refine g_get C dX0_flowsTo_38 wl2 rfl 5 (by decide) 4 rfl rfl rfl inX0_flowsTo_X1 ?_
        refine g_iload C dX0_flowsTo_41 0 rfl ?_
        refine g_dald (j := (duC σ j t)) C dX0_flowsTo_43 wl13 rfl (by have := (hW.row hj hlt).2.1; have := hW.nd16; omega) (by decide) ?_
        refine g_topd (y := pE (phC σ) (duC σ j t)) (hE _ (hW.row hj hlt).2.1) ?_
        refine g_aload_n C dX0_flowsTo_44 1 rfl rfl ?_
        refine g_get C dX0_flowsTo_45 wl1 rfl 3 (by decide) 5 rfl rfl rfl inX0_flowsTo_X0 ?_
        refine g_aload_n C dX0_flowsTo_48 1 rfl rfl ?_
        refine g_get C dX0_flowsTo_49 wl1 rfl 0 (by decide) 1 rfl rfl rfl inX0_flowsTo_X0 ?_
        refine g_iload C dX0_flowsTo_52 0 rfl ?_
        refine g_iload_n C dX0_flowsTo_54 2 rfl rfl ?_
        refine g_callV (As := [.int (nI (duC σ j t)), .int (nI j)]) (rest := [.ref ((xK X).2.2 7), .double (pE (phC σ) (duC σ j t)), .double (accF FP.dconst0 (fun _ => true) (fun t => FP.dmul (pE (phC σ) (duC σ j t)) (FP.dsub (sF σ 7 (oth (phC σ) j (duC σ j t))) (sF σ 7 j))) t)]) C dX0_flowsTo_55 (kX1_otherEnd (xl X) (xK X) C.hD σ hW (hW.row hj hlt).2.1 hj) wl2 rfl 2 gX0_flowsTo_X1_otherEnd rfl (by decide +kernel) ⟨Nat.le_of_ble_eq_true rfl, Nat.le_of_ble_eq_true rfl⟩ ⟨Nat.le_of_ble_eq_true rfl, Nat.le_of_ble_eq_true rfl⟩ rfl rfl (Nat.le_of_ble_eq_true rfl) (fun rv9 σ9 h9 => ?_)
        obtain ⟨h9a, h9b⟩ := h9
        refine g_eq (σ2 := σ) (lv2 := [(5, .int (nI (duC σ j t))), (0, .ref ((xK X).2.2 1)), (1, .int (nI j)), (2, .double (accF FP.dconst0 (fun _ => true) (fun t => FP.dmul (pE (phC σ) (duC σ j t)) (FP.dsub (sF σ 7 (oth (phC σ) j (duC σ j t))) (sF σ 7 j))) t)), (4, .int (nI t))]) (st2 := [.int (nI (oth (phC σ) j (duC σ j t))), .ref ((xK X).2.2 7), .double (pE (phC σ) (duC σ j t)), .double (accF FP.dconst0 (fun _ => true) (fun t => FP.dmul (pE (phC σ) (duC σ j t)) (FP.dsub (sF σ 7 (oth (phC σ) j (duC σ j t))) (sF σ 7 j))) t)]) h9b rfl (by rw [h9a]; rfl) ?_
        refine g_dald (j := (oth (phC σ) j (duC σ j t))) C dX0_flowsTo_58 wl7 rfl (oth_lt hp (hW.row hj hlt).2.1) (by decide) ?_
        refine g_aload_n C dX0_flowsTo_59 1 rfl rfl ?_
        refine g_get C dX0_flowsTo_60 wl1 rfl 3 (by decide) 5 rfl rfl rfl inX0_flowsTo_X0 ?_
        refine g_iload_n C dX0_flowsTo_63 2 rfl rfl ?_
        refine g_dald (j := j) C dX0_flowsTo_64 wl7 rfl (by omega) (by decide) ?_
        refine g_dsub C dX0_flowsTo_65 ((flo_s (h := phC σ) hP (oth_lt hp (hW.row hj hlt).2.1) hj).F.ok) ?_
        refine g_dmul C dX0_flowsTo_66 ((flo_g hp hP (hW.row hj hlt).2.1 (oth_lt hp (hW.row hj hlt).2.1) hj).F.ok) ?_
        refine g_dadd C dX0_flowsTo_67 (accF_ok (d0_B 35) (n := cntC σ j) (by have := cntC_le hW j; omega) hlt (p := fun _ => true) (g := fun t => FP.dmul (pE (phC σ) (duC σ j t)) (FP.dsub (sF σ 7 (oth (phC σ) j (duC σ j t))) (sF σ 7 j))) (fun t hi _ => (flo_g hp hP (hW.row hj hi).2.1 (oth_lt hp (hW.row hj hi).2.1) hj)) rfl) ?_
        refine g_topd (y := accF FP.dconst0 (fun _ => true) (fun t => FP.dmul (pE (phC σ) (duC σ j t)) (FP.dsub (sF σ 7 (oth (phC σ) j (duC σ j t))) (sF σ 7 j))) (t + 1)) (accF_yes (p := fun _ => true) rfl |>.symm) ?_
        refine g_dstore_n (lv' := [(2, .double (accF FP.dconst0 (fun _ => true) (fun t => FP.dmul (pE (phC σ) (duC σ j t)) (FP.dsub (sF σ 7 (oth (phC σ) j (duC σ j t))) (sF σ 7 j))) (t + 1))), (5, .int (nI (duC σ j t))), (0, .ref ((xK X).2.2 1)), (1, .int (nI j)), (4, .int (nI t))]) C dX0_flowsTo_68 rfl (by decide) rfl ?_
        refine g_iinc (v := nI (t + 1)) (lv' := [(4, .int (nI (t + 1))), (2, .double (accF FP.dconst0 (fun _ => true) (fun t => FP.dmul (pE (phC σ) (duC σ j t)) (FP.dsub (sF σ 7 (oth (phC σ) j (duC σ j t))) (sF σ 7 j))) (t + 1))), (5, .int (nI (duC σ j t))), (0, .ref ((xK X).2.2 1)), (1, .int (nI j))]) C dX0_flowsTo_69 4 rfl (nI_1 t) (by decide) rfl ?_
        refine g_goto (tgt := 5) C dX0_flowsTo_72 (by decide) ?_
        refine g_lv [3, 4, 1, 0] rfl ?_
        exact ih5 (t + 1) (by omega) (by omega)
  refine g_lv [2, 3, 1, 0] rfl ?_
  exact loop5 (cntC σ j + 1) 0 (by omega) (Nat.zero_le _)
end
section
/-! the class: rounds -/
theorem nar_bI (b : Bool) : narrow .boolean (.int (bI b)) = .int (bI b) := by cases b <;> rfl
theorem uF_uF (σ : gS) (k : Nat) (f g : Nat → UInt64) : uF (uF σ k f) k g = uF σ k g := by
  unfold uF
  have h : va_up (va_up σ.2.2.2.1 k f) k g = va_up σ.2.2.2.1 k g := by
    funext j
    unfold va_up
    by_cases e : j = k
    · rw [if_pos e, if_pos e]
    · rw [if_neg e, if_neg e, if_neg e]
  show (_, _, _, va_up (va_up σ.2.2.2.1 k f) k g, _) = _
  rw [h]
theorem uI_uI (σ : gS) (k : Nat) (f g : Nat → Int32) : uI (uI σ k f) k g = uI σ k g := by
  unfold uI
  have h : va_up (va_up σ.2.2.1 k f) k g = va_up σ.2.2.1 k g := by
    funext j
    unfold va_up
    by_cases e : j = k
    · rw [if_pos e, if_pos e]
    · rw [if_neg e, if_neg e, if_neg e]
  show (_, _, va_up (va_up σ.2.2.1 k f) k g, _, _) = _
  rw [h]
theorem uD_uD (σ : gS) (k : Nat) (f g : UInt64) : uD (uD σ k f) k g = uD σ k g := by
  unfold uD
  have h : va_up (va_up σ.2.1 k f) k g = va_up σ.2.1 k g := by
    funext j
    unfold va_up
    by_cases e : j = k
    · rw [if_pos e, if_pos e]
    · rw [if_neg e, if_neg e, if_neg e]
  show (_, va_up (va_up σ.2.1 k f) k g, _, _, _) = _
  rw [h]
theorem uN_uN (σ : gS) (k : Nat) (f g : Int32) : uN (uN σ k f) k g = uN σ k g := by
  unfold uN
  have h : va_up (va_up σ.1 k f) k g = va_up σ.1 k g := by
    funext j
    unfold va_up
    by_cases e : j = k
    · rw [if_pos e, if_pos e]
    · rw [if_neg e, if_neg e, if_neg e]
  show (va_up (va_up σ.1 k f) k g, _, _, _, _) = _
  rw [h]
theorem vu_self {α : Type} (f : Nat → α) (k : Nat) : va_up f k (f k) = f := by
  funext j
  unfold va_up
  by_cases e : j = k
  · rw [if_pos e, e]
  · rw [if_neg e]
theorem uF_self (σ : gS) (k : Nat) : uF σ k (sF σ k) = σ := by
  unfold uF sF
  rw [vu_self]
theorem uI_self (σ : gS) (k : Nat) : uI σ k (sI σ k) = σ := by
  unfold uI sI
  rw [vu_self]
theorem uD_self (σ : gS) (k : Nat) : uD σ k (sD σ k) = σ := by
  unfold uD sD
  rw [vu_self]
theorem uN_self (σ : gS) (k : Nat) : uN σ k (sN σ k) = σ := by
  unfold uN sN
  rw [vu_self]
theorem uF_step (σ : gS) (k : Nat) (f : Nat → UInt64) (i : Nat) (x : UInt64) : uF (uF σ k f) k (vf_upd (sF (uF σ k f) k) i x) = uF σ k (vf_upd f i x) := by rw [sF_self, uF_uF]
/-- the weights, joint by joint -/
def wjN (h : Ph) (g w : Nat → UInt64) : Nat → (Nat → UInt64)
  | 0 => w
  | t + 1 => vf_upd (wjN h g w t) t (if hasD h t then wgt h g t else FP.dconst0)
theorem wjN_at (h : Ph) (g w : Nat → UInt64) : ∀ n j, j < n → wjN h g w n j = if hasD h j then wgt h g j else FP.dconst0
  | 0, j, hj => absurd hj (Nat.not_lt_zero _)
  | n + 1, j, hj => by
    show vf_upd (wjN h g w n) n _ j = _
    by_cases e : j = n
    · subst e; exact vf_at
    · rw [vf_ne e]; exact wjN_at h g w n j (by omega)
def Wj_ (σ : gS) : Prop := ∀ j, j < 10 → sF σ 8 j = if hasD (phC σ) j then wgt (phC σ) (sF σ 18) j else FP.dconst0
/-- a round's joints, from what the fan holds on -/
def crS (σ : gS) : (Nat → UInt64) × UInt64 := (vf_upd (sF σ 7) 0 (na (hldV (phC σ) (sD σ 2))), FP.dconst0)
def crT (σ : gS) (t : Nat) : (Nat → UInt64) × UInt64 := rdN (phC σ) (sF σ 18) (crS σ) t
theorem crT_yes {σ : gS} {t : Nat} (h : hasD (phC σ) (t + 1) = true) : crT σ (t + 1) = (vf_upd (crT σ t).1 (t + 1) (FP.ddiv (pulV (phC σ) (crT σ t).1 (t + 1)) (wgt (phC σ) (sF σ 18) (t + 1))), mx (crT σ t).2 (mg (FP.dsub (FP.ddiv (pulV (phC σ) (crT σ t).1 (t + 1)) (wgt (phC σ) (sF σ 18) (t + 1))) ((crT σ t).1 (t + 1))))) := if_pos h
theorem crT_no {σ : gS} {t : Nat} (h : hasD (phC σ) (t + 1) = false) : crT σ (t + 1) = crT σ t := if_neg (by rw [h]; decide)
/-- the class's numbers behind rounds -/
def stA (σ : gS) (w : Nat → UInt64) (s : (Nat → UInt64) × UInt64) : gS := uD (uF (uF σ 8 w) 7 s.1) 2 s.2
theorem stA_0 (σ : gS) (w : Nat → UInt64) : uF σ 8 w = stA σ w (sF σ 7, sD σ 2) := by
  show _ = uD (uF (uF σ 8 w) 7 (sF (uF σ 8 w) 7)) 2 (sD (uF (uF σ 8 w) 7 (sF (uF σ 8 w) 7)) 2)
  rw [uD_self, uF_self]
theorem stA_up (σ : gS) (w : Nat → UInt64) (s : (Nat → UInt64) × UInt64) (P : Nat → UInt64) (f : UInt64) : uD (uF (stA σ w s) 7 P) 2 f = stA σ w (P, f) := by
  show uD (uD (uF (uF (uF σ 8 w) 7 s.1) 7 P) 2 s.2) 2 f = uD (uF (uF σ 8 w) 7 P) 2 f
  rw [uD_uD, uF_uF]
theorem srch_yes {p : Nat → Bool} {f k : Nat} (h : p k = true) : srch p (f + 1) k = some k := if_pos h
theorem srch_no {p : Nat → Bool} {f k : Nat} (h : p k = false) : srch p (f + 1) k = srch p f (k + 1) := if_neg (by rw [h]; decide)
theorem srch_lt {p : Nat → Bool} : ∀ {f k r : Nat}, srch p f k = some r → k ≤ r ∧ r < k + f
  | 0, _, _, h => by cases h
  | f + 1, k, r, h => by
    cases hp : p k with
    | true => rw [srch_yes hp] at h; cases h; omega
    | false => rw [srch_no hp] at h; have := srch_lt h; omega
def sei (o : Option Nat) : Int32 := match o with
  | some k => nI k
  | none => -1
def seN (o : Option Nat) : Nat := match o with
  | some k => k
  | none => 100
def sePr (h : Ph) (g : Nat → UInt64) (s : (Nat → UInt64) × UInt64) : Nat → Bool := fun k => smC (rdC h g (itR h g s (k - 1)))
theorem seK_eq (h : Ph) (g : Nat → UInt64) (s : (Nat → UInt64) × UInt64) : seK h g s = srch (sePr h g s) 100 1 := rfl
theorem seK_le {h : Ph} {g : Nat → UInt64} {s : (Nat → UInt64) × UInt64} {k : Nat} (e : seK h g s = some k) : 1 ≤ k ∧ k ≤ 100 := by
  rw [seK_eq] at e
  have := srch_lt e
  omega
theorem clG_yes {h : Ph} {P g : Nat → UInt64} {m : Nat} (e : ovr h P g m = true) : clG h P g (m + 1) = vf_upd (clG h P g m) m (FP.ddiv (FP.dmul (g m) (pN h m)) (drV h P g m)) := if_pos e
theorem clG_no {h : Ph} {P g : Nat → UInt64} {m : Nat} (e : ovr h P g m = false) : clG h P g (m + 1) = clG h P g m := if_neg (by rw [e]; decide)
theorem clB_yes {h : Ph} {P g : Nat → UInt64} {m : Nat} (e : ovr h P g m = true) : clB h P g (m + 1) = (clB h P g m || far h P g m) := if_pos e
theorem clB_no {h : Ph} {P g : Nat → UInt64} {m : Nat} (e : ovr h P g m = false) : clB h P g (m + 1) = clB h P g m := if_neg (by rw [e]; decide)
theorem drV_cl (h : Ph) (P g : Nat → UInt64) (n : Nat) : drV h P (clG h P g n) n = drV h P g n := by
  unfold drV
  rw [clG_at n n (Nat.le_refl _)]
/-- all of 0 .. n-1 -/
def allB (p : Nat → Bool) : Nat → Bool
  | 0 => true
  | n + 1 => allB p n && p n
theorem allB_no {p : Nat → Bool} {k : Nat} (h : p k = false) : ∀ {n : Nat}, k < n → allB p n = false
  | 0, hk => absurd hk (Nat.not_lt_zero _)
  | n + 1, hk => by
    show (allB p n && p n) = false
    by_cases e : k = n
    · subst e; rw [h, Bool.and_false]
    · rw [allB_no h (by omega), Bool.false_and]
theorem allB_up {p : Nat → Bool} {n : Nat} (h : allB p n = true) (h2 : p n = true) : allB p (n + 1) = true := by
  show (allB p n && p n) = true
  rw [h, h2]; rfl
theorem allB_congr {p q : Nat → Bool} : ∀ {n : Nat}, (∀ k, k < n → p k = q k) → allB p n = allB q n
  | 0, _ => rfl
  | n + 1, h => by
    show (allB p n && p n) = (allB q n && q n)
    rw [allB_congr (fun k hk => h k (by omega)), h n (by omega)]
def kpB (h : Ph) (P w : Nat → UInt64) (least : UInt64) (d : Nat) : Bool := decide (0 ≤ Op.cmpValue (FP.dcmp (spd h P w d) least) .l)
def srB (h : Ph) (P g : Nat → UInt64) (m : Nat) : Bool := !(pO h m && decide (Op.cmpValue (FP.dcmp (drV h P g m) (FP.dmul (pN h m) 4606619468846596096)) .g < 0))

theorem inX0_draw_X0 : ∀ w ∈ u_ws RX0 TX0 5, w ∈ wsX0_draw := by decide +kernel
theorem inX0_draw_X4 : ∀ w ∈ u_ws RX4 TX4 6, w ∈ wsX0_draw := by decide +kernel
set_option maxHeartbeats 4000000 in
set_option maxRecDepth 100000 in
theorem kX0_draw (l : Launch) (K : gK) (hD : gD K) (σ : gS) (hW : Wc σ) (hp : PhF (phC σ)) (hP : Pc_ σ) (hg : Gc_ σ) {m : Nat} (hm : m < pM (phC σ)) : Ct l yX0_draw wsX0_draw { frames := 1, cells := 0, slots := 0, locals := 21 } K [.ref (K.2.2 1), .int (nI m)] σ (fun r t => r = some (.double (drV (phC σ) (sF σ 7) (sF σ 18) m)) ∧ t = σ) := by
  refine Ct.of hD (by decide) rfl (Nat.le_of_ble_eq_true rfl) ?_
  intro X hL hK hF C
  subst hL; subst hK
  refine g_eq (σ2 := σ) (lv2 := [(0, .ref ((xK X).2.2 1)), (1, .int (nI m))]) (st2 := []) rfl rfl rfl ?_
  have h8 : m < 8 := by have := hW.nm8; omega
  refine g_aload_n C dX0_draw_0 0 rfl rfl ?_
  refine g_get C dX0_draw_1 wl1 rfl 1 (by decide) 1 rfl rfl rfl inX0_draw_X0 ?_
  refine g_get C dX0_draw_4 wl3 rfl 4 (by decide) 2 rfl rfl rfl inX0_draw_X4 ?_
  refine g_iload_n C dX0_draw_7 1 rfl rfl ?_
  refine g_zald (j := m) C dX0_draw_8 wl19 rfl (by omega) (by decide) ?_
  refine g_if_ne (tgt := 14) C dX0_draw_9 (by decide) (fun c_9 => ?_) (fun c_9 => ?_)
  · refine g_aload_n C dX0_draw_14 0 rfl rfl ?_
    refine g_get C dX0_draw_15 wl1 rfl 1 (by decide) 1 rfl rfl rfl inX0_draw_X0 ?_
    refine g_get C dX0_draw_18 wl3 rfl 3 (by decide) 3 rfl rfl rfl inX0_draw_X4 ?_
    refine g_iload_n C dX0_draw_21 1 rfl rfl ?_
    refine g_dald (j := m) C dX0_draw_22 wl18 rfl (by omega) (by decide) ?_
    refine g_ldc2d (v := 4620693217682128896) C dX0_draw_23 4 rfl ?_
    refine g_dmul C dX0_draw_26 ((gat_g hg hm).F.ok) ?_
    refine g_dconst0 C dX0_draw_27 ?_
    refine g_aload_n C dX0_draw_28 0 rfl rfl ?_
    refine g_get C dX0_draw_29 wl1 rfl 3 (by decide) 5 rfl rfl rfl inX0_draw_X0 ?_
    refine g_aload_n C dX0_draw_32 0 rfl rfl ?_
    refine g_get C dX0_draw_33 wl1 rfl 1 (by decide) 1 rfl rfl rfl inX0_draw_X0 ?_
    refine g_get C dX0_draw_36 wl3 rfl 1 (by decide) 6 rfl rfl rfl inX0_draw_X4 ?_
    refine g_iload_n C dX0_draw_39 1 rfl rfl ?_
    refine g_iald (j := m) C dX0_draw_40 wl16 rfl (by omega) (by decide) ?_
    refine g_dald (j := (pJ (phC σ) m)) C dX0_draw_41 wl7 ((hW.mj hm).1) ((hW.mj hm).2.1) (by decide) ?_
    refine g_dsub C dX0_draw_42 ((drV_B hp hP hg hm).1.F.ok) ?_
    refine g_dmul C dX0_draw_43 ((drV_B hp hP hg hm).2.1.F.ok) ?_
    refine g_callSN (As := [.double (FP.dmul (FP.dmul (sF σ 18 m) 4620693217682128896) (FP.dsub FP.dconst0 (sF σ 7 (pJ (phC σ) m))))]) (rest := []) C dX0_draw_44 (kX6_notBelowZero (xl X) (xK X) C.hD σ _) 1 gX0_draw_X6_notBelowZero_n105 rfl 1 rfl 8 rfl 7 rfl (by decide +kernel) ⟨Nat.le_of_ble_eq_true rfl, Nat.le_of_ble_eq_true rfl⟩ ⟨Nat.le_of_ble_eq_true rfl, Nat.le_of_ble_eq_true rfl⟩ rfl rfl (Nat.le_of_ble_eq_true rfl) (fun rv9 σ9 h9 => ?_)
    obtain ⟨h9a, h9b⟩ := h9
    refine g_eq (σ2 := σ) (lv2 := [(0, .ref ((xK X).2.2 1)), (1, .int (nI m))]) (st2 := [.double (nb (FP.dmul (FP.dmul (sF σ 18 m) 4620693217682128896) (FP.dsub FP.dconst0 (sF σ 7 (pJ (phC σ) m)))))]) h9b rfl (by rw [h9a]; rfl) ?_
    refine g_dret C dX0_draw_47 rfl ⟨Nat.le_of_ble_eq_true rfl, Nat.le_of_ble_eq_true rfl⟩ ?_
    rw [hF]
    refine ⟨?_, rfl⟩
    have ho : pO (phC σ) m = true := decide_eq_true c_9
    unfold drV
    rw [if_pos ho]
  · refine g_dconst0 C dX0_draw_12 ?_
    refine g_dret C dX0_draw_13 rfl ⟨Nat.le_of_ble_eq_true rfl, Nat.le_of_ble_eq_true rfl⟩ ?_
    rw [hF]
    refine ⟨?_, rfl⟩
    have ho : pO (phC σ) m = false := decide_eq_false (fun h => h c_9)
    unfold drV
    rw [if_neg (by rw [ho]; decide)]

theorem inX0_weigh_X0 : ∀ w ∈ u_ws RX0 TX0 5, w ∈ wsX0_weigh := by decide +kernel
theorem inX0_weigh_X1 : ∀ w ∈ u_ws RX1 TX1 8, w ∈ wsX0_weigh := by decide +kernel
theorem inX0_weigh_X4 : ∀ w ∈ u_ws RX4 TX4 6, w ∈ wsX0_weigh := by decide +kernel
set_option maxHeartbeats 4000000 in
set_option maxRecDepth 100000 in
theorem kX0_weigh (l : Launch) (K : gK) (hD : gD K) (σ : gS) (hW : Wc σ) (hE : Ec σ) (hp : PhF (phC σ)) (hg : Gc_ σ) {j : Nat} (hj : j < 10) : Ct l yX0_weigh wsX0_weigh { frames := 1, cells := 0, slots := 0, locals := 22 } K [.ref (K.2.2 1), .int (nI j)] σ (fun r t => r = some (.double (wgt (phC σ) (sF σ 18) j)) ∧ t = σ) := by
  refine Ct.of hD (by decide) rfl (Nat.le_of_ble_eq_true rfl) ?_
  intro X hL hK hF C
  subst hL; subst hK
  refine g_eq (σ2 := σ) (lv2 := [(0, .ref ((xK X).2.2 1)), (1, .int (nI j))]) (st2 := []) rfl rfl rfl ?_
  refine g_dconst0 C dX0_weigh_0 ?_
  refine g_dstore_n (lv' := [(2, .double FP.dconst0), (0, .ref ((xK X).2.2 1)), (1, .int (nI j))]) C dX0_weigh_1 rfl (by decide) rfl ?_
  refine g_iconst (v := nI 0) C dX0_weigh_2 (by decide +kernel) ?_
  refine g_istore (lv' := [(4, .int (nI 0)), (2, .double FP.dconst0), (0, .ref ((xK X).2.2 1)), (1, .int (nI j))]) C dX0_weigh_3 (by decide) rfl ?_
  have loop5 : ∀ (r9 : Nat) (t : Nat), cntC σ j - t < r9 → (t ≤ cntC σ j) → G X 5 0 0 σ [(0, .ref ((xK X).2.2 1)), (1, .int (nI j)), (2, .double (accF FP.dconst0 (fun _ => true) (fun t => pE (phC σ) (duC σ j t)) t)), (4, .int (nI t))] 5 [] := by
    intro r9
    induction r9 with
    | zero => intro t h9; exact absurd h9 (Nat.not_lt_zero _)
    | succ r9 ih5 =>
      intro t hm5 ht
      refine g_iload C dX0_weigh_5 3 rfl ?_
      refine g_aload_n C dX0_weigh_7 0 rfl rfl ?_
      refine g_get C dX0_weigh_8 wl1 rfl 0 (by decide) 1 rfl rfl rfl inX0_weigh_X0 ?_
      refine g_get C dX0_weigh_11 wl2 rfl 7 (by decide) 2 rfl rfl rfl inX0_weigh_X1 ?_
      refine g_iload_n C dX0_weigh_14 1 rfl rfl ?_
      refine g_iald (j := j) C dX0_weigh_15 wl15 rfl (by omega) (by decide) ?_
      refine g_topi (y := nI (cntC σ j)) (hW.ct hj) ?_
      refine g_icmp_ge (tgt := 48) C dX0_weigh_16 (by decide) (fun c_16 => ?_) (fun c_16 => ?_)
      · have hte : t = cntC σ j := Nat.le_antisymm ht ((nI_leI (by have := cntC_le hW j; omega) (by have := cntC_le hW j; omega)).mp c_16)
        refine g_eq (σ2 := σ) (lv2 := [(0, .ref ((xK X).2.2 1)), (1, .int (nI j)), (2, .double (accF (wgE (phC σ) j) (opAt (phC σ) j) (fun m => FP.dmul (sF σ 18 m) 4620693217682128896) 0)), (4, .int (nI t))]) (st2 := []) rfl (congrArg (fun z9 => ([(0, .ref ((xK X).2.2 1)), (1, .int (nI j)), (2, .double z9), (4, .int (nI t))] : List (Nat × Value))) (by rw [hte]; exact accF_list (a := FP.dconst0) (g := pE (phC σ)) (hW.du hj))) rfl ?_
        refine g_iconst (v := nI 0) C dX0_weigh_48 (by decide +kernel) ?_
        refine g_istore (lv' := [(4, .int (nI 0)), (0, .ref ((xK X).2.2 1)), (1, .int (nI j)), (2, .double (accF (wgE (phC σ) j) (opAt (phC σ) j) (fun m => FP.dmul (sF σ 18 m) 4620693217682128896) 0))]) C dX0_weigh_49 (by decide) rfl ?_
        have loop51 : ∀ (r9 : Nat) (m : Nat), pM (phC σ) - m < r9 → (m ≤ pM (phC σ)) → G X 5 0 0 σ [(0, .ref ((xK X).2.2 1)), (1, .int (nI j)), (2, .double (accF (wgE (phC σ) j) (opAt (phC σ) j) (fun m => FP.dmul (sF σ 18 m) 4620693217682128896) m)), (4, .int (nI m))] 51 [] := by
          intro r9
          induction r9 with
          | zero => intro m h9; exact absurd h9 (Nat.not_lt_zero _)
          | succ r9 ih51 =>
            intro m hm51 hm
            refine g_iload C dX0_weigh_51 3 rfl ?_
            refine g_aload_n C dX0_weigh_53 0 rfl rfl ?_
            refine g_get C dX0_weigh_54 wl1 rfl 1 (by decide) 5 rfl rfl rfl inX0_weigh_X0 ?_
            refine g_get C dX0_weigh_57 wl3 rfl 0 (by decide) 6 rfl rfl rfl inX0_weigh_X4 ?_
            refine g_topi (y := nI (pM (phC σ))) hW.nm ?_
            refine g_icmp_ge (tgt := 99) C dX0_weigh_60 (by decide) (fun c_60 => ?_) (fun c_60 => ?_)
            · have hme : m = pM (phC σ) := Nat.le_antisymm hm ((nI_leI (by have := hW.nm8; omega) (by have := hW.nm8; omega)).mp c_60)
              subst hme
              refine g_dload_n C dX0_weigh_99 2 rfl rfl ?_
              refine g_dret C dX0_weigh_100 rfl ⟨Nat.le_of_ble_eq_true rfl, Nat.le_of_ble_eq_true rfl⟩ ?_
              rw [hF]
              exact ⟨rfl, rfl⟩
            · have hmt : m < pM (phC σ) := by
                refine Nat.lt_of_not_le fun h => c_60 ?_
                exact (nI_leI (by have := hW.nm8; omega) (by have := hW.nm8; omega)).mpr h
              refine g_aload_n C dX0_weigh_63 0 rfl rfl ?_
              refine g_get C dX0_weigh_64 wl1 rfl 1 (by decide) 5 rfl rfl rfl inX0_weigh_X0 ?_
              refine g_iload C dX0_weigh_67 3 rfl ?_
              refine g_iload_n C dX0_weigh_69 1 rfl rfl ?_
              refine g_callV (As := [.int (nI m), .int (nI j)]) (rest := []) C dX0_weigh_70 (kX4_isOpenAt (xl X) (xK X) C.hD σ hW hmt hj) wl3 rfl 2 gX0_weigh_X4_isOpenAt rfl (by decide +kernel) ⟨Nat.le_of_ble_eq_true rfl, Nat.le_of_ble_eq_true rfl⟩ ⟨Nat.le_of_ble_eq_true rfl, Nat.le_of_ble_eq_true rfl⟩ rfl rfl (Nat.le_of_ble_eq_true rfl) (fun rv9 σ9 h9 => ?_)
              obtain ⟨h9a, h9b⟩ := h9
              refine g_eq (σ2 := σ) (lv2 := [(0, .ref ((xK X).2.2 1)), (1, .int (nI j)), (2, .double (accF (wgE (phC σ) j) (opAt (phC σ) j) (fun m => FP.dmul (sF σ 18 m) 4620693217682128896) m)), (4, .int (nI m))]) (st2 := [.int (bI (opAt (phC σ) j m))]) h9b rfl (by rw [h9a]; rfl) ?_
              refine g_if_eq (tgt := 93) C dX0_weigh_73 (by decide) (fun c_73 => ?_) (fun c_73 => ?_)
              · have hb : opAt (phC σ) j m = false := (bI_ne _).mp c_73
                refine g_eq (σ2 := σ) (lv2 := [(0, .ref ((xK X).2.2 1)), (1, .int (nI j)), (2, .double (accF (wgE (phC σ) j) (opAt (phC σ) j) (fun m => FP.dmul (sF σ 18 m) 4620693217682128896) (m + 1))), (4, .int (nI m))]) (st2 := []) rfl (congrArg (fun z9 => ([(0, .ref ((xK X).2.2 1)), (1, .int (nI j)), (2, .double z9), (4, .int (nI m))] : List (Nat × Value))) ((accF_no hb).symm)) rfl ?_
                refine g_iinc (v := nI (m + 1)) (lv' := [(4, .int (nI (m + 1))), (0, .ref ((xK X).2.2 1)), (1, .int (nI j)), (2, .double (accF (wgE (phC σ) j) (opAt (phC σ) j) (fun m => FP.dmul (sF σ 18 m) 4620693217682128896) (m + 1)))]) C dX0_weigh_93 3 rfl (nI_1 m) (by decide) rfl ?_
                refine g_goto (tgt := 51) C dX0_weigh_96 (by decide) ?_
                refine g_lv [1, 2, 3, 0] rfl ?_
                exact ih51 (m + 1) (by omega) (by omega)
              · have hb : opAt (phC σ) j m = true := by
                  cases h : opAt (phC σ) j m with
                  | true => rfl
                  | false => exact absurd ((bI_ne _).mpr h) c_73
                refine g_dload_n C dX0_weigh_76 2 rfl rfl ?_
                refine g_aload_n C dX0_weigh_77 0 rfl rfl ?_
                refine g_get C dX0_weigh_78 wl1 rfl 1 (by decide) 5 rfl rfl rfl inX0_weigh_X0 ?_
                refine g_get C dX0_weigh_81 wl3 rfl 3 (by decide) 7 rfl rfl rfl inX0_weigh_X4 ?_
                refine g_iload C dX0_weigh_84 3 rfl ?_
                refine g_dald (j := m) C dX0_weigh_86 wl18 rfl (by have := hW.nm8; omega) (by decide) ?_
                refine g_ldc2d (v := 4620693217682128896) C dX0_weigh_87 8 rfl ?_
                refine g_dmul C dX0_weigh_90 ((gat_g hg hmt).F.ok) ?_
                refine g_dadd C dX0_weigh_91 (accF_ok (wgE_B hp j) (n := pM (phC σ)) (by have := hW.nm8; omega) hmt (p := opAt (phC σ) j) (g := fun m => FP.dmul (sF σ 18 m) 4620693217682128896) (fun i hi _ => (gat_g hg hi).mono (by decide)) hb) ?_
                refine g_topd (y := accF (wgE (phC σ) j) (opAt (phC σ) j) (fun m => FP.dmul (sF σ 18 m) 4620693217682128896) (m + 1)) ((accF_yes hb).symm) ?_
                refine g_dstore_n (lv' := [(2, .double (accF (wgE (phC σ) j) (opAt (phC σ) j) (fun m => FP.dmul (sF σ 18 m) 4620693217682128896) (m + 1))), (0, .ref ((xK X).2.2 1)), (1, .int (nI j)), (4, .int (nI m))]) C dX0_weigh_92 rfl (by decide) rfl ?_
                refine g_iinc (v := nI (m + 1)) (lv' := [(4, .int (nI (m + 1))), (2, .double (accF (wgE (phC σ) j) (opAt (phC σ) j) (fun m => FP.dmul (sF σ 18 m) 4620693217682128896) (m + 1))), (0, .ref ((xK X).2.2 1)), (1, .int (nI j))]) C dX0_weigh_93 3 rfl (nI_1 m) (by decide) rfl ?_
                refine g_goto (tgt := 51) C dX0_weigh_96 (by decide) ?_
                refine g_lv [2, 3, 1, 0] rfl ?_
                exact ih51 (m + 1) (by omega) (by omega)
        refine g_lv [1, 2, 3, 0] rfl ?_
        exact loop51 (pM (phC σ) + 1) 0 (by omega) (Nat.zero_le _)
      · have hlt : t < cntC σ j := by
          refine Nat.lt_of_not_le fun h => c_16 ?_
          exact (nI_leI (by have := cntC_le hW j; omega) (by have := cntC_le hW j; omega)).mpr h
        refine g_dload_n C dX0_weigh_19 2 rfl rfl ?_
        refine g_aload_n C dX0_weigh_20 0 rfl rfl ?_
        refine g_get C dX0_weigh_21 wl1 rfl 0 (by decide) 1 rfl rfl rfl inX0_weigh_X0 ?_
        refine g_get C dX0_weigh_24 wl2 rfl 5 (by decide) 3 rfl rfl rfl inX0_weigh_X1 ?_
        refine g_aload_n C dX0_weigh_27 0 rfl rfl ?_
        refine g_get C dX0_weigh_28 wl1 rfl 0 (by decide) 1 rfl rfl rfl inX0_weigh_X0 ?_
        refine g_get C dX0_weigh_31 wl2 rfl 6 (by decide) 4 rfl rfl rfl inX0_weigh_X1 ?_
        refine g_iload_n C dX0_weigh_34 1 rfl rfl ?_
        refine g_rald (j := j) C dX0_weigh_35 rfl hj ?_
        refine g_iload C dX0_weigh_36 3 rfl ?_
        refine g_iald (j := t) C dX0_weigh_38 (wl_row hj) rfl (by have := cntC_le hW j; omega) (by decide) ?_
        refine g_dald (j := (duC σ j t)) C dX0_weigh_39 wl13 ((hW.row hj hlt).1) (by have := (hW.row hj hlt).2.1; have := hW.nd16; omega) (by decide) ?_
        refine g_topd (y := pE (phC σ) (duC σ j t)) (hE _ (hW.row hj hlt).2.1) ?_
        refine g_dadd C dX0_weigh_40 (accF_ok (d0_B 24) (n := cntC σ j) (by have := cntC_le hW j; omega) hlt (p := fun _ => true) (g := fun t => pE (phC σ) (duC σ j t)) (fun t hi _ => (hp.2.2.1 _ (hW.row hj hi).2.1).1.1) rfl) ?_
        refine g_topd (y := accF FP.dconst0 (fun _ => true) (fun t => pE (phC σ) (duC σ j t)) (t + 1)) (accF_yes (p := fun _ => true) rfl |>.symm) ?_
        refine g_dstore_n (lv' := [(2, .double (accF FP.dconst0 (fun _ => true) (fun t => pE (phC σ) (duC σ j t)) (t + 1))), (0, .ref ((xK X).2.2 1)), (1, .int (nI j)), (4, .int (nI t))]) C dX0_weigh_41 rfl (by decide) rfl ?_
        refine g_iinc (v := nI (t + 1)) (lv' := [(4, .int (nI (t + 1))), (2, .double (accF FP.dconst0 (fun _ => true) (fun t => pE (phC σ) (duC σ j t)) (t + 1))), (0, .ref ((xK X).2.2 1)), (1, .int (nI j))]) C dX0_weigh_42 3 rfl (nI_1 t) (by decide) rfl ?_
        refine g_goto (tgt := 5) C dX0_weigh_45 (by decide) ?_
        refine g_lv [2, 3, 1, 0] rfl ?_
        exact ih5 (t + 1) (by omega) (by omega)
  refine g_lv [2, 3, 1, 0] rfl ?_
  exact loop5 (cntC σ j + 1) 0 (by omega) (Nat.zero_le _)

theorem inX0_weighJoints_X0 : ∀ w ∈ u_ws RX0 TX0 5, w ∈ wsX0_weighJoints := by decide +kernel
theorem inX0_weighJoints_X1 : ∀ w ∈ u_ws RX1 TX1 8, w ∈ wsX0_weighJoints := by decide +kernel
set_option maxHeartbeats 4000000 in
set_option maxRecDepth 100000 in
theorem kX0_weighJoints (l : Launch) (K : gK) (hD : gD K) (σ : gS) (hW : Wc σ) (hE : Ec σ) (hp : PhF (phC σ)) (hg : Gc_ σ) : Ct l yX0_weighJoints wsX0_weighJoints { frames := 2, cells := 0, slots := 0, locals := 46 } K [.ref (K.2.2 1)] σ (fun r t => r = none ∧ t = uF σ 8 (wjN (phC σ) (sF σ 18) (sF σ 8) 10)) := by
  refine Ct.of hD (by decide) rfl (Nat.le_of_ble_eq_true rfl) ?_
  intro X hL hK hF C
  subst hL; subst hK
  refine g_eq (σ2 := σ) (lv2 := [(0, .ref ((xK X).2.2 1))]) (st2 := []) rfl rfl rfl ?_
  refine g_iconst (v := nI 0) C dX0_weighJoints_0 (by decide +kernel) ?_
  refine g_istore_n (lv' := [(1, .int (nI 0)), (0, .ref ((xK X).2.2 1))]) C dX0_weighJoints_1 rfl (by decide) rfl ?_
  refine g_eq (σ2 := uF σ 8 (wjN (phC σ) (sF σ 18) (sF σ 8) 0)) (lv2 := [(1, .int (nI 0)), (0, .ref ((xK X).2.2 1))]) (st2 := []) ((uF_self σ 8).symm) rfl rfl ?_
  have loop2 : ∀ (r9 : Nat) (t : Nat), 10 - t < r9 → (t ≤ 10) → G X 2 0 0 (uF σ 8 (wjN (phC σ) (sF σ 18) (sF σ 8) t)) [(0, .ref ((xK X).2.2 1)), (1, .int (nI t))] 2 [] := by
    intro r9
    induction r9 with
    | zero => intro t h9; exact absurd h9 (Nat.not_lt_zero _)
    | succ r9 ih2 =>
      intro t hm2 ht
      refine g_iload_n C dX0_weighJoints_2 1 rfl rfl ?_
      refine g_bipush (v := nI 10) C dX0_weighJoints_3 (by decide +kernel) ?_
      refine g_icmp_ge (tgt := 41) C dX0_weighJoints_5 (by decide) (fun c_5 => ?_) (fun c_5 => ?_)
      · have hte : t = 10 := Nat.le_antisymm ht ((nI_leI (by decide) (by omega)).mp c_5)
        subst hte
        refine g_vret C dX0_weighJoints_41 rfl ⟨Nat.le_of_ble_eq_true rfl, Nat.le_of_ble_eq_true rfl⟩ ?_
        rw [hF]
        exact ⟨rfl, rfl⟩
      · have hlt : t < 10 := by
          refine Nat.lt_of_not_le fun h => c_5 ?_
          exact (nI_leI (by decide) (by omega)).mpr h
        refine g_aload_n C dX0_weighJoints_8 0 rfl rfl ?_
        refine g_get C dX0_weighJoints_9 wl1 rfl 4 (by decide) 1 rfl rfl rfl inX0_weighJoints_X0 ?_
        refine g_iload_n C dX0_weighJoints_12 1 rfl rfl ?_
        refine g_aload_n C dX0_weighJoints_13 0 rfl rfl ?_
        refine g_get C dX0_weighJoints_14 wl1 rfl 0 (by decide) 2 rfl rfl rfl inX0_weighJoints_X0 ?_
        refine g_get C dX0_weighJoints_17 wl2 rfl 7 (by decide) 3 rfl rfl rfl inX0_weighJoints_X1 ?_
        refine g_iload_n C dX0_weighJoints_20 1 rfl rfl ?_
        refine g_iald (j := t) C dX0_weighJoints_21 wl15 rfl (by omega) (by decide) ?_
        refine g_topi (y := nI (cntC σ t)) (hW.ct hlt) ?_
        refine g_if_ne (tgt := 29) C dX0_weighJoints_22 (by decide) (fun c_22 => ?_) (fun c_22 => ?_)
        · have hb : hasD (phC σ) t = true := decide_eq_true (fun h => c_22 (by show nI (cntC σ t) = 0; unfold cntC; rw [h]; rfl))
          refine g_aload_n C dX0_weighJoints_29 0 rfl rfl ?_
          refine g_iload_n C dX0_weighJoints_30 1 rfl rfl ?_
          refine g_callV (As := [.int (nI t)]) (rest := [.int (nI t), .ref ((xK X).2.2 8)]) C dX0_weighJoints_31 (kX0_weigh (xl X) (xK X) C.hD (uF σ 8 (wjN (phC σ) (sF σ 18) (sF σ 8) t)) hW hE hp hg hlt) wl1 rfl 1 gX0_weighJoints_X0_weigh rfl (by decide +kernel) ⟨Nat.le_of_ble_eq_true rfl, Nat.le_of_ble_eq_true rfl⟩ ⟨Nat.le_of_ble_eq_true rfl, Nat.le_of_ble_eq_true rfl⟩ rfl rfl (Nat.le_of_ble_eq_true rfl) (fun rv9 σ9 h9 => ?_)
          obtain ⟨h9a, h9b⟩ := h9
          refine g_eq (σ2 := uF σ 8 (wjN (phC σ) (sF σ 18) (sF σ 8) t)) (lv2 := [(0, .ref ((xK X).2.2 1)), (1, .int (nI t))]) (st2 := [.double (wgt (phC σ) (sF σ 18) t), .int (nI t), .ref ((xK X).2.2 8)]) h9b rfl (by rw [h9a]; rfl) ?_
          refine g_topd (y := if hasD (phC σ) t then wgt (phC σ) (sF σ 18) t else FP.dconst0) (by first | exact (if_pos hb).symm | exact (if_neg (by rw [hb]; decide)).symm) ?_
          refine g_dast (j := t) (σ' := uF (uF σ 8 (wjN (phC σ) (sF σ 18) (sF σ 8) t)) 8 (vf_upd (sF (uF σ 8 (wjN (phC σ) (sF σ 18) (sF σ 8) t)) 8) t (if hasD (phC σ) t then wgt (phC σ) (sF σ 18) t else FP.dconst0))) C dX0_weighJoints_34 wl8 rfl (by omega) (by decide) wsA8 ?_
          refine g_eq (σ2 := uF σ 8 (wjN (phC σ) (sF σ 18) (sF σ 8) (t + 1))) (lv2 := [(0, .ref ((xK X).2.2 1)), (1, .int (nI t))]) (st2 := []) (uF_step _ _ _ _ _) rfl rfl ?_
          refine g_iinc (v := nI (t + 1)) (lv' := [(1, .int (nI (t + 1))), (0, .ref ((xK X).2.2 1))]) C dX0_weighJoints_35 1 rfl (nI_1 t) (by decide) rfl ?_
          refine g_goto (tgt := 2) C dX0_weighJoints_38 (by decide) ?_
          refine g_lv [1, 0] rfl ?_
          exact ih2 (t + 1) (by omega) (by omega)
        · have hb : hasD (phC σ) t = false := decide_eq_false (fun h => h (by have h1 : nI (cntC σ t) = nI 0 := c_22; exact (nI_eq (a := cntC σ t) (b := 0) (by have := cntC_le hW t; omega) (by decide)).mp h1))
          refine g_dconst0 C dX0_weighJoints_25 ?_
          refine g_goto (tgt := 34) C dX0_weighJoints_26 (by decide) ?_
          refine g_topd (y := if hasD (phC σ) t then wgt (phC σ) (sF σ 18) t else FP.dconst0) (by first | exact (if_pos hb).symm | exact (if_neg (by rw [hb]; decide)).symm) ?_
          refine g_dast (j := t) (σ' := uF (uF σ 8 (wjN (phC σ) (sF σ 18) (sF σ 8) t)) 8 (vf_upd (sF (uF σ 8 (wjN (phC σ) (sF σ 18) (sF σ 8) t)) 8) t (if hasD (phC σ) t then wgt (phC σ) (sF σ 18) t else FP.dconst0))) C dX0_weighJoints_34 wl8 rfl (by omega) (by decide) wsA8 ?_
          refine g_eq (σ2 := uF σ 8 (wjN (phC σ) (sF σ 18) (sF σ 8) (t + 1))) (lv2 := [(0, .ref ((xK X).2.2 1)), (1, .int (nI t))]) (st2 := []) (uF_step _ _ _ _ _) rfl rfl ?_
          refine g_iinc (v := nI (t + 1)) (lv' := [(1, .int (nI (t + 1))), (0, .ref ((xK X).2.2 1))]) C dX0_weighJoints_35 1 rfl (nI_1 t) (by decide) rfl ?_
          refine g_goto (tgt := 2) C dX0_weighJoints_38 (by decide) ?_
          refine g_lv [1, 0] rfl ?_
          exact ih2 (t + 1) (by omega) (by omega)
  refine g_lv [1, 0] rfl ?_
  exact loop2 11 0 (by omega) (Nat.zero_le _)

theorem inX0_changeOfRound_X0 : ∀ w ∈ u_ws RX0 TX0 5, w ∈ wsX0_changeOfRound := by decide +kernel
theorem inX0_changeOfRound_X2 : ∀ w ∈ u_ws RX2 TX2 3, w ∈ wsX0_changeOfRound := by decide +kernel
set_option maxHeartbeats 4000000 in
set_option maxRecDepth 100000 in
theorem kX0_changeOfRound (l : Launch) (K : gK) (hD : gD K) (σ : gS) (hW : Wc σ) (hE : Ec σ) (hp : PhF (phC σ)) (hP : Pc_ σ) (hg : Gc_ σ) (hq : okQ (sD σ 2)) (hw : Wj_ σ) : Ct l yX0_changeOfRound wsX0_changeOfRound { frames := 2, cells := 0, slots := 0, locals := 47 } K [.ref (K.2.2 1)] σ (fun r t => r = some (.double (rdC (phC σ) (sF σ 18) (sF σ 7, sD σ 2))) ∧ t = uD (uF σ 7 (rdP (phC σ) (sF σ 18) (sF σ 7, sD σ 2))) 2 (rdF (phC σ) (sF σ 18) (sF σ 7, sD σ 2))) := by
  refine Ct.of hD (by decide) rfl (Nat.le_of_ble_eq_true rfl) ?_
  intro X hL hK hF C
  subst hL; subst hK
  refine g_eq (σ2 := σ) (lv2 := [(0, .ref ((xK X).2.2 1))]) (st2 := []) rfl rfl rfl ?_
  refine g_dconst0 C dX0_changeOfRound_0 ?_
  refine g_dstore_n (lv' := [(1, .double FP.dconst0), (0, .ref ((xK X).2.2 1))]) C dX0_changeOfRound_1 rfl (by decide) rfl ?_
  refine g_aload_n C dX0_changeOfRound_2 1 rfl rfl ?_
  refine g_get C dX0_changeOfRound_3 wl1 rfl 3 (by decide) 1 rfl rfl rfl inX0_changeOfRound_X0 ?_
  refine g_iconst (v := nI 0) C dX0_changeOfRound_6 (by decide +kernel) ?_
  refine g_aload_n C dX0_changeOfRound_7 1 rfl rfl ?_
  refine g_get C dX0_changeOfRound_8 wl1 rfl 2 (by decide) 2 rfl rfl rfl inX0_changeOfRound_X0 ?_
  refine g_callV (As := []) (rest := [.int (nI 0), .ref ((xK X).2.2 7)]) C dX0_changeOfRound_11 (kX2_hold (xl X) (xK X) C.hD σ hp hq) wl6 rfl 0 gX0_changeOfRound_X2_hold rfl (by decide +kernel) ⟨Nat.le_of_ble_eq_true rfl, Nat.le_of_ble_eq_true rfl⟩ ⟨Nat.le_of_ble_eq_true rfl, Nat.le_of_ble_eq_true rfl⟩ rfl rfl (Nat.le_of_ble_eq_true rfl) (fun rv9 σ9 h9 => ?_)
  obtain ⟨h9a, h9b⟩ := h9
  refine g_eq (σ2 := σ) (lv2 := [(1, .double FP.dconst0), (0, .ref ((xK X).2.2 1))]) (st2 := [.double (na (hldV (phC σ) (sD σ 2))), .int (nI 0), .ref ((xK X).2.2 7)]) h9b rfl (by rw [h9a]; rfl) ?_
  refine g_dast (j := 0) (σ' := uF σ 7 (vf_upd (sF σ 7) 0 (na (hldV (phC σ) (sD σ 2))))) C dX0_changeOfRound_14 wl7 rfl (by decide) (by decide) wsA7 ?_
  refine g_iconst (v := nI 1) C dX0_changeOfRound_15 (by decide +kernel) ?_
  refine g_istore_n (lv' := [(3, .int (nI 1)), (1, .double FP.dconst0), (0, .ref ((xK X).2.2 1))]) C dX0_changeOfRound_16 rfl (by decide) rfl ?_
  refine g_eq (σ2 := uF σ 7 (crT σ 0).1) (lv2 := [(3, .int (nI 1)), (1, .double FP.dconst0), (0, .ref ((xK X).2.2 1))]) (st2 := []) rfl rfl rfl ?_
  refine g_eq (σ2 := uF σ 7 (crT σ 0).1) (lv2 := [(3, .int (nI 1)), (1, .double ((crT σ 0).2)), (0, .ref ((xK X).2.2 1))]) (st2 := []) rfl rfl rfl ?_
  have loop17 : ∀ (r9 : Nat) (t : Nat), 9 - t < r9 → (t ≤ 9) → G X 8 0 0 (uF σ 7 (crT σ t).1) [(0, .ref ((xK X).2.2 1)), (1, .double ((crT σ t).2)), (3, .int (nI (t + 1)))] 17 [] := by
    intro r9
    induction r9 with
    | zero => intro t h9; exact absurd h9 (Nat.not_lt_zero _)
    | succ r9 ih17 =>
      intro t hm17 ht
      have hPt : ∀ i, i < 10 → okP ((crT σ t).1 i) := rdN_ok hp hg (s := crS σ) (upd_okP hP (hld_ok hp hq).2.2.2) t
      refine g_iload_n C dX0_changeOfRound_17 2 rfl rfl ?_
      refine g_bipush (v := nI 10) C dX0_changeOfRound_18 (by decide +kernel) ?_
      refine g_icmp_ge (tgt := 94) C dX0_changeOfRound_20 (by decide) (fun c_20 => ?_) (fun c_20 => ?_)
      · have hte : t = 9 := by have := (nI_leI (by decide) (by omega)).mp c_20; omega
        have hP9 : ∀ i, i < 10 → okP ((crT σ 9).1 i) := by rw [← hte]; exact hPt
        refine g_eq (σ2 := uF σ 7 (crT σ 9).1) (lv2 := [(0, .ref ((xK X).2.2 1)), (1, .double ((crT σ t).2)), (3, .int (nI (t + 1)))]) (st2 := []) (by rw [hte]) rfl rfl ?_
        refine g_eq (σ2 := uF σ 7 (crT σ 9).1) (lv2 := [(0, .ref ((xK X).2.2 1)), (1, .double ((crT σ 9).2)), (3, .int (nI (t + 1)))]) (st2 := []) rfl (congrArg (fun z9 => ([(0, .ref ((xK X).2.2 1)), (1, .double z9), (3, .int (nI (t + 1)))] : List (Nat × Value))) (by rw [hte])) rfl ?_
        refine g_eq (σ2 := uF σ 7 (crT σ 9).1) (lv2 := [(0, .ref ((xK X).2.2 1)), (1, .double ((crT σ 9).2)), (3, .int (nI 10))]) (st2 := []) rfl (congrArg (fun z9 => ([(0, .ref ((xK X).2.2 1)), (1, .double ((crT σ 9).2)), (3, .int z9)] : List (Nat × Value))) (by rw [hte])) rfl ?_
        refine g_aload_n C dX0_changeOfRound_94 0 rfl rfl ?_
        refine g_get C dX0_changeOfRound_95 wl1 rfl 2 (by decide) 2 rfl rfl rfl inX0_changeOfRound_X0 ?_
        refine g_aload_n C dX0_changeOfRound_98 0 rfl rfl ?_
        refine g_iconst (v := nI 0) C dX0_changeOfRound_99 (by decide +kernel) ?_
        refine g_callV (As := [.int (nI 0)]) (rest := [.ref ((xK X).2.2 6)]) C dX0_changeOfRound_100 (kX0_flowsTo (xl X) (xK X) C.hD (uF σ 7 (crT σ 9).1) hW hE hp hP9 (j := 0) (by decide)) wl1 rfl 1 gX0_changeOfRound_X0_flowsTo rfl (by decide +kernel) ⟨Nat.le_of_ble_eq_true rfl, Nat.le_of_ble_eq_true rfl⟩ ⟨Nat.le_of_ble_eq_true rfl, Nat.le_of_ble_eq_true rfl⟩ rfl rfl (Nat.le_of_ble_eq_true rfl) (fun rv9 σ9 h9 => ?_)
        obtain ⟨h9a, h9b⟩ := h9
        refine g_eq (σ2 := uF σ 7 (crT σ 9).1) (lv2 := [(0, .ref ((xK X).2.2 1)), (1, .double ((crT σ 9).2)), (3, .int (nI 10))]) (st2 := [.double (floV (phC σ) (crT σ 9).1 0), .ref ((xK X).2.2 6)]) h9b rfl (by rw [h9a]; rfl) ?_
        refine g_callSN (As := [.double (floV (phC σ) (crT σ 9).1 0)]) (rest := [.ref ((xK X).2.2 6)]) C dX0_changeOfRound_103 (kX6_notBelowZero (xl X) (xK X) C.hD (uF σ 7 (crT σ 9).1) _) 1 gX0_changeOfRound_X6_notBelowZero_n105 rfl 1 rfl 30 rfl 36 rfl (by decide +kernel) ⟨Nat.le_of_ble_eq_true rfl, Nat.le_of_ble_eq_true rfl⟩ ⟨Nat.le_of_ble_eq_true rfl, Nat.le_of_ble_eq_true rfl⟩ rfl rfl (Nat.le_of_ble_eq_true rfl) (fun rv9 σ9 h9 => ?_)
        obtain ⟨h9a, h9b⟩ := h9
        refine g_eq (σ2 := uF σ 7 (crT σ 9).1) (lv2 := [(0, .ref ((xK X).2.2 1)), (1, .double ((crT σ 9).2)), (3, .int (nI 10))]) (st2 := [.double (nb (floV (phC σ) (crT σ 9).1 0)), .ref ((xK X).2.2 6)]) h9b rfl (by rw [h9a]; rfl) ?_
        refine g_put (σ' := uD (uF σ 7 (crT σ 9).1) 2 (nb (floV (phC σ) (crT σ 9).1 0))) (ty := .double) C dX0_changeOfRound_106 wl6 rfl 2 (by decide) 4 rfl rfl inX0_changeOfRound_X2 tyX2_ok nmX2 rfl (by decide +kernel) rfl rfl (Nat.le_of_ble_eq_true rfl) wsD2 ?_
        refine g_dload_n C dX0_changeOfRound_109 1 rfl rfl ?_
        refine g_dret C dX0_changeOfRound_110 rfl ⟨Nat.le_of_ble_eq_true rfl, Nat.le_of_ble_eq_true rfl⟩ ?_
        rw [hF]
        exact ⟨rfl, rfl⟩
      · have hlt : t < 9 := by
          refine Nat.lt_of_not_le fun h => c_20 ?_
          exact (nI_leI (by decide) (by omega)).mpr (by omega)
        refine g_aload_n C dX0_changeOfRound_23 0 rfl rfl ?_
        refine g_get C dX0_changeOfRound_24 wl1 rfl 4 (by decide) 3 rfl rfl rfl inX0_changeOfRound_X0 ?_
        refine g_iload_n C dX0_changeOfRound_27 2 rfl rfl ?_
        refine g_dald (j := (t + 1)) C dX0_changeOfRound_28 wl8 rfl (by omega) (by decide) ?_
        refine g_topd (y := if hasD (phC σ) (t + 1) then wgt (phC σ) (sF σ 18) (t + 1) else FP.dconst0) (hw _ (by omega)) ?_
        refine g_dconst0 C dX0_changeOfRound_29 ?_
        refine g_dcmp C dX0_changeOfRound_30 ?_
        refine g_if_le (tgt := 88) C dX0_changeOfRound_31 (by decide) (fun c_31 => ?_) (fun c_31 => ?_)
        · have hb : hasD (phC σ) (t + 1) = false := by
            cases hb : hasD (phC σ) (t + 1) with
            | false => rfl
            | true =>
              exfalso
              rw [if_pos hb] at c_31
              have h1 := (cv_le (wgt_B hp hg _).F.nn d0_F.nn).mp c_31
              have h2 := (newP hp hPt hg hb).2.2
              rw [d0_v] at h1
              omega
          refine g_eq (σ2 := uF σ 7 (crT σ (t + 1)).1) (lv2 := [(0, .ref ((xK X).2.2 1)), (1, .double ((crT σ t).2)), (3, .int (nI (t + 1)))]) (st2 := []) (by first | rw [crT_yes hb] | rw [crT_no hb]) rfl rfl ?_
          refine g_eq (σ2 := uF σ 7 (crT σ (t + 1)).1) (lv2 := [(0, .ref ((xK X).2.2 1)), (1, .double ((crT σ (t + 1)).2)), (3, .int (nI (t + 1)))]) (st2 := []) rfl (congrArg (fun z9 => ([(0, .ref ((xK X).2.2 1)), (1, .double z9), (3, .int (nI (t + 1)))] : List (Nat × Value))) (by first | rw [crT_yes hb] | rw [crT_no hb])) rfl ?_
          refine g_iinc (v := nI ((t + 1) + 1)) (lv' := [(3, .int (nI ((t + 1) + 1))), (0, .ref ((xK X).2.2 1)), (1, .double ((crT σ (t + 1)).2))]) C dX0_changeOfRound_88 2 rfl (nI_1 (t + 1)) (by decide) rfl ?_
          refine g_goto (tgt := 17) C dX0_changeOfRound_91 (by decide) ?_
          refine g_lv [1, 2, 0] rfl ?_
          exact ih17 (t + 1) (by omega) (by omega)
        · have hb : hasD (phC σ) (t + 1) = true := by
            cases hb : hasD (phC σ) (t + 1) with
            | true => rfl
            | false =>
              exfalso
              rw [if_neg (by rw [hb]; decide)] at c_31
              exact c_31 (by decide +kernel)
          refine g_aload_n C dX0_changeOfRound_34 0 rfl rfl ?_
          refine g_get C dX0_changeOfRound_35 wl1 rfl 3 (by decide) 1 rfl rfl rfl inX0_changeOfRound_X0 ?_
          refine g_iload_n C dX0_changeOfRound_38 2 rfl rfl ?_
          refine g_dald (j := (t + 1)) C dX0_changeOfRound_39 wl7 rfl (by omega) (by decide) ?_
          refine g_topd (y := (crT σ t).1 (t + 1)) rfl ?_
          refine g_dstore (lv' := [(4, .double ((crT σ t).1 (t + 1))), (0, .ref ((xK X).2.2 1)), (1, .double ((crT σ t).2)), (3, .int (nI (t + 1)))]) C dX0_changeOfRound_40 (by decide) rfl ?_
          refine g_aload_n C dX0_changeOfRound_42 1 rfl rfl ?_
          refine g_get C dX0_changeOfRound_43 wl1 rfl 3 (by decide) 1 rfl rfl rfl inX0_changeOfRound_X0 ?_
          refine g_iload_n C dX0_changeOfRound_46 3 rfl rfl ?_
          refine g_aload_n C dX0_changeOfRound_47 1 rfl rfl ?_
          refine g_iload_n C dX0_changeOfRound_48 3 rfl rfl ?_
          refine g_callV (As := [.int (nI (t + 1))]) (rest := [.int (nI (t + 1)), .ref ((xK X).2.2 7)]) C dX0_changeOfRound_49 (kX0_pull (xl X) (xK X) C.hD (uF σ 7 (crT σ t).1) hW hE hp hPt (j := t + 1) (by omega)) wl1 rfl 1 gX0_changeOfRound_X0_pull rfl (by decide +kernel) ⟨Nat.le_of_ble_eq_true rfl, Nat.le_of_ble_eq_true rfl⟩ ⟨Nat.le_of_ble_eq_true rfl, Nat.le_of_ble_eq_true rfl⟩ rfl rfl (Nat.le_of_ble_eq_true rfl) (fun rv9 σ9 h9 => ?_)
          obtain ⟨h9a, h9b⟩ := h9
          refine g_eq (σ2 := uF σ 7 (crT σ t).1) (lv2 := [(4, .double ((crT σ t).1 (t + 1))), (0, .ref ((xK X).2.2 1)), (1, .double ((crT σ t).2)), (3, .int (nI (t + 1)))]) (st2 := [.double (pulV (phC σ) (crT σ t).1 (t + 1)), .int (nI (t + 1)), .ref ((xK X).2.2 7)]) h9b rfl (by rw [h9a]; rfl) ?_
          refine g_aload_n C dX0_changeOfRound_52 1 rfl rfl ?_
          refine g_get C dX0_changeOfRound_53 wl1 rfl 4 (by decide) 3 rfl rfl rfl inX0_changeOfRound_X0 ?_
          refine g_iload_n C dX0_changeOfRound_56 3 rfl rfl ?_
          refine g_dald (j := (t + 1)) C dX0_changeOfRound_57 wl8 rfl (by omega) (by decide) ?_
          refine g_topd (y := wgt (phC σ) (sF σ 18) (t + 1)) ((hw _ (by omega)).trans (if_pos hb)) ?_
          refine g_ddiv C dX0_changeOfRound_58 ((newP hp hPt hg hb).1.1.ok) ?_
          refine g_dast (j := (t + 1)) (σ' := uF (uF σ 7 (crT σ t).1) 7 (vf_upd (sF (uF σ 7 (crT σ t).1) 7) (t + 1) (FP.ddiv (pulV (phC σ) (crT σ t).1 (t + 1)) (wgt (phC σ) (sF σ 18) (t + 1))))) C dX0_changeOfRound_59 wl7 rfl (by omega) (by decide) wsA7 ?_
          refine g_eq (σ2 := uF σ 7 (vf_upd (crT σ t).1 (t + 1) (FP.ddiv (pulV (phC σ) (crT σ t).1 (t + 1)) (wgt (phC σ) (sF σ 18) (t + 1))))) (lv2 := [(4, .double ((crT σ t).1 (t + 1))), (0, .ref ((xK X).2.2 1)), (1, .double ((crT σ t).2)), (3, .int (nI (t + 1)))]) (st2 := []) (uF_step _ _ _ _ _) rfl rfl ?_
          refine g_aload_n C dX0_changeOfRound_60 1 rfl rfl ?_
          refine g_get C dX0_changeOfRound_61 wl1 rfl 3 (by decide) 1 rfl rfl rfl inX0_changeOfRound_X0 ?_
          refine g_iload_n C dX0_changeOfRound_64 3 rfl rfl ?_
          refine g_dald (j := (t + 1)) C dX0_changeOfRound_65 wl7 rfl (by omega) (by decide) ?_
          refine g_topd (y := FP.ddiv (pulV (phC σ) (crT σ t).1 (t + 1)) (wgt (phC σ) (sF σ 18) (t + 1))) (vf_at (f := (crT σ t).1) (k := t + 1)) ?_
          refine g_dload C dX0_changeOfRound_66 0 rfl ?_
          refine g_dsub C dX0_changeOfRound_68 (((newP hp hPt hg hb).1.B.sub (k := 11) (hPt _ (by omega)).B (by decide)).F.ok) ?_
          refine g_callSN (As := [.double (FP.dsub (FP.ddiv (pulV (phC σ) (crT σ t).1 (t + 1)) (wgt (phC σ) (sF σ 18) (t + 1))) ((crT σ t).1 (t + 1)))]) (rest := []) C dX0_changeOfRound_69 (kX6_magnitude (xl X) (xK X) C.hD (uF σ 7 (vf_upd (crT σ t).1 (t + 1) (FP.ddiv (pulV (phC σ) (crT σ t).1 (t + 1)) (wgt (phC σ) (sF σ 18) (t + 1))))) _) 1 gX0_changeOfRound_X6_magnitude_n98 rfl 0 rfl 30 rfl 29 rfl (by decide +kernel) ⟨Nat.le_of_ble_eq_true rfl, Nat.le_of_ble_eq_true rfl⟩ ⟨Nat.le_of_ble_eq_true rfl, Nat.le_of_ble_eq_true rfl⟩ rfl rfl (Nat.le_of_ble_eq_true rfl) (fun rv9 σ9 h9 => ?_)
          obtain ⟨h9a, h9b⟩ := h9
          refine g_eq (σ2 := uF σ 7 (vf_upd (crT σ t).1 (t + 1) (FP.ddiv (pulV (phC σ) (crT σ t).1 (t + 1)) (wgt (phC σ) (sF σ 18) (t + 1))))) (lv2 := [(4, .double ((crT σ t).1 (t + 1))), (0, .ref ((xK X).2.2 1)), (1, .double ((crT σ t).2)), (3, .int (nI (t + 1)))]) (st2 := [.double (mg (FP.dsub (FP.ddiv (pulV (phC σ) (crT σ t).1 (t + 1)) (wgt (phC σ) (sF σ 18) (t + 1))) ((crT σ t).1 (t + 1))))]) h9b rfl (by rw [h9a]; rfl) ?_
          refine g_dstore (lv' := [(6, .double (mg (FP.dsub (FP.ddiv (pulV (phC σ) (crT σ t).1 (t + 1)) (wgt (phC σ) (sF σ 18) (t + 1))) ((crT σ t).1 (t + 1))))), (4, .double ((crT σ t).1 (t + 1))), (0, .ref ((xK X).2.2 1)), (1, .double ((crT σ t).2)), (3, .int (nI (t + 1)))]) C dX0_changeOfRound_72 (by decide) rfl ?_
          refine g_dload C dX0_changeOfRound_74 0 rfl ?_
          refine g_dload_n C dX0_changeOfRound_76 3 rfl rfl ?_
          refine g_dcmp C dX0_changeOfRound_77 ?_
          refine g_if_le (tgt := 86) C dX0_changeOfRound_78 (by decide) (fun c_78 => ?_) (fun c_78 => ?_)
          · refine g_dload_n C dX0_changeOfRound_86 3 rfl rfl ?_
            refine g_topd (y := mx (crT σ t).2 (mg (FP.dsub (FP.ddiv (pulV (phC σ) (crT σ t).1 (t + 1)) (wgt (phC σ) (sF σ 18) (t + 1))) ((crT σ t).1 (t + 1))))) (by unfold mx; first | rw [if_pos (by assumption)] | rw [if_neg (by assumption)]) ?_
            refine g_dstore_n (lv' := [(1, .double (mx (crT σ t).2 (mg (FP.dsub (FP.ddiv (pulV (phC σ) (crT σ t).1 (t + 1)) (wgt (phC σ) (sF σ 18) (t + 1))) ((crT σ t).1 (t + 1)))))), (6, .double (mg (FP.dsub (FP.ddiv (pulV (phC σ) (crT σ t).1 (t + 1)) (wgt (phC σ) (sF σ 18) (t + 1))) ((crT σ t).1 (t + 1))))), (4, .double ((crT σ t).1 (t + 1))), (0, .ref ((xK X).2.2 1)), (3, .int (nI (t + 1)))]) C dX0_changeOfRound_87 rfl (by decide) rfl ?_
            refine g_eq (σ2 := uF σ 7 (crT σ (t + 1)).1) (lv2 := [(1, .double (mx (crT σ t).2 (mg (FP.dsub (FP.ddiv (pulV (phC σ) (crT σ t).1 (t + 1)) (wgt (phC σ) (sF σ 18) (t + 1))) ((crT σ t).1 (t + 1)))))), (6, .double (mg (FP.dsub (FP.ddiv (pulV (phC σ) (crT σ t).1 (t + 1)) (wgt (phC σ) (sF σ 18) (t + 1))) ((crT σ t).1 (t + 1))))), (4, .double ((crT σ t).1 (t + 1))), (0, .ref ((xK X).2.2 1)), (3, .int (nI (t + 1)))]) (st2 := []) (by first | rw [crT_yes hb] | rw [crT_no hb]) rfl rfl ?_
            refine g_eq (σ2 := uF σ 7 (crT σ (t + 1)).1) (lv2 := [(1, .double ((crT σ (t + 1)).2)), (6, .double (mg (FP.dsub (FP.ddiv (pulV (phC σ) (crT σ t).1 (t + 1)) (wgt (phC σ) (sF σ 18) (t + 1))) ((crT σ t).1 (t + 1))))), (4, .double ((crT σ t).1 (t + 1))), (0, .ref ((xK X).2.2 1)), (3, .int (nI (t + 1)))]) (st2 := []) rfl (congrArg (fun z9 => ([(1, .double z9), (6, .double (mg (FP.dsub (FP.ddiv (pulV (phC σ) (crT σ t).1 (t + 1)) (wgt (phC σ) (sF σ 18) (t + 1))) ((crT σ t).1 (t + 1))))), (4, .double ((crT σ t).1 (t + 1))), (0, .ref ((xK X).2.2 1)), (3, .int (nI (t + 1)))] : List (Nat × Value))) (by first | rw [crT_yes hb] | rw [crT_no hb])) rfl ?_
            refine g_iinc (v := nI ((t + 1) + 1)) (lv' := [(3, .int (nI ((t + 1) + 1))), (1, .double ((crT σ (t + 1)).2)), (6, .double (mg (FP.dsub (FP.ddiv (pulV (phC σ) (crT σ t).1 (t + 1)) (wgt (phC σ) (sF σ 18) (t + 1))) ((crT σ t).1 (t + 1))))), (4, .double ((crT σ t).1 (t + 1))), (0, .ref ((xK X).2.2 1))]) C dX0_changeOfRound_88 4 rfl (nI_1 (t + 1)) (by decide) rfl ?_
            refine g_goto (tgt := 17) C dX0_changeOfRound_91 (by decide) ?_
            refine g_lv [4, 1, 0] rfl ?_
            exact ih17 (t + 1) (by omega) (by omega)
          · refine g_dload C dX0_changeOfRound_81 0 rfl ?_
            refine g_goto (tgt := 87) C dX0_changeOfRound_83 (by decide) ?_
            refine g_topd (y := mx (crT σ t).2 (mg (FP.dsub (FP.ddiv (pulV (phC σ) (crT σ t).1 (t + 1)) (wgt (phC σ) (sF σ 18) (t + 1))) ((crT σ t).1 (t + 1))))) (by unfold mx; first | rw [if_pos (by assumption)] | rw [if_neg (by assumption)]) ?_
            refine g_dstore_n (lv' := [(1, .double (mx (crT σ t).2 (mg (FP.dsub (FP.ddiv (pulV (phC σ) (crT σ t).1 (t + 1)) (wgt (phC σ) (sF σ 18) (t + 1))) ((crT σ t).1 (t + 1)))))), (6, .double (mg (FP.dsub (FP.ddiv (pulV (phC σ) (crT σ t).1 (t + 1)) (wgt (phC σ) (sF σ 18) (t + 1))) ((crT σ t).1 (t + 1))))), (4, .double ((crT σ t).1 (t + 1))), (0, .ref ((xK X).2.2 1)), (3, .int (nI (t + 1)))]) C dX0_changeOfRound_87 rfl (by decide) rfl ?_
            refine g_eq (σ2 := uF σ 7 (crT σ (t + 1)).1) (lv2 := [(1, .double (mx (crT σ t).2 (mg (FP.dsub (FP.ddiv (pulV (phC σ) (crT σ t).1 (t + 1)) (wgt (phC σ) (sF σ 18) (t + 1))) ((crT σ t).1 (t + 1)))))), (6, .double (mg (FP.dsub (FP.ddiv (pulV (phC σ) (crT σ t).1 (t + 1)) (wgt (phC σ) (sF σ 18) (t + 1))) ((crT σ t).1 (t + 1))))), (4, .double ((crT σ t).1 (t + 1))), (0, .ref ((xK X).2.2 1)), (3, .int (nI (t + 1)))]) (st2 := []) (by first | rw [crT_yes hb] | rw [crT_no hb]) rfl rfl ?_
            refine g_eq (σ2 := uF σ 7 (crT σ (t + 1)).1) (lv2 := [(1, .double ((crT σ (t + 1)).2)), (6, .double (mg (FP.dsub (FP.ddiv (pulV (phC σ) (crT σ t).1 (t + 1)) (wgt (phC σ) (sF σ 18) (t + 1))) ((crT σ t).1 (t + 1))))), (4, .double ((crT σ t).1 (t + 1))), (0, .ref ((xK X).2.2 1)), (3, .int (nI (t + 1)))]) (st2 := []) rfl (congrArg (fun z9 => ([(1, .double z9), (6, .double (mg (FP.dsub (FP.ddiv (pulV (phC σ) (crT σ t).1 (t + 1)) (wgt (phC σ) (sF σ 18) (t + 1))) ((crT σ t).1 (t + 1))))), (4, .double ((crT σ t).1 (t + 1))), (0, .ref ((xK X).2.2 1)), (3, .int (nI (t + 1)))] : List (Nat × Value))) (by first | rw [crT_yes hb] | rw [crT_no hb])) rfl ?_
            refine g_iinc (v := nI ((t + 1) + 1)) (lv' := [(3, .int (nI ((t + 1) + 1))), (1, .double ((crT σ (t + 1)).2)), (6, .double (mg (FP.dsub (FP.ddiv (pulV (phC σ) (crT σ t).1 (t + 1)) (wgt (phC σ) (sF σ 18) (t + 1))) ((crT σ t).1 (t + 1))))), (4, .double ((crT σ t).1 (t + 1))), (0, .ref ((xK X).2.2 1))]) C dX0_changeOfRound_88 4 rfl (nI_1 (t + 1)) (by decide) rfl ?_
            refine g_goto (tgt := 17) C dX0_changeOfRound_91 (by decide) ?_
            refine g_lv [4, 1, 0] rfl ?_
            exact ih17 (t + 1) (by omega) (by omega)
  refine g_lv [2, 1, 0] rfl ?_
  exact loop17 10 0 (by omega) (Nat.zero_le _)

set_option maxHeartbeats 4000000 in
set_option maxRecDepth 100000 in
theorem kX0_settle (l : Launch) (K : gK) (hD : gD K) (σ : gS) (hW : Wc σ) (hE : Ec σ) (hp : PhF (phC σ)) (hP : Pc_ σ) (hg : Gc_ σ) (hq : okQ (sD σ 2)) : Ct l yX0_settle wsX0_settle { frames := 3, cells := 0, slots := 0, locals := 74 } K [.ref (K.2.2 1)] σ (fun r t => r = some (.int (sei (seK (phC σ) (sF σ 18) (sF σ 7, sD σ 2)))) ∧ ∃ w, t = stA σ w (itR (phC σ) (sF σ 18) (sF σ 7, sD σ 2) (seN (seK (phC σ) (sF σ 18) (sF σ 7, sD σ 2))))) := by
  refine Ct.of hD (by decide) rfl (Nat.le_of_ble_eq_true rfl) ?_
  intro X hL hK hF C
  subst hL; subst hK
  refine g_eq (σ2 := σ) (lv2 := [(0, .ref ((xK X).2.2 1))]) (st2 := []) rfl rfl rfl ?_
  refine g_aload_n C dX0_settle_0 0 rfl rfl ?_
  refine g_callV (As := []) (rest := []) C dX0_settle_1 (kX0_weighJoints (xl X) (xK X) C.hD σ hW hE hp hg) wl1 rfl 0 gX0_settle_X0_weighJoints rfl (by decide +kernel) ⟨Nat.le_of_ble_eq_true rfl, Nat.le_of_ble_eq_true rfl⟩ ⟨Nat.le_of_ble_eq_true rfl, Nat.le_of_ble_eq_true rfl⟩ rfl rfl (Nat.le_of_ble_eq_true rfl) (fun rv9 σ9 h9 => ?_)
  obtain ⟨h9a, h9b⟩ := h9
  refine g_eq (σ2 := uF σ 8 (wjN (phC σ) (sF σ 18) (sF σ 8) 10)) (lv2 := [(0, .ref ((xK X).2.2 1))]) (st2 := []) h9b rfl (by rw [h9a]; rfl) ?_
  refine g_eq (σ2 := stA σ (wjN (phC σ) (sF σ 18) (sF σ 8) 10) (itR (phC σ) (sF σ 18) (sF σ 7, sD σ 2) 0)) (lv2 := [(0, .ref ((xK X).2.2 1))]) (st2 := []) (stA_0 _ _) rfl rfl ?_
  refine g_iconst (v := nI 1) C dX0_settle_4 (by decide +kernel) ?_
  refine g_istore_n (lv' := [(1, .int (nI 1)), (0, .ref ((xK X).2.2 1))]) C dX0_settle_5 rfl (by decide) rfl ?_
  have loop6 : ∀ (r9 : Nat) (k : Nat), 100 - k < r9 → (k ≤ 100) → (seK (phC σ) (sF σ 18) (sF σ 7, sD σ 2) = srch (sePr (phC σ) (sF σ 18) (sF σ 7, sD σ 2)) (100 - k) (k + 1)) → G X 2 0 0 (stA σ (wjN (phC σ) (sF σ 18) (sF σ 8) 10) (itR (phC σ) (sF σ 18) (sF σ 7, sD σ 2) k)) [(0, .ref ((xK X).2.2 1)), (1, .int (nI (k + 1)))] 6 [] := by
    intro r9
    induction r9 with
    | zero => intro k h9; exact absurd h9 (Nat.not_lt_zero _)
    | succ r9 ih6 =>
      intro k hm6 hk hs
      have hsd := itR_ok hp hg (s := (sF σ 7, sD σ 2)) ⟨hP, hq⟩ k
      refine g_iload_n C dX0_settle_6 1 rfl rfl ?_
      refine g_bipush (v := nI 100) C dX0_settle_7 (by decide +kernel) ?_
      refine g_icmp_gt (tgt := 31) C dX0_settle_9 (by decide) (fun c_9 => ?_) (fun c_9 => ?_)
      · have hke : k = 100 := by have := (nI_ltI (by decide) (by omega)).mp c_9; omega
        subst hke
        have hs : seK (phC σ) (sF σ 18) (sF σ 7, sD σ 2) = none := hs
        refine g_iconst (v := (-1)) C dX0_settle_31 (by decide +kernel) ?_
        refine g_iret C dX0_settle_32 rfl ⟨Nat.le_of_ble_eq_true rfl, Nat.le_of_ble_eq_true rfl⟩ ?_
        rw [hF]
        exact ⟨by rw [hs]; rfl, _, by rw [hs]; rfl⟩
      · have hlt : k < 100 := by
          refine Nat.lt_of_not_le fun h => c_9 ?_
          exact (nI_ltI (by decide) (by omega)).mpr (by omega)
        refine g_aload_n C dX0_settle_12 0 rfl rfl ?_
        refine g_callV (As := []) (rest := []) C dX0_settle_13 (kX0_changeOfRound (xl X) (xK X) C.hD (stA σ (wjN (phC σ) (sF σ 18) (sF σ 8) 10) (itR (phC σ) (sF σ 18) (sF σ 7, sD σ 2) k)) hW hE hp hsd.1 hg hsd.2 (fun j hj => wjN_at _ _ _ 10 j hj)) wl1 rfl 0 gX0_settle_X0_changeOfRound rfl (by decide +kernel) ⟨Nat.le_of_ble_eq_true rfl, Nat.le_of_ble_eq_true rfl⟩ ⟨Nat.le_of_ble_eq_true rfl, Nat.le_of_ble_eq_true rfl⟩ rfl rfl (Nat.le_of_ble_eq_true rfl) (fun rv9 σ9 h9 => ?_)
        obtain ⟨h9a, h9b⟩ := h9
        refine g_eq (σ2 := stA σ (wjN (phC σ) (sF σ 18) (sF σ 8) 10) (itR (phC σ) (sF σ 18) (sF σ 7, sD σ 2) (k + 1))) (lv2 := [(0, .ref ((xK X).2.2 1)), (1, .int (nI (k + 1)))]) (st2 := [.double (rdC (phC σ) (sF σ 18) (itR (phC σ) (sF σ 18) (sF σ 7, sD σ 2) k))]) (h9b.trans (stA_up _ _ _ _ _)) rfl (by rw [h9a]; rfl) ?_
        refine g_ldc2d (v := 4517110426252607488) C dX0_settle_16 1 rfl ?_
        refine g_dcmp C dX0_settle_19 ?_
        refine g_if_ge (tgt := 25) C dX0_settle_20 (by decide) (fun c_20 => ?_) (fun c_20 => ?_)
        · have hn : (sePr (phC σ) (sF σ 18) (sF σ 7, sD σ 2)) (k + 1) = false := decide_eq_false (by rw [Int32.not_lt]; exact c_20)
          refine g_iinc (v := nI ((k + 1) + 1)) (lv' := [(1, .int (nI ((k + 1) + 1))), (0, .ref ((xK X).2.2 1))]) C dX0_settle_25 1 rfl (nI_1 (k + 1)) (by decide) rfl ?_
          refine g_goto (tgt := 6) C dX0_settle_28 (by decide) ?_
          refine g_lv [1, 0] rfl ?_
          exact ih6 (k + 1) (by omega) (by omega) (by rw [hs, show 100 - k = (100 - (k + 1)) + 1 by omega]; exact srch_no hn)
        · have hy : (sePr (phC σ) (sF σ 18) (sF σ 7, sD σ 2)) (k + 1) = true := decide_eq_true (by rw [← Int32.not_le]; exact c_20)
          have hs : seK (phC σ) (sF σ 18) (sF σ 7, sD σ 2) = some (k + 1) := by rw [hs, show 100 - k = (99 - k) + 1 by omega]; exact srch_yes hy
          refine g_iload_n C dX0_settle_23 1 rfl rfl ?_
          refine g_iret C dX0_settle_24 rfl ⟨Nat.le_of_ble_eq_true rfl, Nat.le_of_ble_eq_true rfl⟩ ?_
          rw [hF]
          exact ⟨by rw [hs]; rfl, _, by rw [hs]; rfl⟩
  refine g_lv [1, 0] rfl ?_
  exact loop6 101 0 (by omega) (Nat.zero_le _) rfl

theorem inX0_closeGates_X0 : ∀ w ∈ u_ws RX0 TX0 5, w ∈ wsX0_closeGates := by decide +kernel
theorem inX0_closeGates_X4 : ∀ w ∈ u_ws RX4 TX4 6, w ∈ wsX0_closeGates := by decide +kernel
set_option maxHeartbeats 4000000 in
set_option maxRecDepth 100000 in
theorem kX0_closeGates (l : Launch) (K : gK) (hD : gD K) (σ : gS) (hW : Wc σ) (hp : PhF (phC σ)) (hP : Pc_ σ) (hg : Gc_ σ) : Ct l yX0_closeGates wsX0_closeGates { frames := 2, cells := 0, slots := 0, locals := 42 } K [.ref (K.2.2 1)] σ (fun r t => r = some (.int (bI (clB (phC σ) (sF σ 7) (sF σ 18) (pM (phC σ))))) ∧ t = uF σ 18 (clG (phC σ) (sF σ 7) (sF σ 18) (pM (phC σ)))) := by
  refine Ct.of hD (by decide) rfl (Nat.le_of_ble_eq_true rfl) ?_
  intro X hL hK hF C
  subst hL; subst hK
  refine g_eq (σ2 := σ) (lv2 := [(0, .ref ((xK X).2.2 1))]) (st2 := []) rfl rfl rfl ?_
  refine g_iconst (v := nI 0) C dX0_closeGates_0 (by decide +kernel) ?_
  refine g_istore_n (lv' := [(1, .int (nI 0)), (0, .ref ((xK X).2.2 1))]) C dX0_closeGates_1 rfl (by decide) rfl ?_
  refine g_iconst (v := nI 0) C dX0_closeGates_2 (by decide +kernel) ?_
  refine g_istore_n (lv' := [(2, .int (nI 0)), (1, .int (nI 0)), (0, .ref ((xK X).2.2 1))]) C dX0_closeGates_3 rfl (by decide) rfl ?_
  refine g_eq (σ2 := uF σ 18 (clG (phC σ) (sF σ 7) (sF σ 18) 0)) (lv2 := [(2, .int (nI 0)), (1, .int (nI 0)), (0, .ref ((xK X).2.2 1))]) (st2 := []) ((uF_self σ 18).symm) rfl rfl ?_
  refine g_eq (σ2 := uF σ 18 (clG (phC σ) (sF σ 7) (sF σ 18) 0)) (lv2 := [(2, .int (nI 0)), (1, .int (bI (clB (phC σ) (sF σ 7) (sF σ 18) 0))), (0, .ref ((xK X).2.2 1))]) (st2 := []) rfl rfl rfl ?_
  have loop4 : ∀ (r9 : Nat) (m : Nat), pM (phC σ) - m < r9 → (m ≤ pM (phC σ)) → G X 7 0 0 (uF σ 18 (clG (phC σ) (sF σ 7) (sF σ 18) m)) [(0, .ref ((xK X).2.2 1)), (1, .int (bI (clB (phC σ) (sF σ 7) (sF σ 18) m))), (2, .int (nI m))] 4 [] := by
    intro r9
    induction r9 with
    | zero => intro m h9; exact absurd h9 (Nat.not_lt_zero _)
    | succ r9 ih4 =>
      intro m hm4 hm
      refine g_iload_n C dX0_closeGates_4 2 rfl rfl ?_
      refine g_aload_n C dX0_closeGates_5 0 rfl rfl ?_
      refine g_get C dX0_closeGates_6 wl1 rfl 1 (by decide) 1 rfl rfl rfl inX0_closeGates_X0 ?_
      refine g_get C dX0_closeGates_9 wl3 rfl 0 (by decide) 2 rfl rfl rfl inX0_closeGates_X4 ?_
      refine g_topi (y := nI (pM (phC σ))) hW.nm ?_
      refine g_icmp_ge (tgt := 105) C dX0_closeGates_12 (by decide) (fun c_12 => ?_) (fun c_12 => ?_)
      · have hme : m = pM (phC σ) := Nat.le_antisymm hm ((nI_leI (by have := hW.nm8; omega) (by have := hW.nm8; omega)).mp c_12)
        subst hme
        refine g_iload_n C dX0_closeGates_105 1 rfl rfl ?_
        refine g_zret C dX0_closeGates_106 rfl (nar_bI _) ⟨Nat.le_of_ble_eq_true rfl, Nat.le_of_ble_eq_true rfl⟩ ?_
        rw [hF]
        exact ⟨rfl, rfl⟩
      · have hmt : m < pM (phC σ) := by
          refine Nat.lt_of_not_le fun h => c_12 ?_
          exact (nI_leI (by have := hW.nm8; omega) (by have := hW.nm8; omega)).mpr h
        have hgm := clG_ok hp hP hg m (Nat.le_of_lt hmt)
        refine g_aload_n C dX0_closeGates_15 0 rfl rfl ?_
        refine g_iload_n C dX0_closeGates_16 2 rfl rfl ?_
        refine g_callV (As := [.int (nI m)]) (rest := []) C dX0_closeGates_17 (kX0_draw (xl X) (xK X) C.hD (uF σ 18 (clG (phC σ) (sF σ 7) (sF σ 18) m)) hW hp hP hgm hmt) wl1 rfl 1 gX0_closeGates_X0_draw rfl (by decide +kernel) ⟨Nat.le_of_ble_eq_true rfl, Nat.le_of_ble_eq_true rfl⟩ ⟨Nat.le_of_ble_eq_true rfl, Nat.le_of_ble_eq_true rfl⟩ rfl rfl (Nat.le_of_ble_eq_true rfl) (fun rv9 σ9 h9 => ?_)
        obtain ⟨h9a, h9b⟩ := h9
        refine g_eq (σ2 := uF σ 18 (clG (phC σ) (sF σ 7) (sF σ 18) m)) (lv2 := [(0, .ref ((xK X).2.2 1)), (1, .int (bI (clB (phC σ) (sF σ 7) (sF σ 18) m))), (2, .int (nI m))]) (st2 := [.double (drV (phC σ) (sF σ 7) (sF σ 18) m)]) h9b rfl (by rw [h9a]; exact congrArg (fun z => [Value.double z]) (drV_cl (phC σ) (sF σ 7) (sF σ 18) m)) ?_
        refine g_dstore_n (lv' := [(3, .double (drV (phC σ) (sF σ 7) (sF σ 18) m)), (0, .ref ((xK X).2.2 1)), (1, .int (bI (clB (phC σ) (sF σ 7) (sF σ 18) m))), (2, .int (nI m))]) C dX0_closeGates_20 rfl (by decide) rfl ?_
        refine g_aload_n C dX0_closeGates_21 1 rfl rfl ?_
        refine g_get C dX0_closeGates_22 wl1 rfl 1 (by decide) 1 rfl rfl rfl inX0_closeGates_X0 ?_
        refine g_get C dX0_closeGates_25 wl3 rfl 2 (by decide) 3 rfl rfl rfl inX0_closeGates_X4 ?_
        refine g_iload_n C dX0_closeGates_28 3 rfl rfl ?_
        refine g_dald (j := m) C dX0_closeGates_29 wl17 rfl (by have := hW.nm8; omega) (by decide) ?_
        refine g_topd (y := pN (phC σ) m) rfl ?_
        refine g_dstore (lv' := [(5, .double (pN (phC σ) m)), (3, .double (drV (phC σ) (sF σ 7) (sF σ 18) m)), (0, .ref ((xK X).2.2 1)), (1, .int (bI (clB (phC σ) (sF σ 7) (sF σ 18) m))), (2, .int (nI m))]) C dX0_closeGates_30 (by decide) rfl ?_
        refine g_aload_n C dX0_closeGates_32 2 rfl rfl ?_
        refine g_get C dX0_closeGates_33 wl1 rfl 1 (by decide) 1 rfl rfl rfl inX0_closeGates_X0 ?_
        refine g_get C dX0_closeGates_36 wl3 rfl 4 (by decide) 4 rfl rfl rfl inX0_closeGates_X4 ?_
        refine g_iload_n C dX0_closeGates_39 4 rfl rfl ?_
        refine g_zald (j := m) C dX0_closeGates_40 wl19 rfl (by have := hW.nm8; omega) (by decide) ?_
        refine g_if_eq (tgt := 99) C dX0_closeGates_41 (by decide) (fun c_41 => ?_) (fun c_41 => ?_)
        · have hb : ovr (phC σ) (sF σ 7) (sF σ 18) m = false := by unfold ovr; rw [show pO (phC σ) m = false from decide_eq_false (fun h => h c_41)]; rfl
          refine g_eq (σ2 := uF σ 18 (clG (phC σ) (sF σ 7) (sF σ 18) (m + 1))) (lv2 := [(5, .double (pN (phC σ) m)), (3, .double (drV (phC σ) (sF σ 7) (sF σ 18) m)), (0, .ref ((xK X).2.2 1)), (1, .int (bI (clB (phC σ) (sF σ 7) (sF σ 18) m))), (2, .int (nI m))]) (st2 := []) (by first | rw [clG_yes hb] | rw [clG_no hb]) rfl rfl ?_
          refine g_eq (σ2 := uF σ 18 (clG (phC σ) (sF σ 7) (sF σ 18) (m + 1))) (lv2 := [(5, .double (pN (phC σ) m)), (3, .double (drV (phC σ) (sF σ 7) (sF σ 18) m)), (0, .ref ((xK X).2.2 1)), (1, .int (bI (clB (phC σ) (sF σ 7) (sF σ 18) (m + 1)))), (2, .int (nI m))]) (st2 := []) rfl (congrArg (fun z9 => ([(5, .double (pN (phC σ) m)), (3, .double (drV (phC σ) (sF σ 7) (sF σ 18) m)), (0, .ref ((xK X).2.2 1)), (1, .int z9), (2, .int (nI m))] : List (Nat × Value))) (by rw [clB_no hb])) rfl ?_
          refine g_iinc (v := nI (m + 1)) (lv' := [(2, .int (nI (m + 1))), (5, .double (pN (phC σ) m)), (3, .double (drV (phC σ) (sF σ 7) (sF σ 18) m)), (0, .ref ((xK X).2.2 1)), (1, .int (bI (clB (phC σ) (sF σ 7) (sF σ 18) (m + 1))))]) C dX0_closeGates_99 4 rfl (nI_1 m) (by decide) rfl ?_
          refine g_goto (tgt := 4) C dX0_closeGates_102 (by decide) ?_
          refine g_lv [3, 4, 0] rfl ?_
          exact ih4 (m + 1) (by omega) (by omega)
        · refine g_dload_n C dX0_closeGates_44 1 rfl rfl ?_
          refine g_dload C dX0_closeGates_45 0 rfl ?_
          refine g_dcmp C dX0_closeGates_47 ?_
          refine g_if_le (tgt := 99) C dX0_closeGates_48 (by decide) (fun c_48 => ?_) (fun c_48 => ?_)
          · have hb : ovr (phC σ) (sF σ 7) (sF σ 18) m = false := by unfold ovr; rw [show pO (phC σ) m = true from decide_eq_true c_41, decide_eq_false (by rw [Int32.not_lt]; exact c_48)]; rfl
            refine g_eq (σ2 := uF σ 18 (clG (phC σ) (sF σ 7) (sF σ 18) (m + 1))) (lv2 := [(5, .double (pN (phC σ) m)), (3, .double (drV (phC σ) (sF σ 7) (sF σ 18) m)), (0, .ref ((xK X).2.2 1)), (1, .int (bI (clB (phC σ) (sF σ 7) (sF σ 18) m))), (2, .int (nI m))]) (st2 := []) (by first | rw [clG_yes hb] | rw [clG_no hb]) rfl rfl ?_
            refine g_eq (σ2 := uF σ 18 (clG (phC σ) (sF σ 7) (sF σ 18) (m + 1))) (lv2 := [(5, .double (pN (phC σ) m)), (3, .double (drV (phC σ) (sF σ 7) (sF σ 18) m)), (0, .ref ((xK X).2.2 1)), (1, .int (bI (clB (phC σ) (sF σ 7) (sF σ 18) (m + 1)))), (2, .int (nI m))]) (st2 := []) rfl (congrArg (fun z9 => ([(5, .double (pN (phC σ) m)), (3, .double (drV (phC σ) (sF σ 7) (sF σ 18) m)), (0, .ref ((xK X).2.2 1)), (1, .int z9), (2, .int (nI m))] : List (Nat × Value))) (by rw [clB_no hb])) rfl ?_
            refine g_iinc (v := nI (m + 1)) (lv' := [(2, .int (nI (m + 1))), (5, .double (pN (phC σ) m)), (3, .double (drV (phC σ) (sF σ 7) (sF σ 18) m)), (0, .ref ((xK X).2.2 1)), (1, .int (bI (clB (phC σ) (sF σ 7) (sF σ 18) (m + 1))))]) C dX0_closeGates_99 4 rfl (nI_1 m) (by decide) rfl ?_
            refine g_goto (tgt := 4) C dX0_closeGates_102 (by decide) ?_
            refine g_lv [3, 4, 0] rfl ?_
            exact ih4 (m + 1) (by omega) (by omega)
          · have h0 : 0 < Op.cmpValue (FP.dcmp (drV (phC σ) (sF σ 7) (sF σ 18) m) (pN (phC σ) m)) .l := by rw [← Int32.not_le]; exact c_48
            have hb : ovr (phC σ) (sF σ 7) (sF σ 18) m = true := by unfold ovr; rw [show pO (phC σ) m = true from decide_eq_true c_41, decide_eq_true h0]; rfl
            have hov := ovr_ok hp hP hg hmt h0
            have hdr := drV_B hp hP hg hmt
            refine g_aload_n C dX0_closeGates_51 2 rfl rfl ?_
            refine g_get C dX0_closeGates_52 wl1 rfl 1 (by decide) 1 rfl rfl rfl inX0_closeGates_X0 ?_
            refine g_get C dX0_closeGates_55 wl3 rfl 3 (by decide) 5 rfl rfl rfl inX0_closeGates_X4 ?_
            refine g_iload_n C dX0_closeGates_58 4 rfl rfl ?_
            refine g_aload_n C dX0_closeGates_59 2 rfl rfl ?_
            refine g_get C dX0_closeGates_60 wl1 rfl 1 (by decide) 1 rfl rfl rfl inX0_closeGates_X0 ?_
            refine g_get C dX0_closeGates_63 wl3 rfl 3 (by decide) 5 rfl rfl rfl inX0_closeGates_X4 ?_
            refine g_iload_n C dX0_closeGates_66 4 rfl rfl ?_
            refine g_dald (j := m) C dX0_closeGates_67 wl18 rfl (by have := hW.nm8; omega) (by decide) ?_
            refine g_topd (y := sF σ 18 m) (clG_at m m (Nat.le_refl _)) ?_
            refine g_dload C dX0_closeGates_68 0 rfl ?_
            refine g_dmul C dX0_closeGates_70 hov.1.F.ok ?_
            refine g_dload_n C dX0_closeGates_71 1 rfl rfl ?_
            refine g_ddiv C dX0_closeGates_72 hov.2.1.F.ok ?_
            refine g_dast (j := m) (σ' := uF (uF σ 18 (clG (phC σ) (sF σ 7) (sF σ 18) m)) 18 (vf_upd (sF (uF σ 18 (clG (phC σ) (sF σ 7) (sF σ 18) m)) 18) m (FP.ddiv (FP.dmul (sF σ 18 m) (pN (phC σ) m)) (drV (phC σ) (sF σ 7) (sF σ 18) m)))) C dX0_closeGates_73 wl18 rfl (by have := hW.nm8; omega) (by decide) wsA18 ?_
            refine g_eq (σ2 := uF σ 18 (vf_upd (clG (phC σ) (sF σ 7) (sF σ 18) m) m (FP.ddiv (FP.dmul (sF σ 18 m) (pN (phC σ) m)) (drV (phC σ) (sF σ 7) (sF σ 18) m)))) (lv2 := [(5, .double (pN (phC σ) m)), (3, .double (drV (phC σ) (sF σ 7) (sF σ 18) m)), (0, .ref ((xK X).2.2 1)), (1, .int (bI (clB (phC σ) (sF σ 7) (sF σ 18) m))), (2, .int (nI m))]) (st2 := []) (uF_step _ _ _ _ _) rfl rfl ?_
            refine g_iload_n C dX0_closeGates_74 3 rfl rfl ?_
            refine g_if_ne (tgt := 93) C dX0_closeGates_75 (by decide) (fun c_75 => ?_) (fun c_75 => ?_)
            · refine g_iconst (v := nI 1) C dX0_closeGates_93 (by decide +kernel) ?_
              refine g_goto (tgt := 98) C dX0_closeGates_94 (by decide) ?_
              refine g_topi (y := bI (clB (phC σ) (sF σ 7) (sF σ 18) (m + 1))) (by
  rw [clB_yes hb]
  first
    | (have e9 : clB (phC σ) (sF σ 7) (sF σ 18) m = true := by
        cases h9 : clB (phC σ) (sF σ 7) (sF σ 18) m with
        | true => rfl
        | false => rw [h9] at c_75; exact absurd rfl c_75
       rw [e9]; rfl)
    | (have e9 : clB (phC σ) (sF σ 7) (sF σ 18) m = false := (bI_ne _).mp c_75
       have e8 : far (phC σ) (sF σ 7) (sF σ 18) m = false := decide_eq_false (by rw [Int32.not_lt]; exact c_90)
       rw [e9, e8]; rfl)
    | (have e8 : far (phC σ) (sF σ 7) (sF σ 18) m = true := decide_eq_true (by rw [← Int32.not_le]; exact c_90)
       rw [e8, Bool.or_true]; rfl)) ?_
              refine g_istore_n (lv' := [(1, .int (bI (clB (phC σ) (sF σ 7) (sF σ 18) (m + 1)))), (5, .double (pN (phC σ) m)), (3, .double (drV (phC σ) (sF σ 7) (sF σ 18) m)), (0, .ref ((xK X).2.2 1)), (2, .int (nI m))]) C dX0_closeGates_98 rfl (by decide) rfl ?_
              refine g_eq (σ2 := uF σ 18 (clG (phC σ) (sF σ 7) (sF σ 18) (m + 1))) (lv2 := [(1, .int (bI (clB (phC σ) (sF σ 7) (sF σ 18) (m + 1)))), (5, .double (pN (phC σ) m)), (3, .double (drV (phC σ) (sF σ 7) (sF σ 18) m)), (0, .ref ((xK X).2.2 1)), (2, .int (nI m))]) (st2 := []) (by first | rw [clG_yes hb] | rw [clG_no hb]) rfl rfl ?_
              refine g_iinc (v := nI (m + 1)) (lv' := [(2, .int (nI (m + 1))), (1, .int (bI (clB (phC σ) (sF σ 7) (sF σ 18) (m + 1)))), (5, .double (pN (phC σ) m)), (3, .double (drV (phC σ) (sF σ 7) (sF σ 18) m)), (0, .ref ((xK X).2.2 1))]) C dX0_closeGates_99 4 rfl (nI_1 m) (by decide) rfl ?_
              refine g_goto (tgt := 4) C dX0_closeGates_102 (by decide) ?_
              refine g_lv [4, 1, 0] rfl ?_
              exact ih4 (m + 1) (by omega) (by omega)
            · refine g_dload_n C dX0_closeGates_78 1 rfl rfl ?_
              refine g_ldc2d (v := 4652007308841189376) C dX0_closeGates_79 6 rfl ?_
              refine g_dmul C dX0_closeGates_82 ((hdr.2.2.1.mul (k := 24) c1000_B (by decide)).F.ok) ?_
              refine g_dload C dX0_closeGates_83 0 rfl ?_
              refine g_ldc2d (v := 4652016104934211584) C dX0_closeGates_85 7 rfl ?_
              refine g_dmul C dX0_closeGates_88 (((hp.2.2.2.1 m hmt).1.1.mul (k := 20) c1001_B (by decide)).F.ok) ?_
              refine g_dcmp C dX0_closeGates_89 ?_
              refine g_if_le (tgt := 97) C dX0_closeGates_90 (by decide) (fun c_90 => ?_) (fun c_90 => ?_)
              · refine g_iconst (v := nI 0) C dX0_closeGates_97 (by decide +kernel) ?_
                refine g_topi (y := bI (clB (phC σ) (sF σ 7) (sF σ 18) (m + 1))) (by
  rw [clB_yes hb]
  first
    | (have e9 : clB (phC σ) (sF σ 7) (sF σ 18) m = true := by
        cases h9 : clB (phC σ) (sF σ 7) (sF σ 18) m with
        | true => rfl
        | false => rw [h9] at c_75; exact absurd rfl c_75
       rw [e9]; rfl)
    | (have e9 : clB (phC σ) (sF σ 7) (sF σ 18) m = false := (bI_ne _).mp c_75
       have e8 : far (phC σ) (sF σ 7) (sF σ 18) m = false := decide_eq_false (by rw [Int32.not_lt]; exact c_90)
       rw [e9, e8]; rfl)
    | (have e8 : far (phC σ) (sF σ 7) (sF σ 18) m = true := decide_eq_true (by rw [← Int32.not_le]; exact c_90)
       rw [e8, Bool.or_true]; rfl)) ?_
                refine g_istore_n (lv' := [(1, .int (bI (clB (phC σ) (sF σ 7) (sF σ 18) (m + 1)))), (5, .double (pN (phC σ) m)), (3, .double (drV (phC σ) (sF σ 7) (sF σ 18) m)), (0, .ref ((xK X).2.2 1)), (2, .int (nI m))]) C dX0_closeGates_98 rfl (by decide) rfl ?_
                refine g_eq (σ2 := uF σ 18 (clG (phC σ) (sF σ 7) (sF σ 18) (m + 1))) (lv2 := [(1, .int (bI (clB (phC σ) (sF σ 7) (sF σ 18) (m + 1)))), (5, .double (pN (phC σ) m)), (3, .double (drV (phC σ) (sF σ 7) (sF σ 18) m)), (0, .ref ((xK X).2.2 1)), (2, .int (nI m))]) (st2 := []) (by first | rw [clG_yes hb] | rw [clG_no hb]) rfl rfl ?_
                refine g_iinc (v := nI (m + 1)) (lv' := [(2, .int (nI (m + 1))), (1, .int (bI (clB (phC σ) (sF σ 7) (sF σ 18) (m + 1)))), (5, .double (pN (phC σ) m)), (3, .double (drV (phC σ) (sF σ 7) (sF σ 18) m)), (0, .ref ((xK X).2.2 1))]) C dX0_closeGates_99 4 rfl (nI_1 m) (by decide) rfl ?_
                refine g_goto (tgt := 4) C dX0_closeGates_102 (by decide) ?_
                refine g_lv [4, 1, 0] rfl ?_
                exact ih4 (m + 1) (by omega) (by omega)
              · refine g_iconst (v := nI 1) C dX0_closeGates_93 (by decide +kernel) ?_
                refine g_goto (tgt := 98) C dX0_closeGates_94 (by decide) ?_
                refine g_topi (y := bI (clB (phC σ) (sF σ 7) (sF σ 18) (m + 1))) (by
  rw [clB_yes hb]
  first
    | (have e9 : clB (phC σ) (sF σ 7) (sF σ 18) m = true := by
        cases h9 : clB (phC σ) (sF σ 7) (sF σ 18) m with
        | true => rfl
        | false => rw [h9] at c_75; exact absurd rfl c_75
       rw [e9]; rfl)
    | (have e9 : clB (phC σ) (sF σ 7) (sF σ 18) m = false := (bI_ne _).mp c_75
       have e8 : far (phC σ) (sF σ 7) (sF σ 18) m = false := decide_eq_false (by rw [Int32.not_lt]; exact c_90)
       rw [e9, e8]; rfl)
    | (have e8 : far (phC σ) (sF σ 7) (sF σ 18) m = true := decide_eq_true (by rw [← Int32.not_le]; exact c_90)
       rw [e8, Bool.or_true]; rfl)) ?_
                refine g_istore_n (lv' := [(1, .int (bI (clB (phC σ) (sF σ 7) (sF σ 18) (m + 1)))), (5, .double (pN (phC σ) m)), (3, .double (drV (phC σ) (sF σ 7) (sF σ 18) m)), (0, .ref ((xK X).2.2 1)), (2, .int (nI m))]) C dX0_closeGates_98 rfl (by decide) rfl ?_
                refine g_eq (σ2 := uF σ 18 (clG (phC σ) (sF σ 7) (sF σ 18) (m + 1))) (lv2 := [(1, .int (bI (clB (phC σ) (sF σ 7) (sF σ 18) (m + 1)))), (5, .double (pN (phC σ) m)), (3, .double (drV (phC σ) (sF σ 7) (sF σ 18) m)), (0, .ref ((xK X).2.2 1)), (2, .int (nI m))]) (st2 := []) (by first | rw [clG_yes hb] | rw [clG_no hb]) rfl rfl ?_
                refine g_iinc (v := nI (m + 1)) (lv' := [(2, .int (nI (m + 1))), (1, .int (bI (clB (phC σ) (sF σ 7) (sF σ 18) (m + 1)))), (5, .double (pN (phC σ) m)), (3, .double (drV (phC σ) (sF σ 7) (sF σ 18) m)), (0, .ref ((xK X).2.2 1))]) C dX0_closeGates_99 4 rfl (nI_1 m) (by decide) rfl ?_
                refine g_goto (tgt := 4) C dX0_closeGates_102 (by decide) ?_
                refine g_lv [4, 1, 0] rfl ?_
                exact ih4 (m + 1) (by omega) (by omega)
  refine g_lv [2, 1, 0] rfl ?_
  exact loop4 (pM (phC σ) + 1) 0 (by omega) (Nat.zero_le _)
end
