def R_law : String := "ReceiptRollsLaw"
def lw_P (b : Addr) (xs : List Int32) (args : Array Value) (s : State) : Prop := args = #[.ref b] ∧ s.IntsAt b xs ∧ xs.length ≤ 260 ∧ (Jvm.Cond.and given_1 narrow_1).before args s = true
def lw_Q (_ : Array Value) (s : State) (o : Outcome) (t : State) : Prop := o = .returned (some (.int 1)) ∧ Framed s o t [] 600000 7302250
def lw_Z (below : List Frame) (a : Array Value) (s : State) : State → Prop := fun t => ∃ o, t.status = .running ∧ Ended t below o ∧ lw_Q a s o t
/-- the law's own end, with 1 on the stack, nothing written that was there before, its room as the claim has it -/
theorem lw_ret {p : Program} {l : Launch} {e : Jvm.Env} {s : State} {m : MethodId} {below : List Frame} {meth : Method} {c : Code} {b : Nat} (hx : p.tables.exec = Jvm.exec) (hb : c.code = code) (hr : meth.sig.returnType = ret) (hlocks : meth.locks = false) {pc : Nat} {H : Heap} {ls : Array Slot} (hdg : decode code pc = .ok (.ireturn, 1)) : W p l e room_1 s m #[Value.ref b] below meth c H [] 600000 7302250 (lw_Z below #[Value.ref b] s) (F0 m pc ls [.int 1]) := by
  intro T hT X
  obtain ⟨fs, hret, hrun, hended, hW, hframe⟩ := X.leave (v := some (.int 1)) (hlocks := hlocks) (fun h => by rw [hr] at h; cases h)
  have hmeth' : T.vm.method? m = some meth := X.method'
  refine ⟨T.setFrames fs, ?_, .returned (some (.int 1)), hrun, hended, rfl, ⟨_, rfl⟩, hW, hframe⟩
  jvm_step X.here [X.here.top, hx, hb, hdg, hmeth', hr, ret, narrow_b1]
  (try refine ⟨rfl, ?_⟩); (try refine ⟨rfl, ?_⟩)
  first | (intro acts; rw [hret _ acts rfl rfl rfl]) | rw [hret _ _ rfl rfl rfl]
  exact Steps.refl _
/-- what holds at the law's entry: the machine, the code, the tables' words (any of lw_tbl by 'hts w (by decide +kernel)'), the script of L ints xs at the cell b, what the Statement gives of the start (any of its parts by flat_of_before) -/
def lw_At (p : Program) (s : State) (m : MethodId) (meth : Method) (c : Code) (b L : Nat) (xs : Nat → Int32) : Prop :=
  p.tables.exec = Jvm.exec ∧ c.code = code ∧ meth.sig.returnType = ret ∧ c.maxLocals = 16 ∧ s.vm.findClass R_law = some m.cls ∧ (∀ w ∈ lw_tbl, w.before #[Value.ref b] s = true) ∧ va_X b L xs s s.heap ∧ b < s.heap.size ∧ meth.locks = false ∧ (Jvm.Cond.and given_1 narrow_1).before #[Value.ref b] s = true
/-! THE START: what the machine holds as the law begins, as a picture -/
def gN (s : State) (a : Nat) : Nat := match s.heap[a]? with
  | some z => z.slots.size.toInt32.toNatClampNeg
  | none => 0
def gI (s : State) (a j : Nat) : Int32 := if j < gN s a then (match s.heap[a]? with
  | some z => match z.slots[j]? with
    | some (.int x) => x
    | _ => 0
  | none => 0) else 0
/-- int array, byte array, or a text with that array -/
def kindOf (s : State) (a : Nat) : Nat := match s.heap[a]? with
  | some z => match s.vm.classes[z.cls]? with
    | some k => match k.kind with
      | .array _ .int => 0
      | .array _ .byte => 1
      | _ => 2
    | none => 2
  | none => 2
def cel0 (s : State) (vo : Nat → Nat) (a : Nat) : Cl := match kindOf s a with
  | 0 => .inl (10, gN s a, .inl (gI s a))
  | 1 => .inl (11, gN s a, .inl (gI s a))
  | _ => .inr (10, [.inr (.inr (some (vo a))), .inl 0])
theorem kindOf_arr {s : State} {a : Nat} {cell : Cell} {ty : FieldType} (h : s.heap[a]? = some cell) (hk : s.isArrayOf cell ty) : (ty = .int → kindOf s a = 0) ∧ (ty = .byte → kindOf s a = 1) := by
  obtain ⟨-, k, h1, comp, h2⟩ := hk
  refine ⟨fun e => ?_, fun e => ?_⟩
  · subst e
    simp [kindOf, h, h1, h2]
  · subst e
    simp [kindOf, h, h1, h2]
theorem canT {s : State} {ty : FieldType} {t N : Nat} {f : Nat → Int32} {A : Nat → Prop} (h : va_T ty t N (fun j => .int (f j)) A s s.heap) (hN : N < 2 ^ 31) : gN s t = N ∧ (∀ j, j < N → gI s t j = f j) ∧ va_T ty t N (fun j => .int (gI s t j)) A s s.heap ∧ ∃ cell, s.heap[t]? = some cell ∧ s.isArrayOf cell ty := by
  obtain ⟨cell, h1, h2, h3, h4, h5, h6, h7⟩ := h
  have e1 : gN s t = N := by
    simp only [gN, h1]
    exact clamp_of h5 hN
  have e2 : ∀ j, j < N → gI s t j = f j := by
    intro j hj
    simp only [gI, e1, if_pos hj, h1, h6 j hj]
  exact ⟨e1, e2, ⟨cell, h1, h2, h3, h4, h5, fun j hj => by show cell.slots[j]? = some (.int (gI s t j)); rw [e2 j hj]; exact h6 j hj, h7⟩, cell, h1, h2⟩
/-- what the law's function is told of the start -/
def Start (c : Nat → Option Nat) (h : Hp) (b L : Nat) : Prop :=
  (∃ f, h.1 b = some (.inl (10, L, .inl f))) ∧
  (∃ t f, c 0 = some t ∧ h.1 t = some (.inl (10, 3, .inl f)) ∧ f 0 = 16 ∧ f 1 = 5 ∧ f 2 = 1) ∧
  (∃ t f, c 1 = some t ∧ h.1 t = some (.inl (10, 3, .inl f)) ∧ f 0 = 40 ∧ f 1 = 200 ∧ f 2 = 9) ∧
  (∃ t f, c 2 = some t ∧ h.1 t = some (.inl (10, 3, .inl f)) ∧ f 0 = 0 ∧ f 1 = 7 ∧ f 2 = 19) ∧
  (∃ a q f, c 4 = some a ∧ h.1 a = some (.inr (10, [.inr (.inr (some q)), .inl 0])) ∧ h.1 q = some (.inl (11, 1, .inl f)) ∧ f 0 = 35) ∧
  (∃ a q f, c 5 = some a ∧ h.1 a = some (.inr (10, [.inr (.inr (some q)), .inl 0])) ∧ h.1 q = some (.inl (11, 5, .inl f)) ∧ f 0 = 118 ∧ f 1 = 111 ∧ f 2 = 105 ∧ f 3 = 100 ∧ f 4 = 32) ∧
  (∃ a q f, c 6 = some a ∧ h.1 a = some (.inr (10, [.inr (.inr (some q)), .inl 0])) ∧ h.1 q = some (.inl (11, 3, .inl f)) ∧ f 0 = 115 ∧ f 1 = 117 ∧ f 2 = 109) ∧
  (∃ a q f, c 7 = some a ∧ h.1 a = some (.inr (10, [.inr (.inr (some q)), .inl 0])) ∧ h.1 q = some (.inl (11, 4, .inl f)) ∧ f 0 = 116 ∧ f 1 = 97 ∧ f 2 = 120 ∧ f 3 = 32) ∧
  (∀ a e, h.1 a = some e → a < h.2.1 ∧ ((∃ x, e = .inl (10, x)) ∨ (∃ x, e = .inl (11, x)) ∨ ∃ x, e = .inr (10, x))) ∧ h.2.2 = 0
def PureLaw : Prop := ∀ (c : Nat → Option Nat) (h : Hp) (b L : Nat), L ≤ 260 → Start c h b L → ∃ hf, fL_law c h (some b) = some (hf, some (.inl 1)) ∧ hf.2.1 ≤ h.2.1 + 600000 ∧ hf.2.2 ≤ 7302250
def kS : Nat → Nat
  | 0 => 19
  | 1 => 50
  | 2 => 62
  | _ => 76
def lnS : List Nat := [1, 5, 3, 4]
def bySt : List (List Int32) := [[35], [118, 111, 105, 100, 32], [115, 117, 109], [116, 97, 120, 32]]
theorem bySt_fit : ∀ i, i < 4 → ∀ j, j < lnS.getD i 0 → fits .byte (.int ((bySt.getD i []).getD j 0)) = true := by decide +kernel
theorem inst_ok : ∀ r ∈ vwCl, Cond.instantiable r.1 r.2.2 ∈ lw_tbl := by decide +kernel
theorem uws_tbl : ∀ (q : vw_C), q ∈ vwCl → ∀ w ∈ u_ws q.1 q.2.1 q.2.2, w ∈ lw_tbl := by decide +kernel
theorem ints3 {args : Array Value} {s : State} {C n : String} {x0 x1 x2 : Int32} {A : Nat → Prop} (hA : ∀ a : Nat, a < s.heap.size → ¬ A a)
    (ha : (Cond.arrayOf (.static C n "[I") .int).before args s = true) (hl : (Cond.eq (.length (.static C n "[I")) (.int 3)).before args s = true) (h0 : (Cond.eq (.elem (.static C n "[I") (.int 0)) (.int x0)).before args s = true) (h1 : (Cond.eq (.elem (.static C n "[I") (.int 1)) (.int x1)).before args s = true) (h2 : (Cond.eq (.elem (.static C n "[I") (.int 2)) (.int x2)).before args s = true) :
    ∃ t : Nat, (Term.static C n "[I").eval args s none [] s = some (.ref t) ∧ va_T .int t 3 (fun j => .int (([x0, x1, x2] : List Int32).getD j 0)) A s s.heap := by
  refine va_Tof (f := fun j => .int (([x0, x1, x2] : List Int32).getD j 0)) (by decide) ha (va_eqt hl) (fun j hj => ?_) hA
  match j, hj with
  | 0, _ => exact va_eqt h0
  | 1, _ => exact va_eqt h1
  | 2, _ => exact va_eqt h2
set_option maxHeartbeats 4000000 in
set_option maxRecDepth 100000 in
theorem root_start {p : Program} {e : Jvm.Env} {s : State} {m : MethodId} {below : List Frame} {meth : Method} {c : Code} (l : Launch) {b L : Nat} {xs : Nat → Int32} (hL : L ≤ 260) (C0 : lw_At p s m meth c b L xs) (hp : PureLaw) : W p l e room_1 s m #[Value.ref b] below meth c s.heap [] 0 0 (lw_Z below #[Value.ref b] s) (entryFrame m ([Value.ref b] : List Value).toArray 16) := by
  obtain ⟨hx, hb, hr, hml, hown, hts, hX, hbl, hlocks, hgv⟩ := C0
  have hfl := flat_of_before _ hgv
  have hA : ∀ a : Nat, a < s.heap.size → ¬ (fun q : Nat => s.heap.size ≤ q) a := fun a h => Nat.not_le.mpr h
  -- classes
  have hcl : ∀ ci : Nat, ∃ q : ClassId × (Nat → Nat), ∀ r : vw_C, vwCl[ci]? = some r → u_Kn s r.1 r.2.1 r.2.2 q.1 q.2 := by
    intro ci
    cases hr0 : vwCl[ci]? with
    | none => exact ⟨(0, fun _ => 0), fun r h => by cases h⟩
    | some r =>
      obtain ⟨cC, iS, h⟩ := u_known hts (uws_tbl r (List.mem_of_getElem? hr0)) (hts _ (inst_ok r (List.mem_of_getElem? hr0)))
      exact ⟨(cC, iS), fun r' h' => by cases h'; exact h⟩
  obtain ⟨dq, hdq⟩ := Classical.axiomOfChoice hcl
  have har : ∀ k : Nat, ∃ cA : ClassId, k < 7 → ArrOfT s cA (tyA k) ∧ va_RA s cA (tyA k) := by
    intro k
    have prim : ∀ ty : FieldType, Cond.arrayClass ty ∈ lw_tbl → (∀ cA, s.vm.findClass ("[" ++ ty.toString) = some cA → va_RA s cA ty) → ∃ cA : ClassId, ArrOfT s cA ty ∧ va_RA s cA ty := by
      intro ty hw hra
      obtain ⟨cA, kA, comp, h1, h2, h3⟩ := Cond.arrayClass_spec (hts _ hw)
      exact ⟨cA, fun n z => ⟨fun k h => (by cases h), kA, h2, comp, h3⟩, hra cA h1⟩
    have refs : ∀ C : String, Cond.arrayOver (.object C) ∈ lw_tbl → ∃ cA : ClassId, ArrOfT s cA (.object C) ∧ va_RA s cA (.object C) := by
      intro C hw
      obtain ⟨comp, cA, kA, h1, -, h3, h4, h5⟩ := Cond.arrayOver_spec (hts _ hw)
      exact ⟨cA, fun n z => ⟨fun k h => (by cases h), kA, h3, comp, h4⟩, kA, comp, h3, h4, h1, h5⟩
    match k with
    | 0 => obtain ⟨cA, h⟩ := prim .int (by decide +kernel) (fun _ h => h); exact ⟨cA, fun _ => h⟩
    | 1 => obtain ⟨cA, h⟩ := prim .byte (by decide +kernel) (fun _ h => h); exact ⟨cA, fun _ => h⟩
    | 2 => obtain ⟨cA, h⟩ := prim .byte (by decide +kernel) (fun _ h => h); exact ⟨cA, fun _ => h⟩
    | 3 => obtain ⟨cA, h⟩ := prim .char (by decide +kernel) (fun _ h => h); exact ⟨cA, fun _ => h⟩
    | 4 => obtain ⟨cA, h⟩ := refs "ReceiptRolls$Item" (by decide +kernel); exact ⟨cA, fun _ => h⟩
    | 5 => obtain ⟨cA, h⟩ := refs "ReceiptRolls$Receipt" (by decide +kernel); exact ⟨cA, fun _ => h⟩
    | 6 => obtain ⟨cA, h⟩ := refs "ReceiptRolls$State" (by decide +kernel); exact ⟨cA, fun _ => h⟩
    | n + 7 => exact ⟨0, fun h => by omega⟩
  obtain ⟨aC, haC⟩ := Classical.axiomOfChoice har
  have hK : va_K (fun ci => (dq ci).1, fun ci => (dq ci).2) vwCl [(aC 0, .int), (aC 1, .byte), (aC 2, .byte), (aC 3, .char), (aC 4, .object "ReceiptRolls$Item"), (aC 5, .object "ReceiptRolls$Receipt"), (aC 6, .object "ReceiptRolls$State")] s := by
    refine ⟨fun ci q hq => hdq ci q hq, fun k q hq => ?_⟩
    match k, hq with
    | 0, hq => cases hq; exact haC 0 (by decide)
    | 1, hq => cases hq; exact haC 1 (by decide)
    | 2, hq => cases hq; exact haC 2 (by decide)
    | 3, hq => cases hq; exact haC 3 (by decide)
    | 4, hq => cases hq; exact haC 4 (by decide)
    | 5, hq => cases hq; exact haC 5 (by decide)
    | 6, hq => cases hq; exact haC 6 (by decide)
    | n + 7, hq => simp at hq
  -- statics
  obtain ⟨t0, ev0, T0⟩ := ints3 (C := "ReceiptRolls") (n := "LEAST_SETTINGS") (x0 := 16) (x1 := 5) (x2 := 1) hA (hfl _ (by decide +kernel)) (hfl _ (by decide +kernel)) (hfl _ (by decide +kernel)) (hfl _ (by decide +kernel)) (hfl _ (by decide +kernel))
  obtain ⟨t1, ev1, T1⟩ := ints3 (C := "ReceiptRolls") (n := "MOST_SETTINGS") (x0 := 40) (x1 := 200) (x2 := 9) hA (hfl _ (by decide +kernel)) (hfl _ (by decide +kernel)) (hfl _ (by decide +kernel)) (hfl _ (by decide +kernel)) (hfl _ (by decide +kernel))
  obtain ⟨t2, ev2, T2⟩ := ints3 (C := "ReceiptRolls") (n := "RATES") (x0 := 0) (x1 := 7) (x2 := 19) hA (hfl _ (by decide +kernel)) (hfl _ (by decide +kernel)) (hfl _ (by decide +kernel)) (hfl _ (by decide +kernel)) (hfl _ (by decide +kernel))
  have Z0 := va_Zref (hts (.laysStatic "ReceiptRolls" "LEAST_SETTINGS" "[I") (by decide +kernel)) (hts (.initialized "ReceiptRolls") (by decide +kernel)) ev0 hA
  have Z1 := va_Zref (hts (.laysStatic "ReceiptRolls" "MOST_SETTINGS" "[I") (by decide +kernel)) (hts (.initialized "ReceiptRolls") (by decide +kernel)) ev1 hA
  have Z2 := va_Zref (hts (.laysStatic "ReceiptRolls" "RATES" "[I") (by decide +kernel)) (hts (.initialized "ReceiptRolls") (by decide +kernel)) ev2 hA
  have Z3 : ∃ r : Option Nat, va_Z "jdk/internal/util/Preconditions" "SIOOBE_FORMATTER" "Ljava/util/function/BiFunction;" (va_rf r) (fun q : Nat => s.heap.size ≤ q) s s.heap := by
    rcases va_Zqof (hts (.laysStatic "jdk/internal/util/Preconditions" "SIOOBE_FORMATTER" "Ljava/util/function/BiFunction;") (by decide +kernel)) (hts (.initialized "jdk/internal/util/Preconditions") (by decide +kernel)) (hfl _ (by decide +kernel)) hA with h | ⟨t, h⟩
    · exact ⟨none, h⟩
    · exact ⟨some t, h⟩
  obtain ⟨r3, Z3⟩ := Z3
  have Z4 := va_Zof (hts (.laysStatic "java/lang/String" "COMPACT_STRINGS" "Z") (by decide +kernel)) (hts (.initialized "java/lang/String") (by decide +kernel)) (va_eqi (hfl (.eq (.static "java/lang/String" "COMPACT_STRINGS" "Z") (.int 1)) (by decide +kernel))) hA
  -- texts
  have h3 : ∀ i, i < 4 → ∀ j, j < lnS.getD i 0 → (Cond.eq (.elem (.field (.string "ReceiptRolls$Sheet" (kS i)) "java/lang/String" "value" "[B") (.int (Int32.ofNat j))) (.int ((bySt.getD i []).getD j 0))) ∈ flatC (Jvm.Cond.and given_1 narrow_1) := by decide +kernel
  obtain ⟨adK, adV, hS, hSe⟩ := vk_Sof (args := #[Value.ref b]) (s := s) (N := 4) (tm := fun i => .string "ReceiptRolls$Sheet" (kS i)) (len := lnS) (byt := bySt) (A := fun q : Nat => s.heap.size ≤ q) (by decide +kernel)
    (fun i hi => hfl _ (by revert i; decide +kernel)) (fun i hi => hfl _ (by revert i; decide +kernel)) (fun i hi => hfl _ (by revert i; decide +kernel)) (fun i hi => hfl _ (by revert i; decide +kernel))
    (fun i hi j hj => hfl _ (h3 i hi j hj)) (fun i j hi hj hij => by
      have h2 : ∀ i, i < 4 → ∀ j, j < 4 → i < j → (Cond.not (Cond.eq (.string "ReceiptRolls$Sheet" (kS i)) (.string "ReceiptRolls$Sheet" (kS j)))) ∈ flatC (Jvm.Cond.and given_1 narrow_1) := by decide +kernel
      rcases Nat.lt_or_gt_of_ne hij with h | h
      · exact Or.inl (hfl _ (h2 i hi j hj h))
      · exact Or.inr (hfl _ (h2 j hj i hi h))) hA
  -- the context and the first picture
  let cf : Nat → Option Nat := fun i => match i with
    | 0 => some t0
    | 1 => some t1
    | 2 => some t2
    | 3 => r3
    | 4 => some (adK 0)
    | 5 => some (adK 1)
    | 6 => some (adK 2)
    | 7 => some (adK 3)
    | _ => none
  let X : Cx := ((fun ci => (dq ci).1, fun ci => (dq ci).2), aC, s.heap.size, cf)
  let vo : Nat → Nat := fun a => if a = adK 0 then adV 0 else if a = adK 1 then adV 1 else if a = adK 2 then adV 2 else adV 3
  let dom : List Nat := [b, t0, t1, t2, adK 0, adK 1, adK 2, adK 3, adV 0, adV 1, adV 2, adV 3]
  let h0 : Hp := (fun a => if a ∈ dom then some (cel0 s vo a) else none, s.heap.size, 0)
  have hXT : va_T .int b L (fun j => .int (xs j)) (fun q : Nat => s.heap.size ≤ q) s s.heap := by
    obtain ⟨scr, g1, g2, g3, g4, g5⟩ := hX
    exact ⟨scr, g1, g2, g3, Nat.le_of_eq g4.symm, by rw [g4] <;> rfl, g5, hA b hbl⟩
  obtain ⟨nb, vb, Tb, cb, cb1, cb2⟩ := canT hXT (by omega)
  obtain ⟨n0, v0, Tc0, c0, c01, c02⟩ := canT T0 (by decide)
  obtain ⟨n1, v1, Tc1, c1, c11, c12⟩ := canT T1 (by decide)
  obtain ⟨n2, v2, Tc2, c2, c21, c22⟩ := canT T2 (by decide)
  have kb := (kindOf_arr cb1 cb2).1 rfl
  have k0 := (kindOf_arr c01 c02).1 rfl
  have k1 := (kindOf_arr c11 c12).1 rfl
  have k2 := (kindOf_arr c21 c22).1 rfl
  have hSt : ClassAt s RJ0 ((dq 0).1) := (hK.1 0 (RJ0, TJ0, 4) rfl).2
  have kK : ∀ i, i < 4 → kindOf s (adK i) = 2 := by
    intro i hi
    obtain ⟨cell, g1, -, g3, -⟩ := (hS.1 i hi).1
    obtain ⟨e1, kC, e2, e3⟩ := hSt
    have e4 : (dq 0).1 = cell.cls := Option.some.inj (e1.symm.trans g3)
    rw [e4] at e2
    simp [kindOf, g1, e2, e3]
  have cV : ∀ i, i < 4 → gN s (adV i) = lnS.getD i 0 ∧ (∀ j, j < lnS.getD i 0 → gI s (adV i) j = (bySt.getD i []).getD j 0) ∧ va_T .byte (adV i) (lnS.getD i 0) (fun j => .int (gI s (adV i) j)) (fun q : Nat => s.heap.size ≤ q) s s.heap ∧ kindOf s (adV i) = 1 := by
    intro i hi
    obtain ⟨g1, g2, g3, cell, g4, g5⟩ := canT (hS.1 i hi).2.2.2 (by revert i; decide +kernel)
    exact ⟨g1, g2, g3, (kindOf_arr g4 g5).2 rfl⟩
  have voK : ∀ i, i < 4 → vo (adK i) = adV i := by
    intro i hi
    have inj := hS.2
    have ne : ∀ i j, i < 4 → j < 4 → i ≠ j → adK i ≠ adK j := fun i j hi hj hij q => hij (inj i j hi hj q)
    match i, hi with
    | 0, _ => show (if adK 0 = adK 0 then _ else _) = _; rw [if_pos rfl]
    | 1, _ => show (if adK 1 = adK 0 then _ else if adK 1 = adK 1 then _ else _) = _; rw [if_neg (ne 1 0 (by decide) (by decide) (by decide)), if_pos rfl]
    | 2, _ => show (if adK 2 = adK 0 then _ else if adK 2 = adK 1 then _ else if adK 2 = adK 2 then _ else _) = _; rw [if_neg (ne 2 0 (by decide) (by decide) (by decide)), if_neg (ne 2 1 (by decide) (by decide) (by decide)), if_pos rfl]
    | 3, _ => show (if adK 3 = adK 0 then _ else if adK 3 = adK 1 then _ else if adK 3 = adK 2 then _ else _) = _; rw [if_neg (ne 3 0 (by decide) (by decide) (by decide)), if_neg (ne 3 1 (by decide) (by decide) (by decide)), if_neg (ne 3 2 (by decide) (by decide) (by decide))]
  have cIn : ∀ a, a ∈ dom → h0.1 a = some (cel0 s vo a) := fun a ha => if_pos ha
  have cInt : ∀ (a N : Nat), kindOf s a = 0 → gN s a = N → cel0 s vo a = .inl (10, N, .inl (gI s a)) := fun a N hk hn => by simp [cel0, hk, hn]
  have cByt : ∀ (a N : Nat), kindOf s a = 1 → gN s a = N → cel0 s vo a = .inl (11, N, .inl (gI s a)) := fun a N hk hn => by simp [cel0, hk, hn]
  have cStr : ∀ i, i < 4 → cel0 s vo (adK i) = .inr (10, [.inr (.inr (some (adV i))), .inl 0]) := fun i hi => by simp [cel0, kK i hi, voK i hi]
  have hints : ∀ (t N : Nat), kindOf s t = 0 → gN s t = N → va_T .int t N (fun j => .int (gI s t j)) (fun q : Nat => s.heap.size ≤ q) s s.heap → rep1 X s [] t (cel0 s vo t) := by
    intro t N hk hn hT
    rw [cInt t N hk hn]
    exact Or.inr (Or.inl ⟨rfl, gI s t, rfl, hT⟩)
  have hstr : ∀ i, i < 4 → rep1 X s [] (adK i) (cel0 s vo (adK i)) := by
    intro i hi
    rw [cStr i hi]
    exact Or.inr ⟨rfl, adV i, rfl, (hS.1 i hi).1, (hS.1 i hi).2.2.1, (hS.1 i hi).2.1⟩
  have hbyt : ∀ i, i < 4 → rep1 X s [] (adV i) (cel0 s vo (adV i)) := by
    intro i hi
    obtain ⟨g1, g2, g3, g4⟩ := cV i hi
    rw [cByt _ _ g4 g1]
    refine Or.inr (Or.inr ⟨rfl, gI s (adV i), rfl, fun j => ?_, g3⟩)
    by_cases hj : j < lnS.getD i 0
    · rw [g2 j hj]
      exact bySt_fit i hi j hj
    · have : gI s (adV i) j = 0 := by simp only [gI, g1, if_neg hj]
      rw [this]
      decide
  have hrep1 : ∀ a, a ∈ dom → rep1 X s [] a (cel0 s vo a) := by
    intro a ha
    simp only [dom, List.mem_cons, List.not_mem_nil, or_false] at ha
    rcases ha with rfl | rfl | rfl | rfl | rfl | rfl | rfl | rfl | rfl | rfl | rfl | rfl
    · exact hints _ _ kb nb Tb
    · exact hints _ _ k0 n0 Tc0
    · exact hints _ _ k1 n1 Tc1
    · exact hints _ _ k2 n2 Tc2
    · exact hstr 0 (by decide)
    · exact hstr 1 (by decide)
    · exact hstr 2 (by decide)
    · exact hstr 3 (by decide)
    · exact hbyt 0 (by decide)
    · exact hbyt 1 (by decide)
    · exact hbyt 2 (by decide)
    · exact hbyt 3 (by decide)
  have hrep : RepH X s h0 s.heap := by
    refine ⟨[], fun k q h => (by simp at h), ⟨fun i j p q h => (by simp at h), fun k q h => (by simp at h)⟩, rfl, Nat.le_refl _, fun a e he => ?_⟩
    have he' : (if a ∈ dom then some (cel0 s vo a) else none) = some e := he
    split at he'
    · next ha =>
      cases he'
      exact hrep1 a ha
    · cases he'
  have hsmall : ∀ a, a ∈ dom → a < s.heap.size := by
    intro a ha
    have lt : ∀ {t : Nat} {cell : Cell}, s.heap[t]? = some cell → t < s.heap.size := fun h => (Array.getElem?_eq_some_iff.mp h).1
    have ltK : ∀ i, i < 4 → adK i < s.heap.size := fun i hi => by obtain ⟨cell, g1, -⟩ := (hS.1 i hi).1; exact lt g1
    have ltV : ∀ i, i < 4 → adV i < s.heap.size := fun i hi => by obtain ⟨cell, g1, -⟩ := (hS.1 i hi).2.2.2; exact lt g1
    simp only [dom, List.mem_cons, List.not_mem_nil, or_false] at ha
    rcases ha with rfl | rfl | rfl | rfl | rfl | rfl | rfl | rfl | rfl | rfl | rfl | rfl
    · exact hbl
    · exact lt c01
    · exact lt c11
    · exact lt c21
    · exact ltK 0 (by decide)
    · exact ltK 1 (by decide)
    · exact ltK 2 (by decide)
    · exact ltK 3 (by decide)
    · exact ltV 0 (by decide)
    · exact ltV 1 (by decide)
    · exact ltV 2 (by decide)
    · exact ltV 3 (by decide)
  have hstart : Start cf h0 b L := by
    refine ⟨⟨gI s b, by rw [cIn b (by simp [dom]), cInt _ _ kb nb]⟩, ⟨t0, gI s t0, rfl, by rw [cIn t0 (by simp [dom]), cInt _ _ k0 n0], v0 0 (by decide), v0 1 (by decide), v0 2 (by decide)⟩, ⟨t1, gI s t1, rfl, by rw [cIn t1 (by simp [dom]), cInt _ _ k1 n1], v1 0 (by decide), v1 1 (by decide), v1 2 (by decide)⟩, ⟨t2, gI s t2, rfl, by rw [cIn t2 (by simp [dom]), cInt _ _ k2 n2], v2 0 (by decide), v2 1 (by decide), v2 2 (by decide)⟩,
      ⟨adK 0, adV 0, gI s (adV 0), rfl, by rw [cIn _ (by simp [dom]), cStr 0 (by decide)], by rw [cIn _ (by simp [dom]), cByt _ _ (cV 0 (by decide)).2.2.2 (cV 0 (by decide)).1]; rfl, (cV 0 (by decide)).2.1 0 (by decide)⟩,
      ⟨adK 1, adV 1, gI s (adV 1), rfl, by rw [cIn _ (by simp [dom]), cStr 1 (by decide)], by rw [cIn _ (by simp [dom]), cByt _ _ (cV 1 (by decide)).2.2.2 (cV 1 (by decide)).1]; rfl, (cV 1 (by decide)).2.1 0 (by decide), (cV 1 (by decide)).2.1 1 (by decide), (cV 1 (by decide)).2.1 2 (by decide), (cV 1 (by decide)).2.1 3 (by decide), (cV 1 (by decide)).2.1 4 (by decide)⟩,
      ⟨adK 2, adV 2, gI s (adV 2), rfl, by rw [cIn _ (by simp [dom]), cStr 2 (by decide)], by rw [cIn _ (by simp [dom]), cByt _ _ (cV 2 (by decide)).2.2.2 (cV 2 (by decide)).1]; rfl, (cV 2 (by decide)).2.1 0 (by decide), (cV 2 (by decide)).2.1 1 (by decide), (cV 2 (by decide)).2.1 2 (by decide)⟩,
      ⟨adK 3, adV 3, gI s (adV 3), rfl, by rw [cIn _ (by simp [dom]), cStr 3 (by decide)], by rw [cIn _ (by simp [dom]), cByt _ _ (cV 3 (by decide)).2.2.2 (cV 3 (by decide)).1]; rfl, (cV 3 (by decide)).2.1 0 (by decide), (cV 3 (by decide)).2.1 1 (by decide), (cV 3 (by decide)).2.1 2 (by decide), (cV 3 (by decide)).2.1 3 (by decide)⟩,
      fun a e he => ?_, rfl⟩
    have he' : (if a ∈ dom then some (cel0 s vo a) else none) = some e := he
    split at he'
    · next ha =>
      cases he'
      refine ⟨hsmall a ha, ?_⟩
      unfold cel0
      split
      · exact Or.inl ⟨_, rfl⟩
      · exact Or.inr (Or.inl ⟨_, rfl⟩)
      · exact Or.inr (Or.inr ⟨_, rfl⟩)
    · cases he'
  obtain ⟨hf, hlaw, hb1, hb2⟩ := hp cf h0 b L hL hstart
  have henv : EnvX X s := by
    refine ⟨hK, ⟨va_AO.of (hts _ (by decide +kernel)), va_AO.of (hts _ (by decide +kernel)), va_AO.of (hts _ (by decide +kernel))⟩, ⟨va_Nw.of rfl (hts _ (by decide +kernel)), va_Nw.of rfl (hts _ (by decide +kernel))⟩, ⟨va_Nw.of rfl (hts _ (by decide +kernel)), va_Nw.of rfl (hts _ (by decide +kernel))⟩, ⟨Z0, Z1, Z2, Z3, Z4⟩,
      ⟨⟨adK 0, rfl, vk_R.of (hts _ (by decide +kernel)) (hSe 0 (by decide))⟩, ⟨adK 1, rfl, vk_R.of (hts _ (by decide +kernel)) (hSe 1 (by decide))⟩, ⟨adK 2, rfl, vk_R.of (hts _ (by decide +kernel)) (hSe 2 (by decide))⟩, ⟨adK 3, rfl, vk_R.of (hts _ (by decide +kernel)) (hSe 3 (by decide))⟩⟩, va_Nw.of rfl (hts _ (by decide +kernel))⟩
  have hgood : ∀ w ∈ goodTbl, w.before #[Value.ref b] s = true := by
    intro w hw
    rcases List.mem_append.mp hw with hw | hw
    · have hz := hts (.selects RJ4 yJ5_getValue_6d5f1 yJ5_getValue_6d5f1) (by decide +kernel)
      have hi := hts (.instantiable RJ4 4) (by decide +kernel)
      simp only [exW, List.mem_cons, List.not_mem_nil, or_false] at hw
      rcases hw with rfl | rfl
      · exact ex_word (z := yJ5_getValue_6d5f1) ⟨by decide +kernel, by decide +kernel⟩ rfl hi (hts _ (by decide +kernel)) (hts _ (by decide +kernel)) hz
      · exact ex_word (z := yJ5_getValue_6d5f1) ⟨by decide +kernel, by decide +kernel⟩ rfl hi (hts _ (by decide +kernel)) (hts _ (by decide +kernel)) hz
    · exact hts w (List.mem_filter.mp hw).1
  obtain ⟨hle, g⟩ := gdL_law X (h0 := h0) h0 (some b) hf _ hlaw
  rw [lg_entry_eq]
  have g2 := g HLe.rf l p e room_1 s m #[Value.ref b] below meth c (lw_Z below #[Value.ref b] s) ⟨hx, hb, hml, hown, (fun h => absurd h (by decide +kernel)), hgood, henv, Nat.le_refl _⟩ ⟨by decide, by decide, by show hf.2.1 - s.heap.size ≤ 600000; have : hf.2.1 ≤ s.heap.size + 600000 := hb1; omega, by show hf.2.2 - 0 ≤ 7302250; omega⟩ ?_ s.heap [] _ ⟨hrep, FrN.rf, Nat.le_refl _, fun q hq => by cases hq⟩ (LV.entry [.inr (.inr (some b))] (n := 16) (Nat.le_of_ble_eq_true rfl))
  · rw [Nat.sub_self, Nat.sub_self] at g2
    exact g2
  · intro H locs ls pc i hI hd hri
    obtain ⟨rfl, -⟩ := hri
    refine va_forget hI.2.2.2 ?_
    refine W.widen (k := 600000) (n := 7302250) (by show hf.2.1 - s.heap.size ≤ 600000; have : hf.2.1 ≤ s.heap.size + 600000 := hb1; omega) (by show hf.2.2 - 0 ≤ 7302250; omega) ?_
    exact lw_ret hx hb hr hlocks hd
