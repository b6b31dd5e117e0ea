/-! THE PICTURE: values, cells, heaps as a method's function sees them -/
abbrev AV : Type := Int32 ⊕ (Int64 ⊕ Option Nat)
def tV : AV → Value
  | .inl x => .int x
  | .inr (.inl y) => .long y
  | .inr (.inr r) => va_rf r
abbrev Cl : Type := (Nat × vp_A) ⊕ (Nat × List AV)
/-- the cells, how many addresses are used up, how many slots were made -/
abbrev Hp : Type := (Nat → Option Cl) × Nat × Nat
abbrev Rs : Type := Option (Hp × Option AV)
/-- class numbers and slots; the array classes; the first address that is ours; the statics' references -/
abbrev Cx : Type := va_G × (Nat → ClassId) × Nat × (Nat → Option Nat)
/-- a method: name, code, locals, what it returns, how deep its calls go -/
abbrev MI : Type := MethodName × ByteArray × Nat × Option FieldType × Nat
def tyA : Nat → FieldType
  | 0 => .int
  | 1 => .byte
  | 2 => .byte
  | 3 => .char
  | 4 => .object "ReceiptRolls$Item"
  | 5 => .object "ReceiptRolls$Receipt"
  | _ => .object "ReceiptRolls$State"
def tysX (X : Cx) : List (ClassId × FieldType) := [(X.2.1 0, .int), (X.2.1 1, .byte), (X.2.1 2, .byte), (X.2.1 3, .char), (X.2.1 4, .object "ReceiptRolls$Item"), (X.2.1 5, .object "ReceiptRolls$Receipt"), (X.2.1 6, .object "ReceiptRolls$State")]
theorem tysX_at (X : Cx) {k : Nat} (h : k < 7) : (tysX X)[k]? = some (X.2.1 k, tyA k) := by
  match k, h with
  | 0, _ => rfl
  | 1, _ => rfl
  | 2, _ => rfl
  | 3, _ => rfl
  | 4, _ => rfl
  | 5, _ => rfl
  | 6, _ => rfl
/-- ours: what may be written -/
def AX (X : Cx) : Nat → Prop := fun q => X.2.2.1 ≤ q
def rep1 (X : Cx) (s : State) (ws : va_W) (a : Nat) (e : Cl) : Prop := match e with
  | .inl (k, arr) => (k < 7 ∧ ∃ i : Nat, ws[i]? = some (a, .inl (X.2.1 k, arr))) ∨ (k = 10 ∧ ∃ g : Nat → Int32, arr.2 = .inl g ∧ va_T .int a arr.1 (fun j => .int (g j)) (AX X) s s.heap) ∨ (k = 11 ∧ ∃ g : Nat → Int32, arr.2 = .inl g ∧ (∀ j, fits .byte (.int (g j)) = true) ∧ va_T .byte a arr.1 (fun j => .int (g j)) (AX X) s s.heap)
  | .inr (ci, fs) => (ci < 8 ∧ ∃ i : Nat, ws[i]? = some (a, .inr (ci, fs.map tV))) ∨ (ci = 10 ∧ ∃ q : Nat, fs = [.inr (.inr (some q)), .inl 0] ∧ va_O "java/lang/String" a (AX X) s s.heap ∧ va_OF "java/lang/String" "value" "[B" (.ref q) a (AX X) s s.heap ∧ va_OF "java/lang/String" "coder" "B" (.int 0) a (AX X) s s.heap)
/-- the machine's heap holds the picture -/
def RepH (X : Cx) (s : State) (h : Hp) (H : Heap) : Prop := ∃ ws : va_W, va_P X.1 vwCl ws H ∧ va_D (AX X) ws ∧ H.size = h.2.1 ∧ X.2.2.1 ≤ h.2.1 ∧ ∀ a e, h.1 a = some e → rep1 X s ws a e
def FrN (N0 : Nat) (H1 H2 : Heap) : Prop := ∀ q : Nat, q < N0 → H2[q]? = H1[q]?
theorem FrN.rf {N0 : Nat} {H : Heap} : FrN N0 H H := fun _ _ => rfl
theorem FrN.trans {N0 : Nat} {H1 H2 H3 : Heap} (h : FrN N0 H1 H2) (h' : FrN N0 H2 H3) : FrN N0 H1 H3 := fun q hq => (h' q hq).trans (h q hq)
theorem FrN.symm {N0 : Nat} {H1 H2 : Heap} (h : FrN N0 H1 H2) : FrN N0 H2 H1 := fun q hq => (h q hq).symm
/-- what a method needs of its start, beside the words -/
def EnvX (X : Cx) (U : State) : Prop :=
  va_K X.1 vwCl (tysX X) U ∧ (va_AO "ReceiptRolls$Item" U ∧ va_AO "ReceiptRolls$Receipt" U ∧ va_AO "ReceiptRolls$State" U) ∧
  (va_Nw (.methodLinkNest "ReceiptRolls$State" 31 yX2_init "ReceiptRolls") U ∧ va_Nw (.methodLinkNest "ReceiptRolls" 36 yX3_init "ReceiptRolls") U) ∧
  (va_Nw (.fieldLinkNest "ReceiptRolls$Sheet" 69 "ReceiptRolls" "RATES" "[I" "ReceiptRolls") U ∧ va_Nw (.fieldLinkNest "ReceiptRolls$Receipt" 86 "ReceiptRolls" "RATES" "[I" "ReceiptRolls") U) ∧
  (va_Z "ReceiptRolls" "LEAST_SETTINGS" "[I" (va_rf (X.2.2.2 0)) (AX X) U U.heap ∧ va_Z "ReceiptRolls" "MOST_SETTINGS" "[I" (va_rf (X.2.2.2 1)) (AX X) U U.heap ∧ va_Z "ReceiptRolls" "RATES" "[I" (va_rf (X.2.2.2 2)) (AX X) U U.heap ∧ va_Z "jdk/internal/util/Preconditions" "SIOOBE_FORMATTER" "Ljava/util/function/BiFunction;" (va_rf (X.2.2.2 3)) (AX X) U U.heap ∧ va_Z "java/lang/String" "COMPACT_STRINGS" "Z" (.int 1) (AX X) U U.heap) ∧
  ((∃ a, X.2.2.2 4 = some a ∧ vk_R "ReceiptRolls$Sheet" 19 "#" a U) ∧ (∃ a, X.2.2.2 5 = some a ∧ vk_R "ReceiptRolls$Sheet" 50 "void " a U) ∧ (∃ a, X.2.2.2 6 = some a ∧ vk_R "ReceiptRolls$Sheet" 62 "sum" a U) ∧ (∃ a, X.2.2.2 7 = some a ∧ vk_R "ReceiptRolls$Sheet" 76 "tax " a U)) ∧
  va_Nw (.castable "[B" "java/lang/Cloneable") U
theorem fr_kept {X : Cx} {H1 H2 : Heap} (hf : FrN X.2.2.1 H1 H2) : ∀ a : Nat, a < H1.size → ¬ AX X a → H2[a]? = H1[a]? := fun a _ hA => hf a (Nat.not_le.mp hA)
theorem EnvX.to {X : Cx} {s U : State} (hW : s.WarmedH U.vm) (hf : FrN X.2.2.1 s.heap U.heap) (h : EnvX X s) : EnvX X U := by
  obtain ⟨h1, ⟨a1, a2, a3⟩, ⟨b1, b2⟩, ⟨c1, c2⟩, ⟨z1, z2, z3, z4, z5⟩, ⟨⟨q1, e1, k1⟩, ⟨q2, e2, k2⟩, ⟨q3, e3, k3⟩, ⟨q4, e4, k4⟩⟩, cc⟩ := h
  have hm := hW.alike
  refine ⟨h1.moved hm, ⟨a1.moved hm, a2.moved hm, a3.moved hm⟩, ⟨va_Nw.warmM hW b1, va_Nw.warmM hW b2⟩, ⟨va_Nw.warmF hW c1, va_Nw.warmF hW c2⟩,
    ⟨(va_Z.moved hm z1).kept (fr_kept hf), (va_Z.moved hm z2).kept (fr_kept hf), (va_Z.moved hm z3).kept (fr_kept hf), (va_Z.moved hm z4).kept (fr_kept hf), (va_Z.moved hm z5).kept (fr_kept hf)⟩,
    ⟨⟨q1, e1, k1.warm hW⟩, ⟨q2, e2, k2.warm hW⟩, ⟨q3, e3, k3.warm hW⟩, ⟨q4, e4, k4.warm hW⟩⟩, va_Nw.warmC hW cc⟩
theorem rep1_to {X : Cx} {s U : State} {ws : va_W} {a : Nat} {e : Cl} (hm : s.vm.Alike U.vm) (hf : FrN X.2.2.1 s.heap U.heap) (h : rep1 X s ws a e) : rep1 X U ws a e := by
  obtain ⟨k, arr⟩ | ⟨ci, fs⟩ := e
  · rcases h with h | ⟨h, g, h1, h2⟩ | ⟨h, g, h1, h3, h2⟩
    · exact Or.inl h
    · exact Or.inr (Or.inl ⟨h, g, h1, (va_T.moved hm h2).kept (fr_kept hf)⟩)
    · exact Or.inr (Or.inr ⟨h, g, h1, h3, (va_T.moved hm h2).kept (fr_kept hf)⟩)
  · rcases h with h | ⟨h, q, h1, h2, h3, h4⟩
    · exact Or.inl h
    · exact Or.inr ⟨h, q, h1, (va_O.moved hm h2).kept (fr_kept hf), (va_OF.moved hm h3).kept (fr_kept hf), (va_OF.moved hm h4).kept (fr_kept hf)⟩
theorem RepH.to {X : Cx} {s U : State} {h : Hp} {H : Heap} (hm : s.vm.Alike U.vm) (hf : FrN X.2.2.1 s.heap U.heap) (r : RepH X s h H) : RepH X U h H := by
  obtain ⟨ws, h1, h2, h3, h4, h5⟩ := r
  exact ⟨ws, h1, h2, h3, h4, fun a e he => rep1_to hm hf (h5 a e he)⟩
/-! LOCALS -/
def LV (ls : Array Slot) (n : Nat) (L : List (Option AV)) : Prop := ls.size = n ∧ lv_wf ls ∧ ∀ (i : Nat) (v : AV), L[i]? = some (some v) → ls[i]? = some (.val (tV v))
def lvF (L : List (Option AV)) (i : Nat) : Option (Nat × Value) := match L[i]? with
  | some (some v) => some (i, tV v)
  | _ => none
def lvL (L : List (Option AV)) : List (Nat × Value) := (List.range L.length).filterMap (lvF L)
theorem lvF_some {L : List (Option AV)} {i : Nat} {q : Nat × Value} (h : lvF L i = some q) : ∃ v, L[i]? = some (some v) ∧ q = (i, tV v) := by
  unfold lvF at h
  split at h
  · next v hv => exact ⟨v, hv, (Option.some.inj h).symm⟩
  · cases h
theorem mem_lvL {L : List (Option AV)} {i : Nat} {v : AV} (h : L[i]? = some (some v)) : (i, tV v) ∈ lvL L :=
  List.mem_filterMap.mpr ⟨i, List.mem_range.mpr (List.getElem?_eq_some_iff.mp h).1, by unfold lvF; rw [h]⟩
theorem LV.has {ls : Array Slot} {n : Nat} {L : List (Option AV)} (h : LV ls n L) : lv_has ls n (lvL L) := by
  refine ⟨h.1, h.2.1, fun q hq => ?_⟩
  obtain ⟨i, -, hi⟩ := List.mem_filterMap.mp hq
  obtain ⟨v, h1, rfl⟩ := lvF_some hi
  exact h.2.2 i v h1
/-- the place ahead is no long's -/
def pvOk (L : List (Option AV)) (i : Nat) : Bool := match i with
  | 0 => true
  | j + 1 => match L[j]? with
    | some (some (.inr (.inl _))) => false
    | _ => true
theorem tV_cat1 {v : AV} (h : (tV v).category = 2) : ∃ y, v = .inr (.inl y) := by
  obtain x | y | r := v
  · cases h
  · exact ⟨y, rfl⟩
  · cases r <;> cases h
theorem LV.st1 {ls' : Array Slot} {n : Nat} {L : List (Option AV)} {i : Nat} {v : AV} (hp : pvOk L i = true)
    (h : lv_has ls' n ((i, tV v) :: (lvL L).filter (fun q => !(q.1 == i) && !(q.1 + 1 == i && q.2.category == 2)))) : LV ls' n (L.set i (some v)) := by
  refine ⟨h.1, h.2.1, fun j w hj => ?_⟩
  by_cases hij : j = i
  · subst hij
    have hlt : j < L.length := by
      have := (List.getElem?_eq_some_iff.mp hj).1
      simpa using this
    rw [List.getElem?_set_self hlt] at hj
    cases hj
    exact h.2.2 (j, tV v) List.mem_cons_self
  · rw [List.getElem?_set_ne (fun e => hij e.symm)] at hj
    refine h.2.2 (j, tV w) (List.mem_cons_of_mem _ (List.mem_filter.mpr ⟨mem_lvL hj, ?_⟩))
    simp only [Bool.and_eq_true, Bool.not_eq_true', Bool.and_eq_false_iff, beq_eq_false_iff_ne]
    refine ⟨hij, ?_⟩
    by_cases h1 : j + 1 = i
    · right
      intro h2
      obtain ⟨y, rfl⟩ := tV_cat1 h2
      subst h1
      simp [pvOk, hj] at hp
    · exact Or.inl h1
theorem LV.st2 {ls' : Array Slot} {n : Nat} {L : List (Option AV)} {i : Nat} {v : AV} (hp : pvOk L i = true)
    (h : lv_has ls' n ((i, tV v) :: (lvL L).filter (fun q => !(q.1 == i) && (!(q.1 == i + 1) && !(q.1 + 1 == i && q.2.category == 2))))) : LV ls' n ((L.set (i + 1) none).set i (some v)) := by
  refine ⟨h.1, h.2.1, fun j w hj => ?_⟩
  by_cases hij : j = i
  · subst hij
    have hlt : j < (L.set (j + 1) none).length := by
      have := (List.getElem?_eq_some_iff.mp hj).1
      simpa using this
    rw [List.getElem?_set_self hlt] at hj
    cases hj
    exact h.2.2 (j, tV v) List.mem_cons_self
  · rw [List.getElem?_set_ne (fun e => hij e.symm)] at hj
    by_cases hij1 : j = i + 1
    · subst hij1
      have hlt : i + 1 < L.length := by
        have := (List.getElem?_eq_some_iff.mp hj).1
        simpa using this
      rw [List.getElem?_set_self hlt] at hj
      cases hj
    · rw [List.getElem?_set_ne (fun e => hij1 e.symm)] at hj
      refine h.2.2 (j, tV w) (List.mem_cons_of_mem _ (List.mem_filter.mpr ⟨mem_lvL hj, ?_⟩))
      simp only [Bool.and_eq_true, Bool.not_eq_true', Bool.and_eq_false_iff, beq_eq_false_iff_ne]
      refine ⟨hij, hij1, ?_⟩
      by_cases h1 : j + 1 = i
      · right
        intro h2
        obtain ⟨y, rfl⟩ := tV_cat1 h2
        subst h1
        simp [pvOk, hj] at hp
      · exact Or.inl h1
/-- fewer are known -/
def lvLe (L L' : List (Option AV)) : Prop := ∀ (i : Nat) (v : AV), L'[i]? = some (some v) → L[i]? = some (some v)
theorem LV.le {ls : Array Slot} {n : Nat} {L L' : List (Option AV)} (h : LV ls n L) (hl : lvLe L L') : LV ls n L' := ⟨h.1, h.2.1, fun i v hv => h.2.2 i v (hl i v hv)⟩
def entL : List AV → List (Option AV)
  | [] => []
  | .inr (.inl y) :: as => some (.inr (.inl y)) :: none :: entL as
  | v :: as => some v :: entL as
theorem entL_args : ∀ (as : List AV) (k i : Nat) (v : AV), (entL as)[i]? = some (some v) → (k + i, tV v) ∈ lv_args k (as.map tV) := by
  intro as
  induction as with
  | nil => intro k i v h; simp [entL] at h
  | cons a as ih =>
    intro k i v h
    obtain x | y | r := a
    · cases i with
      | zero => simp only [entL, List.getElem?_cons_zero, Option.some.injEq] at h; subst h; exact List.mem_cons_self
      | succ i =>
        simp only [entL, List.getElem?_cons_succ] at h
        have := ih (k + 1) i v h
        rw [show k + 1 + i = k + (i + 1) by omega] at this
        exact List.mem_cons_of_mem _ this
    · cases i with
      | zero => simp only [entL, List.getElem?_cons_zero, Option.some.injEq] at h; subst h; exact List.mem_cons_self
      | succ i =>
        cases i with
        | zero => simp [entL] at h
        | succ i =>
          simp only [entL, List.getElem?_cons_succ] at h
          have := ih (k + 2) i v h
          rw [show k + 2 + i = k + (i + 1 + 1) by omega] at this
          exact List.mem_cons_of_mem _ this
    · have hc : (tV (.inr (.inr r))).category = 1 := by cases r <;> rfl
      cases i with
      | zero => simp only [entL, List.getElem?_cons_zero, Option.some.injEq] at h; subst h; exact List.mem_cons_self
      | succ i =>
        simp only [entL, List.getElem?_cons_succ] at h
        have := ih (k + 1) i v h
        rw [show k + 1 + i = k + (i + 1) by omega] at this
        show _ ∈ (_, _) :: lv_args (if (tV (.inr (.inr r))).category = 2 then k + 2 else k + 1) _
        rw [hc, if_neg (by decide)]
        exact List.mem_cons_of_mem _ this
theorem entL_len : ∀ (as : List AV), (lg_sl (as.map tV)).length = (entL as).length := by
  intro as
  induction as with
  | nil => rfl
  | cons a as ih =>
    obtain x | y | r := a
    · simp [lg_sl, entL, tV, Value.category] at ih ⊢; omega
    · simp [lg_sl, entL, tV, Value.category] at ih ⊢; omega
    · cases r <;> (simp [lg_sl, entL, tV, va_rf, Value.category] at ih ⊢; omega)
theorem LV.entry (as : List AV) {n : Nat} (h : (entL as).length ≤ n) : LV ((lg_sl (as.map tV) ++ List.replicate (n - (lg_sl (as.map tV)).length) Slot.unset).toArray) n (entL as ++ List.replicate (n - (entL as).length) none) := by
  have h1 := lv_entry (as.map tV) (n := n) (by rw [entL_len]; exact h)
  refine ⟨h1.1, h1.2.1, fun i v hi => ?_⟩
  have h2 : (entL as)[i]? = some (some v) := by
    by_cases hl : i < (entL as).length
    · rw [List.getElem?_append_left hl] at hi; exact hi
    · rw [List.getElem?_append_right (by omega)] at hi
      have := List.eq_of_mem_replicate (List.mem_of_getElem? hi)
      cases this
  have := entL_args as 0 i v h2
  rw [Nat.zero_add] at this
  exact h1.2.2 _ this
