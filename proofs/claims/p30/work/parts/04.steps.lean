/-! THE JUDGEMENT: what a function says of the machine, from a place in a method's code -/
def HLe (h h' : Hp) : Prop := h.2.1 ≤ h'.2.1 ∧ h.2.2 ≤ h'.2.2
theorem HLe.rf {h : Hp} : HLe h h := ⟨Nat.le_refl _, Nat.le_refl _⟩
theorem HLe.trans {a b c : Hp} (h : HLe a b) (h' : HLe b c) : HLe a c := ⟨Nat.le_trans h.1 h'.1, Nat.le_trans h.2 h'.2⟩
/-- what a private method of the class above is on a StringBuilder -/
def exW : List Cond := [Cond.selects RJ4 yJ5_ensureCapacityInternal_d00df yJ5_ensureCapacityInternal_d00df, Cond.selects RJ4 yJ5_newCapacity_0f7a4 yJ5_newCapacity_0f7a4]
def goodTbl : List Cond := exW ++ lw_tbl.filter goodWord
theorem gw {w : Cond} (i : Nat) (h : lw_tbl[i]? = some w) (hg : goodWord w = true) : w ∈ goodTbl := List.mem_append_right _ (List.mem_filter.mpr ⟨List.mem_of_getElem? h, hg⟩)
theorem ex_word {C : String} {y z : MethodName} {s : State} {args : Array Value} {n : Nat} (hy : y.cls ≠ "java/lang/invoke/MethodHandle" ∧ y.cls ≠ "java/lang/invoke/VarHandle") (hz : z.cls = y.cls) (hins : (Cond.instantiable C n).before args s = true) (hpriv : (Cond.privateMethod y).before args s = true) (hinst : (Cond.instanceMethod y).before args s = true) (hzs : (Cond.selects C z z).before args s = true) :
    (Cond.selects C y y).before args s = true := by
  obtain ⟨c, k, hc, hk, -, hniab, -, -⟩ := Cond.instantiable_spec hins
  obtain ⟨mk, methM, hnamed, hmethM, -, -⟩ := Cond.instanceMethod_spec hinst
  obtain ⟨c2, r2, m2, q1, q2, q3, q4, kP, hkP, hkPi⟩ := Cond.selects_spec hzs
  have hfound : s.methodFound? y.cls y.name y.desc = some mk := State.methodFound?_of_named hnamed hy
  have hcls : m2.cls = mk.cls := by
    have e1 := findClass_of_methodNamed q3
    have e2 := findClass_of_methodNamed hnamed
    rw [hz] at e1
    exact Option.some.inj (e1.symm.trans e2)
  have hsel : selectMethod {} s.vm c mk = .method mk := selectMethod_private hmethM (Cond.privateMethod_at hpriv mk methM hnamed hmethM)
  rw [hcls] at hkP
  simp only [Cond.before, Cond.holds, Cond.value, hc, hfound, hnamed, hsel, hkP]
  simp; exact hkPi
def wsM (M : MI) : List Cond := Cond.code M.1 M.2.1 M.2.2.1 M.2.2.2.1 :: goodTbl
def rmM (M : MI) (h0 hf : Hp) : Room := { frames := M.2.2.2.2, cells := hf.2.1 - h0.2.1, slots := hf.2.2 - h0.2.2, locals := 40 * M.2.2.2.2 }
def At0 (M : MI) (X : Cx) (p : Program) (s : State) (m : MethodId) (args : Array Value) (meth : Method) (c : Code) : Prop :=
  p.tables.exec = Jvm.exec ∧ c.code = M.2.1 ∧ c.maxLocals = M.2.2.1 ∧ s.vm.findClass M.1.cls = some m.cls ∧ (M.1.name = "<init>" → meth.name = M.1.name) ∧ (∀ w ∈ goodTbl, w.before args s = true) ∧ EnvX X s ∧ X.2.2.1 ≤ s.heap.size
def RmOk (M : MI) (h0 hf : Hp) (R : Room) : Prop := M.2.2.2.2 ≤ R.frames ∧ 40 * M.2.2.2.2 ≤ R.locals ∧ hf.2.1 - h0.2.1 ≤ R.cells ∧ hf.2.2 - h0.2.2 ≤ R.slots
def Inv (X : Cx) (s : State) (h : Hp) (H : Heap) (locs : List Loc) : Prop := RepH X s h H ∧ FrN X.2.2.1 s.heap H ∧ s.heap.size ≤ H.size ∧ ∀ q ∈ locs, X.2.2.1 ≤ q.base
def retI (i : Instr) (r : Option AV) (ret : Option FieldType) : Prop := match r with
  | some (.inl x) => i = .ireturn ∧ ∃ ty, ret = some ty ∧ narrow ty (.int x) = .int x
  | some (.inr (.inl _)) => i = .lreturn ∧ ret = some .long
  | some (.inr (.inr _)) => i = .areturn ∧ ∃ ty, ret = some ty ∧ ((∃ n, ty = .object n) ∨ ∃ t, ty = .array t)
  | none => i = .return_ ∧ ret = none
def RetK (X : Cx) (M : MI) (h0 hf : Hp) (r : Option AV) (l : Launch) (p : Program) (e : Jvm.Env) (R : Room) (s : State) (m : MethodId) (args : Array Value) (below : List Frame) (meth : Method) (c : Code) (Q : State → Prop) : Prop :=
  ∀ (H : Heap) (locs : List Loc) (ls : Array Slot) (pc : Nat) (i : Instr), Inv X s hf H locs → decode M.2.1 pc = .ok (i, 1) → retI i r M.2.2.2.1 →
    W p l e R s m args below meth c H locs (hf.2.1 - h0.2.1) (hf.2.2 - h0.2.2) Q (F0 m pc ls (r.toList.map tV))
def GW (X : Cx) (M : MI) (h0 hf : Hp) (r : Option AV) (h : Hp) (pc : Nat) (L : List (Option AV)) (st : List AV) : Prop :=
  ∀ (l : Launch) (p : Program) (e : Jvm.Env) (R : Room) (s : State) (m : MethodId) (args : Array Value) (below : List Frame) (meth : Method) (c : Code) (Q : State → Prop),
    At0 M X p s m args meth c → RmOk M h0 hf R → RetK X M h0 hf r l p e R s m args below meth c Q → ∀ (H : Heap) (locs : List Loc) (ls : Array Slot), Inv X s h H locs → LV ls M.2.2.1 L →
    W p l e R s m args below meth c H locs (h.2.1 - h0.2.1) (h.2.2 - h0.2.2) Q (F0 m pc ls (st.map tV))
def Gd (X : Cx) (M : MI) (h0 : Hp) (o : Rs) (h : Hp) (pc : Nat) (L : List (Option AV)) (st : List AV) : Prop :=
  ∀ (hf : Hp) (r : Option AV), o = some (hf, r) → HLe h hf ∧ (HLe h0 h → GW X M h0 hf r h pc L st)
/-! a method as a whole -/
def PcM (X : Cx) (h : Hp) (as : List AV) : Array Value → State → Prop := fun v U => v = (as.map tV).toArray ∧ RepH X U h U.heap ∧ EnvX X U ∧ X.2.2.1 ≤ U.heap.size
def QcM (X : Cx) (hf : Hp) (r : Option AV) : Array Value → State → Outcome → State → Prop := fun _ st o t => o = .returned (r.map tV) ∧ RepH X t hf t.heap ∧ FrN X.2.2.1 st.heap t.heap ∧ st.heap.size ≤ t.heap.size
def SO (X : Cx) (M : MI) (as : List AV) (h : Hp) (o : Rs) : Prop :=
  ∀ (hf : Hp) (r : Option AV), o = some (hf, r) → HLe h hf ∧ ∀ l : Launch, Met l M.1 (wsM M) (rmM M h hf) (PcM X h as) (QcM X hf r) (hf.2.1 - h.2.1) (hf.2.2 - h.2.2) (fun q => X.2.2.1 ≤ q)
set_option maxHeartbeats 4000000 in
theorem so_of {X : Cx} {M : MI} {as : List AV} {h : Hp} {o : Rs} (hy : plainName M.1.cls = true) (hn : (entL as).length ≤ M.2.2.1)
    (k : Gd X M h o h 0 (entL as ++ List.replicate (M.2.2.1 - (entL as).length) none) []) : SO X M as h o := by
  intro hf r ho
  obtain ⟨hle, k⟩ := k hf r ho
  refine ⟨hle, fun l => ?_⟩
  refine Met.ofW (cc := M.2.1) (maxL := M.2.2.1) (ret := M.2.2.2.1) (ws' := goodTbl) hy rfl ?_
  intro p e s m args below meth c s₁ B hml hv
  obtain ⟨rfl, hrep, henv, hN⟩ := hv
  have hts := atoms_spec (ws := wsM M) B.pre
  have hlocks : meth.locks = false := B.notSynchronized
  have hat : At0 M X p s m (as.map tV).toArray meth c := ⟨B.exec, B.bytes, hml, findClass_of_methodNamed B.named, fun _ => (name_of_methodNamed B.named B.method).1, fun w hw => hts w (List.mem_cons_of_mem _ hw), henv, hN⟩
  have hr := B.returns
  rw [lg_entry_eq]
  have h0 := k HLe.rf l p e (headSpec (wsM M) (rmM M h hf)).room s m (as.map tV).toArray below meth c (MQ below (QcM X hf r) (as.map tV).toArray s (hf.2.1 - h.2.1) (hf.2.2 - h.2.2) (fun q => X.2.2.1 ≤ q)) hat
    ⟨Nat.le_refl _, Nat.le_refl _, Nat.le_refl _, Nat.le_refl _⟩ ?_ s.heap [] _ ⟨hrep, FrN.rf, Nat.le_refl _, fun q hq => by cases hq⟩ (LV.entry as hn)
  · rw [Nat.sub_self, Nat.sub_self] at h0
    exact h0
  · intro H locs ls pc i hI hd hri
    obtain ⟨hI1, hI2, hI3, hI4⟩ := hI
    have fin : ∀ (v : Option Value), v = r.map tV → ∀ t : State, t.heap = H → s.WarmedH t.vm → QcM X hf r (as.map tV).toArray s (.returned v) t := fun v hv t ht hW => ⟨by rw [hv], by rw [ht]; exact RepH.to hW.alike (by rw [ht]; exact hI2) hI1, by rw [ht]; exact hI2, by rw [ht]; exact hI3⟩
    obtain _ | x | y | q := r
    · obtain ⟨rfl, hret⟩ := hri
      exact W.vret B.exec B.bytes (hr.trans hret) (fin none rfl) hI4 hd
    · obtain ⟨rfl, ty, hret, hna⟩ := hri
      exact W.zret B.exec B.bytes (hr.trans hret) hna (fin _ rfl) hI4 hd
    · obtain ⟨rfl, hret⟩ := hri
      exact W.lret B.exec B.bytes (hr.trans hret) (fin _ rfl) hI4 hd
    · obtain ⟨rfl, ty, hret, hty⟩ := hri
      exact W.aret (v := va_rf q) B.exec B.bytes (hr.trans hret) hty (by cases q with
        | none => exact Or.inl rfl
        | some a => exact Or.inr ⟨a, rfl⟩) (fin _ rfl) hI4 hd
theorem gd_none {X : Cx} {M : MI} {h0 h : Hp} {pc : Nat} {L : List (Option AV)} {st : List AV} : Gd X M h0 none h pc L st := fun _ _ e => by cases e
/-! STEPS THAT LEAVE THE HEAP ALONE, by a table of the code: place, instruction, length, constant, target -/
abbrev TE : Type := Nat × Instr × Nat × Int32 × Nat
def chI (x : Int32) : Int32 := (x.toUInt32 % 65536).toInt32
def byI (x : Int32) : Int32 := x.toInt8.toInt32
def shlI (x y : Int32) : Int32 := x <<< (y &&& 31)
def shrI (x y : Int32) : Int32 := x >>> (y &&& 31)
def ushrI (x y : Int32) : Int32 := (x.toUInt32 >>> (y.toUInt32 &&& Int32.toUInt32 31)).toInt32
def shlL (x : Int64) (y : Int32) : Int64 := x <<< (y.toInt64 &&& 63)
def ushrL (x : Int64) (y : Int32) : Int64 := (x.toUInt64 >>> (y.toInt64.toUInt64 &&& Int64.toUInt64 63)).toInt64
def cvB (x : TE) : Bool := match x.2.1 with
  | .iconst k => x.2.2.1 == 1 && x.2.2.2.1 == Int32.ofInt k
  | .bipush k => x.2.2.1 == 2 && x.2.2.2.1 == (Int8.ofInt k).toInt32
  | .sipush k => x.2.2.1 == 3 && x.2.2.2.1 == (Int16.ofInt k).toInt32
  | .iinc _ k => x.2.2.1 == 3 && x.2.2.2.1 == Int32.ofInt k
  | .iload _ | .aload _ | .lload _ | .istore _ | .astore _ | .lstore _ => x.2.2.1 == 2
  | .iload_n _ | .aload_n _ | .lload_n _ | .istore_n _ | .astore_n _ | .lstore_n _ => x.2.2.1 == 1
  | .iadd | .isub | .imul | .iand | .ior | .ixor | .ineg | .ishl | .ishr | .iushr | .land | .lor | .ladd | .lmul | .lushr | .lshl | .i2l | .l2i | .i2b | .i2c | .lcmp | .dup | .dup_x1 | .dup2 | .pop | .aconst_null => x.2.2.1 == 1
  | .goto o | .ifCond _ o | .if_icmp _ o | .ifnull o | .ifnonnull o => x.2.2.1 == 3 && decide ((x.1 : Int) + o = (x.2.2.2.2 : Int))
  | .getfield _ | .putfield _ | .getstatic _ | .invokevirtual _ | .invokespecial _ | .invokestatic _ | .new _ | .anewarray _ | .ldc2_w _ | .ldc_w _ | .checkcast _ => x.2.2.1 == 3
  | .newarray _ | .ldc _ => x.2.2.1 == 2
  | .iaload | .baload | .caload | .aaload | .iastore | .bastore | .castore | .aastore | .arraylength | .idiv | .irem | .ireturn | .lreturn | .areturn | .return_ | .lconst _ => x.2.2.1 == 1
  | _ => true
def tbB (cc : ByteArray) (x : TE) : Bool := decide (decode cc x.1 = .ok (x.2.1, x.2.2.1)) && cvB x
abbrev PS : Type := Option (Nat × List (Option AV) × List AV)
def ldI (x : TE) (k : Nat) (L : List (Option AV)) (st : List AV) : PS := match L[k]? with
  | some (some (.inl v)) => some (x.1 + x.2.2.1, L, .inl v :: st)
  | _ => none
def ldA (x : TE) (k : Nat) (L : List (Option AV)) (st : List AV) : PS := match L[k]? with
  | some (some (.inr (.inr v))) => some (x.1 + x.2.2.1, L, .inr (.inr v) :: st)
  | _ => none
def ldL (x : TE) (k : Nat) (L : List (Option AV)) (st : List AV) : PS := match L[k]? with
  | some (some (.inr (.inl v))) => some (x.1 + x.2.2.1, L, .inr (.inl v) :: st)
  | _ => none
def stI (x : TE) (k nL : Nat) (L : List (Option AV)) (st : List AV) : PS := match st with
  | .inl v :: r => if Nat.blt k nL && pvOk L k then some (x.1 + x.2.2.1, L.set k (some (.inl v)), r) else none
  | _ => none
def stA (x : TE) (k nL : Nat) (L : List (Option AV)) (st : List AV) : PS := match st with
  | .inr (.inr v) :: r => if Nat.blt k nL && pvOk L k then some (x.1 + x.2.2.1, L.set k (some (.inr (.inr v))), r) else none
  | _ => none
def stL (x : TE) (k nL : Nat) (L : List (Option AV)) (st : List AV) : PS := match st with
  | .inr (.inl v) :: r => if Nat.blt (k + 1) nL && pvOk L k then some (x.1 + x.2.2.1, (L.set (k + 1) none).set k (some (.inr (.inl v))), r) else none
  | _ => none
def bin (x : TE) (f : Int32 → Int32 → Int32) (L : List (Option AV)) (st : List AV) : PS := match st with
  | .inl w :: .inl v :: r => some (x.1 + 1, L, .inl (f v w) :: r)
  | _ => none
def un1 (x : TE) (f : Int32 → Int32) (L : List (Option AV)) (st : List AV) : PS := match st with
  | .inl v :: r => some (x.1 + 1, L, .inl (f v) :: r)
  | _ => none
def binL (x : TE) (f : Int64 → Int64 → Int64) (L : List (Option AV)) (st : List AV) : PS := match st with
  | .inr (.inl w) :: .inr (.inl v) :: r => some (x.1 + 1, L, .inr (.inl (f v w)) :: r)
  | _ => none
def shL (x : TE) (f : Int64 → Int32 → Int64) (L : List (Option AV)) (st : List AV) : PS := match st with
  | .inl w :: .inr (.inl v) :: r => some (x.1 + 1, L, .inr (.inl (f v w)) :: r)
  | _ => none
def c1 (v : AV) : Bool := match v with
  | .inr (.inl _) => false
  | _ => true
def ps (x : TE) (nL : Nat) (L : List (Option AV)) (st : List AV) : PS := match x.2.1 with
  | .iconst _ => some (x.1 + x.2.2.1, L, .inl x.2.2.2.1 :: st)
  | .bipush _ => some (x.1 + x.2.2.1, L, .inl x.2.2.2.1 :: st)
  | .sipush _ => some (x.1 + x.2.2.1, L, .inl x.2.2.2.1 :: st)
  | .iload k => ldI x k L st
  | .iload_n k => ldI x k L st
  | .aload k => ldA x k L st
  | .aload_n k => ldA x k L st
  | .lload k => ldL x k L st
  | .lload_n k => ldL x k L st
  | .istore k => stI x k nL L st
  | .istore_n k => stI x k nL L st
  | .astore k => stA x k nL L st
  | .astore_n k => stA x k nL L st
  | .lstore k => stL x k nL L st
  | .lstore_n k => stL x k nL L st
  | .iinc k _ => match L[k]? with
    | some (some (.inl v)) => if Nat.blt k nL && pvOk L k then some (x.1 + x.2.2.1, L.set k (some (.inl (v + x.2.2.2.1))), st) else none
    | _ => none
  | .iadd => bin x (· + ·) L st
  | .isub => bin x (· - ·) L st
  | .imul => bin x (· * ·) L st
  | .iand => bin x (· &&& ·) L st
  | .ior => bin x (· ||| ·) L st
  | .ixor => bin x (· ^^^ ·) L st
  | .ishl => bin x shlI L st
  | .ishr => bin x shrI L st
  | .iushr => bin x ushrI L st
  | .ineg => un1 x (fun v => -v) L st
  | .i2b => un1 x byI L st
  | .i2c => un1 x chI L st
  | .land => binL x (· &&& ·) L st
  | .lor => binL x (· ||| ·) L st
  | .ladd => binL x (· + ·) L st
  | .lmul => binL x (· * ·) L st
  | .lushr => shL x ushrL L st
  | .lshl => shL x shlL L st
  | .i2l => match st with
    | .inl v :: r => some (x.1 + 1, L, .inr (.inl v.toInt64) :: r)
    | _ => none
  | .l2i => match st with
    | .inr (.inl v) :: r => some (x.1 + 1, L, .inl v.toInt32 :: r)
    | _ => none
  | .lcmp => match st with
    | .inr (.inl w) :: .inr (.inl v) :: r => some (x.1 + 1, L, .inl (lg_cmp v w) :: r)
    | _ => none
  | .dup => match st with
    | v :: r => if c1 v then some (x.1 + 1, L, v :: v :: r) else none
    | _ => none
  | .dup_x1 => match st with
    | v :: w :: r => if c1 v && c1 w then some (x.1 + 1, L, v :: w :: v :: r) else none
    | _ => none
  | .dup2 => match st with
    | v :: w :: r => if c1 v && c1 w then some (x.1 + 1, L, v :: w :: v :: w :: r) else none
    | _ => none
  | .pop => match st with
    | v :: r => if c1 v then some (x.1 + 1, L, r) else none
    | _ => none
  | .aconst_null => some (x.1 + 1, L, .inr (.inr none) :: st)
  | .goto _ => some (x.2.2.2.2, L, st)
  | _ => none
theorem c1_cat {v : AV} (h : c1 v = true) : (tV v).category = 1 := by
  obtain x | y | r := v
  · rfl
  · cases h
  · cases r <;> rfl
section PSW
variable {p : Program} {l : Launch} {e : Jvm.Env} {R : Room} {s : State} {m : MethodId} {args : Array Value} {below : List Frame} {meth : Method} {c : Code} {H : Heap} {locs : List Loc} {cells slots : Nat} {Q : State → Prop}
variable {cc : ByteArray} {ls : Array Slot} {x : TE} {nL pc' : Nat} {L L' : List (Option AV)} {st st' : List AV} {i : Nat}
theorem blt_and {a b : Nat} {q : Bool} (h : (Nat.blt a b && q) = true) : a < b ∧ q = true := by
  rw [Bool.and_eq_true] at h
  exact ⟨Nat.le_of_ble_eq_true h.1, h.2⟩
set_option maxHeartbeats 4000000 in
theorem ps_W (hexec : p.tables.exec = Jvm.exec) (hb : c.code = cc) (hx : tbB cc x = true) (hp : ps x nL L st = some (pc', L', st')) (hl : LV ls nL L)
    (k : ∀ ls' : Array Slot, LV ls' nL L' → W p l e R s m args below meth c H locs cells slots Q (F0 m pc' ls' (st'.map tV))) : W p l e R s m args below meth c H locs cells slots Q (F0 m x.1 ls (st.map tV)) := by
  obtain ⟨pc, ins, len, cv, tgt⟩ := x
  unfold tbB at hx
  rw [Bool.and_eq_true, decide_eq_true_eq] at hx
  obtain ⟨hd, hcv⟩ := hx
  dsimp only at hd hcv ⊢
  unfold ps at hp
  dsimp only at hp
  have one : ∀ {n : Nat}, (len == n) = true → len = n := fun h => by simpa using h
  split at hp
  all_goals (try (simp only [cvB] at hcv))
  · rw [Bool.and_eq_true] at hcv
    obtain rfl := one hcv.1
    cases hp
    exact lv_iconst (v := cv) hexec hb hd (by have := hcv.2; simp at this; exact this.symm) (k ls hl)
  · rw [Bool.and_eq_true] at hcv
    obtain rfl := one hcv.1
    cases hp
    exact lv_bipush (v := cv) hexec hb hd (by have := hcv.2; simp at this; exact this.symm) (k ls hl)
  · rw [Bool.and_eq_true] at hcv
    obtain rfl := one hcv.1
    cases hp
    exact lv_sipush (v := cv) hexec hb hd (by have := hcv.2; simp at this; exact this.symm) (k ls hl)
  · obtain rfl := one hcv
    unfold ldI at hp
    split at hp
    · next v hv => cases hp; exact lv_iload hexec hb hd (hl.2.2 _ _ hv) (k ls hl)
    · cases hp
  · obtain rfl := one hcv
    unfold ldI at hp
    split at hp
    · next v hv => cases hp; exact lv_iload_n hexec hb hd rfl (hl.2.2 _ _ hv) (k ls hl)
    · cases hp
  · obtain rfl := one hcv
    unfold ldA at hp
    split at hp
    · next v hv =>
      cases hp
      cases v with
      | none => exact lv_aloadN hexec hb hd (hl.2.2 _ _ hv) (k ls hl)
      | some a => exact lv_aload hexec hb hd (hl.2.2 _ _ hv) (k ls hl)
    · cases hp
  · obtain rfl := one hcv
    unfold ldA at hp
    split at hp
    · next v hv =>
      cases hp
      cases v with
      | none => exact lv_aload_nN hexec hb hd rfl (hl.2.2 _ _ hv) (k ls hl)
      | some a => exact lv_aload_n hexec hb hd rfl (hl.2.2 _ _ hv) (k ls hl)
    · cases hp
  · obtain rfl := one hcv
    unfold ldL at hp
    split at hp
    · next v hv => cases hp; exact lv_lload hexec hb hd (hl.2.2 _ _ hv) (k ls hl)
    · cases hp
  · obtain rfl := one hcv
    unfold ldL at hp
    split at hp
    · next v hv => cases hp; exact lv_lload_n hexec hb hd rfl (hl.2.2 _ _ hv) (k ls hl)
    · cases hp
  · obtain rfl := one hcv
    unfold stI at hp
    split at hp
    · split at hp
      · next hc => cases hp; obtain ⟨h1, h2⟩ := blt_and hc; exact lv_istore hexec hb hd hl.has h1 rfl (fun ls' h => k ls' (LV.st1 h2 h))
      · cases hp
    · cases hp
  · obtain rfl := one hcv
    unfold stI at hp
    split at hp
    · split at hp
      · next hc => cases hp; obtain ⟨h1, h2⟩ := blt_and hc; exact lv_istore_n hexec hb hd rfl hl.has h1 rfl (fun ls' h => k ls' (LV.st1 h2 h))
      · cases hp
    · cases hp
  · obtain rfl := one hcv
    unfold stA at hp
    split at hp
    · next v r =>
      split at hp
      · next hc =>
        cases hp
        obtain ⟨h1, h2⟩ := blt_and hc
        cases v with
        | none => exact lv_astoreN hexec hb hd hl.has h1 rfl (fun ls' h => k ls' (LV.st1 (v := .inr (.inr none)) h2 h))
        | some a => exact lv_astore hexec hb hd hl.has h1 rfl (fun ls' h => k ls' (LV.st1 (v := .inr (.inr (some a))) h2 h))
      · cases hp
    · cases hp
  · obtain rfl := one hcv
    unfold stA at hp
    split at hp
    · next v r =>
      split at hp
      · next hc =>
        cases hp
        obtain ⟨h1, h2⟩ := blt_and hc
        cases v with
        | none => exact lv_astore_nN hexec hb hd rfl hl.has h1 rfl (fun ls' h => k ls' (LV.st1 (v := .inr (.inr none)) h2 h))
        | some a => exact lv_astore_n hexec hb hd rfl hl.has h1 rfl (fun ls' h => k ls' (LV.st1 (v := .inr (.inr (some a))) h2 h))
      · cases hp
    · cases hp
  · obtain rfl := one hcv
    unfold stL at hp
    split at hp
    · split at hp
      · next hc => cases hp; obtain ⟨h1, h2⟩ := blt_and hc; exact lv_lstore hexec hb hd hl.has h1 rfl (fun ls' h => k ls' (LV.st2 h2 h))
      · cases hp
    · cases hp
  · obtain rfl := one hcv
    unfold stL at hp
    split at hp
    · split at hp
      · next hc => cases hp; obtain ⟨h1, h2⟩ := blt_and hc; exact lv_lstore_n hexec hb hd rfl hl.has h1 rfl (fun ls' h => k ls' (LV.st2 h2 h))
      · cases hp
    · cases hp
  · rw [Bool.and_eq_true] at hcv
    obtain rfl := one hcv.1
    split at hp
    · next v hv =>
      split at hp
      · next hc =>
        cases hp
        obtain ⟨h1, h2⟩ := blt_and hc
        have hcv2 := hcv.2
        simp only [beq_iff_eq] at hcv2
        obtain ⟨j, hj⟩ := List.getElem?_of_mem (mem_lvL hv)
        exact lv_iinc (v := v + cv) hexec hb hd hl.has hj (by rw [hcv2]) h1 rfl (fun ls' h => k ls' (LV.st1 (v := .inl (v + cv)) h2 h))
      · cases hp
    · cases hp
  · obtain rfl := one hcv
    unfold bin at hp
    split at hp
    · cases hp; exact lv_iadd hexec hb hd (k ls hl)
    · cases hp
  · obtain rfl := one hcv
    unfold bin at hp
    split at hp
    · cases hp; exact lv_isub hexec hb hd (k ls hl)
    · cases hp
  · obtain rfl := one hcv
    unfold bin at hp
    split at hp
    · cases hp; exact lv_imul hexec hb hd (k ls hl)
    · cases hp
  · obtain rfl := one hcv
    unfold bin at hp
    split at hp
    · cases hp; exact lv_iand hexec hb hd (k ls hl)
    · cases hp
  · obtain rfl := one hcv
    unfold bin at hp
    split at hp
    · cases hp; exact lv_ior hexec hb hd (k ls hl)
    · cases hp
  · obtain rfl := one hcv
    unfold bin at hp
    split at hp
    · cases hp; exact lv_ixor hexec hb hd (k ls hl)
    · cases hp
  · obtain rfl := one hcv
    unfold bin at hp
    split at hp
    · cases hp; exact lv_ishl hexec hb hd (k ls hl)
    · cases hp
  · obtain rfl := one hcv
    unfold bin at hp
    split at hp
    · cases hp; exact lv_ishr hexec hb hd (k ls hl)
    · cases hp
  · obtain rfl := one hcv
    unfold bin at hp
    split at hp
    · cases hp; exact lv_iushr hexec hb hd rfl (k ls hl)
    · cases hp
  · obtain rfl := one hcv
    unfold un1 at hp
    split at hp
    · cases hp; exact lv_ineg hexec hb hd (k ls hl)
    · cases hp
  · obtain rfl := one hcv
    unfold un1 at hp
    split at hp
    · cases hp; exact lv_i2b hexec hb hd rfl (k ls hl)
    · cases hp
  · obtain rfl := one hcv
    unfold un1 at hp
    split at hp
    · cases hp; exact lv_i2c hexec hb hd rfl (k ls hl)
    · cases hp
  · obtain rfl := one hcv
    unfold binL at hp
    split at hp
    · cases hp; exact lv_land hexec hb hd (k ls hl)
    · cases hp
  · obtain rfl := one hcv
    unfold binL at hp
    split at hp
    · cases hp; exact lv_lor hexec hb hd (k ls hl)
    · cases hp
  · obtain rfl := one hcv
    unfold binL at hp
    split at hp
    · cases hp; exact lv_ladd hexec hb hd (k ls hl)
    · cases hp
  · obtain rfl := one hcv
    unfold binL at hp
    split at hp
    · cases hp; exact lv_lmul hexec hb hd (k ls hl)
    · cases hp
  · obtain rfl := one hcv
    unfold shL at hp
    split at hp
    · cases hp; exact lv_lushr hexec hb hd rfl (k ls hl)
    · cases hp
  · obtain rfl := one hcv
    unfold shL at hp
    split at hp
    · cases hp; exact lv_lshl hexec hb hd rfl (k ls hl)
    · cases hp
  · obtain rfl := one hcv
    split at hp
    · cases hp; exact lv_i2l hexec hb hd rfl (k ls hl)
    · cases hp
  · obtain rfl := one hcv
    split at hp
    · cases hp; exact lv_l2i hexec hb hd rfl (k ls hl)
    · cases hp
  · obtain rfl := one hcv
    split at hp
    · cases hp; exact W.lcmp hexec hb hd (k ls hl)
    · cases hp
  · obtain rfl := one hcv
    split at hp
    · split at hp
      · next h1 => cases hp; exact lv_dup hexec hb hd (c1_cat h1) (k ls hl)
      · cases hp
    · cases hp
  · obtain rfl := one hcv
    split at hp
    · split at hp
      · next h1 => cases hp; rw [Bool.and_eq_true] at h1; exact lv_dup_x1 hexec hb hd (c1_cat h1.1) (c1_cat h1.2) (k ls hl)
      · cases hp
    · cases hp
  · obtain rfl := one hcv
    split at hp
    · split at hp
      · next h1 => cases hp; rw [Bool.and_eq_true] at h1; exact lv_dup2_11 hexec hb hd (c1_cat h1.1) (c1_cat h1.2) (k ls hl)
      · cases hp
    · cases hp
  · obtain rfl := one hcv
    split at hp
    · split at hp
      · next h1 => cases hp; exact lv_pop hexec hb hd (c1_cat h1) (k ls hl)
      · cases hp
    · cases hp
  · obtain rfl := one hcv
    cases hp
    exact lv_null hexec hb hd (k ls hl)
  · rw [Bool.and_eq_true] at hcv
    obtain rfl := one hcv.1
    have ht := hcv.2
    simp only [decide_eq_true_eq] at ht
    cases hp
    exact lv_goto hexec hb hd ht (k ls hl)
  · cases hp
end PSW
section QS
variable {X : Cx} {M : MI} {h0 h : Hp} {o a b : Rs} {L L' : List (Option AV)} {st st' : List AV} {pc pc' : Nat}
theorem q_step (x : TE) (hx : tbB M.2.1 x = true) (hp : ps x M.2.2.1 L st = some (pc', L', st')) (k : Gd X M h0 o h pc' L' st') : Gd X M h0 o h x.1 L st := by
  intro hf r ho
  obtain ⟨hle, k⟩ := k hf r ho
  refine ⟨hle, fun h0h l p e R s m args below meth c Q hat hrm hret H locs ls hI hl => ?_⟩
  exact ps_W hat.1 hat.2.1 hx hp hl (fun ls' hl' => k h0h l p e R s m args below meth c Q hat hrm hret H locs ls' hI hl')
def prn (nL : Nat) : List TE → Nat → Nat → List (Option AV) → List AV → PS
  | _, 0, pc, L, st => some (pc, L, st)
  | [], _ + 1, _, _, _ => none
  | x :: xs, k + 1, pc, L, st => if Nat.beq x.1 pc then (match ps x nL L st with
    | some (pc', L', st') => prn nL xs k pc' L' st'
    | none => none) else none
theorem prn_ok (nL : Nat) (tb : List TE) : ∀ (k : Nat) (pc : Nat) (L : List (Option AV)) (st : List AV), (∀ x ∈ tb, tbB M.2.1 x = true) → nL = M.2.2.1 → prn nL tb k pc L st = some (pc', L', st') → Gd X M h0 o h pc' L' st' → Gd X M h0 o h pc L st := by
  induction tb with
  | nil =>
    intro k pc L st _ _ hp g
    cases k with
    | zero => cases hp; exact g
    | succ k => cases hp
  | cons x xs ih =>
    intro k pc L st ht hn hp g
    cases k with
    | zero => cases hp; exact g
    | succ k =>
      unfold prn at hp
      split at hp
      · next hpc =>
        have hpc' : x.1 = pc := Nat.eq_of_beq_eq_true hpc
        subst hpc'
        split at hp
        · next pc2 L2 st2 hps =>
          subst hn
          exact q_step x (ht x List.mem_cons_self) hps (ih k pc2 L2 st2 (fun y hy => ht y (List.mem_cons_of_mem _ hy)) rfl hp g)
        · cases hp
      · cases hp
/-- n steps from row i of the table on -/
theorem q_run {tb : List TE} (ht : ∀ x ∈ tb, tbB M.2.1 x = true) (i n : Nat) (hp : prn M.2.2.1 (tb.drop i) n pc L st = some (pc', L', st')) (g : Gd X M h0 o h pc' L' st') : Gd X M h0 o h pc L st :=
  prn_ok M.2.2.1 (tb.drop i) n pc L st (fun x hx => ht x (List.mem_of_mem_drop hx)) rfl hp g
theorem q_le (hl : lvLe L L') (g : Gd X M h0 o h pc L' st) : Gd X M h0 o h pc L st := by
  intro hf r ho
  obtain ⟨hle, k⟩ := g hf r ho
  exact ⟨hle, fun h0h l p e R s m args below meth c Q hat hrm hret H locs ls hI hl' => k h0h l p e R s m args below meth c Q hat hrm hret H locs ls hI (hl'.le hl)⟩
theorem tbm {tb : List TE} {cc : ByteArray} (ht : ∀ x ∈ tb, tbB cc x = true) {i : Nat} {x : TE} (h : tb[i]? = some x) : tbB cc x = true := ht x (List.mem_of_getElem? h)
theorem tb_all {cc : ByteArray} {tb : List TE} (h : tb.all (tbB cc) = true) : ∀ x ∈ tb, tbB cc x = true := fun x hx => List.all_eq_true.mp h x hx
end QS
