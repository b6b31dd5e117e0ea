/-! COPIES OF BYTE ARRAYS -/
def okB (n : Nat) (g : Nat → Int32) : Bool := (List.range n).all (fun j => byI (g j) == g j)
theorem okB_fit {n : Nat} {g : Nat → Int32} (h : okB n g = true) {j : Nat} (hj : j < n) : fits .byte (.int (g j)) = true := by
  unfold okB at h
  rw [List.all_eq_true] at h
  have e : byI (g j) = g j := by simpa using h j (List.mem_range.mpr hj)
  rw [← e]
  exact pk_fb (g j)
def cpC (n0 n1 : Nat) (g : Nat → Int32) (sp dp n : Int32) : Bool := (!(decide (sp < 0)) && (!(decide (dp < 0)) && !(decide (n < 0)))) && ((Nat.ble (sp.toNatClampNeg + n.toNatClampNeg) n0 && Nat.ble (dp.toNatClampNeg + n.toNatClampNeg) n1) && okB n0 g)
def cpyB (h : Hp) (rs : Option Nat) (sp : Int32) (rd : Option Nat) (dp n : Int32) (f : Hp → Rs) : Rs := match ar h rs, ar h rd with
  | some (_, k0, (n0, .inl g0)), some (b, k1, (n1, .inl g1)) => if (k0 == 1 && k1 == 1) && cpC n0 n1 g0 sp dp n then f (upH h b (.inl (1, n1, .inl (va_cpy g0 g1 sp.toNatClampNeg dp.toNatClampNeg n.toNatClampNeg)))) else none
  | _, _ => none
def clnB (h : Hp) (r : Option Nat) (f : Hp → Option Nat → Rs) : Rs := match ar h r with
  | some (_, k, (n, .inl g)) => if k == 1 && okB n g then f (pushH h (.inl (1, n, .inl g)) n) (some h.2.1) else none
  | _ => none
def ckB (h : Hp) (r : Option Nat) (o : Rs) : Rs := match ar h r with
  | some (_, k, _) => if k == 1 then o else none
  | none => none
section COPY
variable {X : Cx} {M : MI} {h0 h : Hp} {o : Rs} {L : List (Option AV)} {st : List AV} {pc len tgt idx : Nat} {v sp dp n : Int32} {rs rd : Option Nat} {fh : Hp → Rs} {f : Hp → Option Nat → Rs}
theorem nn_toInt {z : Int32} (hz : ¬ z < 0) : z.toInt = (z.toNatClampNeg : Int) := by
  have hz0 : (0 : Int) ≤ z.toInt := by
    have := Int32.not_lt.mp hz
    simpa using Int32.le_iff_toInt_le.mp this
  show z.toInt = ((z.toInt.toNat : Nat) : Int)
  omega
theorem q_cpy (hx : tbB M.2.1 (pc, .invokestatic idx, len, v, tgt) = true) (hd0 : 1 ≤ M.2.2.2.2) (hs : (st.map catA).sum ≤ 8) (hw : Cond.methodLink M.1.cls idx arraycopyName ∈ goodTbl ∧ Cond.native arraycopyName ∈ goodTbl ∧ Cond.static arraycopyName ∈ goodTbl ∧ Cond.initialized "java/lang/System" ∈ goodTbl)
    (g : ∀ h1, Gd X M h0 (fh h1) h1 (pc + 3) L st) : Gd X M h0 (cpyB h rs sp rd dp n fh) h pc L (.inl n :: .inl dp :: .inr (.inr rd) :: .inl sp :: .inr (.inr rs) :: st) := by
  have hd := tb_len hx rfl
  unfold cpyB
  split
  · next a0 k0 n0 g0 b k1 n1 g1 e0 e1 =>
    split
    · next hc =>
      rw [Bool.and_eq_true, Bool.and_eq_true] at hc
      obtain ⟨⟨hk0, hk1⟩, hc⟩ := hc
      have hk0 : k0 = 1 := by simpa using hk0
      have hk1 : k1 = 1 := by simpa using hk1
      subst hk0
      subst hk1
      obtain ⟨rfl, hcell0⟩ := ar_some e0
      obtain ⟨rfl, hcell1⟩ := ar_some e1
      unfold cpC at hc
      rw [Bool.and_eq_true, Bool.and_eq_true, Bool.and_eq_true, Bool.and_eq_true, Bool.and_eq_true] at hc
      obtain ⟨⟨s1, s2, s3⟩, ⟨s4, s5⟩, s6⟩ := hc
      have c1 : ¬ sp < 0 := by simpa using s1
      have c2 : ¬ dp < 0 := by simpa using s2
      have c3 : ¬ n < 0 := by simpa using s3
      have c4 : sp.toNatClampNeg + n.toNatClampNeg ≤ n0 := Nat.le_of_ble_eq_true s4
      have c5 : dp.toNatClampNeg + n.toNatClampNeg ≤ n1 := Nat.le_of_ble_eq_true s5
      intro hf res ho
      obtain ⟨hle, g⟩ := g _ hf res ho
      refine ⟨hle, fun h0h l p e R s m args below meth c Q hat hrm hret H locs ls hI hl => ?_⟩
      have hts := hat.2.2.2.2.2.1
      have hK : va_K X.1 vwCl (tysX X) s := hat.2.2.2.2.2.2.1.1
      obtain ⟨ws, hP, hD, hz, hN, hr⟩ := hI.1
      have r0 : ∃ i : Nat, ws[i]? = some (a0, .inl (X.2.1 1, n0, .inl g0)) := by
        rcases hr a0 _ hcell0 with ⟨-, h⟩ | ⟨h, -⟩ | ⟨h, -⟩
        · exact h
        · omega
        · omega
      have r1 : ∃ i : Nat, ws[i]? = some (b, .inl (X.2.1 1, n1, .inl g1)) := by
        rcases hr b _ hcell1 with ⟨-, h⟩ | ⟨h, -⟩ | ⟨h, -⟩
        · exact h
        · omega
        · omega
      obtain ⟨i0, ha0⟩ := r0
      obtain ⟨i1, ha1⟩ := r1
      have hc0 : H[a0]? = some (vp_cell (X.2.1 1) (n0, .inl g0)) := hP i0 _ ha0
      have hc1 : H[b]? = some (vp_cell (X.2.1 1) (n1, .inl g1)) := hP i1 _ ha1
      obtain ⟨-, kk0, hkk0, cm0, hkind0⟩ := (hK.2 1 _ rfl).1 n0 (fun j => .int (g0 j))
      intro T hT Xs
      have hT0 : T.heap[a0]? = some (vp_cell (X.2.1 1) (n0, .inl g0)) := by rw [hT]; exact hc0
      have hT1 : T.heap[b]? = some (vp_cell (X.2.1 1) (n1, .inl g1)) := by rw [hT]; exact hc1
      obtain ⟨vm', X', step⟩ := Xs.arraycopy hat.1 hat.2.2.2.1 (hts _ hw.1) (hts _ hw.2.1) (hts _ hw.2.2.1) (hts _ hw.2.2.2) (src := a0) (dst := b) (cs := vp_cell (X.2.1 1) (n0, .inl g0)) (cd := vp_cell (X.2.1 1) (n1, .inl g1)) (srcPos := sp) (destPos := dp) (n := n) hT0 hT1
        (fun _ h => by cases h) (fun _ h => by cases h) (fun h => by cases h) (fun h => by cases h) hkk0 hkk0 hkind0 hkind0 (by simp [refKind]) c1 c2 c3
        (by rw [nn_toInt c1, nn_toInt c3]; show ¬ _ > ((arrV _ n0 (fun j => .int (g0 j))).slots.size : Int); rw [arrV_size]; omega)
        (by rw [nn_toInt c2, nn_toInt c3]; show ¬ _ > ((arrV _ n1 (fun j => .int (g1 j))).slots.size : Int); rw [arrV_size]; omega)
        (fun vm₁ _ i hi => by
          have e : (vp_cell (X.2.1 1) (n0, .inl g0)).slots.getD (sp.toNatClampNeg + i) .null = .int (g0 (sp.toNatClampNeg + i)) := by
            show (arrV _ n0 (fun j => .int (g0 j))).slots.getD _ _ = _
            rw [Array.getD_eq_getD_getElem?, arrV_read _ _ (by omega)]
            rfl
          rw [e]
          exact ⟨okB_fit s6 (by omega), trivial⟩)
        (g := F0 m pc ls (.int n :: .int dp :: .ref b :: .int sp :: .ref a0 :: st.map tV)) rfl (by show ls.size = _; rw [hl.1, hat.2.2.1]) (rest := st.map tV) rfl (by rw [hat.2.1]; exact hd) (Nat.le_trans hd0 hrm.1)
        (by have h2 := hrm.2.1; show 2 * 0 + ((st.map tV).map fun v => v.category).sum + (nativeFrameWords "java/lang/System" "arraycopy" 5 + 11) ≤ _; rw [cat_sum]; have h3 : nativeFrameWords "java/lang/System" "arraycopy" 5 ≤ 20 := by decide +kernel
            omega)
      have e1 : copied (vp_cell (X.2.1 1) (n0, .inl g0)) (vp_cell (X.2.1 1) (n1, .inl g1)) sp dp n = vp_cell (X.2.1 1) (n1, .inl (va_cpy g0 g1 sp.toNatClampNeg dp.toNatClampNeg n.toNatClampNeg)) := va_copied (fun z => .int z) (X.2.1 1) (X.2.1 1) g0 g1 c4
      rw [e1] at X' step
      have hlb : b < H.size := (Array.getElem?_eq_some_iff.mp hc1).1
      generalize hH1 : H.setIfInBounds b (vp_cell (X.2.1 1) (n1, .inl (va_cpy g0 g1 sp.toNatClampNeg dp.toNatClampNeg n.toNatClampNeg))) = H1
      have hheap : ((T.setVm vm').setCell b (vp_cell (X.2.1 1) (n1, .inl (va_cpy g0 g1 sp.toNatClampNeg dp.toNatClampNeg n.toNatClampNeg)))).heap = H1 := by rw [← hH1, ← hT]; rfl
      have oq : ∀ q : Nat, q ≠ b → H1[q]? = H[q]? := fun q hq => by rw [← hH1]; simp [Array.getElem?_setIfInBounds, Ne.symm hq]
      have z1 : H1.size = H.size := by rw [← hH1]; simp
      have hcellN : H1[b]? = some (vp_cell (X.2.1 1) (n1, .inl (va_cpy g0 g1 sp.toNatClampNeg dp.toNatClampNeg n.toNatClampNeg))) := by rw [← hH1]; simp [Array.getElem?_setIfInBounds, hlb]
      have hAX : AX X b := hD.2 i1 _ ha1
      have hrep := RepH.put hP hD hz hN hr ha1 (e := .inl (1, n1, .inl (va_cpy g0 g1 sp.toNatClampNeg dp.toNatClampNeg n.toNatClampNeg))) (e1 := .inl (X.2.1 1, n1, .inl (va_cpy g0 g1 sp.toNatClampNeg dp.toNatClampNeg n.toNatClampNeg))) hcellN z1 oq (fun ws' h' => Or.inl ⟨by decide, i1, h'⟩)
      have hI0 : Inv X s (upH h b (.inl (1, n1, .inl (va_cpy g0 g1 sp.toNatClampNeg dp.toNatClampNeg n.toNatClampNeg)))) H1 (locs ++ [⟨b, 0⟩]) := hI.put hrep z1 oq hAX
      obtain ⟨t, a1, b1⟩ := g h0h l p e R s m args below meth c Q hat hrm hret H1 _ ls ⟨hI0.1, hI0.2.1, hI0.2.2.1, fun q hq => by
        rcases List.mem_append.mp hq with h | h
        · exact hI.2.2.2 q h
        · obtain ⟨z, -, hz'⟩ := List.mem_map.mp h
          rw [← hz']
          exact hAX⟩ hl _ hheap X'
      exact ⟨t, step t a1, b1⟩
    · exact gd_none
  · exact gd_none
theorem q_cln (hx : tbB M.2.1 (pc, .invokevirtual idx, len, v, tgt) = true) (hd0 : 1 ≤ M.2.2.2.2) (hs : (st.map catA).sum ≤ 8) (hw : Cond.methodLink M.1.cls idx ⟨"[B", "clone", "()Ljava/lang/Object;"⟩ ∈ goodTbl ∧ Cond.sameMethod "[B" "java/lang/Object" "clone" "()Ljava/lang/Object;" ∈ goodTbl ∧ Cond.native ⟨"java/lang/Object", "clone", "()Ljava/lang/Object;"⟩ ∈ goodTbl ∧ Cond.instanceMethod ⟨"java/lang/Object", "clone", "()Ljava/lang/Object;"⟩ ∈ goodTbl ∧ Cond.selects "[B" ⟨"[B", "clone", "()Ljava/lang/Object;"⟩ ⟨"java/lang/Object", "clone", "()Ljava/lang/Object;"⟩ ∈ goodTbl)
    (g : ∀ h1 q, Gd X M h0 (f h1 q) h1 (pc + 3) L (.inr (.inr q) :: st)) : Gd X M h0 (clnB h rs f) h pc L (.inr (.inr rs) :: st) := by
  have hd := tb_len hx rfl
  unfold clnB
  split
  · next a0 k0 n0 g0 e0 =>
    split
    · next hc =>
      rw [Bool.and_eq_true] at hc
      obtain ⟨hk0, hok⟩ := hc
      have hk0 : k0 = 1 := by simpa using hk0
      subst hk0
      obtain ⟨rfl, hcell0⟩ := ar_some e0
      intro hf res ho
      obtain ⟨hle, g⟩ := g _ _ hf res ho
      have l1 : h.2.1 + 1 ≤ hf.2.1 := hle.1
      have l2 : h.2.2 + n0 ≤ hf.2.2 := hle.2
      refine ⟨⟨by omega, by omega⟩, fun h0h l p e R s m args below meth c Q hat hrm hret H locs ls hI hl => ?_⟩
      have l3 : h0.2.1 ≤ h.2.1 := h0h.1
      have l4 : h0.2.2 ≤ h.2.2 := h0h.2
      have hts := hat.2.2.2.2.2.1
      have hK : va_K X.1 vwCl (tysX X) s := hat.2.2.2.2.2.2.1.1
      have hcst : va_Nw (.castable "[B" "java/lang/Cloneable") s := hat.2.2.2.2.2.2.1.2.2.2.2.2.2
      have hIc := hI
      obtain ⟨ws, hP, hD, hz, hN, hr⟩ := hI.1
      have r0 : ∃ i : Nat, ws[i]? = some (a0, .inl (X.2.1 1, n0, .inl g0)) := by
        rcases hr a0 _ hcell0 with ⟨-, h⟩ | ⟨h, -⟩ | ⟨h, -⟩
        · exact h
        · omega
        · omega
      obtain ⟨i0, ha0⟩ := r0
      have hnm : s.vm.findClass "[B" = some (X.2.1 1) := (hK.2 1 _ rfl).2
      obtain ⟨c0, t0', f1, f2, f3⟩ := Cond.castable_spec (va_Nw.use (A := args) rfl hcst)
      cases hnm.symm.trans f1
      have hcellH : H[a0]? = some (vp_cell (X.2.1 1) (n0, .inl g0)) := hP i0 _ ha0
      have hsz : (vp_cell (X.2.1 1) (n0, .inl g0)).slots.size = n0 := arrV_size _ _ _
      obtain ⟨-, kS, hkS, compS, hkindS⟩ := (hK.2 1 _ rfl).1 0 (fun _ => .null)
      intro T hT Xs
      have hcellT : T.heap[a0]? = some (vp_cell (X.2.1 1) (n0, .inl g0)) := by rw [hT]; exact hcellH
      obtain ⟨-, kA, hkA, comp, hkind⟩ := State.isArrayOf_alike Xs.warmed.alike ((hK.2 1 _ rfl).1 0 (fun _ => .null))
      obtain ⟨vm', X', step⟩ := Xs.cloneArray hat.1 hat.2.2.2.1 (hts _ hw.1) (hts _ hw.2.1) (hts _ hw.2.2.1) (hts _ hw.2.2.2.1) (hts _ hw.2.2.2.2) (a := a0) (cell := vp_cell (X.2.1 1) (n0, .inl g0)) hcellT (fun k h => by cases h) (fun h => by cases h) hnm f2 f3
        (fun i v hv => by
          have hk' : T.vm.classes[X.2.1 1]? = some kA := hkA
          have hvi : ∃ j : Nat, j < n0 ∧ v = .int (g0 j) := by
            have hi : i < n0 := by
              have := (Array.getElem?_eq_some_iff.mp hv).1
              rw [hsz] at this
              exact this
            have hv2 : (arrV (X.2.1 1) n0 (fun j => .int (g0 j))).slots[i]? = some v := hv
            rw [arrV_read _ _ hi] at hv2
            exact ⟨i, hi, (Option.some.inj hv2).symm⟩
          obtain ⟨j, hj, rfl⟩ := hvi
          have hfit := okB_fit hok hj
          show T.fitsSlot (X.2.1 1) .none i (.int (g0 j)) = true
          simpa [State.fitsSlot, State.slotType?, hk', hkind] using hfit)
        (g := F0 m pc ls (.ref a0 :: st.map tV)) rfl (by show ls.size = _; rw [hl.1, hat.2.2.1]) rfl (by rw [hat.2.1]; exact hd) (Nat.le_trans hd0 hrm.1) (by have h2 := hrm.2.1; show 2 * 0 + ((st.map tV).map fun v => v.category).sum + 14 ≤ _; rw [cat_sum]; omega)
        (show (h.2.1 - h0.2.1) + 1 ≤ R.cells by have h3 := hrm.2.2.1; omega) (by rw [hsz]; have h3 := hrm.2.2.2; show (h.2.2 - h0.2.2) + n0 ≤ R.slots; omega) (hloader := Vm.clonesLoader_of_array hkS hkindS)
      have hcellE : ({ cls := (vp_cell (X.2.1 1) (n0, .inl g0)).cls, slots := (vp_cell (X.2.1 1) (n0, .inl g0)).slots } : Cell) = vp_cell (X.2.1 1) (n0, .inl g0) := rfl
      rw [hcellE, hsz] at X'
      generalize hH1 : H.push (vp_cell (X.2.1 1) (n0, .inl g0)) = H1
      have z1 : H1.size = H.size + 1 := by rw [← hH1, Array.size_push]
      have e1 : H1[H.size]? = some (vp_cell (X.2.1 1) (n0, .inl g0)) := by rw [← hH1, Array.getElem?_push_size]
      have o1 : ∀ q : Nat, q < H.size → H1[q]? = H[q]? := fun q hq => by rw [← hH1, Array.getElem?_push, if_neg (Nat.ne_of_lt hq)]
      have hI1 : Inv X s (pushH h (.inl (1, n0, .inl g0)) n0) H1 locs := hIc.push (RepH.push hIc.1 (e1 := .inl (X.2.1 1, n0, .inl g0)) (e := .inl (1, n0, .inl g0)) e1 z1 o1 (fun ws' i h' => Or.inl ⟨by decide, i, h'⟩)) z1 o1
      have g2 := g ⟨by show h0.2.1 ≤ h.2.1 + 1; omega, by show h0.2.2 ≤ h.2.2 + n0; omega⟩ l p e R s m args below meth c Q hat hrm hret H1 locs ls hI1 hl
      have k1 : (pushH h (.inl (1, n0, .inl g0)) n0).2.1 - h0.2.1 = h.2.1 - h0.2.1 + 1 := by show h.2.1 + 1 - h0.2.1 = _; omega
      have k2 : (pushH h (.inl (1, n0, .inl g0)) n0).2.2 - h0.2.2 = h.2.2 - h0.2.2 + n0 := by show h.2.2 + n0 - h0.2.2 = _; omega
      rw [k1, k2] at g2
      obtain ⟨t, b1, b2⟩ := g2 ((T.setVm vm').pushCell (vp_cell (X.2.1 1) (n0, .inl g0))) (by rw [← hH1, ← hT]; rfl) X'
      refine ⟨t, step t ?_, b2⟩
      rw [hcellE, hT, hz]
      exact b1
    · exact gd_none
  · exact gd_none
theorem q_ckB (hx : tbB M.2.1 (pc, .checkcast idx, len, v, tgt) = true) (hw : Cond.classLink M.1.cls idx "[B" ∈ goodTbl) (g : Gd X M h0 o h (pc + 3) L (.inr (.inr rs) :: st)) : Gd X M h0 (ckB h rs o) h pc L (.inr (.inr rs) :: st) := by
  have hd := tb_len hx rfl
  unfold ckB
  split
  · next a0 k0 x0 e0 =>
    split
    · next hc =>
      have hk0 : k0 = 1 := by simpa using hc
      subst hk0
      obtain ⟨rfl, hcell0⟩ := ar_some e0
      refine q_w g (fun {p l e R s m args below meth c H locs cells slots Q ls} hat hI _ hl kk => ?_)
      have kk := kk ls hl
      have hK : va_K X.1 vwCl (tysX X) s := hat.2.2.2.2.2.2.1.1
      obtain ⟨ws, hP, hD, hz, hN, hr⟩ := hI.1
      rcases hr a0 _ hcell0 with ⟨-, i0, ha0⟩ | ⟨h, -⟩ | ⟨h, -⟩
      · exact va_castA hat.1 hat.2.1 hat.2.2.2.1 (hat.2.2.2.2.2.1 _ hw) hP i0 ha0 (hK.2 1 _ rfl).2 hd kk
      · omega
      · omega
    · exact gd_none
  · exact gd_none
end COPY
/-! Math -/
def mxI (x y : Int32) : Int32 := if x < y then y else x
def mnI (x y : Int32) : Int32 := if y < x then y else x
def abI (x : Int32) : Int32 := if 0 ≤ x then x else 0 - x
section MATH
variable {X : Cx} {M : MI} {h0 h : Hp} {o : Rs} {L : List (Option AV)} {st : List AV} {pc len tgt idx : Nat} {v x y : Int32}
theorem q_pc {pb : Nat} {st0 : List AV} (hd0 : 1 ≤ M.2.2.2.2) (g : Gd X M h0 o h pb L st)
    (w : ∀ {p : Program} {l : Launch} {e : Jvm.Env} {R : Room} {s : State} {m : MethodId} {args : Array Value} {below : List Frame} {meth : Method} {c : Code} {H : Heap} {locs : List Loc} {cells slots : Nat} {Q : State → Prop} {ls : Array Slot}, At0 M X p s m args meth c → c.maxLocals = ls.size → 1 ≤ R.frames → (∀ {rest : List Value}, (rest.map fun v => v.category).sum ≤ 10 → (rest.map fun v => v.category).sum + 13 ≤ R.locals) → cells ≤ R.cells → slots ≤ R.slots → W p l e R s m args below meth c H locs cells slots Q (F0 m pb ls (st.map tV)) → W p l e R s m args below meth c H locs cells slots Q (F0 m pc ls (st0.map tV))) : Gd X M h0 o h pc L st0 := by
  intro hf res ho
  obtain ⟨hle, g⟩ := g hf res ho
  have l1 := hle.1
  have l2 := hle.2
  refine ⟨hle, fun h0h l p e R s m args below meth c Q hat hrm hret H locs ls hI hl => ?_⟩
  have r1 := hrm.2.1
  have r2 := hrm.2.2.1
  have r3 := hrm.2.2.2
  exact w hat (hat.2.2.1.trans hl.1.symm) (Nat.le_trans hd0 hrm.1) (fun hq => by omega) (by omega) (by omega) (g h0h l p e R s m args below meth c Q hat hrm hret H locs ls hI hl)
theorem q_mmax (hx : tbB M.2.1 (pc, .invokestatic idx, len, v, tgt) = true) (hd0 : 1 ≤ M.2.2.2.2) (hs : (st.map catA).sum ≤ 8) (hw : Cond.methodLink M.1.cls idx Lib.Math.max.name ∈ goodTbl ∧ Cond.static Lib.Math.max.name ∈ goodTbl ∧ Cond.initialized "java/lang/Math" ∈ goodTbl ∧ Cond.code Lib.Math.max.name Lib.Math.max.code 2 (some .int) ∈ goodTbl) (g : Gd X M h0 o h (pc + 3) L (.inl (mxI x y) :: st)) : Gd X M h0 o h pc L (.inl y :: .inl x :: st) := by
  have hd := tb_len hx rfl
  refine q_pc hd0 (st := .inl (mxI x y) :: st) g (fun {p l e R s m args below meth c H locs cells slots Q ls} hat hml hf hlo hc hsl k => ?_)
  have hts := hat.2.2.2.2.2.1
  exact va_mmax hat.1 hat.2.1 hml hat.2.2.2.1 (hts _ hw.1) (hts _ hw.2.1) (hts _ hw.2.2.1) (hts _ hw.2.2.2) hf (hlo (by rw [cat_sum]; omega)) hc hsl hd k
theorem q_mmin (hx : tbB M.2.1 (pc, .invokestatic idx, len, v, tgt) = true) (hd0 : 1 ≤ M.2.2.2.2) (hs : (st.map catA).sum ≤ 8) (hw : Cond.methodLink M.1.cls idx Lib.Math.min.name ∈ goodTbl ∧ Cond.static Lib.Math.min.name ∈ goodTbl ∧ Cond.initialized "java/lang/Math" ∈ goodTbl ∧ Cond.code Lib.Math.min.name Lib.Math.min.code 2 (some .int) ∈ goodTbl) (g : Gd X M h0 o h (pc + 3) L (.inl (mnI x y) :: st)) : Gd X M h0 o h pc L (.inl y :: .inl x :: st) := by
  have hd := tb_len hx rfl
  refine q_pc hd0 (st := .inl (mnI x y) :: st) g (fun {p l e R s m args below meth c H locs cells slots Q ls} hat hml hf hlo hc hsl k => ?_)
  have hts := hat.2.2.2.2.2.1
  exact va_mmin hat.1 hat.2.1 hml hat.2.2.2.1 (hts _ hw.1) (hts _ hw.2.1) (hts _ hw.2.2.1) (hts _ hw.2.2.2) hf (hlo (by rw [cat_sum]; omega)) hc hsl hd k
theorem q_mabs (hx : tbB M.2.1 (pc, .invokestatic idx, len, v, tgt) = true) (hd0 : 1 ≤ M.2.2.2.2) (hs : (st.map catA).sum ≤ 8) (hw : Cond.methodLink M.1.cls idx Lib.Math.abs.name ∈ goodTbl ∧ Cond.static Lib.Math.abs.name ∈ goodTbl ∧ Cond.initialized "java/lang/Math" ∈ goodTbl ∧ Cond.code Lib.Math.abs.name Lib.Math.abs.code 1 (some .int) ∈ goodTbl) (g : Gd X M h0 o h (pc + 3) L (.inl (abI x) :: st)) : Gd X M h0 o h pc L (.inl x :: st) := by
  have hd := tb_len hx rfl
  refine q_pc hd0 (st := .inl (abI x) :: st) g (fun {p l e R s m args below meth c H locs cells slots Q ls} hat hml hf hlo hc hsl k => ?_)
  have hts := hat.2.2.2.2.2.1
  exact va_mabs hat.1 hat.2.1 hml hat.2.2.2.1 (hts _ hw.1) (hts _ hw.2.1) (hts _ hw.2.2.1) (hts _ hw.2.2.2) hf (hlo (by rw [cat_sum]; omega)) hc hsl hd k
end MATH
