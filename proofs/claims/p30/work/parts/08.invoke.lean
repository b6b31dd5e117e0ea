/-! RETURNS, SWITCHES, CALLS -/
theorem nar_eq (ty : FieldType) (x : Int32) : narrow ty (.int x) = .int (vp_nar ty x) := by cases ty <;> rfl
def catA (v : AV) : Nat := match v with
  | .inr (.inl _) => 2
  | _ => 1
theorem catA_eq (v : AV) : (tV v).category = catA v := by
  obtain x | y | r := v
  · rfl
  · rfl
  · cases r <;> rfl
theorem cat_sum (st : List AV) : ((st.map tV).map fun v => v.category).sum = (st.map catA).sum := by
  rw [List.map_map]
  congr 1
  exact List.map_congr_left (fun v _ => catA_eq v)
section RET
variable {X : Cx} {M : MI} {h0 h : Hp} {o : Rs} {L : List (Option AV)} {st : List AV} {pc len tgt idx : Nat} {v x : Int32} {r : Option Nat}
theorem q_iret (hx : tbB M.2.1 (pc, .ireturn, len, v, tgt) = true) (hr : M.2.2.2.1 = some .int) : Gd X M h0 (some (h, some (.inl x))) h pc L [.inl x] := by
  have hd := tb_len hx rfl
  intro hf res ho
  cases ho
  exact ⟨HLe.rf, fun _ l p e R s m args below meth c Q hat hrm hret H locs ls hI hl => hret H locs ls pc _ hI hd ⟨rfl, _, hr, rfl⟩⟩
theorem q_zret {ty : FieldType} (hx : tbB M.2.1 (pc, .ireturn, len, v, tgt) = true) (hr : M.2.2.2.1 = some ty) : Gd X M h0 (rtI ty h x) h pc L [.inl x] := by
  have hd := tb_len hx rfl
  unfold rtI
  split
  · next hn =>
    intro hf res ho
    cases ho
    exact ⟨HLe.rf, fun _ l p e R s m args below meth c Q hat hrm hret H locs ls hI hl => hret H locs ls pc _ hI hd ⟨rfl, _, hr, by rw [nar_eq, hn]⟩⟩
  · exact gd_none
theorem q_aret {ty : FieldType} (hx : tbB M.2.1 (pc, .areturn, len, v, tgt) = true) (hr : M.2.2.2.1 = some ty) (hty : (∃ n, ty = .object n) ∨ ∃ t, ty = .array t) : Gd X M h0 (some (h, some (.inr (.inr r)))) h pc L [.inr (.inr r)] := by
  have hd := tb_len hx rfl
  intro hf res ho
  cases ho
  exact ⟨HLe.rf, fun _ l p e R s m args below meth c Q hat hrm hret H locs ls hI hl => hret H locs ls pc _ hI hd ⟨rfl, _, hr, hty⟩⟩
theorem q_lret {y : Int64} (hx : tbB M.2.1 (pc, .lreturn, len, v, tgt) = true) (hr : M.2.2.2.1 = some .long) : Gd X M h0 (some (h, some (.inr (.inl y)))) h pc L [.inr (.inl y)] := by
  have hd := tb_len hx rfl
  intro hf res ho
  cases ho
  exact ⟨HLe.rf, fun _ l p e R s m args below meth c Q hat hrm hret H locs ls hI hl => hret H locs ls pc _ hI hd ⟨rfl, hr⟩⟩
theorem q_vret (hx : tbB M.2.1 (pc, .return_, len, v, tgt) = true) (hr : M.2.2.2.1 = none) : Gd X M h0 (some (h, none)) h pc L [] := by
  have hd := tb_len hx rfl
  intro hf res ho
  cases ho
  exact ⟨HLe.rf, fun _ l p e R s m args below meth c Q hat hrm hret H locs ls hI hl => hret H locs ls pc _ hI hd ⟨rfl, hr⟩⟩
def swf (x : Int32) : List (Int32 × Rs) → Rs → Rs
  | [], d => d
  | (k, a) :: r, d => if x = k then a else swf x r d
def swG (P : Rs → Nat → Prop) : List (Int32 × Rs) → List (Int32 × Nat) → Prop
  | [], [] => True
  | (k, a) :: r, (k', t) :: r' => (k = k' ∧ P a t) ∧ swG P r r'
  | _, _ => False
def swB (pc : Nat) (dflt lo hi : Int) (offs : Array Int) (ks : List (Int32 × Nat)) (td : Nat) : Bool :=
  (ks.all (fun q => decide (lo ≤ q.1.toInt) && (decide (q.1.toInt ≤ hi) && match offs[(q.1.toInt - lo).toNat]? with
    | some off => decide ((pc : Int) + off = (q.2 : Int))
    | none => false)) && decide ((pc : Int) + dflt = (td : Int))) && (decide (hi - lo + 1 = (offs.size : Int)) && (List.range offs.size).all (fun j => decide (offs[j]? = some dflt) || ks.any (fun q => decide (q.1.toInt = lo + j))))
theorem sw_find {P : Rs → Nat → Prop} {x : Int32} {d : Rs} : ∀ {as : List (Int32 × Rs)} {ks : List (Int32 × Nat)}, swG P as ks → (∃ a t, (x, t) ∈ ks ∧ swf x as d = a ∧ P a t) ∨ ((∀ q ∈ ks, x ≠ q.1) ∧ swf x as d = d)
  | [], [], _ => Or.inr ⟨fun q hq => (by cases hq), rfl⟩
  | (k, a) :: r, (k', t) :: r', hg => by
    obtain ⟨⟨rfl, hp⟩, hg⟩ := hg
    by_cases hx : x = k
    · exact Or.inl ⟨a, t, by rw [hx]; exact List.mem_cons_self, by simp [swf, hx], hp⟩
    · rcases sw_find (x := x) (d := d) hg with ⟨a', t', h1, h2, h3⟩ | ⟨h1, h2⟩
      · exact Or.inl ⟨a', t', List.mem_cons_of_mem _ h1, by simp [swf, hx, h2], h3⟩
      · refine Or.inr ⟨fun q hq => ?_, by simp [swf, hx, h2]⟩
        rcases List.mem_cons.mp hq with rfl | hq
        · exact hx
        · exact h1 q hq
  | [], _ :: _, hg => hg.elim
  | _ :: _, [], hg => hg.elim
theorem q_sw {dflt lo hi : Int} {offs : Array Int} {as : List (Int32 × Rs)} {d : Rs} (ks : List (Int32 × Nat)) (td : Nat) (hx : tbB M.2.1 (pc, .tableswitch dflt lo hi offs, len, v, tgt) = true) (hb : swB pc dflt lo hi offs ks td = true)
    (gd : Gd X M h0 d h td L st) (ga : swG (fun a t => Gd X M h0 a h t L st) as ks) : Gd X M h0 (swf x as d) h pc L (.inl x :: st) := by
  have hd := tb_d hx
  unfold swB at hb
  rw [Bool.and_eq_true, Bool.and_eq_true, Bool.and_eq_true, decide_eq_true_eq, decide_eq_true_eq, List.all_eq_true, List.all_eq_true] at hb
  obtain ⟨⟨hks, htd⟩, hsz, hcov⟩ := hb
  rcases sw_find (x := x) (d := d) ga with ⟨a, t, h1, h2, h3⟩ | ⟨h1, h2⟩
  · rw [h2]
    have hq := hks _ h1
    rw [Bool.and_eq_true, Bool.and_eq_true, decide_eq_true_eq, decide_eq_true_eq] at hq
    obtain ⟨q1, q2, q3⟩ := hq
    split at q3
    · next off ho =>
      refine q_w h3 (fun hat _ _ hl k => ?_)
      exact lv_tableIn hat.1 hat.2.1 hd (by dsimp only at q1; omega) (by dsimp only at q2; omega) ho (by simpa using q3) (k _ hl)
    · cases q3
  · rw [h2]
    refine q_w gd (fun hat _ _ hl k => ?_)
    by_cases hout : x.toInt < lo ∨ hi < x.toInt
    · exact lv_tableOut hat.1 hat.2.1 hd hout htd (k _ hl)
    · have g1 : ¬ x.toInt < lo := fun q => hout (Or.inl q)
      have g2 : ¬ hi < x.toInt := fun q => hout (Or.inr q)
      have hj : (x.toInt - lo).toNat < offs.size := by omega
      have hc := hcov _ (List.mem_range.mpr hj)
      rw [Bool.or_eq_true, decide_eq_true_eq, List.any_eq_true] at hc
      rcases hc with hc | ⟨q, hq, hqe⟩
      · exact lv_tableIn hat.1 hat.2.1 hd g1 g2 hc htd (k _ hl)
      · rw [decide_eq_true_eq] at hqe
        exact absurd (Int32.toInt_inj.mp (by omega)) (h1 q hq)
end RET
/-! calls -/
theorem EnvX.calling {X : Cx} {U : State} {g : JFrame} {mk : MethodId} {a : Array Value} (h : EnvX X U) : EnvX X (U.calling g mk a) := by
  obtain ⟨h1, ⟨a1, a2, a3⟩, ⟨b1, b2⟩, ⟨c1, c2⟩, ⟨z1, z2, z3, z4, z5⟩, ⟨⟨q1, e1, k1⟩, ⟨q2, e2, k2⟩, ⟨q3, e3, k3⟩, ⟨q4, e4, k4⟩⟩, cc⟩ := h
  have hm : U.vm.Alike (U.calling g mk a).vm := Vm.Alike.refl U.vm
  have hv : U.vm = (U.calling g mk a).vm := rfl
  exact ⟨va_K.moved (U := U.calling g mk a) hm h1, ⟨va_AO.moved (U := U.calling g mk a) hm a1, va_AO.moved (U := U.calling g mk a) hm a2, va_AO.moved (U := U.calling g mk a) hm a3⟩, ⟨va_Nw.same rfl hv b1, va_Nw.same rfl hv b2⟩, ⟨va_Nw.same rfl hv c1, va_Nw.same rfl hv c2⟩,
    ⟨va_Z.moved (U := U.calling g mk a) hm z1, va_Z.moved (U := U.calling g mk a) hm z2, va_Z.moved (U := U.calling g mk a) hm z3, va_Z.moved (U := U.calling g mk a) hm z4, va_Z.moved (U := U.calling g mk a) hm z5⟩,
    ⟨⟨q1, e1, vk_R.same hv.symm k1⟩, ⟨q2, e2, vk_R.same hv.symm k2⟩, ⟨q3, e3, vk_R.same hv.symm k3⟩, ⟨q4, e4, vk_R.same hv.symm k4⟩⟩, va_Nw.same rfl hv cc⟩
theorem PcM.blind {X : Cx} {h : Hp} {as : List AV} : FrameBlind (PcM X h as) := by
  intro a U g mk hp
  obtain ⟨h1, h2, h3, h4⟩ := hp
  exact ⟨h1, RepH.to (s := U) (U := U.calling g mk a) (Vm.Alike.refl U.vm) FrN.rf h2, h3.calling, h4⟩
theorem PcM.at {X : Cx} {h : Hp} {as : List AV} {s : State} {H : Heap} {locs : List Loc} (hE : EnvX X s) (hN : X.2.2.1 ≤ s.heap.size) (hI : Inv X s h H locs) : ∀ U : State, U.heap = H → s.WarmedH U.vm → PcM X h as (as.map tV).toArray U := by
  intro U hU hW
  have hf : FrN X.2.2.1 s.heap U.heap := by rw [hU]; exact hI.2.1
  exact ⟨rfl, by rw [hU]; exact RepH.to hW.alike hf hI.1, EnvX.to hW hf hE, by rw [hU]; exact Nat.le_trans hN hI.2.2.1⟩
theorem exW_good : ∀ w ∈ exW, goodWord w = true := by decide +kernel
theorem good_all {w : Cond} (h : w ∈ goodTbl) : goodWord w = true := (List.mem_append.mp h).elim (exW_good w) (fun h => (List.mem_filter.mp h).2)
theorem good_in {ws : List Cond} (h : ∀ w ∈ ws, w ∈ goodTbl) : GoodIn goodTbl ws := fun w hw => ⟨h w hw, good_of_word (good_all (h w hw))⟩
/-- what any call asks of its callee -/
def Ce (M : MI) (n : Nat) : Prop := Cond.initialized M.1.cls ∈ goodTbl ∧ Cond.code M.1 M.2.1 M.2.2.1 M.2.2.2.1 ∈ goodTbl ∧ M.1.cls ≠ "java/lang/invoke/MethodHandle" ∧ M.1.cls ≠ "java/lang/invoke/VarHandle" ∧ (parseMethodDescriptor M.1.desc).map (fun d => d.parameters.length) = some n
theorem Ce.ws {M : MI} {n : Nat} (h : Ce M n) : ∀ w ∈ wsM M, w ∈ goodTbl := by
  intro w hw
  rcases List.mem_cons.mp hw with rfl | hw
  · exact h.2.1
  · exact hw
def dpB (M M' : MI) : Bool := Nat.blt M'.2.2.2.2 M.2.2.2.2 && Nat.ble (8 + (M'.2.2.1 + 11) + 40 * M'.2.2.2.2) (40 * M.2.2.2.2)
theorem dp_ok {M M' : MI} (h : dpB M M' = true) : M'.2.2.2.2 + 1 ≤ M.2.2.2.2 ∧ 8 + (M'.2.2.1 + 11) + 40 * M'.2.2.2.2 ≤ 40 * M.2.2.2.2 := by
  unfold dpB at h
  rw [Bool.and_eq_true] at h
  exact ⟨Nat.le_of_ble_eq_true h.1, Nat.le_of_ble_eq_true h.2⟩
section CALL
variable {X : Cx} {M M' : MI} {h0 h : Hp} {o o' : Rs} {L : List (Option AV)} {st as : List AV} {pc len tgt idx ci : Nat} {v x : Int32} {r : Option Nat} {k : Hp → Option AV → Rs}
theorem run_W {h' : Hp} {r' : Option AV} {p : Program} {l : Launch} {e : Jvm.Env} {R : Room} {s : State} {m : MethodId} {args : Array Value} {below : List Frame} {meth : Method} {c : Code} {H : Heap} {locs : List Loc} {cells slots mc ms : Nat} {Q : State → Prop} {ls : Array Slot} {st0 rest : List Value} {a : Array Value}
    (hr : va_Run p l e R s m args below meth c H locs cells slots mc ms (F0 m pc ls st0) rest (QcM X h' r' a) (fun q => X.2.2.1 ≤ q)) (hI : Inv X s h H locs)
    (kk : ∀ H1 locs1, Inv X s h' H1 locs1 → W p l e R s m args below meth c H1 locs1 (cells + mc) (slots + ms) Q (F0 m (pc + 3) ls ((r'.map tV).toList ++ rest))) : W p l e R s m args below meth c H locs cells slots Q (F0 m pc ls st0) := by
  intro T hT X0
  obtain ⟨v, st₀, t, T', LL, e0, X', hL, e1, e2, ⟨hv, hrep, hfr, hsz⟩, st⟩ := hr T hT X0
  cases hv
  have hal : s.vm.Alike t.vm := by rw [← e2]; exact X'.warmed.alike
  have hfr1 : FrN X.2.2.1 s.heap t.heap := by rw [e0] at hfr; exact hI.2.1.trans hfr
  obtain ⟨t2, a1, b1⟩ := kk T'.heap (locs ++ LL) ⟨by rw [e1]; exact RepH.to hal.symm hfr1.symm hrep, by rw [e1]; exact hfr1, by rw [e1]; rw [e0] at hsz; exact Nat.le_trans hI.2.2.1 hsz, fun q hq => by
    rcases List.mem_append.mp hq with h | h
    · exact hI.2.2.2 q h
    · exact hL q h⟩ T' rfl X'
  exact ⟨t2, st t2 a1, b1⟩
theorem q_call {st0 : List AV} (so : SO X M' as h o') (g : ∀ h' r', Gd X M h0 (k h' r') h' (pc + 3) L (r'.toList ++ st))
    (w : ∀ {p : Program} {l : Launch} {e : Jvm.Env} {R : Room} {s : State} {m : MethodId} {args : Array Value} {below : List Frame} {meth : Method} {c : Code} {H : Heap} {locs : List Loc} {cells slots : Nat} {ls : Array Slot} {h' : Hp} {r' : Option AV}, At0 M X p s m args meth c → Inv X s h H locs → LV ls M.2.2.1 L → M.2.2.2.2 ≤ R.frames → 40 * M.2.2.2.2 ≤ R.locals → Met l M'.1 (wsM M') (rmM M' h h') (PcM X h as) (QcM X h' r') (h'.2.1 - h.2.1) (h'.2.2 - h.2.2) (fun q => X.2.2.1 ≤ q) →
      cells + (h'.2.1 - h.2.1) ≤ R.cells ∧ slots + (h'.2.2 - h.2.2) ≤ R.slots → va_Run p l e R s m args below meth c H locs cells slots (h'.2.1 - h.2.1) (h'.2.2 - h.2.2) (F0 m pc ls (st0.map tV)) (st.map tV) (QcM X h' r' (as.map tV).toArray) (fun q => X.2.2.1 ≤ q)) : Gd X M h0 (cc o' k) h pc L st0 := by
  unfold cc
  split
  · next h' r' =>
    obtain ⟨hle', hM⟩ := so h' r' rfl
    intro hf res ho
    obtain ⟨hle, g⟩ := g h' r' hf res ho
    refine ⟨hle'.trans hle, fun h0h l p e R s m args below meth c Q hat hrm hret H locs ls hI hl => ?_⟩
    have c1 := hle'.1
    have c2 := hle'.2
    have c3 := hle.1
    have c4 := hle.2
    have c5 := h0h.1
    have c6 := h0h.2
    have r1 := hrm.2.2.1
    have r2 := hrm.2.2.2
    refine run_W (w hat hI hl hrm.1 hrm.2.1 (hM l) ⟨by omega, by omega⟩) hI (fun H1 locs1 hI1 => ?_)
    have := g (h0h.trans hle') l p e R s m args below meth c Q hat hrm hret H1 locs1 ls hI1 hl
    rw [show h'.2.1 - h0.2.1 = h.2.1 - h0.2.1 + (h'.2.1 - h.2.1) by omega, show h'.2.2 - h0.2.2 = h.2.2 - h0.2.2 + (h'.2.2 - h.2.2) by omega, List.map_append] at this
    cases r' with
    | none => exact this
    | some z => exact this
  · exact gd_none
theorem kI_gd {f : Hp → Int32 → Rs} {pc' : Nat} (g : ∀ h' x, Gd X M h0 (f h' x) h' pc' L (.inl x :: st)) : ∀ h' r', Gd X M h0 (kI f h' r') h' pc' L (r'.toList ++ st) := by
  intro h' r'
  obtain _ | x | y | q := r'
  · exact gd_none
  · exact g h' x
  · exact gd_none
  · exact gd_none
theorem kR_gd {f : Hp → Option Nat → Rs} {pc' : Nat} (g : ∀ h' x, Gd X M h0 (f h' x) h' pc' L (.inr (.inr x) :: st)) : ∀ h' r', Gd X M h0 (kR f h' r') h' pc' L (r'.toList ++ st) := by
  intro h' r'
  obtain _ | x | y | q := r'
  · exact gd_none
  · exact gd_none
  · exact gd_none
  · exact g h' q
theorem kJ_gd {f : Hp → Int64 → Rs} {pc' : Nat} (g : ∀ h' x, Gd X M h0 (f h' x) h' pc' L (.inr (.inl x) :: st)) : ∀ h' r', Gd X M h0 (kJ f h' r') h' pc' L (r'.toList ++ st) := by
  intro h' r'
  obtain _ | x | y | q := r'
  · exact gd_none
  · exact gd_none
  · exact g h' y
  · exact gd_none
theorem kV_gd {f : Hp → Rs} {pc' : Nat} (g : ∀ h', Gd X M h0 (f h') h' pc' L st) : ∀ h' r', Gd X M h0 (kV f h' r') h' pc' L (r'.toList ++ st) := by
  intro h' r'
  obtain _ | x := r'
  · exact g h'
  · exact gd_none
theorem At0.fix {p : Program} {s : State} {m : MethodId} {args : Array Value} {meth : Method} {c : Code} (h : At0 M X p s m args meth c) : CallFix p m c M.2.1 M.2.2.1 s args goodTbl M.1.cls := ⟨h.1, h.2.1, h.2.2.1, h.2.2.2.1, h.2.2.2.2.2.1⟩
theorem recv_ok {p : Program} {s : State} {m : MethodId} {args : Array Value} {meth : Method} {c : Code} {H : Heap} {locs : List Loc} {a0 c0 : Nat} {fs : List AV} {C : String} {T : u_T} {N : Nat} (hat : At0 M X p s m args meth c) (hI : Inv X s h H locs) (hc : vwCl[ci]? = some (C, T, N)) (hcell : h.1 a0 = some (.inr (c0, fs))) (htg : tgo c0 ci = true) :
    ∃ cell : Cell, H[a0]? = some cell ∧ cell.vm.isStatics = false ∧ s.vm.findClass C = some cell.cls := by
  obtain ⟨ws, hP, hD, hz, hN, hr⟩ := hI.1
  rcases tgo_cases htg with ⟨rfl, h9⟩ | ⟨rfl, rfl⟩
  · rcases hr a0 _ hcell with ⟨-, i, hi⟩ | ⟨h10, -⟩
    · exact va_recv hat.2.2.2.2.2.2.1.1 hP hc hi
    · omega
  · rcases hr a0 _ hcell with ⟨h9, -⟩ | ⟨-, q, -, h1, -⟩
    · omega
    · have hc' : (RJ0, TJ0, 4) = (C, T, N) := Option.some.inj hc
      cases hc'
      obtain ⟨cell, g1, g2, g3, -⟩ := h1.kept hI.S.2.1
      exact ⟨cell, g1, g2, g3⟩
theorem st_as (as st : List AV) (r : Option Nat) : (as.reverse ++ .inr (.inr r) :: st).map tV = (as.map tV).reverse ++ va_rf r :: st.map tV := by
  rw [List.map_append, List.map_reverse]
  rfl
theorem st_as0 (as st : List AV) : (as.reverse ++ st).map tV = (as.map tV).reverse ++ st.map tV := by
  rw [List.map_append, List.map_reverse]
/-- a method of the receiver's own kind -/
theorem q_cv {n : Nat} (T : u_T) (N : Nat) (so : SO X M' (.inr (.inr r) :: as) h o') (hx : tbB M.2.1 (pc, .invokevirtual idx, len, v, tgt) = true) (hdp : dpB M M' = true) (hc : vwCl[ci]? = some (M'.1.cls, T, N)) (hce : Ce M' n) (hin : Cond.instanceMethod M'.1 ∈ goodTbl) (hse : Cond.selects M'.1.cls M'.1 M'.1 ∈ goodTbl)
    (hln : Cond.methodLink M.1.cls idx M'.1 ∈ goodTbl) (hn : as.length = n) (hs : (st.map catA).sum ≤ 8) (g : ∀ h' r', Gd X M h0 (k h' r') h' (pc + 3) L (r'.toList ++ st)) : Gd X M h0 (ck h r ci (cc o' k)) h pc L (as.reverse ++ .inr (.inr r) :: st) := by
  have hd := tb_len hx rfl
  obtain ⟨d1, d2⟩ := dp_ok hdp
  unfold ck
  split
  · next z e =>
    obtain ⟨a0, c0, fs⟩ := z
    obtain ⟨rfl, hcell, htg⟩ := ob_some e
    refine q_call so g (fun {p l e R s m args below meth c H locs cells slots ls h' r'} hat hI hl hf hlo hM hroom => ?_)
    rw [st_as]
    refine va_runV (b := a0) (As := as.map tV) (C := M'.1.cls) hat.fix hM (cwV n hat.2.2.2.2.2.1 ?_ rfl rfl rfl ⟨rfl, hce.2.2⟩ ⟨Nat.le_trans d1 hf, Nat.le_trans d2 hlo⟩) ⟨PcM.blind, recv_ok hat hI hc hcell htg, PcM.at hat.2.2.2.2.2.2.1 hat.2.2.2.2.2.2.2 hI⟩ rfl (by rw [List.length_map]; exact hn) hl.1 rfl (lv_room (by rw [cat_sum]; exact hs)) hd hroom
    refine good_in (fun w hw => ?_)
    unfold wsV at hw
    rcases List.mem_append.mp hw with hw | hw
    · simp only [List.mem_cons, List.not_mem_nil, or_false] at hw
      rcases hw with rfl | rfl | rfl | rfl
      · exact hln
      · exact hin
      · exact hse
      · exact hce.1
    · exact hce.ws w hw
  · exact gd_none
/-- a method that the receiver's class has from above -/
theorem q_cu {n : Nat} (C : String) (T : u_T) (N : Nat) (so : SO X M' (.inr (.inr r) :: as) h o') (hx : tbB M.2.1 (pc, .invokevirtual idx, len, v, tgt) = true) (hdp : dpB M M' = true) (hc : vwCl[ci]? = some (C, T, N)) (hce : Ce M' n) (hin : Cond.instanceMethod M'.1 ∈ goodTbl) (hse : Cond.selects C M'.1 M'.1 ∈ goodTbl) (hsm : Cond.sameMethod M'.1.cls M'.1.cls M'.1.name M'.1.desc ∈ goodTbl)
    (hln : Cond.methodLink M.1.cls idx M'.1 ∈ goodTbl) (hn : as.length = n) (hs : (st.map catA).sum ≤ 8) (g : ∀ h' r', Gd X M h0 (k h' r') h' (pc + 3) L (r'.toList ++ st)) : Gd X M h0 (ck h r ci (cc o' k)) h pc L (as.reverse ++ .inr (.inr r) :: st) := by
  have hd := tb_len hx rfl
  obtain ⟨d1, d2⟩ := dp_ok hdp
  unfold ck
  split
  · next z e =>
    obtain ⟨a0, c0, fs⟩ := z
    obtain ⟨rfl, hcell, htg⟩ := ob_some e
    refine q_call so g (fun {p l e R s m args below meth c H locs cells slots ls h' r'} hat hI hl hf hlo hM hroom => ?_)
    rw [st_as]
    refine va_runU (b := a0) (As := as.map tV) (C := C) hat.fix hM (va_cwU (owner := M'.1.cls) (x := M'.1) n hat.2.2.2.2.2.1 ?_ rfl rfl rfl rfl hce.2.2 ⟨Nat.le_trans d1 hf, Nat.le_trans d2 hlo⟩) ⟨PcM.blind, recv_ok hat hI hc hcell htg, PcM.at hat.2.2.2.2.2.2.1 hat.2.2.2.2.2.2.2 hI⟩ rfl (by rw [List.length_map]; exact hn) hl.1 rfl (lv_room (by rw [cat_sum]; exact hs)) hd hroom
    refine good_in (fun w hw => ?_)
    unfold va_wsU at hw
    rcases List.mem_append.mp hw with hw | hw
    · simp only [List.mem_cons, List.not_mem_nil, or_false] at hw
      rcases hw with rfl | rfl | rfl | rfl | rfl
      · exact hln
      · exact hsm
      · exact hse
      · exact hin
      · exact hce.1
    · exact hce.ws w hw
  · exact gd_none
/-- the class's own method in the place of the one that is named -/
theorem q_co {n : Nat} (z : MethodName) (T : u_T) (N : Nat) {b0 : ByteArray} {m0 : Nat} {r0 : Option FieldType} (so : SO X M' (.inr (.inr r) :: as) h o') (hx : tbB M.2.1 (pc, .invokevirtual idx, len, v, tgt) = true) (hdp : dpB M M' = true) (hc : vwCl[ci]? = some (M'.1.cls, T, N)) (hce : Ce M' n) (hin : Cond.instanceMethod M'.1 ∈ goodTbl) (hse : Cond.selects M'.1.cls z M'.1 ∈ goodTbl) (hsm : Cond.sameMethod z.cls z.cls z.name z.desc ∈ goodTbl)
    (hin0 : Cond.instanceMethod z ∈ goodTbl) (hco0 : Cond.code z b0 m0 r0 ∈ goodTbl) (hz : z.cls ≠ "java/lang/invoke/MethodHandle" ∧ z.cls ≠ "java/lang/invoke/VarHandle" ∧ (parseMethodDescriptor z.desc).map (fun d => d.parameters.length) = some n)
    (hln : Cond.methodLink M.1.cls idx z ∈ goodTbl) (hn : as.length = n) (hs : (st.map catA).sum ≤ 8) (g : ∀ h' r', Gd X M h0 (k h' r') h' (pc + 3) L (r'.toList ++ st)) : Gd X M h0 (ck h r ci (cc o' k)) h pc L (as.reverse ++ .inr (.inr r) :: st) := by
  have hd := tb_len hx rfl
  obtain ⟨d1, d2⟩ := dp_ok hdp
  unfold ck
  split
  · next zz e =>
    obtain ⟨a0, c0, fs⟩ := zz
    obtain ⟨rfl, hcell, htg⟩ := ob_some e
    refine q_call so g (fun {p l e R s m args below meth c H locs cells slots ls h' r'} hat hI hl hf hlo hM hroom => ?_)
    rw [st_as]
    refine va_runU (b := a0) (As := as.map tV) (C := M'.1.cls) hat.fix hM (va_cwO (owner := z.cls) (x := z) n hat.2.2.2.2.2.1 ?_ rfl rfl rfl hco0 hz ⟨Nat.le_trans d1 hf, Nat.le_trans d2 hlo⟩) ⟨PcM.blind, recv_ok hat hI hc hcell htg, PcM.at hat.2.2.2.2.2.2.1 hat.2.2.2.2.2.2.2 hI⟩ rfl (by rw [List.length_map]; exact hn) hl.1 rfl (lv_room (by rw [cat_sum]; exact hs)) hd hroom
    refine good_in (fun w hw => ?_)
    unfold va_wsO at hw
    rcases List.mem_append.mp hw with hw | hw
    · simp only [List.mem_cons, List.not_mem_nil, or_false] at hw
      rcases hw with rfl | rfl | rfl | rfl | rfl | rfl
      · exact hln
      · exact hsm
      · exact hin0
      · exact hse
      · exact hin
      · exact hce.1
    · exact hce.ws w hw
  · exact gd_none
/-- super.m(..) -/
theorem q_csu {n : Nat} (C : String) (T : u_T) (N : Nat) (so : SO X M' (.inr (.inr r) :: as) h o') (hx : tbB M.2.1 (pc, .invokespecial idx, len, v, tgt) = true) (hdp : dpB M M' = true) (hc : vwCl[ci]? = some (C, T, N)) (hce : Ce M' n) (hin : Cond.instanceMethod M'.1 ∈ goodTbl) (hsc : Cond.superclass M.1.cls M'.1.cls ∈ goodTbl) (hsm : Cond.sameMethod M'.1.cls M'.1.cls M'.1.name M'.1.desc ∈ goodTbl) (hni : M'.1.name ≠ "<init>")
    (hln : Cond.methodLink M.1.cls idx M'.1 ∈ goodTbl) (hn : as.length = n) (hs : (st.map catA).sum ≤ 8) (g : ∀ h' r', Gd X M h0 (k h' r') h' (pc + 3) L (r'.toList ++ st)) : Gd X M h0 (ck h r ci (cc o' k)) h pc L (as.reverse ++ .inr (.inr r) :: st) := by
  have hd := tb_len hx rfl
  obtain ⟨d1, d2⟩ := dp_ok hdp
  unfold ck
  split
  · next z e =>
    obtain ⟨a0, c0, fs⟩ := z
    obtain ⟨rfl, hcell, htg⟩ := ob_some e
    refine q_call so g (fun {p l e R s m args below meth c H locs cells slots ls h' r'} hat hI hl hf hlo hM hroom => ?_)
    rw [st_as]
    refine va_runSU (b := a0) (As := as.map tV) (C := C) (hat.2.2.2.2.2.2.1.1.1 ci _ hc).2 hat.fix hM (va_cwSU n hat.2.2.2.2.2.1 ?_ rfl rfl rfl ⟨hni, hce.2.2.2.2⟩ ⟨Nat.le_trans d1 hf, Nat.le_trans d2 hlo⟩) ⟨PcM.blind, recv_ok hat hI hc hcell htg, PcM.at hat.2.2.2.2.2.2.1 hat.2.2.2.2.2.2.2 hI⟩ rfl (by rw [List.length_map]; exact hn) hl.1 rfl (lv_room (by rw [cat_sum]; exact hs)) hd hroom
    refine good_in (fun w hw => ?_)
    unfold va_wsSU at hw
    rcases List.mem_append.mp hw with hw | hw
    · simp only [List.mem_cons, List.not_mem_nil, or_false] at hw
      rcases hw with rfl | rfl | rfl | rfl | rfl
      · exact hln
      · exact hsm
      · exact hsc
      · exact hin
      · exact hce.1
    · exact hce.ws w hw
  · exact gd_none
/-- a static method -/
theorem q_cs {n : Nat} (so : SO X M' as h o') (hx : tbB M.2.1 (pc, .invokestatic idx, len, v, tgt) = true) (hdp : dpB M M' = true) (hce : Ce M' n) (hst : Cond.static M'.1 ∈ goodTbl)
    (hln : Cond.methodLink M.1.cls idx M'.1 ∈ goodTbl) (hn : as.length = n) (hs : (st.map catA).sum ≤ 8) (g : ∀ h' r', Gd X M h0 (k h' r') h' (pc + 3) L (r'.toList ++ st)) : Gd X M h0 (cc o' k) h pc L (as.reverse ++ st) := by
  have hd := tb_len hx rfl
  obtain ⟨d1, d2⟩ := dp_ok hdp
  refine q_call so g (fun {p l e R s m args below meth c H locs cells slots ls h' r'} hat hI hl hf hlo hM hroom => ?_)
  rw [st_as0]
  refine va_runS (As := as.map tV) hat.fix hM (va_cwS n hat.2.2.2.2.2.1 ?_ rfl rfl rfl hce.2.2 ⟨Nat.le_trans d1 hf, Nat.le_trans d2 hlo⟩) ⟨PcM.blind, PcM.at hat.2.2.2.2.2.2.1 hat.2.2.2.2.2.2.2 hI⟩ rfl (by rw [List.length_map]; exact hn) hl.1 rfl (lv_room (by rw [cat_sum]; exact hs)) hd hroom
  refine good_in (fun w hw => ?_)
  unfold va_wsS at hw
  rcases List.mem_append.mp hw with hw | hw
  · simp only [List.mem_cons, List.not_mem_nil, or_false] at hw
    rcases hw with rfl | rfl | rfl
    · exact hln
    · exact hst
    · exact hce.1
  · exact hce.ws w hw
/-- a constructor -/
theorem q_ci {n : Nat} (so : SO X M' (.inr (.inr r) :: as) h o') (hx : tbB M.2.1 (pc, .invokespecial idx, len, v, tgt) = true) (hdp : dpB M M' = true) (hce : Ce M' n) (hin : Cond.instanceMethod M'.1 ∈ goodTbl) (hni : M'.1.name = "<init>") (hrt : M'.2.2.2.1 = none)
    (hln : Cond.methodLink M.1.cls idx M'.1 ∈ goodTbl) (hn : as.length = n) (hs : (st.map catA).sum ≤ 8) (g : ∀ h' r', Gd X M h0 (k h' r') h' (pc + 3) L (r'.toList ++ st)) : Gd X M h0 (dn r (cc o' k)) h pc L (as.reverse ++ .inr (.inr r) :: st) := by
  have hd := tb_len hx rfl
  obtain ⟨d1, d2⟩ := dp_ok hdp
  cases r with
  | none => exact gd_none
  | some a0 =>
    refine q_call so g (fun {p l e R s m args below meth c H locs cells slots ls h' r'} hat hI hl hf hlo hM hroom => ?_)
    have hts := hat.2.2.2.2.2.1
    rw [st_as]
    have hw0 : wsM M' = Cond.code M'.1 M'.2.1 M'.2.2.1 none :: goodTbl := by unfold wsM; rw [hrt]
    exact va_runI (b := a0) (As := as.map tV) hat.fix hM (cwI n hts (good_in hce.ws) hw0 rfl rfl (hts _ hce.1) (hts _ hln) (hts _ hin) hni hce.2.2 ⟨Nat.le_trans d1 hf, Nat.le_trans d2 hlo⟩) ⟨PcM.blind, PcM.at hat.2.2.2.2.2.2.1 hat.2.2.2.2.2.2.2 hI⟩ rfl (by rw [List.length_map]; exact hn) hl.1 rfl (lv_room (by rw [cat_sum]; exact hs)) hd hroom
theorem q_cin {n : Nat} (host : String) (so : SO X M' (.inr (.inr r) :: as) h o') (hx : tbB M.2.1 (pc, .invokespecial idx, len, v, tgt) = true) (hdp : dpB M M' = true) (hce : Ce M' n) (hin : Cond.instanceMethod M'.1 ∈ goodTbl) (hni : M'.1.name = "<init>") (hrt : M'.2.2.2.1 = none)
    (hln : ∀ s, EnvX X s → va_Nw (.methodLinkNest M.1.cls idx M'.1 host) s) (hn : as.length = n) (hs : (st.map catA).sum ≤ 8) (g : ∀ h' r', Gd X M h0 (k h' r') h' (pc + 3) L (r'.toList ++ st)) : Gd X M h0 (dn r (cc o' k)) h pc L (as.reverse ++ .inr (.inr r) :: st) := by
  have hd := tb_len hx rfl
  obtain ⟨d1, d2⟩ := dp_ok hdp
  cases r with
  | none => exact gd_none
  | some a0 =>
    refine q_call so g (fun {p l e R s m args below meth c H locs cells slots ls h' r'} hat hI hl hf hlo hM hroom => ?_)
    have hts := hat.2.2.2.2.2.1
    rw [st_as]
    have hw0 : wsM M' = Cond.code M'.1 M'.2.1 M'.2.2.1 none :: goodTbl := by unfold wsM; rw [hrt]
    exact va_runIN (b := a0) (As := as.map tV) hat.fix hM ⟨va_cnB n hts (good_in hce.ws) hw0 rfl rfl (hln s hat.2.2.2.2.2.2.1) (hts _ hce.1) hce.2.2 ⟨Nat.le_trans d1 hf, Nat.le_trans d2 hlo⟩, hni, hts _ hin⟩ ⟨PcM.blind, PcM.at hat.2.2.2.2.2.2.1 hat.2.2.2.2.2.2.2 hI⟩ rfl (by rw [List.length_map]; exact hn) hl.1 rfl (lv_room (by rw [cat_sum]; exact hs)) hd hroom
end CALL
