/-! THE RULES: a row of code against a row of the function -/
theorem tb_d {cc : ByteArray} {x : TE} (h : tbB cc x = true) : decode cc x.1 = .ok (x.2.1, x.2.2.1) := by
  unfold tbB at h
  rw [Bool.and_eq_true, decide_eq_true_eq] at h
  exact h.1
theorem tb_len {cc : ByteArray} {pc len tgt n : Nat} {ins : Instr} {v : Int32} (h : tbB cc (pc, ins, len, v, tgt) = true) (hn : cvB (pc, ins, len, v, tgt) = (len == n)) : decode cc pc = .ok (ins, n) := by
  have hd := tb_d h
  unfold tbB at h
  rw [Bool.and_eq_true] at h
  have h2 := h.2
  rw [hn] at h2
  have e : len = n := by simpa using h2
  rw [← e]
  exact hd
theorem tb_jmp {cc : ByteArray} {pc len tgt : Nat} {ins : Instr} {v : Int32} {off : Int} (h : tbB cc (pc, ins, len, v, tgt) = true) (hn : cvB (pc, ins, len, v, tgt) = (len == 3 && decide ((pc : Int) + off = (tgt : Int)))) : decode cc pc = .ok (ins, 3) ∧ (pc : Int) + off = (tgt : Int) := by
  have hd := tb_d h
  unfold tbB at h
  rw [Bool.and_eq_true] at h
  have h2 := h.2
  rw [hn, Bool.and_eq_true] at h2
  have e : len = 3 := by simpa using h2.1
  refine ⟨?_, by simpa using h2.2⟩
  rw [← e]
  exact hd
section RULES
variable {X : Cx} {M : MI} {h0 h : Hp} {o a b : Rs} {L : List (Option AV)} {st : List AV} {pc len tgt idx : Nat} {v x y : Int32} {off : Int} {r : Option Nat} {ci k : Nat}
/-- a branch, by what the machine does at it -/
theorem q_br {cnd : Prop} [Decidable cnd] {pa pb : Nat} {st0 : List AV} (ga : Gd X M h0 a h pa L st) (gb : Gd X M h0 b h pb L st)
    (w : ∀ {p : Program} {l : Launch} {e : Jvm.Env} {R : Room} {s : State} {m : MethodId} {args : Array Value} {below : List Frame} {meth : Method} {c : Code} {H : Heap} {locs : List Loc} {cells slots : Nat} {Q : State → Prop} {ls : Array Slot}, p.tables.exec = Jvm.exec → c.code = M.2.1 → (cnd → W p l e R s m args below meth c H locs cells slots Q (F0 m pa ls (st.map tV))) → (¬ cnd → W p l e R s m args below meth c H locs cells slots Q (F0 m pb ls (st.map tV))) → W p l e R s m args below meth c H locs cells slots Q (F0 m pc ls (st0.map tV))) :
    Gd X M h0 (if cnd then a else b) h pc L st0 := by
  intro hf res ho
  by_cases hc : cnd
  · rw [if_pos hc] at ho
    obtain ⟨hle, g⟩ := ga hf res ho
    exact ⟨hle, fun h0h l p e R s m args below meth c Q hat hrm hret H locs ls hI hl => w hat.1 hat.2.1 (fun _ => g h0h l p e R s m args below meth c Q hat hrm hret H locs ls hI hl) (fun q => absurd hc q)⟩
  · rw [if_neg hc] at ho
    obtain ⟨hle, g⟩ := gb hf res ho
    exact ⟨hle, fun h0h l p e R s m args below meth c Q hat hrm hret H locs ls hI hl => w hat.1 hat.2.1 (fun q => absurd q hc) (fun _ => g h0h l p e R s m args below meth c Q hat hrm hret H locs ls hI hl)⟩
theorem q_icmp_eq (hx : tbB M.2.1 (pc, .if_icmp .eq off, len, v, tgt) = true) (ga : Gd X M h0 a h tgt L st) (gb : Gd X M h0 b h (pc + 3) L st) : Gd X M h0 (if x = y then a else b) h pc L (.inl y :: .inl x :: st) := by
  obtain ⟨hd, ht⟩ := tb_jmp hx rfl
  exact q_br ga gb (fun hexec hb ka kb => lv_icmp_eq hexec hb hd ht ka kb)
theorem q_icmp_ne (hx : tbB M.2.1 (pc, .if_icmp .ne off, len, v, tgt) = true) (ga : Gd X M h0 a h (pc + 3) L st) (gb : Gd X M h0 b h tgt L st) : Gd X M h0 (if x = y then a else b) h pc L (.inl y :: .inl x :: st) := by
  obtain ⟨hd, ht⟩ := tb_jmp hx rfl
  exact q_br ga gb (fun hexec hb ka kb => lv_icmp_ne hexec hb hd ht kb ka)
theorem q_icmp_lt (hx : tbB M.2.1 (pc, .if_icmp .lt off, len, v, tgt) = true) (ga : Gd X M h0 a h tgt L st) (gb : Gd X M h0 b h (pc + 3) L st) : Gd X M h0 (if x < y then a else b) h pc L (.inl y :: .inl x :: st) := by
  obtain ⟨hd, ht⟩ := tb_jmp hx rfl
  exact q_br ga gb (fun hexec hb ka kb => lv_icmp_lt hexec hb hd ht ka kb)
theorem q_icmp_ge (hx : tbB M.2.1 (pc, .if_icmp .ge off, len, v, tgt) = true) (ga : Gd X M h0 a h (pc + 3) L st) (gb : Gd X M h0 b h tgt L st) : Gd X M h0 (if x < y then a else b) h pc L (.inl y :: .inl x :: st) := by
  obtain ⟨hd, ht⟩ := tb_jmp hx rfl
  exact q_br ga gb (fun hexec hb ka kb => lv_icmp_ge hexec hb hd ht (fun q => kb (k2_nlt q)) (fun q => ka (k2_lt q)))
theorem q_icmp_gt (hx : tbB M.2.1 (pc, .if_icmp .gt off, len, v, tgt) = true) (ga : Gd X M h0 a h tgt L st) (gb : Gd X M h0 b h (pc + 3) L st) : Gd X M h0 (if y < x then a else b) h pc L (.inl y :: .inl x :: st) := by
  obtain ⟨hd, ht⟩ := tb_jmp hx rfl
  exact q_br ga gb (fun hexec hb ka kb => lv_icmp_gt hexec hb hd ht ka kb)
theorem q_icmp_le (hx : tbB M.2.1 (pc, .if_icmp .le off, len, v, tgt) = true) (ga : Gd X M h0 a h (pc + 3) L st) (gb : Gd X M h0 b h tgt L st) : Gd X M h0 (if y < x then a else b) h pc L (.inl y :: .inl x :: st) := by
  obtain ⟨hd, ht⟩ := tb_jmp hx rfl
  exact q_br ga gb (fun hexec hb ka kb => lv_icmp_le hexec hb hd ht (fun q => kb (k2_nlt q)) (fun q => ka (k2_lt q)))
theorem q_if_eq (hx : tbB M.2.1 (pc, .ifCond .eq off, len, v, tgt) = true) (ga : Gd X M h0 a h tgt L st) (gb : Gd X M h0 b h (pc + 3) L st) : Gd X M h0 (if x = 0 then a else b) h pc L (.inl x :: st) := by
  obtain ⟨hd, ht⟩ := tb_jmp hx rfl
  exact q_br ga gb (fun hexec hb ka kb => lv_if_eq hexec hb hd ht ka kb)
theorem q_if_ne (hx : tbB M.2.1 (pc, .ifCond .ne off, len, v, tgt) = true) (ga : Gd X M h0 a h (pc + 3) L st) (gb : Gd X M h0 b h tgt L st) : Gd X M h0 (if x = 0 then a else b) h pc L (.inl x :: st) := by
  obtain ⟨hd, ht⟩ := tb_jmp hx rfl
  exact q_br ga gb (fun hexec hb ka kb => lv_if_ne hexec hb hd ht kb ka)
theorem q_if_lt (hx : tbB M.2.1 (pc, .ifCond .lt off, len, v, tgt) = true) (ga : Gd X M h0 a h tgt L st) (gb : Gd X M h0 b h (pc + 3) L st) : Gd X M h0 (if x < 0 then a else b) h pc L (.inl x :: st) := by
  obtain ⟨hd, ht⟩ := tb_jmp hx rfl
  exact q_br ga gb (fun hexec hb ka kb => lv_if_lt hexec hb hd ht ka kb)
theorem q_if_ge (hx : tbB M.2.1 (pc, .ifCond .ge off, len, v, tgt) = true) (ga : Gd X M h0 a h (pc + 3) L st) (gb : Gd X M h0 b h tgt L st) : Gd X M h0 (if x < 0 then a else b) h pc L (.inl x :: st) := by
  obtain ⟨hd, ht⟩ := tb_jmp hx rfl
  exact q_br ga gb (fun hexec hb ka kb => lv_if_ge hexec hb hd ht (fun q => kb (k2_nlt q)) (fun q => ka (k2_lt q)))
theorem q_if_gt (hx : tbB M.2.1 (pc, .ifCond .gt off, len, v, tgt) = true) (ga : Gd X M h0 a h tgt L st) (gb : Gd X M h0 b h (pc + 3) L st) : Gd X M h0 (if 0 < x then a else b) h pc L (.inl x :: st) := by
  obtain ⟨hd, ht⟩ := tb_jmp hx rfl
  exact q_br ga gb (fun hexec hb ka kb => lv_if_gt hexec hb hd ht ka kb)
theorem q_if_le (hx : tbB M.2.1 (pc, .ifCond .le off, len, v, tgt) = true) (ga : Gd X M h0 a h (pc + 3) L st) (gb : Gd X M h0 b h tgt L st) : Gd X M h0 (if 0 < x then a else b) h pc L (.inl x :: st) := by
  obtain ⟨hd, ht⟩ := tb_jmp hx rfl
  exact q_br ga gb (fun hexec hb ka kb => lv_if_le hexec hb hd ht (fun q => kb (k2_nlt q)) (fun q => ka (k2_lt q)))
theorem q_ifnull (hx : tbB M.2.1 (pc, .ifnull off, len, v, tgt) = true) (ga : Gd X M h0 a h tgt L st) (gb : Gd X M h0 b h (pc + 3) L st) : Gd X M h0 (ifN r a b) h pc L (.inr (.inr r) :: st) := by
  obtain ⟨hd, ht⟩ := tb_jmp hx rfl
  intro hf res ho
  cases r with
  | none =>
    obtain ⟨hle, g⟩ := ga hf res ho
    exact ⟨hle, fun h0h l p e R s m args below meth c Q hat hrm hret H locs ls hI hl => lv_ifnullN hat.1 hat.2.1 hd ht (g h0h l p e R s m args below meth c Q hat hrm hret H locs ls hI hl)⟩
  | some q =>
    obtain ⟨hle, g⟩ := gb hf res ho
    exact ⟨hle, fun h0h l p e R s m args below meth c Q hat hrm hret H locs ls hI hl => lv_ifnull hat.1 hat.2.1 hd (g h0h l p e R s m args below meth c Q hat hrm hret H locs ls hI hl)⟩
theorem q_ifnonnull (hx : tbB M.2.1 (pc, .ifnonnull off, len, v, tgt) = true) (ga : Gd X M h0 a h (pc + 3) L st) (gb : Gd X M h0 b h tgt L st) : Gd X M h0 (ifN r a b) h pc L (.inr (.inr r) :: st) := by
  obtain ⟨hd, ht⟩ := tb_jmp hx rfl
  intro hf res ho
  cases r with
  | none =>
    obtain ⟨hle, g⟩ := ga hf res ho
    exact ⟨hle, fun h0h l p e R s m args below meth c Q hat hrm hret H locs ls hI hl => lv_ifnonnullN hat.1 hat.2.1 hd (g h0h l p e R s m args below meth c Q hat hrm hret H locs ls hI hl)⟩
  | some q =>
    obtain ⟨hle, g⟩ := gb hf res ho
    exact ⟨hle, fun h0h l p e R s m args below meth c Q hat hrm hret H locs ls hI hl => lv_ifnonnull hat.1 hat.2.1 hd ht (g h0h l p e R s m args below meth c Q hat hrm hret H locs ls hI hl)⟩
/-- one way on -/
theorem q_w {pb : Nat} {L' : List (Option AV)} {st0 : List AV} (g : Gd X M h0 o h pb L' st)
    (w : ∀ {p : Program} {l : Launch} {e : Jvm.Env} {R : Room} {s : State} {m : MethodId} {args : Array Value} {below : List Frame} {meth : Method} {c : Code} {H : Heap} {locs : List Loc} {cells slots : Nat} {Q : State → Prop} {ls : Array Slot}, At0 M X p s m args meth c → Inv X s h H locs → 1 ≤ M.2.2.2.2 ∧ 40 * M.2.2.2.2 ≤ R.locals ∨ True → LV ls M.2.2.1 L → (∀ ls', LV ls' M.2.2.1 L' → W p l e R s m args below meth c H locs cells slots Q (F0 m pb ls' (st.map tV))) → W p l e R s m args below meth c H locs cells slots Q (F0 m pc ls (st0.map tV))) : Gd X M h0 o h pc L st0 := by
  intro hf res ho
  obtain ⟨hle, g⟩ := g hf res ho
  exact ⟨hle, fun h0h l p e R s m args below meth c Q hat hrm hret H locs ls hI hl => w hat hI (Or.inr trivial) hl (fun ls' hl' => g h0h l p e R s m args below meth c Q hat hrm hret H locs ls' hI hl')⟩
theorem q_div (hx : tbB M.2.1 (pc, .idiv, len, v, tgt) = true) (g : Gd X M h0 o h (pc + 1) L (.inl (x / y) :: st)) : Gd X M h0 (dv y o) h pc L (.inl y :: .inl x :: st) := by
  have hd := tb_len hx rfl
  unfold dv
  split
  · exact gd_none
  · next hy => exact q_w g (fun hat _ _ hl k => lv_idiv hat.1 hat.2.1 hd hy (k _ hl))
theorem q_rem (hx : tbB M.2.1 (pc, .irem, len, v, tgt) = true) (g : Gd X M h0 o h (pc + 1) L (.inl (x - x / y * y) :: st)) : Gd X M h0 (dv y o) h pc L (.inl y :: .inl x :: st) := by
  have hd := tb_len hx rfl
  unfold dv
  split
  · exact gd_none
  · next hy => exact q_w g (fun hat _ _ hl k => lv_irem hat.1 hat.2.1 hd hy (k _ hl))
theorem q_ldc {w : Int32} (hx : tbB M.2.1 (pc, .ldc idx, len, v, tgt) = true) (hw : Cond.constant M.1.cls idx w ∈ goodTbl) (g : Gd X M h0 o h (pc + 2) L (.inl w :: st)) : Gd X M h0 o h pc L st := by
  have hd := tb_len hx rfl
  exact q_w g (fun hat _ _ hl k => lv_ldc hat.1 hat.2.1 hat.2.2.2.1 (hat.2.2.2.2.2.1 _ hw) hd (k _ hl))
theorem q_ldc2 {w : Int64} (hx : tbB M.2.1 (pc, .ldc2_w idx, len, v, tgt) = true) (hw : Cond.constantLong M.1.cls idx w ∈ goodTbl) (g : Gd X M h0 o h (pc + 3) L (.inr (.inl w) :: st)) : Gd X M h0 o h pc L st := by
  have hd := tb_len hx rfl
  exact q_w g (fun hat _ _ hl k => lv_ldc2 hat.1 hat.2.1 hat.2.2.2.1 (hat.2.2.2.2.2.1 _ hw) hd (k _ hl))
theorem q_lconst {n : Fin 2} {w : Int64} (hx : tbB M.2.1 (pc, .lconst n, len, v, tgt) = true) (hw : Int64.ofNat (n : Nat) = w) (g : Gd X M h0 o h (pc + 1) L (.inr (.inl w) :: st)) : Gd X M h0 o h pc L st := by
  have hd := tb_len hx rfl
  exact q_w g (fun hat _ _ hl k => lv_lconst hat.1 hat.2.1 hd hw (k _ hl))
theorem q_ldcS {i : Nat} {tx : String} (hx : tbB M.2.1 (pc, .ldc idx, len, v, tgt) = true) (hw : ∀ s, EnvX X s → ∃ a, X.2.2.2 i = some a ∧ vk_R M.1.cls idx tx a s) (g : Gd X M h0 o h (pc + 2) L (.inr (.inr (X.2.2.2 i)) :: st)) : Gd X M h0 o h pc L st := by
  have hd := tb_len hx rfl
  refine q_w g (fun {p l e R s m args below meth c H locs cells slots Q ls} hat _ _ hl k => ?_)
  obtain ⟨q, hq, hk⟩ := hw s hat.2.2.2.2.2.2.1
  have k := k ls hl
  rw [hq] at k
  exact va_ldcS hat.1 hat.2.1 hat.2.2.2.1 hk hd k
theorem q_gs {C n d : String} {w : AV} (hx : tbB M.2.1 (pc, .getstatic idx, len, v, tgt) = true) (hz : ∀ s, EnvX X s → va_Z C n d (tV w) (AX X) s s.heap) (hw : Cond.fieldLink M.1.cls idx C n d ∈ goodTbl) (g : Gd X M h0 o h (pc + 3) L (w :: st)) : Gd X M h0 o h pc L st := by
  have hd := tb_len hx rfl
  exact q_w g (fun hat hI _ hl k => va_gets hat.1 hat.2.1 (hz _ hat.2.2.2.2.2.2.1) hI.S hat.2.2.2.1 (hat.2.2.2.2.2.1 _ hw) (fun _ q => q) hd (k _ hl))
theorem q_gsN {C n d host : String} {w : AV} (hx : tbB M.2.1 (pc, .getstatic idx, len, v, tgt) = true) (hz : ∀ s, EnvX X s → va_Z C n d (tV w) (AX X) s s.heap) (hw : ∀ s, EnvX X s → va_Nw (.fieldLinkNest M.1.cls idx C n d host) s) (g : Gd X M h0 o h (pc + 3) L (w :: st)) : Gd X M h0 o h pc L st := by
  have hd := tb_len hx rfl
  exact q_w g (fun hat hI _ hl k => va_getsN hat.1 hat.2.1 (hz _ hat.2.2.2.2.2.2.1) hI.S hat.2.2.2.1 (va_Nw.use rfl (hw _ hat.2.2.2.2.2.2.1)) (fun _ q => q) hd (k _ hl))
theorem q_obj (hx : tbB M.2.1 (pc, .invokespecial idx, len, v, tgt) = true) (hd0 : 1 ≤ M.2.2.2.2) (hs : (st.map fun v => (tV v).category).sum ≤ 20) (hw : Cond.methodLink M.1.cls idx Lib.objectInit ∈ goodTbl ∧ Cond.instanceMethod Lib.objectInit ∈ goodTbl ∧ Cond.code Lib.objectInit ⟨#[0xb1]⟩ 1 none ∈ goodTbl)
    (g : Gd X M h0 o h (pc + 3) L st) : Gd X M h0 (dn r o) h pc L (.inr (.inr r) :: st) := by
  have hd := tb_len hx rfl
  cases r with
  | none => exact gd_none
  | some q =>
    intro hf res ho
    obtain ⟨hle, g⟩ := g hf res ho
    refine ⟨hle, fun h0h l p e R s m args below meth c Q hat hrm hret H locs ls hI hl => ?_⟩
    have hts := hat.2.2.2.2.2.1
    exact W.objInit hat.1 hat.2.1 hat.2.2.2.1 (hts _ hw.1) (hts _ hw.2.1) (hts _ hw.2.2) rfl (hl.1.trans hat.2.2.1.symm) rfl hd (Nat.le_trans hd0 hrm.1)
      (by have h1 := hrm.2.1; show 2 * 0 + ((st.map tV).map fun v => v.category).sum + 12 ≤ _; rw [List.map_map]; have : ((fun v => Value.category v) ∘ tV) = fun v => (tV v).category := rfl; rw [this]; omega)
      (g h0h l p e R s m args below meth c Q hat hrm hret H locs ls hI hl)
/-! fields -/
theorem q_rdW {fs : List AV} {w : AV} {a0 c0 : Nat} {C : String} {T : u_T} {N : Nat} (hx : tbB M.2.1 (pc, .getfield idx, len, v, tgt) = true) (hc : vwCl[ci]? = some (C, T, N)) (hk : k < N) (hw : Cond.fieldLink M.1.cls idx (T k).1 (T k).2.1 (T k).2.2.1 ∈ goodTbl)
    (e : ob h r ci = some (a0, c0, fs)) (hv : fs[k]? = some w) (g : Gd X M h0 o h (pc + 3) L (w :: st)) : Gd X M h0 o h pc L (.inr (.inr r) :: st) := by
  have hd := tb_len hx rfl
  obtain ⟨rfl, hcell, htg⟩ := ob_some e
  refine q_w g (fun {p l e R s m args below meth c H locs cells slots Q ls} hat hI _ hl kk => ?_)
  have kk := kk ls hl
  obtain ⟨ws, hP, hD, hz, hN, hr⟩ := hI.1
  have hrep := hr a0 _ hcell
  rcases tgo_cases htg with ⟨rfl, h9⟩ | ⟨rfl, rfl⟩
  · rcases hrep with ⟨-, i, hi⟩ | ⟨h10, -⟩
    · exact va_get hat.1 hat.2.1 hat.2.2.2.2.2.1 (cl_in hc) hat.2.2.2.1 hat.2.2.2.2.2.2.1.1 hP i hi hc k hk (hat.2.2.2.2.2.1 _ hw) (fun _ q => q) (v := tV w) (by rw [List.getElem?_map, hv]; rfl) hd kk
    · omega
  · rcases hrep with ⟨h9, -⟩ | ⟨-, q, rfl, h1, h2, h3⟩
    · omega
    · have hc' : (RJ0, TJ0, 4) = (C, T, N) := Option.some.inj hc
      cases hc'
      match k, hv with
      | 0, hv =>
        cases hv
        exact vk_getf hat.1 hat.2.1 h2 hI.S hat.2.2.2.1 (hat.2.2.2.2.2.1 _ hw) (fun _ q => q) hd kk
      | 1, hv =>
        cases hv
        exact vk_getf hat.1 hat.2.1 h3 hI.S hat.2.2.2.1 (hat.2.2.2.2.2.1 _ hw) (fun _ q => q) hd kk
      | n + 2, hv => simp at hv
theorem q_rdI {f : Int32 → Rs} (C : String) (T : u_T) (N : Nat) (hx : tbB M.2.1 (pc, .getfield idx, len, v, tgt) = true) (hc : vwCl[ci]? = some (C, T, N)) (hk : k < N) (hw : Cond.fieldLink M.1.cls idx (T k).1 (T k).2.1 (T k).2.2.1 ∈ goodTbl)
    (g : ∀ w, Gd X M h0 (f w) h (pc + 3) L (.inl w :: st)) : Gd X M h0 (rdI h r ci k f) h pc L (.inr (.inr r) :: st) := by
  unfold rdI
  split
  · next e =>
    split
    · next hv => exact q_rdW hx hc hk hw e hv (g _)
    · exact gd_none
  · exact gd_none
theorem q_rdR {f : Option Nat → Rs} (C : String) (T : u_T) (N : Nat) (hx : tbB M.2.1 (pc, .getfield idx, len, v, tgt) = true) (hc : vwCl[ci]? = some (C, T, N)) (hk : k < N) (hw : Cond.fieldLink M.1.cls idx (T k).1 (T k).2.1 (T k).2.2.1 ∈ goodTbl)
    (g : ∀ w, Gd X M h0 (f w) h (pc + 3) L (.inr (.inr w) :: st)) : Gd X M h0 (rdR h r ci k f) h pc L (.inr (.inr r) :: st) := by
  unfold rdR
  split
  · next e =>
    split
    · next hv => exact q_rdW hx hc hk hw e hv (g _)
    · exact gd_none
  · exact gd_none
/-- a step that changes the heap but makes nothing -/
theorem q_h {h1 : Hp} {pb : Nat} {st0 : List AV} (e1 : h1.2 = h.2) (g : Gd X M h0 o h1 pb L st)
    (w : ∀ {p : Program} {l : Launch} {e : Jvm.Env} {R : Room} {s : State} {m : MethodId} {args : Array Value} {below : List Frame} {meth : Method} {c : Code} {H : Heap} {locs : List Loc} {cells slots : Nat} {Q : State → Prop} {ls : Array Slot}, At0 M X p s m args meth c → Inv X s h H locs → LV ls M.2.2.1 L → (∀ H1 locs1, Inv X s h1 H1 locs1 → W p l e R s m args below meth c H1 locs1 cells slots Q (F0 m pb ls (st.map tV))) → W p l e R s m args below meth c H locs cells slots Q (F0 m pc ls (st0.map tV))) : Gd X M h0 o h pc L st0 := by
  intro hf res ho
  obtain ⟨hle, g⟩ := g hf res ho
  refine ⟨by unfold HLe at hle ⊢; rw [e1] at hle; exact hle, fun h0h l p e R s m args below meth c Q hat hrm hret H locs ls hI hl => ?_⟩
  refine w hat hI hl (fun H1 locs1 hI1 => ?_)
  have := g (by unfold HLe at h0h ⊢; rw [e1]; exact h0h) l p e R s m args below meth c Q hat hrm hret H1 locs1 ls hI1 hl
  rw [e1] at this
  exact this
theorem q_wr {f : Hp → Rs} {w : AV} (C : String) (T : u_T) (N : Nat) (hx : tbB M.2.1 (pc, .putfield idx, len, v, tgt) = true) (hc : vwCl[ci]? = some (C, T, N)) (hk : k < N) (hfin : (T k).2.2.2 = false ∨ (M.1.name = "<init>" ∧ (T k).1 = M.1.cls)) (hw : Cond.fieldLink M.1.cls idx (T k).1 (T k).2.1 (T k).2.2.1 ∈ goodTbl)
    (g : ∀ h1, Gd X M h0 (f h1) h1 (pc + 3) L st) : Gd X M h0 (wr h r ci k w f) h pc L (w :: .inr (.inr r) :: st) := by
  have hd := tb_len hx rfl
  unfold wr
  split
  · next a0 c0 fs e =>
    split
    · next hcnd =>
      rw [Bool.and_eq_true, Bool.and_eq_true] at hcnd
      obtain ⟨hlen, h9b, hvf⟩ := hcnd
      have hlen : k < fs.length := Nat.le_of_ble_eq_true hlen
      have h9 : c0 < 8 := Nat.le_of_ble_eq_true h9b
      obtain ⟨rfl, hcell, htg⟩ := ob_some e
      have hci : c0 = ci := by
        rcases tgo_cases htg with ⟨q, -⟩ | ⟨q, -⟩
        · exact q
        · omega
      subst hci
      refine q_h (h1 := upH h a0 (.inr (c0, fs.set k w))) rfl (g _) (fun {p l e R s m args below meth c H locs cells slots Q ls} hat hI hl kk => ?_)
      obtain ⟨ws, hP, hD, hz, hN, hr⟩ := hI.1
      have hrep := hr a0 _ hcell
      rcases hrep with ⟨-, i, hi⟩ | ⟨h10, -⟩
      · have hK : va_K X.1 vwCl (tysX X) s := hat.2.2.2.2.2.2.1.1
        obtain ⟨C', T', N', hc', hty, hnm, hNn, -⟩ := cl_9 h9
        have heq : (C', T', N') = (C, T, N) := Option.some.inj (hc'.symm.trans hc)
        cases heq
        have hts := hat.2.2.2.2.2.1
        have hin := cl_in hc
        have hap := va_apart (own := M.1.cls) hts hin _ hty hnm hK hc
        obtain ⟨hn, hfit⟩ := vfit_ok hvf
        obtain ⟨r0, g1, cell, q1, q2, q3, q4⟩ := hP i _ hi
        have hr0 : r0 = (C, T, N) := Option.some.inj (g1.symm.trans hc)
        subst hr0
        obtain ⟨hS, hfc, kC, hkC, hkind⟩ := hK.1 c0 _ hc
        obtain ⟨cf, kf, fi, ff, hi2, hsl⟩ := hS k hk
        have hlay := hts _ (hin _ (u_in_lay hk))
        have hst := (u_facts hfc hkC (u_lays hts hin hk) hi2).1
        have hAX : AX X a0 := hD.2 i _ hi
        have fin : ∀ H' : Heap, H'[a0]? = some (cell.setSlot ff.slot (tV w)) → H'.size = H.size → (∀ q, q ≠ a0 → H'[q]? = H[q]?) → W p l e R s m args below meth c H' (locs ++ [⟨a0, ff.slot⟩]) cells slots Q (F0 m (pc + 3) ls (st.map tV)) := by
          intro H' e1 e2 e3
          rw [hsl] at e1
          refine kk H' _ (hI.put (RepH.put hP hD hz hN hr hi (e1 := .inr (c0, (fs.set k w).map tV)) ⟨_, hc, ?_⟩ e2 e3 (fun ws' h' => Or.inl ⟨h9, i, h'⟩)) e2 e3 hAX)
          refine t_OB.to (V := updV (vp_V (fs.map tV)) k (tV w)) ⟨_, e1, q2, q3, t_set q4 hap hk (tV w)⟩ (fun j _ => ?_)
          rw [List.map_set]
          exact vp_updV_set (by rw [List.length_map]; exact hlen) (tV w) j
        rcases hfin with hfin | ⟨hini, hown⟩
        · unfold u_lay at hlay
          rw [if_neg (by rw [hfin]; decide)] at hlay
          have h6 := u_store hfc hkC hkind hlay hi2 (hty k hk) hn hfit
          exact W.putK hat.1 hat.2.1 (f := ff) ⟨hat.2.2.2.1, hts _ hw, ⟨_, _, _, hi2⟩, hst⟩ (by rw [q2]; exact h6) q1 q3 (by rw [hsl]; exact k2_hasslot (q4 k hk)) rfl rfl hd fin
        · by_cases hff : (T k).2.2.2 = true
          · unfold u_lay at hlay
            rw [if_pos hff] at hlay
            have hcf : m.cls = cf := by
              obtain ⟨_, _, c', _, _, _, -, -, hf', -, -, -, hown2, -⟩ := Cond.laysFinal_spec hlay
              have e1 : c' = cf := by have := hi2.symm.trans hf'; simp at this; exact this.1.symm
              rw [hown] at hown2
              rw [← e1]; exact Option.some.inj (hat.2.2.2.1.symm.trans hown2)
            have h6 := u_fits hfc hkC hkind (Or.inr hlay) hi2 (hty k hk) hn hfit
            exact W.putFinK hat.1 hat.2.1 hat.2.2.2.1 (hts _ hw) hi2 hst hcf ((hat.2.2.2.2.1 hini).trans hini) (by rw [q2]; exact h6) q1 q3 (by rw [hsl]; exact k2_hasslot (q4 k hk)) rfl rfl hd fin
          · unfold u_lay at hlay
            rw [if_neg hff] at hlay
            have h6 := u_store hfc hkC hkind hlay hi2 (hty k hk) hn hfit
            exact W.putK hat.1 hat.2.1 (f := ff) ⟨hat.2.2.2.1, hts _ hw, ⟨_, _, _, hi2⟩, hst⟩ (by rw [q2]; exact h6) q1 q3 (by rw [hsl]; exact k2_hasslot (q4 k hk)) rfl rfl hd fin
      · omega
    · exact gd_none
  · exact gd_none
end RULES
