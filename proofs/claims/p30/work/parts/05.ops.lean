/-! WHAT A FUNCTION DOES WITH THE HEAP -/
def upH (h : Hp) (a : Nat) (e : Cl) : Hp := (fun b => if b = a then some e else h.1 b, h.2.1, h.2.2)
def pushH (h : Hp) (e : Cl) (n : Nat) : Hp := (fun b => if b = h.2.1 then some e else h.1 b, h.2.1 + 1, h.2.2 + n)
def tgo (c ci : Nat) : Bool := (c == ci && Nat.blt c 8) || (c == 10 && ci == 0)
def ob (h : Hp) (r : Option Nat) (ci : Nat) : Option (Nat × Nat × List AV) := match r with
  | none => none
  | some a => match h.1 a with
    | some (.inr (c, fs)) => if tgo c ci then some (a, c, fs) else none
    | _ => none
def ar (h : Hp) (r : Option Nat) : Option (Nat × Nat × vp_A) := match r with
  | none => none
  | some a => match h.1 a with
    | some (.inl (k, x)) => some (a, k, x)
    | _ => none
def tyC (ci k : Nat) : FieldType := match ci with
  | 0 => tyJ0 k
  | 1 => tyJ4 k
  | 2 => tyX0 k
  | 3 => tyX1 k
  | 4 => tyX2 k
  | 5 => tyX3 k
  | 6 => tyX4 k
  | 7 => tyX5 k
  | _ => tyX6 k
def nmC (ci : Nat) : Nat := match ci with
  | 0 => 4
  | 1 => 4
  | 2 => 2
  | 3 => 4
  | 4 => 14
  | 5 => 6
  | 6 => 13
  | 7 => 5
  | _ => 0
def dfC (ci : Nat) : List AV := match ci with
  | 0 => [.inr (.inr none), .inl 0, .inl 0, .inl 0]
  | 1 => [.inr (.inr none), .inl 0, .inl 0, .inl 0]
  | 2 => [.inl 0, .inr (.inr none)]
  | 3 => [.inr (.inr none), .inl 0, .inl 0, .inl 0]
  | 4 => [.inl 0, .inl 0, .inl 0, .inl 0, .inl 0, .inl 0, .inl 0, .inl 0, .inl 0, .inl 0, .inl 0, .inl 0, .inr (.inr none), .inr (.inr none)]
  | 5 => [.inl 0, .inl 0, .inl 0, .inl 0, .inl 0, .inr (.inr none)]
  | 6 => [.inl 0, .inl 0, .inl 0, .inl 0, .inl 0, .inl 0, .inl 0, .inl 0, .inl 0, .inl 0, .inr (.inr none), .inr (.inr none), .inr (.inr none)]
  | 7 => [.inr (.inr none), .inr (.inr none), .inr (.inr none), .inr (.inr none), .inr (.inr none)]
  | _ => []
def vfit (ty : FieldType) (v : AV) : Bool := match ty, v with
  | .int, .inl _ => true
  | .byte, .inl x => x.toInt8.toInt32 == x
  | .boolean, .inl x => x == 0 || x == 1
  | .object _, .inr (.inr _) => true
  | .array _, .inr (.inr _) => true
  | _, _ => false
def rdI (h : Hp) (r : Option Nat) (ci k : Nat) (f : Int32 → Rs) : Rs := match ob h r ci with
  | some (_, _, fs) => match fs[k]? with
    | some (.inl x) => f x
    | _ => none
  | none => none
def rdR (h : Hp) (r : Option Nat) (ci k : Nat) (f : Option Nat → Rs) : Rs := match ob h r ci with
  | some (_, _, fs) => match fs[k]? with
    | some (.inr (.inr x)) => f x
    | _ => none
  | none => none
def wr (h : Hp) (r : Option Nat) (ci k : Nat) (v : AV) (f : Hp → Rs) : Rs := match ob h r ci with
  | some (a, c, fs) => if Nat.blt k fs.length && (Nat.blt c 8 && vfit (tyC ci k) v) then f (upH h a (.inr (ci, fs.set k v))) else none
  | none => none
def ck (h : Hp) (r : Option Nat) (ci : Nat) (o : Rs) : Rs := match ob h r ci with
  | some _ => o
  | none => none
def inB (i : Int32) (n : Nat) : Bool := !(decide (i < 0)) && Nat.blt i.toNatClampNeg n
def aldI (h : Hp) (r : Option Nat) (ks : List Nat) (i : Int32) (f : Int32 → Rs) : Rs := match ar h r with
  | some (_, k, (n, .inl g)) => if ks.contains k && inB i n then f (g i.toNatClampNeg) else none
  | _ => none
def aldR (h : Hp) (r : Option Nat) (i : Int32) (f : Option Nat → Rs) : Rs := match ar h r with
  | some (_, k, (n, .inr (.inr (.inr (.inr g))))) => if (Nat.blt 3 k && Nat.blt k 7) && inB i n then f (g i.toNatClampNeg) else none
  | _ => none
def nar (k : Nat) (x : Int32) : Int32 := match k with
  | 0 => x
  | 1 => vp_nar .byte x
  | 2 => vp_nar .byte x
  | _ => vp_nar .char x
def astI (h : Hp) (r : Option Nat) (ks : List Nat) (i x : Int32) (f : Hp → Rs) : Rs := match ar h r with
  | some (a, k, (n, .inl g)) => if (ks.contains k && Nat.blt k 4) && inB i n then f (upH h a (.inl (k, n, .inl (upd g i.toNatClampNeg (nar k x))))) else none
  | _ => none
def ecl (k : Nat) : Nat := match k with
  | 4 => 3
  | 5 => 4
  | _ => 6
def isEl (h : Hp) (k : Nat) (v : Option Nat) : Bool := match v with
  | none => true
  | some b => match h.1 b with
    | some (.inr (c, _)) => c == ecl k
    | _ => false
def astR (h : Hp) (r : Option Nat) (i : Int32) (v : Option Nat) (f : Hp → Rs) : Rs := match ar h r with
  | some (a, k, (n, .inr (.inr (.inr (.inr g))))) => if (Nat.blt 3 k && Nat.blt k 7) && (inB i n && isEl h k v) then f (upH h a (.inl (k, n, .inr (.inr (.inr (.inr (va_up g i.toNatClampNeg v))))))) else none
  | _ => none
def lenA (h : Hp) (r : Option Nat) (f : Int32 → Rs) : Rs := match ar h r with
  | some (_, _, (n, _)) => f (Int32.ofNat n)
  | none => none
def nwO (h : Hp) (ci : Nat) (f : Hp → Option Nat → Rs) : Rs := f (pushH h (.inr (ci, dfC ci)) (nmC ci)) (some h.2.1)
def nwA (h : Hp) (k : Nat) (x : Int32) (f : Hp → Option Nat → Rs) : Rs := if !(decide (x < 0)) && Nat.ble x.toNatClampNeg 1000000 then f (pushH h (.inl (k, x.toNatClampNeg, .inl (fun _ => 0))) x.toNatClampNeg) (some h.2.1) else none
def nwR (h : Hp) (k : Nat) (x : Int32) (f : Hp → Option Nat → Rs) : Rs := if !(decide (x < 0)) && Nat.ble x.toNatClampNeg 1000000 then f (pushH h (.inl (k, x.toNatClampNeg, .inr (.inr (.inr (.inr (fun _ => none)))))) x.toNatClampNeg) (some h.2.1) else none
def cc (o : Rs) (k : Hp → Option AV → Rs) : Rs := match o with
  | some (h', r) => k h' r
  | none => none
def kI (f : Hp → Int32 → Rs) : Hp → Option AV → Rs := fun h r => match r with
  | some (.inl x) => f h x
  | _ => none
def kJ (f : Hp → Int64 → Rs) : Hp → Option AV → Rs := fun h r => match r with
  | some (.inr (.inl x)) => f h x
  | _ => none
def kR (f : Hp → Option Nat → Rs) : Hp → Option AV → Rs := fun h r => match r with
  | some (.inr (.inr x)) => f h x
  | _ => none
def kV (f : Hp → Rs) : Hp → Option AV → Rs := fun h r => match r with
  | none => f h
  | _ => none
def dv (y : Int32) (o : Rs) : Rs := if y = 0 then none else o
def dn (r : Option Nat) (o : Rs) : Rs := match r with
  | some _ => o
  | none => none
def ifN (r : Option Nat) (a b : Rs) : Rs := match r with
  | none => a
  | some _ => b
def rtI (ty : FieldType) (h : Hp) (x : Int32) : Rs := if vp_nar ty x = x then some (h, some (.inl x)) else none
/-! facts -/
theorem ob_some {h : Hp} {r : Option Nat} {ci a c : Nat} {fs : List AV} (e : ob h r ci = some (a, c, fs)) : r = some a ∧ h.1 a = some (.inr (c, fs)) ∧ tgo c ci = true := by
  unfold ob at e
  split at e
  · cases e
  · split at e
    · split at e
      · next hc ht => cases e; exact ⟨rfl, hc, ht⟩
      · cases e
    · cases e
theorem ar_some {h : Hp} {r : Option Nat} {a k : Nat} {x : vp_A} (e : ar h r = some (a, k, x)) : r = some a ∧ h.1 a = some (.inl (k, x)) := by
  unfold ar at e
  split at e
  · cases e
  · split at e
    · next hc => cases e; exact ⟨rfl, hc⟩
    · cases e
theorem tgo_cases {c ci : Nat} (h : tgo c ci = true) : (c = ci ∧ c < 8) ∨ (c = 10 ∧ ci = 0) := by
  unfold tgo at h
  rw [Bool.or_eq_true, Bool.and_eq_true, Bool.and_eq_true] at h
  rcases h with ⟨h1, h2⟩ | ⟨h1, h2⟩
  · exact Or.inl ⟨by simpa using h1, Nat.le_of_ble_eq_true h2⟩
  · exact Or.inr ⟨by simpa using h1, by simpa using h2⟩
theorem inB_in {i : Int32} {n : Nat} (h : inB i n = true) : vp_in i n := by
  unfold inB at h
  rw [Bool.and_eq_true] at h
  have h2 : i.toNatClampNeg < n := Nat.le_of_ble_eq_true h.2
  have h1 : ¬ i < 0 := by simpa using h.1
  intro q
  rcases q with q | q
  · exact h1 q
  · omega
theorem vfit_ok {ty : FieldType} {v : AV} (h : vfit ty v = true) : narrow ty (tV v) = tV v ∧ fits ty (tV v) = true := by
  unfold vfit at h
  split at h
  · exact ⟨rfl, rfl⟩
  · next x =>
    have e : x.toInt8.toInt32 = x := by simpa using h
    refine ⟨by show Value.int _ = Value.int _; rw [e], ?_⟩
    show fits .byte (.int x) = true
    rw [← e]
    exact pk_fb x
  · next x =>
    have e : x = 0 ∨ x = 1 := by simpa using h
    rcases e with rfl | rfl
    · exact ⟨by decide, by decide⟩
    · exact ⟨by decide, by decide⟩
  · next r => cases r <;> exact ⟨rfl, rfl⟩
  · next r => cases r <;> exact ⟨rfl, rfl⟩
  · cases h
theorem cl_9 {ci : Nat} (h : ci < 8) : ∃ C T N, vwCl[ci]? = some (C, T, N) ∧ (∀ k, k < N → parseFieldDescriptor (T k).2.2.1 = some (tyC ci k)) ∧ (∀ a, a < N → ∀ b, b < N → a ≠ b → (T a).2.1 ≠ (T b).2.1) ∧ N = nmC ci ∧ (∀ j, j < N → defaultValue (tyC ci j) = vp_V ((dfC ci).map tV) j) := by
  match ci, h with
  | 0, _ => exact ⟨_, _, _, rfl, tyJ0_ok, nmJ0, rfl, by decide +kernel⟩
  | 1, _ => exact ⟨_, _, _, rfl, tyJ4_ok, nmJ4, rfl, by decide +kernel⟩
  | 2, _ => exact ⟨_, _, _, rfl, tyX0_ok, nmX0, rfl, by decide +kernel⟩
  | 3, _ => exact ⟨_, _, _, rfl, tyX1_ok, nmX1, rfl, by decide +kernel⟩
  | 4, _ => exact ⟨_, _, _, rfl, tyX2_ok, nmX2, rfl, by decide +kernel⟩
  | 5, _ => exact ⟨_, _, _, rfl, tyX3_ok, nmX3, rfl, by decide +kernel⟩
  | 6, _ => exact ⟨_, _, _, rfl, tyX4_ok, nmX4, rfl, by decide +kernel⟩
  | 7, _ => exact ⟨_, _, _, rfl, tyX5_ok, nmX5, rfl, by decide +kernel⟩
theorem uws_ok : ∀ (q : vw_C), q ∈ vwCl → ∀ w ∈ u_ws q.1 q.2.1 q.2.2, w ∈ goodTbl := by decide +kernel
theorem cl_in {ci : Nat} {C : String} {T : u_T} {N : Nat} (h : vwCl[ci]? = some (C, T, N)) : ∀ w ∈ u_ws C T N, w ∈ goodTbl := uws_ok (C, T, N) (List.mem_of_getElem? h)
/-! the picture after a store, after a making -/
theorem RepH.put {X : Cx} {s : State} {h : Hp} {H H1 : Heap} {ws : va_W} (hP : va_P X.1 vwCl ws H) (hD : va_D (AX X) ws) (hz : H.size = h.2.1) (hN : X.2.2.1 ≤ h.2.1) (hr : ∀ a e, h.1 a = some e → rep1 X s ws a e)
    {i a : Nat} {e0 e1 : va_E} {e : Cl} (hi : ws[i]? = some (a, e0)) (hat : va_at X.1 vwCl (a, e1) H1) (z : H1.size = H.size) (oq : ∀ q : Nat, q ≠ a → H1[q]? = H[q]?) (he : ∀ ws' : va_W, ws'[i]? = some (a, e1) → rep1 X s ws' a e) : RepH X s (upH h a e) H1 := by
  have hlt : i < ws.length := (List.getElem?_eq_some_iff.mp hi).1
  have other : ∀ (j b : Nat) (x : va_E), b ≠ a → ws[j]? = some (b, x) → (ws.set i (a, e1))[j]? = some (b, x) := by
    intro j b x hb hj
    have hij : i ≠ j := by
      intro q
      subst q
      rw [hi] at hj
      cases hj
      exact hb rfl
    rw [List.getElem?_set_ne hij]
    exact hj
  refine ⟨ws.set i (a, e1), hP.set hD hi hat oq, hD.set hi, z.trans hz, hN, fun b x hx => ?_⟩
  by_cases hb : b = a
  · subst hb
    have hx' : some e = some x := by simpa [upH] using hx
    cases hx'
    exact he _ (by rw [List.getElem?_set_self hlt])
  · have hx' : h.1 b = some x := by simpa [upH, hb] using hx
    have h2 := hr b x hx'
    obtain ⟨k, arr⟩ | ⟨ci, fs⟩ := x
    · rcases h2 with ⟨h3, j, hj⟩ | h2
      · exact Or.inl ⟨h3, j, other j b _ hb hj⟩
      · exact Or.inr h2
    · rcases h2 with ⟨h3, j, hj⟩ | h2
      · exact Or.inl ⟨h3, j, other j b _ hb hj⟩
      · exact Or.inr h2
theorem RepH.push {X : Cx} {s : State} {h : Hp} {H H1 : Heap} (r : RepH X s h H) {e1 : va_E} {e : Cl} {n : Nat} (hat : va_at X.1 vwCl (H.size, e1) H1) (z : H1.size = H.size + 1) (oq : ∀ q : Nat, q < H.size → H1[q]? = H[q]?)
    (he : ∀ (ws' : va_W) (i : Nat), ws'[i]? = some (H.size, e1) → rep1 X s ws' H.size e) : RepH X s (pushH h e n) H1 := by
  obtain ⟨ws, hP, hD, hz, hN, hr⟩ := r
  have hk : ∀ (k : Nat) (x : Nat × va_E), ws[k]? = some x → H1[x.1]? = H[x.1]? := fun k x hx => oq x.1 ((hP k x hx).lt)
  have new : (ws ++ [(H.size, e1)])[ws.length]? = some (H.size, e1) := by simp
  have old : ∀ (j b : Nat) (x : va_E), ws[j]? = some (b, x) → (ws ++ [(H.size, e1)])[j]? = some (b, x) := by
    intro j b x hj
    rw [List.getElem?_append_left (List.getElem?_eq_some_iff.mp hj).1]
    exact hj
  refine ⟨ws ++ [(H.size, e1)], (hP.kept hk).app (fun k x hx => ?_), hD.push hP rfl (by show X.2.2.1 ≤ H.size; rw [hz]; exact hN), by show _ = h.2.1 + 1; rw [z, hz], Nat.le_succ_of_le hN, fun b x hx => ?_⟩
  · have hz2 : k < 1 := (List.getElem?_eq_some_iff.mp hx).1
    rw [show k = 0 by omega] at hx
    cases hx
    exact hat
  · by_cases hb : b = h.2.1
    · have hx' : some e = some x := by simpa [pushH, hb] using hx
      cases hx'
      rw [hb, ← hz]
      exact he _ _ new
    · have hx' : h.1 b = some x := by simpa [pushH, hb] using hx
      have h2 := hr b x hx'
      obtain ⟨k, arr⟩ | ⟨ci, fs⟩ := x
      · rcases h2 with ⟨h3, j, hj⟩ | h2
        · exact Or.inl ⟨h3, j, old j b _ hj⟩
        · exact Or.inr h2
      · rcases h2 with ⟨h3, j, hj⟩ | h2
        · exact Or.inl ⟨h3, j, old j b _ hj⟩
        · exact Or.inr h2
theorem Inv.S {X : Cx} {s : State} {h : Hp} {H : Heap} {locs : List Loc} (i : Inv X s h H locs) : va_S (AX X) s.heap H locs :=
  ⟨i.2.2.1, fun q _ hA => i.2.1 q (Nat.not_le.mp hA), i.2.2.2⟩
theorem Inv.put {X : Cx} {s : State} {h h1 : Hp} {H H1 : Heap} {locs : List Loc} {a k : Nat} (i : Inv X s h H locs) (r : RepH X s h1 H1) (z : H1.size = H.size) (oq : ∀ q : Nat, q ≠ a → H1[q]? = H[q]?) (ha : AX X a) : Inv X s h1 H1 (locs ++ [⟨a, k⟩]) := by
  refine ⟨r, fun q hq => ?_, by rw [z]; exact i.2.2.1, fun q hq => ?_⟩
  · rw [oq q (fun e => by subst e; exact absurd hq (Nat.not_lt.mpr ha))]
    exact i.2.1 q hq
  · rcases List.mem_append.mp hq with h | h
    · exact i.2.2.2 q h
    · rw [List.mem_singleton] at h
      subst h
      exact ha
theorem Inv.push {X : Cx} {s : State} {h h1 : Hp} {H H1 : Heap} {locs : List Loc} (i : Inv X s h H locs) (r : RepH X s h1 H1) (z : H1.size = H.size + 1) (oq : ∀ q : Nat, q < H.size → H1[q]? = H[q]?) : Inv X s h1 H1 locs := by
  have hz : X.2.2.1 ≤ H.size := by
    obtain ⟨ws, -, -, hz, hN, -⟩ := i.1
    rw [hz]; exact hN
  refine ⟨r, fun q hq => ?_, by rw [z]; exact Nat.le_succ_of_le i.2.2.1, i.2.2.2⟩
  rw [oq q (Nat.lt_of_lt_of_le hq hz)]
  exact i.2.1 q hq
