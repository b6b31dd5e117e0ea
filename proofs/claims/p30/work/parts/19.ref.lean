/-! THE REFERENCE'S MEMORY: a function M; M 0 its fields, M k its k-th array, at the address a + k -/
def mset (M : Nat → Nat → Int) (k i : Nat) (v : Int) : Nat → Nat → Int := fun p j => if p = k ∧ j = i then v else M p j
def mF (a : Nat) (M : Nat → Nat → Int) : List AV := [.inl (iI (M 0 0)), .inr (.inr (some (a + 1))), .inr (.inr (some (a + 2))), .inl (iI (M 0 3)), .inr (.inr (some (a + 3))), .inr (.inr (some (a + 4))), .inr (.inr (some (a + 5))), .inl (iI (M 0 7)), .inr (.inr (some (a + 6))), .inl (iI (M 0 9)), .inl (iI (M 0 10)), .inl (iI (M 0 11)), .inl (iI (M 0 12)), .inr (.inr (some (a + 7))), .inl (iI (M 0 14))]
def rowI (M : Nat → Nat → Int) (k : Nat) : Nat → Int32 := fun j => iI (M k j)
def mC (a : Nat) (M : Nat → Nat → Int) : Nat → Option Cl
  | 0 => some (.inr (8, mF a M))
  | 1 => some (.inl (0, 1818, .inl (rowI M 1)))
  | 2 => some (.inl (0, 10908, .inl (rowI M 2)))
  | 3 => some (.inl (0, 3636, .inl (rowI M 3)))
  | 4 => some (.inl (2, 2, .inl (rowI M 4)))
  | 5 => some (.inl (0, 80, .inl (rowI M 5)))
  | 6 => some (.inl (0, 40, .inl (rowI M 6)))
  | 7 => some (.inl (0, 30, .inl (rowI M 7)))
  | _ => none
def hM (h : Hp) (a : Nat) (M : Nat → Nat → Int) : Hp := (fun q => if a ≤ q ∧ q < a + 8 then mC a M (q - a) else h.1 q, h.2)
theorem hM_at (h : Hp) (a : Nat) (M : Nat → Nat → Int) {k : Nat} (hk : k < 8) : (hM h a M).1 (a + k) = mC a M k := by
  show (if a ≤ a + k ∧ a + k < a + 8 then mC a M (a + k - a) else _) = _
  rw [if_pos (by omega), Nat.add_sub_cancel_left]
theorem hM_at0 (h : Hp) (a : Nat) (M : Nat → Nat → Int) : (hM h a M).1 a = some (.inr (8, mF a M)) := hM_at h a M (k := 0) (by decide)
section
variable (h : Hp) (a : Nat) (M : Nat → Nat → Int) (f : Int32 → Rs) (g : Option Nat → Rs)
end
theorem upH_M {h : Hp} {a : Nat} {M M' : Nat → Nat → Int} {k : Nat} {e : Cl} (hk : k < 8) (he : some e = mC a M' k) (ho : ∀ j, j < 8 → j ≠ k → mC a M j = mC a M' j) : upH (hM h a M) (a + k) e = hM h a M' := by
  unfold upH hM
  congr 1
  funext q
  by_cases hq : q = a + k
  · subst hq
    rw [if_pos rfl, if_pos (by omega), he, Nat.add_sub_cancel_left]
  · rw [if_neg hq]
    by_cases h2 : a ≤ q ∧ q < a + 8
    · dsimp only; rw [if_pos h2, if_pos h2, ho _ (by omega) (by omega)]
    · dsimp only; rw [if_neg h2, if_neg h2]
theorem row_ne {M : Nat → Nat → Int} {k i p : Nat} {v : Int} (hp : p ≠ k) : rowI (mset M k i v) p = rowI M p := by
  funext j; simp [rowI, mset, hp]
theorem row_eq {M : Nat → Nat → Int} {k i : Nat} {v : Int} : rowI (mset M k i v) k = upd (rowI M k) i (iI v) := by
  funext j; by_cases hj : j = i <;> simp [rowI, mset, upd, hj]
theorem mF_k {a : Nat} {M : Nat → Nat → Int} {k i : Nat} {v : Int} (hk : k ≠ 0) : mF a (mset M k i v) = mF a M := by
  have : ∀ j, mset M k i v 0 j = M 0 j := fun j => by simp [mset, Ne.symm hk]
  simp only [mF, this]
theorem mC_ne {a : Nat} {M : Nat → Nat → Int} {k i p : Nat} {v : Int} (hp : p ≠ k) (hk : k < 8) : mC a M p = mC a (mset M k i v) p := by
  unfold mC
  split <;> first | rfl | (rw [row_ne hp]) | (rw [mF_k (Ne.symm hp)])
section
variable (h : Hp) (a : Nat) (M : Nat → Nat → Int) (v : Int) (f : Hp → Rs)
end
theorem ar_M {h : Hp} {a : Nat} {M : Nat → Nat → Int} {k : Nat} (hk : k < 8) {x : Nat × vp_A} (e : mC a M k = some (.inl x)) : ar (hM h a M) (some (a + k)) = some (a + k, x) := by
  unfold ar; simp only [hM_at h a M hk, e]
theorem ald_M {h : Hp} {a : Nat} {M : Nat → Nat → Int} {k q n : Nat} {ks : List Nat} {z : Int} {f : Int32 → Rs} (hk : k < 8) (e : mC a M k = some (.inl (q, n, .inl (rowI M k)))) (hq : ks.contains q = true) (hn : (n : Int) < 2147483648) (h0 : 0 ≤ z) (h1 : z < n) : aldI (hM h a M) (some (a + k)) ks (iI z) f = f (iI (M k z.toNat)) := by
  unfold aldI; rw [ar_M hk e]
  simp only []
  rw [if_pos (by rw [hq, inB_ok h0 h1 hn]; rfl), iI_nat (by unfold rg; omega)]
  rfl
theorem ast_M {h : Hp} {a : Nat} {M : Nat → Nat → Int} {k n : Nat} {z v : Int} {f : Hp → Rs} (hk : k < 8) (hk0 : k ≠ 0) (e : mC a M k = some (.inl (0, n, .inl (rowI M k)))) (e' : ∀ i, mC a (mset M k i v) k = some (.inl (0, n, .inl (rowI (mset M k i v) k)))) (hn : (n : Int) < 2147483648) (h0 : 0 ≤ z) (h1 : z < n) : astI (hM h a M) (some (a + k)) [0] (iI z) (iI v) f = f (hM h a (mset M k z.toNat v)) := by
  unfold astI; rw [ar_M hk e]
  simp only []
  rw [if_pos (by rw [inB_ok h0 h1 hn]; rfl), iI_nat (by unfold rg; omega)]
  rw [upH_M (M' := mset M k z.toNat v) hk ?_ (fun j hj hne => mC_ne hne hk)]
  rw [e', row_eq]; rfl
section
variable {h : Hp} {a : Nat} {M : Nat → Nat → Int} {z v : Int} {f : Int32 → Rs} {g : Hp → Rs}
theorem ald_M1 (h0 : 0 ≤ z) (h1 : z < 1818) : aldI (hM h a M) (some (a + 1)) [0, 10] (iI z) f = f (iI (M 1 z.toNat)) := ald_M (by decide) rfl rfl (by decide) h0 h1
theorem ald_M2 (h0 : 0 ≤ z) (h1 : z < 10908) : aldI (hM h a M) (some (a + 2)) [0, 10] (iI z) f = f (iI (M 2 z.toNat)) := ald_M (by decide) rfl rfl (by decide) h0 h1
theorem ald_M3 (h0 : 0 ≤ z) (h1 : z < 3636) : aldI (hM h a M) (some (a + 3)) [0, 10] (iI z) f = f (iI (M 3 z.toNat)) := ald_M (by decide) rfl rfl (by decide) h0 h1
theorem ald_M5 (h0 : 0 ≤ z) (h1 : z < 80) : aldI (hM h a M) (some (a + 5)) [0, 10] (iI z) f = f (iI (M 5 z.toNat)) := ald_M (by decide) rfl rfl (by decide) h0 h1
theorem ald_M6 (h0 : 0 ≤ z) (h1 : z < 40) : aldI (hM h a M) (some (a + 6)) [0, 10] (iI z) f = f (iI (M 6 z.toNat)) := ald_M (by decide) rfl rfl (by decide) h0 h1
theorem ald_M7 (h0 : 0 ≤ z) (h1 : z < 30) : aldI (hM h a M) (some (a + 7)) [0, 10] (iI z) f = f (iI (M 7 z.toNat)) := ald_M (by decide) rfl rfl (by decide) h0 h1
theorem ast_M1 (h0 : 0 ≤ z) (h1 : z < 1818) : astI (hM h a M) (some (a + 1)) [0] (iI z) (iI v) g = g (hM h a (mset M 1 z.toNat v)) := ast_M (by decide) (by decide) rfl (fun _ => rfl) (by decide) h0 h1
theorem ast_M2 (h0 : 0 ≤ z) (h1 : z < 10908) : astI (hM h a M) (some (a + 2)) [0] (iI z) (iI v) g = g (hM h a (mset M 2 z.toNat v)) := ast_M (by decide) (by decide) rfl (fun _ => rfl) (by decide) h0 h1
theorem ast_M3 (h0 : 0 ≤ z) (h1 : z < 3636) : astI (hM h a M) (some (a + 3)) [0] (iI z) (iI v) g = g (hM h a (mset M 3 z.toNat v)) := ast_M (by decide) (by decide) rfl (fun _ => rfl) (by decide) h0 h1
theorem ast_M5 (h0 : 0 ≤ z) (h1 : z < 80) : astI (hM h a M) (some (a + 5)) [0] (iI z) (iI v) g = g (hM h a (mset M 5 z.toNat v)) := ast_M (by decide) (by decide) rfl (fun _ => rfl) (by decide) h0 h1
theorem ast_M6 (h0 : 0 ≤ z) (h1 : z < 40) : astI (hM h a M) (some (a + 6)) [0] (iI z) (iI v) g = g (hM h a (mset M 6 z.toNat v)) := ast_M (by decide) (by decide) rfl (fun _ => rfl) (by decide) h0 h1
theorem ast_M7 (h0 : 0 ≤ z) (h1 : z < 30) : astI (hM h a M) (some (a + 7)) [0] (iI z) (iI v) g = g (hM h a (mset M 7 z.toNat v)) := ast_M (by decide) (by decide) rfl (fun _ => rfl) (by decide) h0 h1
end
theorem kI_i (f : Hp → Int32 → Rs) (h : Hp) (x : Int32) : kI f h (some (.inl x)) = f h x := rfl
theorem kV_n (f : Hp → Rs) (h : Hp) : kV f h none = f h := rfl
theorem cc_s (k : Hp → Option AV → Rs) (h : Hp) (r : Option AV) : cc (some (h, r)) k = k h r := rfl
