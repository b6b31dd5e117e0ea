/-! THE REFERENCE'S MEMORY: a function M; M 0 its fields, M k its k-th array, at the address a + k -/
def mset (M : Nat → Nat → Int) (k i : Nat) (v : Int) : Nat → Nat → Int := fun p j => if p = k ∧ j = i then v else M p j
def mF (a : Nat) (M : Nat → Nat → Int) : List AV := [.inl (iI (M 0 0)), .inr (.inr (some (a + 1))), .inr (.inr (some (a + 2))), .inl (iI (M 0 3)), .inr (.inr (some (a + 3))), .inr (.inr (some (a + 4))), .inr (.inr (some (a + 5))), .inl (iI (M 0 7)), .inr (.inr (some (a + 6))), .inl (iI (M 0 9)), .inl (iI (M 0 10)), .inl (iI (M 0 11)), .inl (iI (M 0 12)), .inr (.inr (some (a + 7))), .inl (iI (M 0 14))]
def rowI (M : Nat → Nat → Int) (k : Nat) : Nat → Int32 := fun j => iI (M k j)
def mC (a : Nat) (M : Nat → Nat → Int) : Nat → Option Cl
  | 0 => some (.inr (8, mF a M))
  | 1 => some (.inl (0, 1818, .inl (rowI M 1)))
  | 2 => some (.inl (0, 10908, .inl (rowI M 2)))
  | 3 => some (.inl (0, 3636, .inl (rowI M 3)))
  | 4 => some (.inl (2, 2, .inl (rowI M 4)))
  | 5 => some (.inl (0, 80, .inl (rowI M 5)))
  | 6 => some (.inl (0, 40, .inl (rowI M 6)))
  | 7 => some (.inl (0, 30, .inl (rowI M 7)))
  | _ => none
def hM (h : Hp) (a : Nat) (M : Nat → Nat → Int) : Hp := (fun q => if a ≤ q ∧ q < a + 8 then mC a M (q - a) else h.1 q, h.2)
theorem hM_at (h : Hp) (a : Nat) (M : Nat → Nat → Int) {k : Nat} (hk : k < 8) : (hM h a M).1 (a + k) = mC a M k := by
  show (if a ≤ a + k ∧ a + k < a + 8 then mC a M (a + k - a) else _) = _
  rw [if_pos (by omega), Nat.add_sub_cancel_left]
theorem hM_at0 (h : Hp) (a : Nat) (M : Nat → Nat → Int) : (hM h a M).1 a = some (.inr (8, mF a M)) := hM_at h a M (k := 0) (by decide)
theorem ob_M (h : Hp) (a : Nat) (M : Nat → Nat → Int) : ob (hM h a M) (some a) 8 = some (a, 8, mF a M) := by
  simp only [ob, hM_at0]; rfl
theorem ck_M (h : Hp) (a : Nat) (M : Nat → Nat → Int) (o : Rs) : ck (hM h a M) (some a) 8 o = o := by
  unfold ck; rw [ob_M]
theorem rdI_M {h : Hp} {a : Nat} {M : Nat → Nat → Int} {k : Nat} {f : Int32 → Rs} (hk : (mF a M)[k]? = some (.inl (iI (M 0 k)))) : rdI (hM h a M) (some a) 8 k f = f (iI (M 0 k)) := by
  unfold rdI; rw [ob_M]; simp only [hk]
theorem rdR_M {h : Hp} {a : Nat} {M : Nat → Nat → Int} {k j : Nat} {f : Option Nat → Rs} (hk : (mF a M)[k]? = some (.inr (.inr (some (a + j))))) : rdR (hM h a M) (some a) 8 k f = f (some (a + j)) := by
  unfold rdR; rw [ob_M]; simp only [hk]
section
variable (h : Hp) (a : Nat) (M : Nat → Nat → Int) (f : Int32 → Rs) (g : Option Nat → Rs)
theorem rdI_M3 : rdI (hM h a M) (some a) 8 3 f = f (iI (M 0 3)) := rdI_M rfl
theorem rdI_M7 : rdI (hM h a M) (some a) 8 7 f = f (iI (M 0 7)) := rdI_M rfl
theorem rdI_M9 : rdI (hM h a M) (some a) 8 9 f = f (iI (M 0 9)) := rdI_M rfl
theorem rdI_M10 : rdI (hM h a M) (some a) 8 10 f = f (iI (M 0 10)) := rdI_M rfl
theorem rdI_M11 : rdI (hM h a M) (some a) 8 11 f = f (iI (M 0 11)) := rdI_M rfl
theorem rdI_M12 : rdI (hM h a M) (some a) 8 12 f = f (iI (M 0 12)) := rdI_M rfl
theorem rdI_M14 : rdI (hM h a M) (some a) 8 14 f = f (iI (M 0 14)) := rdI_M rfl
theorem rdR_M1 : rdR (hM h a M) (some a) 8 1 g = g (some (a + 1)) := rdR_M rfl
theorem rdR_M2 : rdR (hM h a M) (some a) 8 2 g = g (some (a + 2)) := rdR_M rfl
theorem rdR_M4 : rdR (hM h a M) (some a) 8 4 g = g (some (a + 3)) := rdR_M rfl
theorem rdR_M5 : rdR (hM h a M) (some a) 8 5 g = g (some (a + 4)) := rdR_M rfl
theorem rdR_M6 : rdR (hM h a M) (some a) 8 6 g = g (some (a + 5)) := rdR_M rfl
theorem rdR_M8 : rdR (hM h a M) (some a) 8 8 g = g (some (a + 6)) := rdR_M rfl
theorem rdR_M13 : rdR (hM h a M) (some a) 8 13 g = g (some (a + 7)) := rdR_M rfl
end
theorem upH_M {h : Hp} {a : Nat} {M M' : Nat → Nat → Int} {k : Nat} {e : Cl} (hk : k < 8) (he : some e = mC a M' k) (ho : ∀ j, j < 8 → j ≠ k → mC a M j = mC a M' j) : upH (hM h a M) (a + k) e = hM h a M' := by
  unfold upH hM
  congr 1
  funext q
  by_cases hq : q = a + k
  · subst hq
    rw [if_pos rfl, if_pos (by omega), he, Nat.add_sub_cancel_left]
  · rw [if_neg hq]
    by_cases h2 : a ≤ q ∧ q < a + 8
    · dsimp only; rw [if_pos h2, if_pos h2, ho _ (by omega) (by omega)]
    · dsimp only; rw [if_neg h2, if_neg h2]
theorem row_ne {M : Nat → Nat → Int} {k i p : Nat} {v : Int} (hp : p ≠ k) : rowI (mset M k i v) p = rowI M p := by
  funext j; simp [rowI, mset, hp]
theorem row_eq {M : Nat → Nat → Int} {k i : Nat} {v : Int} : rowI (mset M k i v) k = upd (rowI M k) i (iI v) := by
  funext j; by_cases hj : j = i <;> simp [rowI, mset, upd, hj]
theorem mF_k {a : Nat} {M : Nat → Nat → Int} {k i : Nat} {v : Int} (hk : k ≠ 0) : mF a (mset M k i v) = mF a M := by
  have : ∀ j, mset M k i v 0 j = M 0 j := fun j => by simp [mset, Ne.symm hk]
  simp only [mF, this]
theorem mC_ne {a : Nat} {M : Nat → Nat → Int} {k i p : Nat} {v : Int} (hp : p ≠ k) (hk : k < 8) : mC a M p = mC a (mset M k i v) p := by
  unfold mC
  split <;> first | rfl | (rw [row_ne hp]) | (rw [mF_k (Ne.symm hp)])
theorem wr_M {h : Hp} {a : Nat} {M : Nat → Nat → Int} {k : Nat} {v : Int} {f : Hp → Rs} (hk : Nat.blt k 15 = true) (ht : tyC 8 k = .int) (he : (mF a M).set k (.inl (iI v)) = mF a (mset M 0 k v)) : wr (hM h a M) (some a) 8 k (.inl (iI v)) f = f (hM h a (mset M 0 k v)) := by
  unfold wr; rw [ob_M]
  simp only []
  rw [if_pos (by rw [ht]; simp only [vfit, Bool.and_eq_true]; exact ⟨hk, rfl, trivial⟩), he]
  have := upH_M (h := h) (a := a) (M := M) (M' := mset M 0 k v) (k := 0) (e := .inr (8, mF a (mset M 0 k v))) (by decide) rfl (fun j hj hne => mC_ne hne (by decide))
  rw [Nat.add_zero] at this
  rw [this]
section
variable (h : Hp) (a : Nat) (M : Nat → Nat → Int) (v : Int) (f : Hp → Rs)
theorem wr_M0 : wr (hM h a M) (some a) 8 0 (.inl (iI v)) f = f (hM h a (mset M 0 0 v)) := wr_M rfl rfl rfl
theorem wr_M3 : wr (hM h a M) (some a) 8 3 (.inl (iI v)) f = f (hM h a (mset M 0 3 v)) := wr_M rfl rfl rfl
theorem wr_M7 : wr (hM h a M) (some a) 8 7 (.inl (iI v)) f = f (hM h a (mset M 0 7 v)) := wr_M rfl rfl rfl
theorem wr_M9 : wr (hM h a M) (some a) 8 9 (.inl (iI v)) f = f (hM h a (mset M 0 9 v)) := wr_M rfl rfl rfl
theorem wr_M10 : wr (hM h a M) (some a) 8 10 (.inl (iI v)) f = f (hM h a (mset M 0 10 v)) := wr_M rfl rfl rfl
theorem wr_M11 : wr (hM h a M) (some a) 8 11 (.inl (iI v)) f = f (hM h a (mset M 0 11 v)) := wr_M rfl rfl rfl
theorem wr_M12 : wr (hM h a M) (some a) 8 12 (.inl (iI v)) f = f (hM h a (mset M 0 12 v)) := wr_M rfl rfl rfl
theorem wr_M14 : wr (hM h a M) (some a) 8 14 (.inl (iI v)) f = f (hM h a (mset M 0 14 v)) := wr_M rfl rfl rfl
end
theorem ar_M {h : Hp} {a : Nat} {M : Nat → Nat → Int} {k : Nat} (hk : k < 8) {x : Nat × vp_A} (e : mC a M k = some (.inl x)) : ar (hM h a M) (some (a + k)) = some (a + k, x) := by
  unfold ar; simp only [hM_at h a M hk, e]
theorem ald_M {h : Hp} {a : Nat} {M : Nat → Nat → Int} {k q n : Nat} {ks : List Nat} {z : Int} {f : Int32 → Rs} (hk : k < 8) (e : mC a M k = some (.inl (q, n, .inl (rowI M k)))) (hq : ks.contains q = true) (hn : (n : Int) < 2147483648) (h0 : 0 ≤ z) (h1 : z < n) : aldI (hM h a M) (some (a + k)) ks (iI z) f = f (iI (M k z.toNat)) := by
  unfold aldI; rw [ar_M hk e]
  simp only []
  rw [if_pos (by rw [hq, inB_ok h0 h1 hn]; rfl), iI_nat (by unfold rg; omega)]
  rfl
theorem ast_M {h : Hp} {a : Nat} {M : Nat → Nat → Int} {k n : Nat} {z v : Int} {f : Hp → Rs} (hk : k < 8) (hk0 : k ≠ 0) (e : mC a M k = some (.inl (0, n, .inl (rowI M k)))) (e' : ∀ i, mC a (mset M k i v) k = some (.inl (0, n, .inl (rowI (mset M k i v) k)))) (hn : (n : Int) < 2147483648) (h0 : 0 ≤ z) (h1 : z < n) : astI (hM h a M) (some (a + k)) [0] (iI z) (iI v) f = f (hM h a (mset M k z.toNat v)) := by
  unfold astI; rw [ar_M hk e]
  simp only []
  rw [if_pos (by rw [inB_ok h0 h1 hn]; rfl), iI_nat (by unfold rg; omega)]
  rw [upH_M (M' := mset M k z.toNat v) hk ?_ (fun j hj hne => mC_ne hne hk)]
  rw [e', row_eq]; rfl
section
variable {h : Hp} {a : Nat} {M : Nat → Nat → Int} {z v : Int} {f : Int32 → Rs} {g : Hp → Rs}
theorem ald_M1 (h0 : 0 ≤ z) (h1 : z < 1818) : aldI (hM h a M) (some (a + 1)) [0, 10] (iI z) f = f (iI (M 1 z.toNat)) := ald_M (by decide) rfl rfl (by decide) h0 h1
theorem ald_M2 (h0 : 0 ≤ z) (h1 : z < 10908) : aldI (hM h a M) (some (a + 2)) [0, 10] (iI z) f = f (iI (M 2 z.toNat)) := ald_M (by decide) rfl rfl (by decide) h0 h1
theorem ald_M3 (h0 : 0 ≤ z) (h1 : z < 3636) : aldI (hM h a M) (some (a + 3)) [0, 10] (iI z) f = f (iI (M 3 z.toNat)) := ald_M (by decide) rfl rfl (by decide) h0 h1
theorem ald_M5 (h0 : 0 ≤ z) (h1 : z < 80) : aldI (hM h a M) (some (a + 5)) [0, 10] (iI z) f = f (iI (M 5 z.toNat)) := ald_M (by decide) rfl rfl (by decide) h0 h1
theorem ald_M6 (h0 : 0 ≤ z) (h1 : z < 40) : aldI (hM h a M) (some (a + 6)) [0, 10] (iI z) f = f (iI (M 6 z.toNat)) := ald_M (by decide) rfl rfl (by decide) h0 h1
theorem ald_M7 (h0 : 0 ≤ z) (h1 : z < 30) : aldI (hM h a M) (some (a + 7)) [0, 10] (iI z) f = f (iI (M 7 z.toNat)) := ald_M (by decide) rfl rfl (by decide) h0 h1
theorem ast_M1 (h0 : 0 ≤ z) (h1 : z < 1818) : astI (hM h a M) (some (a + 1)) [0] (iI z) (iI v) g = g (hM h a (mset M 1 z.toNat v)) := ast_M (by decide) (by decide) rfl (fun _ => rfl) (by decide) h0 h1
theorem ast_M2 (h0 : 0 ≤ z) (h1 : z < 10908) : astI (hM h a M) (some (a + 2)) [0] (iI z) (iI v) g = g (hM h a (mset M 2 z.toNat v)) := ast_M (by decide) (by decide) rfl (fun _ => rfl) (by decide) h0 h1
theorem ast_M3 (h0 : 0 ≤ z) (h1 : z < 3636) : astI (hM h a M) (some (a + 3)) [0] (iI z) (iI v) g = g (hM h a (mset M 3 z.toNat v)) := ast_M (by decide) (by decide) rfl (fun _ => rfl) (by decide) h0 h1
theorem ast_M5 (h0 : 0 ≤ z) (h1 : z < 80) : astI (hM h a M) (some (a + 5)) [0] (iI z) (iI v) g = g (hM h a (mset M 5 z.toNat v)) := ast_M (by decide) (by decide) rfl (fun _ => rfl) (by decide) h0 h1
theorem ast_M6 (h0 : 0 ≤ z) (h1 : z < 40) : astI (hM h a M) (some (a + 6)) [0] (iI z) (iI v) g = g (hM h a (mset M 6 z.toNat v)) := ast_M (by decide) (by decide) rfl (fun _ => rfl) (by decide) h0 h1
theorem ast_M7 (h0 : 0 ≤ z) (h1 : z < 30) : astI (hM h a M) (some (a + 7)) [0] (iI z) (iI v) g = g (hM h a (mset M 7 z.toNat v)) := ast_M (by decide) (by decide) rfl (fun _ => rfl) (by decide) h0 h1
end
theorem kI_i (f : Hp → Int32 → Rs) (h : Hp) (x : Int32) : kI f h (some (.inl x)) = f h x := rfl
theorem kV_n (f : Hp → Rs) (h : Hp) : kV f h none = f h := rfl
theorem cc_s (k : Hp → Option AV → Rs) (h : Hp) (r : Option AV) : cc (some (h, r)) k = k h r := rfl
theorem m_of {c : Nat → Option Nat} {h : Hp} {a : Nat} {M : Nat → Nat → Int} {r w : Int} (h0 : 0 ≤ 12 + 86 * r + w) (h1 : 12 + 86 * r + w < 1818) : fX6_of c (hM h a M) (some a) (iI r) (iI w) = some (hM h a M, some (.inl (iI (M 1 (12 + 86 * r + w).toNat)))) := by
  unfold fX6_of
  simp (disch := omega) only [rdR_M1, iI_l, iI_add, iI_mul, ald_M1]
theorem m_lay {c : Nat → Option Nat} {h : Hp} {a : Nat} {M : Nat → Nat → Int} {r w v : Int} (h0 : 0 ≤ 12 + 86 * r + w) (h1 : 12 + 86 * r + w < 1818) : fX6_lay c (hM h a M) (some a) (iI r) (iI w) (iI v) = some (hM h a (mset M 1 (12 + 86 * r + w).toNat v), none) := by
  unfold fX6_lay
  simp (disch := omega) only [rdR_M1, iI_l, iI_add, iI_mul, ast_M1]
