/-! save -/
section
variable {c : Nat → Option Nat} {h : Hp} {a : Nat} {M : Nat → Nat → Int} {Z : Zt}
theorem ast_M4 {n : Nat} {g : Hp → Rs} (hn : n < 2) : astI (hM h a M) (some (a + 4)) [1, 2] (iI (n : Int)) (iI 1) g = g (hM h a (mset M 4 n 1)) := by
  unfold astI
  rw [ar_M (k := 4) (by decide) (x := (2, 2, .inl (rowI M 4))) rfl]
  simp only []
  rw [if_pos (by rw [inB_ok (by omega) (by omega) (by decide)]; rfl), iI_nat (by unfold rg; omega)]
  rw [upH_M (k := 4) (M' := mset M 4 n 1) (by decide) ?_ (fun j hj hne => mC_ne hne (by decide))]
  show some _ = some (Sum.inl (2, 2, Sum.inl (rowI (mset M 4 n 1) 4)))
  rw [row_eq, show nar 2 (iI 1) = iI 1 by decide, Int.toNat_natCast]
end
