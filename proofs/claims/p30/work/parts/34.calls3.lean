/-! close, the pad -/
def rClo (D : Dt) (t p : Int) : Int := if ¬ (0 ≤ t ∧ t ≤ 2) then -1 else if ¬ (0 ≤ p ∧ p ≤ 3) then -2 else if gF D t.toNat 8 = 0 then -5 else if manyI D 0 + manyI D 1 = 10 then -4 else gT D 4 + 1
def cloD (D : Dt) (r t : Nat) (p : Int) : Dt := sFl (emD (sFl (sFl (sFl (sT (cpD D r t) 4 (gT D 4 + 1)) r 0 (gT D 4 + 1)) r 2 p) r 4 (gT D 0)) t) t 1 t
def zClo (Z : Zt) (t p : Int) : Zt := if ¬ (0 ≤ t ∧ t ≤ 2) then Z else if ¬ (0 ≤ p ∧ p ≤ 3) then Z else if gF (zD Z) t.toNat 8 = 0 then Z else if manyI (zD Z) 0 + manyI (zD Z) 1 = 10 then Z else zDo Z (cloD (zD Z) (freeI (zD Z)).toNat t.toNat p)
theorem freeI_c {D : Dt} (h : freeI D ≠ -6) : ∃ r : Nat, freeI D = r ∧ 3 ≤ r ∧ r < 21 ∧ gF D r 0 ≤ 0 := by
  obtain ⟨i, h1, h2, h3, h4⟩ := fF_some 18 3 h
  exact ⟨i, h1, h2, h3, of_decide_eq_true h4⟩
section
variable {c : Nat → Option Nat} {h : Hp} {a : Nat} {M : Nat → Nat → Int} {Z : Zt} {D : Dt}
end
