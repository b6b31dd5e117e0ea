/-! the reference's answers that change nothing -/
def rOut (D : Dt) : Int := if allI D < gT D 7 then -6 else tksI D (gT D 7)
def rDin (D : Dt) (x : Int) : Int := if recI D x = -6 then -1 else if gF D (recI D x).toNat 3 = 2 then 0 else if gT D 7 < upI D (recI D x).toNat then -6 else tksI D (upI D (recI D x).toNat)
def rIfs (D : Dt) (t i : Int) : Int := if 0 ≤ t ∧ t ≤ 2 ∧ 0 ≤ i ∧ i < gF D t.toNat 8 then totI D t.toNat + (if gP D t.toNat i.toNat 3 = 1 then gP D t.toNat i.toNat 0 * gP D t.toNat i.toNat 1 else -(gP D t.toNat i.toNat 0 * gP D t.toNat i.toNat 1)) else -1
def rWai (D : Dt) (x : Int) : Int := if x < 0 then -1 else if atI D x = -6 then -1 else gF D (atI D x).toNat 0
def rPri (D : Dt) (x : Int) : Int := if x = 0 then (if prtI D = -6 then -6 else gF D (prtI D).toNat 0) else if 1 ≤ x ∧ x ≤ 5 then gT D (6 + x.toNat) else -2
section
variable {c : Nat → Option Nat} {h : Hp} {a : Nat} {M : Nat → Nat → Int} {Z : Zt}
theorem allI_bd {D : Dt} (O : Ok1 D) : -20000000 ≤ allI D ∧ allI D ≤ 27000 := by
  have key : ∀ (m k : Nat), k + m = 21 → -1000000 * (m : Int) ≤ sF (toPrI D) k m ∧ sF (toPrI D) k m ≤ 1500 * m := by
    intro m
    induction m with
    | zero => intro k _; simp [sF]
    | succ m ih =>
      intro k hk
      have h1 := ih (k + 1) (by omega)
      have h2 : -1000000 ≤ toPrI D k ∧ toPrI D k ≤ 1500 := by
        unfold toPrI
        by_cases e : hwP D 0 k = true ∨ hwP D 1 k = true
        · rw [if_pos e]
          have ir : isR D k := by
            rcases e with e | e
            · exact hwP_is e (by omega)
            · exact hwP_is e (by omega)
          have := leftI_rg O ir
          omega
        · rw [if_neg e]; decide
      rw [sF]
      omega
  have := key 18 3 (by decide)
  unfold allI
  omega
theorem upI_bd {D : Dt} {r : Nat} (O : Ok1 D) (hr : isR D r) : -20000000 ≤ upI D r ∧ upI D r ≤ 30000 := by
  have key : ∀ (m k : Nat), k + m = 21 → -1000000 * (m : Int) ≤ sF (aheadI D r) k m ∧ sF (aheadI D r) k m ≤ 1500 * m := by
    intro m
    induction m with
    | zero => intro k _; simp [sF]
    | succ m ih =>
      intro k hk
      have h1 := ih (k + 1) (by omega)
      have h2 : -1000000 ≤ aheadI D r k ∧ aheadI D r k ≤ 1500 := by
        unfold aheadI
        by_cases e : hwP D 1 k = true ∨ (hwP D 0 k = true ∧ k ≠ r ∧ ahD D k r = true)
        · rw [if_pos e]
          have ir : isR D k := by
            rcases e with e | e
            · exact hwP_is e (by omega)
            · exact hwP_is e.1 (by omega)
          have := leftI_rg O ir
          omega
        · rw [if_neg e]; decide
      rw [sF]
      omega
  have := key 18 3 (by decide)
  have h2 := leftI_rg O hr
  unfold upI
  split <;> omega
end
