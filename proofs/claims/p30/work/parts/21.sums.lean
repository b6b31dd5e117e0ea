/-! SUMS AND SEARCHES -/
def vl (D : Dt) (r i : Nat) : Int := if gP D r i 3 = 1 then 0 else gP D r i 0 * gP D r i 1
def nIt (D : Dt) (r : Nat) : Nat := (gF D r 8).toNat
def totI (D : Dt) (r : Nat) : Int := sF (vl D r) 0 (nIt D r)
def tv (D : Dt) (r : Nat) (t : Int) (i : Nat) : Int := if gP D r i 3 = 1 then 0 else if gP D r i 2 = t then gP D r i 0 * gP D r i 1 else 0
def sumT (D : Dt) (r : Nat) (t : Int) : Int := sF (tv D r t) 0 (nIt D r)
def rateI (t : Int) : Int := if t = 0 then 0 else if t = 1 then 7 else 19
def taxI (D : Dt) (r : Nat) (t : Int) : Int := (2 * sumT D r t * rateI t + 100 + rateI t) / (2 * (100 + rateI t))
def struckI (D : Dt) (r : Nat) : Int := sF (fun i => gP D r i 3) 0 (nIt D r)
def hwP (D : Dt) (w : Int) (r : Nat) : Bool := decide (0 < gF D r 0 ∧ gF D r 3 = w)
def manyI (D : Dt) (w : Int) : Int := sF (fun r => bI (hwP D w r = true)) 3 18
def recI (D : Dt) (z : Int) : Int := fF (fun r => decide (0 < z ∧ gF D r 0 = z)) 3 18
def prtI (D : Dt) : Int := fF (hwP D 1) 3 18
def ahD (D : Dt) (r o : Nat) : Bool := decide (gF D o 2 < gF D r 2 ∨ (gF D r 2 = gF D o 2 ∧ gF D r 0 < gF D o 0))
def rankI (D : Dt) (r : Nat) : Int := sF (fun o => bI (hwP D 0 o = true ∧ o ≠ r ∧ ahD D o r = true)) 3 18
def atI (D : Dt) (k : Int) : Int := fF (fun r => decide (hwP D 0 r = true ∧ rankI D r = k)) 3 18
/-- an item that is rung costs something -/
def Pos (D : Dt) : Prop := ∀ r, r < 21 → ∀ i, i < nIt D r → 1 ≤ gP D r i 0 ∧ 1 ≤ gP D r i 1
/-- what is compared is small -/
def RgF (D : Dt) : Prop := ∀ r, r < 21 → ∀ k, k < 8 → 0 ≤ gF D r k ∧ gF D r k < 1000000
def RgT (D : Dt) : Prop := 16 ≤ gT D 0 ∧ gT D 0 ≤ 40 ∧ 5 ≤ gT D 1 ∧ gT D 1 ≤ 200 ∧ 1 ≤ gT D 2 ∧ gT D 2 ≤ 9 ∧ 0 ≤ gT D 3 ∧ gT D 3 ≤ 9999 ∧ 0 ≤ gT D 4 ∧ gT D 4 < 1000000 ∧ 0 ≤ gT D 5 ∧ gT D 5 < 1000000 ∧ 0 ≤ gT D 7 ∧ gT D 7 ≤ 200
theorem vl_bd {D : Dt} {r i : Nat} (h : pRg (gP D r i)) : 0 ≤ vl D r i ∧ vl D r i ≤ 989901 := by
  unfold pRg at h
  have h1 : 0 ≤ gP D r i 0 * gP D r i 1 := Int.mul_nonneg h.1 h.2.2.1
  have h2 : gP D r i 0 * gP D r i 1 ≤ 99 * 9999 := Int.mul_le_mul h.2.1 h.2.2.2.1 h.2.2.1 (by decide)
  unfold vl; split <;> omega
theorem tv_bd {D : Dt} {r i : Nat} {t : Int} (h : pRg (gP D r i)) : 0 ≤ tv D r t i ∧ tv D r t i ≤ 989901 := by
  unfold pRg at h
  have h1 : 0 ≤ gP D r i 0 * gP D r i 1 := Int.mul_nonneg h.1 h.2.2.1
  have h2 : gP D r i 0 * gP D r i 1 ≤ 99 * 9999 := Int.mul_le_mul h.2.1 h.2.2.2.1 h.2.2.1 (by decide)
  unfold tv; split
  · omega
  · split <;> omega
theorem nIt_le {D : Dt} {r : Nat} (G : Rg1 D r) : nIt D r ≤ 12 ∧ ((nIt D r : Nat) : Int) = gF D r 8 := by
  have := G.1; unfold nIt; omega
theorem totI_bd {D : Dt} {r : Nat} (G : Rg1 D r) : 0 ≤ totI D r ∧ totI D r ≤ 11878812 := by
  have h1 := sF_bd (f := vl D r) (b := 989901) (nIt D r) 0 (fun i _ _ => vl_bd (G.2.1 i))
  have h2 := nIt_le G
  unfold totI; omega
theorem sumT_bd {D : Dt} {r : Nat} {t : Int} (G : Rg1 D r) : 0 ≤ sumT D r t ∧ sumT D r t ≤ 11878812 := by
  have h1 := sF_bd (f := tv D r t) (b := 989901) (nIt D r) 0 (fun i _ _ => tv_bd (G.2.1 i))
  have h2 := nIt_le G
  unfold sumT; omega
theorem rateI_c (t : Int) : rateI t = 0 ∨ rateI t = 7 ∨ rateI t = 19 := by
  unfold rateI; split
  · exact Or.inl rfl
  · split
    · exact Or.inr (Or.inl rfl)
    · exact Or.inr (Or.inr rfl)
theorem taxI_bd {D : Dt} {r : Nat} {t : Int} (G : Rg1 D r) : 0 ≤ taxI D r t ∧ taxI D r t ≤ 11878812 := by
  have h := sumT_bd (t := t) G
  unfold taxI
  rcases rateI_c t with e | e | e <;> rw [e] <;> omega
section
variable {c : Nat → Option Nat} {h : Hp} {a : Nat} {M : Nat → Nat → Int} {D : Dt} {r i k : Nat}
theorem iI_k1 (k : Nat) : iI ((k : Int) + 1) = iI ((k + 1 : Nat) : Int) := rfl
theorem rankI_bd (D : Dt) (r : Nat) : 0 ≤ rankI D r ∧ rankI D r ≤ 18 := by
  have := sF_bd (f := fun o => bI (hwP D 0 o = true ∧ o ≠ r ∧ ahD D o r = true)) (b := 1) 18 3 (fun i _ _ => by rcases bI_c (p := hwP D 0 i = true ∧ i ≠ r ∧ ahD D i r = true) with h | h <;> simp only [h] <;> decide)
  unfold rankI; omega
def wdI (D : Dt) (r : Nat) : Int := if r < 3 then gT D 0 else gF D r 4
end
