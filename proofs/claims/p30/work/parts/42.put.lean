/-! put -/
/-- the k-th byte -/
def byP (u k : Nat) : Nat := u / 2 ^ (8 * k) % 256
/-- how many bytes ahead of the first that is 0, and whether all are signs -/
def pcL (u : Nat) : Nat → Nat → Bool → Nat × Bool
  | k, 0, ok => (k, ok)
  | k, m + 1, ok => if byP u k = 0 then (k, ok) else pcL u (k + 1) m (ok && decide (33 ≤ byP u k ∧ byP u k ≤ 126))
def pcI (u : Nat) : Nat × Bool := pcL u 0 8 true
def noPut (u : Nat) : Prop := (pcI u).1 = 0 ∨ (pcI u).2 ≠ true ∨ u / 2 ^ (8 * (pcI u).1) ≠ 0
def rPut (Z : Zt) (u : Nat) : Int := if (pcI u).1 = 0 ∨ (pcI u).2 ≠ true ∨ u / 2 ^ (8 * (pcI u).1) ≠ 0 then -2 else if 80 < zl Z + (pcI u).1 then -4 else (zl Z : Int) + (pcI u).1
def putP (Z : Zt) (u n : Nat) : Nat → Int := fun j => if zl Z + 0 ≤ j ∧ j < zl Z + n then (byP u (n - 1 - (j - zl Z)) : Int) else zp Z j
def zPut (Z : Zt) (u : Nat) : Zt := if (pcI u).1 = 0 ∨ (pcI u).2 ≠ true ∨ u / 2 ^ (8 * (pcI u).1) ≠ 0 then Z else if 80 < zl Z + (pcI u).1 then Z else zPad Z (zl Z + (pcI u).1) (putP Z u (pcI u).1)
theorem pcL_le {u : Nat} : ∀ (m k : Nat) (ok : Bool), k ≤ (pcL u k m ok).1 ∧ (pcL u k m ok).1 ≤ k + m
  | 0, k, ok => ⟨Nat.le_refl k, Nat.le_refl k⟩
  | m + 1, k, ok => by
    rw [pcL]
    split
    · exact ⟨Nat.le_refl k, by show k ≤ k + (m + 1); omega⟩
    · have := pcL_le (u := u) m (k + 1) (ok && decide (33 ≤ byP u k ∧ byP u k ≤ 126))
      omega
section
variable {c : Nat → Option Nat} {h : Hp} {a : Nat} {M : Nat → Nat → Int} {Z : Zt}
end
