/-! item, ofTill, between, bestWidth -/
def wItem (D : Dt) (t i : Nat) (w : Int) : Int := if w = 0 then gP D t i 0 else if w = 1 then gP D t i 1 else if w = 2 then gP D t i 2 else if w = 3 then gP D t i 0 * gP D t i 1 else if w = 4 then bI (gP D t i 3 = 1) else if w = 5 then itemI D t i else if w = 6 then gP D t i 4 else -2
def rItm (D : Dt) (t i w : Int) : Int := if 0 ≤ t ∧ t ≤ 2 ∧ 0 ≤ i ∧ i < gF D t.toNat 8 then wItem D t.toNat i.toNat w else -1
def wTil (D : Dt) (t : Nat) (w : Int) : Int := if w = 0 then gF D t 8 else if w = 1 then struckI D t else if w = 2 then totI D t else if w = 3 then lnI D t else if w = 4 then taxI D t 1 else if w = 5 then taxI D t 2 else -2
def rTil (D : Dt) (t w : Int) : Int := if 0 ≤ t ∧ t ≤ 2 then wTil D t.toNat w else -1
def btP (D : Dt) (x y : Int) (r : Nat) : Prop := 0 < gF D r 0 ∧ x ≤ gF D r 0 ∧ gF D r 0 ≤ y
/-- sum, how many, the greatest -/
def btL (D : Dt) (x y : Int) : Nat → Nat → Int → Int → Int → Int × Int × Int
  | _, 0, s, n, g => (s, n, g)
  | k, m + 1, s, n, g => if 0 < gF D k 0 ∧ x ≤ gF D k 0 ∧ gF D k 0 ≤ y then btL D x y (k + 1) m (s + totI D k) (n + 1) (if g < totI D k then totI D k else g) else btL D x y (k + 1) m s n g
def wBt (p : Int × Int × Int) (w : Int) : Int := if w = 0 then p.1 else if w = 1 then p.2.1 else p.2.2
def rBt (D : Dt) (x y w : Int) : Int := if y < x then -2 else if ¬ (0 ≤ w ∧ w ≤ 2) then -2 else wBt (btL D x y 3 18 0 0 (-6)) w
def rBw (D : Dt) (t w : Int) : Int := if ¬ (0 ≤ t ∧ t ≤ 2) then -1 else if ¬ (0 ≤ w ∧ w ≤ 1) then -2 else if w = 0 then (bwI D t.toNat).1 else (bwI D t.toNat).2
section
variable {c : Nat → Option Nat} {h : Hp} {a : Nat} {M : Nat → Nat → Int} {Z : Zt}
end
