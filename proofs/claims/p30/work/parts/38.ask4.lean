/-! ofReceipt, count, sign, undo, save, restore -/
def wRcp (D : Dt) (r : Nat) (w : Int) : Int := if w = 0 then gF D r 3 else if w = 1 then gF D r 1 else if w = 2 then gF D r 2 else if w = 3 then gF D r 8 else if w = 4 then struckI D r else if w = 5 then totI D r else if w = 6 then lnI D r else if w = 7 then gF D r 5 else if w = 8 then gF D r 4 else if w = 9 then (if gF D r 3 = 2 then gF D r 6 else -6) else -2
def rRcp (D : Dt) (x w : Int) : Int := if recI D x = -6 then -1 else wRcp D (recI D x).toNat w
def rCnt (Z : Zt) (w : Int) : Int := if w = 0 then gT (zD Z) 3 else if w = 1 then gT (zD Z) 4 else if w = 2 then manyI (zD Z) 0 else if w = 3 then gT (zD Z) 5 else if w = 4 then gT (zD Z) 6 else if w = 5 then gT (zD Z) 0 else if w = 6 then gT (zD Z) 1 else if w = 7 then gT (zD Z) 2 else if w = 8 then zl Z else if w = 9 then zn Z else -2
/-- the record that a call of sign names -/
def sgR (D : Dt) (x : Int) : Int := if -2 ≤ x ∧ x ≤ 0 then -x else recI D x
def rSgn (D : Dt) (x l k : Int) : Int := if sgR D x = -6 then -1 else if l < 0 then -1 else if l < lnI D (sgR D x).toNat then (if 0 ≤ k ∧ k ≤ wdI D (sgR D x).toNat - 1 then sgnI D (sgR D x).toNat (numI D (sgR D x).toNat) l (wdI D (sgR D x).toNat) k.toNat else -2) else -1
section
variable {c : Nat → Option Nat} {h : Hp} {a : Nat} {M : Nat → Nat → Int} {Z : Zt}
end
