/-! undo, save, restore -/
def rUnd (Z : Zt) : Int := if zn Z = 0 then -5 else zn Z - 1
def zUnd (Z : Zt) : Zt := if zn Z = 0 then Z else (zH Z (zn Z - 1), zn Z - 1, Z.2.2)
def rSav (D : Dt) (x : Int) : Int := if 0 ≤ x ∧ x ≤ 1 then gT D 4 else -2
def zSav (Z : Zt) (x : Int) : Zt := if 0 ≤ x ∧ x ≤ 1 then (Z.1, Z.2.1, Z.2.2.1, (fun i => if i = x.toNat then true else zh Z i), (fun i => if i = x.toNat then zD Z else zS Z i), Z.2.2.2.2.2) else Z
def rRes (Z : Zt) (x : Int) : Int := if 0 ≤ x ∧ x ≤ 1 then (if zh Z x.toNat = true then gT (zS Z x.toNat) 4 else -5) else -2
def zRes (Z : Zt) (x : Int) : Zt := if 0 ≤ x ∧ x ≤ 1 then (if zh Z x.toNat = true then zDo Z (zS Z x.toNat) else Z) else Z
section
variable {c : Nat → Option Nat} {h : Hp} {a : Nat} {M : Nat → Nat → Int} {Z : Zt}
end
