/-! hurry, tear, strike, close -/
theorem recI_c (D : Dt) (z : Int) : recI D z = -6 ∨ ∃ r : Nat, recI D z = r ∧ 3 ≤ r ∧ r < 21 ∧ 0 < z ∧ gF D r 0 = z := by
  by_cases e : recI D z = -6
  · exact Or.inl e
  · obtain ⟨i, h1, h2, h3, h4⟩ := fF_some 18 3 e
    have := of_decide_eq_true h4
    exact Or.inr ⟨i, h1, h2, h3, this.1, this.2⟩
def rHur (D : Dt) (x y : Int) : Int := if recI D x = -6 then -1 else if ¬ (0 ≤ y ∧ y ≤ 3) then -2 else if gF D (recI D x).toNat 3 = 0 then gF D (recI D x).toNat 2 else -5
def zHur (Z : Zt) (x y : Int) : Zt := if recI (zD Z) x = -6 then Z else if ¬ (0 ≤ y ∧ y ≤ 3) then Z else if gF (zD Z) (recI (zD Z) x).toNat 3 = 0 then zDo Z (sFl (zD Z) (recI (zD Z) x).toNat 2 y) else Z
def rTear (D : Dt) (x : Int) : Int := if ¬ (1 ≤ x ∧ x ≤ 99) then -2 else if prtI D = -6 then -5 else if gF D (prtI D).toNat 5 < x then -5 else gF D (prtI D).toNat 5 - begI D (prtI D).toNat (numI D (prtI D).toNat) (gF D (prtI D).toNat 5 - x) (wdI D (prtI D).toNat)
def tearD (D : Dt) (x : Int) : Dt := sT (sFl D (prtI D).toNat 5 (begI D (prtI D).toNat (numI D (prtI D).toNat) (gF D (prtI D).toNat 5 - x) (wdI D (prtI D).toNat))) 9 (gT D 9 + (gF D (prtI D).toNat 5 - begI D (prtI D).toNat (numI D (prtI D).toNat) (gF D (prtI D).toNat 5 - x) (wdI D (prtI D).toNat)))
def zTear (Z : Zt) (x : Int) : Zt := if ¬ (1 ≤ x ∧ x ≤ 99) then Z else if prtI (zD Z) = -6 then Z else if gF (zD Z) (prtI (zD Z)).toNat 5 < x then Z else zDo Z (tearD (zD Z) x)
def itOk (D : Dt) (t i : Int) : Prop := 0 ≤ t ∧ t ≤ 2 ∧ 0 ≤ i ∧ i < gF D t.toNat 8
def rStr (D : Dt) (t i : Int) : Int := if 0 ≤ t ∧ t ≤ 2 ∧ 0 ≤ i ∧ i < gF D t.toNat 8 then (if gP D t.toNat i.toNat 3 = 1 then -5 else gP D t.toNat i.toNat 0 * gP D t.toNat i.toNat 1) else -1
def strD (D : Dt) (t i : Int) : Dt := sT (hapD (sP D t.toNat i.toNat (st (gP D t.toNat i.toNat) 3 1)) t.toNat (i + 16)) 6 (gT D 6 + 1)
def zStr (Z : Zt) (t i : Int) : Zt := if 0 ≤ t ∧ t ≤ 2 ∧ 0 ≤ i ∧ i < gF (zD Z) t.toNat 8 then (if gP (zD Z) t.toNat i.toNat 3 = 1 then Z else zDo Z (strD (zD Z) t i)) else Z
section
variable {c : Nat → Option Nat} {h : Hp} {a : Nat} {M : Nat → Nat → Int} {Z : Zt}
theorem pk_st3 {p : Nat → Int} (h : pRg p) (h3 : p 3 = 0) : iI (pkI p) ||| iI 8388608 = iI (pkI (st p 3 1)) := by
  unfold pRg at h
  have := or_i (s := 23) (t := 1) (hi := p 4) (lo := p 0 + 128 * p 1 + 2097152 * p 2) (v := 1) (by omega) (by omega) (by decide) (by omega) (by decide) (by omega) (by decide)
  have e0 : st p 3 1 0 = p 0 := rfl
  have e1 : st p 3 1 1 = p 1 := rfl
  have e2 : st p 3 1 2 = p 2 := rfl
  have e3 : st p 3 1 3 = 1 := rfl
  have e4 : st p 3 1 4 = p 4 := rfl
  refine Eq.trans (congr (congrArg HOr.hOr (congrArg iI ?_)) (congrArg iI ?_)) (this.trans (congrArg iI ?_))
  · unfold pkI; omega
  · decide
  · unfold pkI; omega
theorem Rg1_P {D : Dt} {r i : Nat} {p : Nat → Int} (G : Rg1 D r) (hp : pRg p) : Rg1 (sP D r i p) r := by
  refine ⟨G.1, fun j => ?_, G.2.2⟩
  show pRg (if r = r ∧ j = i then p else D.2.2.1 r j)
  split
  · exact hp
  · exact G.2.1 j
theorem Rg1_hap {D : Dt} {r : Nat} {v : Int} (G : Rg1 D r) (h9 : gF D r 9 < 24) (v0 : 0 ≤ v) (v1 : v < 32) : Rg1 (hapD D r v) r := by
  have g := G.1
  refine ⟨?_, G.2.1, G.2.2.1, fun k => ?_⟩
  · unfold hapD
    rw [gF_sFl, gF_sFl, if_neg (by omega), if_pos ⟨rfl, rfl⟩]
    show 0 ≤ gF D r 8 ∧ gF D r 8 ≤ 12 ∧ 0 ≤ gF D r 9 + 1 ∧ gF D r 9 + 1 ≤ 24
    omega
  · show 0 ≤ (if r = r then st (gE D r) (gF D r 9).toNat v else gE D r) k ∧ (if r = r then st (gE D r) (gF D r 9).toNat v else gE D r) k < 32
    rw [if_pos rfl]
    unfold st
    split
    · exact ⟨v0, v1⟩
    · exact G.2.2.2 k
end
