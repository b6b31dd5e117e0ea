/-! ALL LINES OF A RECEIPT -/
def nEt (D : Dt) (r : Nat) : Nat := (gF D r 9).toNat
/-- events tell of items that are there -/
def EvOk (D : Dt) (r : Nat) : Prop := ∀ k, k < nEt D r → (gE D r k < 16 → gE D r k < gF D r 8) ∧ (16 ≤ gE D r k → gE D r k - 16 < gF D r 8)
def lEv1 (D : Dt) (r : Nat) (w width : Int) (k : Nat) (L : Ly) : Ly := if gE D r k < 16 then lItem w width (gP D r (gE D r k).toNat) (gN' D r (gE D r k).toNat) L else lTold w width [118, 111, 105, 100, 32] (gE D r k - 16) (-(gP D r (gE D r k - 16).toNat 0 * gP D r (gE D r k - 16).toNat 1)) L
def lEv (D : Dt) (r : Nat) (w width : Int) : Nat → Nat → Ly → Ly
  | _, 0, L => L
  | k, m + 1, L => lEv D r w width (k + 1) m (lEv1 D r w width k L)
def lHead (w num : Int) (L : Ly) : Ly := lNl (lNum w num 9 (lSay w L 35))
def lSum (w width v : Int) (L : Ly) : Ly := lNl (lMoney w width v (lSays w L [115, 117, 109]))
def lTax (D : Dt) (r : Nat) (w width t : Int) (L : Ly) : Ly := if 0 < sumT D r t then lTold w width [116, 97, 120, 32] (rateI t) (taxI D r t) L else L
def lTail (D : Dt) (r : Nat) (w width : Int) (L : Ly) : Ly := lTax D r w width 2 (lTax D r w width 1 (lSum w width (totI D r) L))
def lAll (D : Dt) (r : Nat) (num w width : Int) (b0 : Nat → Int) : Ly := lTail D r w width (lEv D r w width 0 (nEt D r) (lHead w num (0, 0, w, b0)))
theorem lEv1_st {D : Dt} {r k : Nat} {w width : Int} {L : Ly} (G : Rg1 D r) (wd0 : 16 ≤ width) (wd1 : width ≤ 40) (c0 : L.2.1 = 0) : L.1 + 1 ≤ (lEv1 D r w width k L).1 ∧ (lEv1 D r w width k L).1 ≤ L.1 + 62 ∧ (lEv1 D r w width k L).2.1 = 0 := by
  have g := G.2.2.2 k
  unfold lEv1
  split
  · exact lItem_st wd0 wd1 (G.2.1 _) c0
  · have b := sum_bd (G.2.1 (gE D r k - 16).toNat)
    have h := lTold_st (w := w) (width := width) (n := gE D r k - 16) (v := -(gP D r (gE D r k - 16).toNat 0 * gP D r (gE D r k - 16).toNat 1)) (s := [118, 111, 105, 100, 32]) (L := L) (by omega) (by omega) (by rw [aI_n b.1]; omega) wd0 wd1
    omega
theorem lEv_st {D : Dt} {r : Nat} {w width : Int} (G : Rg1 D r) (wd0 : 16 ≤ width) (wd1 : width ≤ 40) : ∀ (m k : Nat) (L : Ly), L.2.1 = 0 → L.1 ≤ (lEv D r w width k m L).1 ∧ (lEv D r w width k m L).1 ≤ L.1 + 62 * m ∧ (lEv D r w width k m L).2.1 = 0
  | 0, k, L, c0 => ⟨Int.le_refl _, by show L.1 ≤ L.1 + 62 * ((0 : Nat) : Int); omega, c0⟩
  | m + 1, k, L, c0 => by
    have h1 := lEv1_st (w := w) (k := k) G wd0 wd1 c0
    have h2 := lEv_st (w := w) G wd0 wd1 m (k + 1) (lEv1 D r w width k L) h1.2.2
    rw [lEv]
    omega
theorem lSum_st {w width v : Int} {L : Ly} (A1 : aI v < 12000000) (wd0 : 16 ≤ width) (wd1 : width ≤ 40) : (lSum w width v L).1 = L.1 + 1 ∧ (lSum w width v L).2.1 = 0 := by
  have h1 := lSays_st (w := w) [115, 117, 109] L
  have h3 := lMoney_st (w := w) (L := lSays w L [115, 117, 109]) A1 wd0 wd1
  have h4 := lNl_st (lMoney w width v (lSays w L [115, 117, 109]))
  unfold lSum
  omega
theorem lTax_st {D : Dt} {r : Nat} {w width t : Int} {L : Ly} (G : Rg1 D r) (wd0 : 16 ≤ width) (wd1 : width ≤ 40) (c0 : L.2.1 = 0) : L.1 ≤ (lTax D r w width t L).1 ∧ (lTax D r w width t L).1 ≤ L.1 + 1 ∧ (lTax D r w width t L).2.1 = 0 := by
  have b := taxI_bd (t := t) G
  have rb : 0 ≤ rateI t ∧ rateI t < 20 := by rcases rateI_c t with e | e | e <;> omega
  have h := lTold_st (w := w) (width := width) (n := rateI t) (v := taxI D r t) (s := [116, 97, 120, 32]) (L := L) (by omega) (by omega) (by rw [aI_p b.1]; omega) wd0 wd1
  unfold lTax
  split <;> omega
theorem lTail_st {D : Dt} {r : Nat} {w width : Int} {L : Ly} (G : Rg1 D r) (wd0 : 16 ≤ width) (wd1 : width ≤ 40) (c0 : L.2.1 = 0) : L.1 + 1 ≤ (lTail D r w width L).1 ∧ (lTail D r w width L).1 ≤ L.1 + 3 ∧ (lTail D r w width L).2.1 = 0 := by
  have b := totI_bd G
  have h1 := lSum_st (w := w) (L := L) (v := totI D r) (by rw [aI_p b.1]; omega) wd0 wd1
  have h2 := lTax_st (w := w) (t := 1) G wd0 wd1 h1.2
  have h3 := lTax_st (w := w) (t := 2) G wd0 wd1 h2.2.2
  unfold lTail
  omega
theorem lHead_st {w num : Int} {L : Ly} (n0 : 0 ≤ num) (n1 : num < 10000000) : (lHead w num L).1 = L.1 + 1 ∧ (lHead w num L).2.1 = 0 := by
  have h1 := lSay_st (w := w) L 35
  have h2 := lNum_st (w := w) n0 n1 (lSay w L 35)
  have h3 := lNl_st (lNum w num 9 (lSay w L 35))
  unfold lHead
  omega
theorem lAll_st {D : Dt} {r : Nat} {num w width : Int} {b0 : Nat → Int} (G : Rg1 D r) (n0 : 0 ≤ num) (n1 : num < 10000000) (wd0 : 16 ≤ width) (wd1 : width ≤ 40) : 2 ≤ (lAll D r num w width b0).1 ∧ (lAll D r num w width b0).1 ≤ 1500 := by
  have g := G.1
  have h1 := lHead_st (w := w) (L := (0, 0, w, b0)) n0 n1
  have h2 := lEv_st (w := w) G wd0 wd1 (nEt D r) 0 (lHead w num (0, 0, w, b0)) h1.2
  have h3 := lTail_st (w := w) G wd0 wd1 h2.2.2
  have e : ((nEt D r : Nat) : Int) ≤ 24 := by unfold nEt; omega
  have e2 : ((0, 0, w, b0) : Ly).1 = 0 := rfl
  unfold lAll
  omega
section
variable {c : Nat → Option Nat} {h : Hp} {a : Nat} {M : Nat → Nat → Int} {D : Dt} {r i k : Nat} {w : Int}
def numI (D : Dt) (r : Nat) : Int := if r < 3 then gT D 4 + 1 else gF D r 0
def row32 (b : Nat → Int) (k : Nat) : Nat → Int := fun j => if k ≤ j ∧ j < 40 then 32 else b j
end
