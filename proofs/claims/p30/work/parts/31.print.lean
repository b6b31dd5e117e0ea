/-! PRINTING -/
theorem lEv_congr {D D' : Dt} {r : Nat} {w width : Int} (hE : gE D' r = gE D r) (hP : gP D' r = gP D r) (hN : gN' D' r = gN' D r) : ∀ (m k : Nat) (L : Ly), lEv D' r w width k m L = lEv D r w width k m L
  | 0, _, _ => rfl
  | m + 1, k, L => by
    have e : lEv1 D' r w width k L = lEv1 D r w width k L := by unfold lEv1; rw [hE, hP, hN]
    rw [lEv, lEv, e]
    exact lEv_congr hE hP hN m (k + 1) _
theorem totI_congr {D D' : Dt} {r : Nat} (hP : gP D' r = gP D r) (h8 : gF D' r 8 = gF D r 8) : totI D' r = totI D r := by
  have e : vl D' r = vl D r := by funext i; unfold vl; rw [hP]
  unfold totI nIt; rw [e, h8]
theorem sumT_congr {D D' : Dt} {r : Nat} (t : Int) (hP : gP D' r = gP D r) (h8 : gF D' r 8 = gF D r 8) : sumT D' r t = sumT D r t := by
  have e : tv D' r t = tv D r t := by funext i; unfold tv; rw [hP]
  unfold sumT nIt; rw [e, h8]
theorem taxI_congr {D D' : Dt} {r : Nat} (t : Int) (hP : gP D' r = gP D r) (h8 : gF D' r 8 = gF D r 8) : taxI D' r t = taxI D r t := by
  unfold taxI; rw [sumT_congr t hP h8]
theorem lAll_congr {D D' : Dt} {r : Nat} {num w width : Int} {b : Nat → Int} (hE : gE D' r = gE D r) (hP : gP D' r = gP D r) (hN : gN' D' r = gN' D r) (h8 : gF D' r 8 = gF D r 8) (h9 : gF D' r 9 = gF D r 9) : lAll D' r num w width b = lAll D r num w width b := by
  have e1 : ∀ t L, lTax D' r w width t L = lTax D r w width t L := by
    intro t L; unfold lTax; rw [sumT_congr t hP h8, taxI_congr t hP h8]
  unfold lAll lTail nEt
  rw [e1, e1, totI_congr hP h8, lEv_congr hE hP hN, h9]
theorem lnI_congr {D D' : Dt} {r : Nat} (hE : gE D' r = gE D r) (hP : gP D' r = gP D r) (hN : gN' D' r = gN' D r) (h8 : gF D' r 8 = gF D r 8) (h9 : gF D' r 9 = gF D r 9) (hn : numI D' r = numI D r) (hw : wdI D' r = wdI D r) : lnI D' r = lnI D r := by
  unfold lnI cntI
  rw [hn, hw, lAll_congr hE hP hN h8 h9]
theorem gF_sFl (D : Dt) (r k q j : Nat) (v : Int) : gF (sFl D r k v) q j = if q = r ∧ j = k then v else gF D q j := by
  show (if q = r then st (D.2.1 q) k v else D.2.1 q) j = _
  by_cases e : q = r
  · rw [if_pos e]; unfold st
    by_cases e2 : j = k
    · rw [if_pos e2, if_pos ⟨e, e2⟩]
    · rw [if_neg e2, if_neg (fun h => e2 h.2)]; rfl
  · rw [if_neg e, if_neg (fun h => e h.1)]; rfl
theorem gT_sT (D : Dt) (k j : Nat) (v : Int) : gT (sT D k v) j = if j = k then v else gT D j := rfl
theorem gF_sT (D : Dt) (k : Nat) (v : Int) : gF (sT D k v) = gF D := rfl
theorem gT_sFl (D : Dt) (r k : Nat) (v : Int) : gT (sFl D r k v) = gT D := rfl
theorem lnI_F {D : Dt} {r k q : Nat} {v : Int} (h0 : k ≠ 0) (h4 : k ≠ 4) (h8 : k ≠ 8) (h9 : k ≠ 9) : lnI (sFl D r k v) q = lnI D q := by
  refine lnI_congr rfl rfl rfl ?_ ?_ ?_ ?_
  · rw [gF_sFl, if_neg (fun h => h8 h.2.symm)]
  · rw [gF_sFl, if_neg (fun h => h9 h.2.symm)]
  · have e : gF (sFl D r k v) q 0 = gF D q 0 := by rw [gF_sFl]; exact if_neg (fun h => h0 h.2.symm)
    unfold numI; rw [e]; rfl
  · have e : gF (sFl D r k v) q 4 = gF D q 4 := by rw [gF_sFl]; exact if_neg (fun h => h4 h.2.symm)
    unfold wdI; rw [e]; rfl
theorem lnI_T {D : Dt} {k q : Nat} {v : Int} (h0 : k ≠ 0) (h4 : k ≠ 4) : lnI (sT D k v) q = lnI D q := by
  refine lnI_congr rfl rfl rfl rfl rfl ?_ ?_
  · have e : gT (sT D k v) 4 = gT D 4 := by rw [gT_sT]; exact if_neg (fun h => h4 h.symm)
    unfold numI; rw [e]; rfl
  · have e : gT (sT D k v) 0 = gT D 0 := by rw [gT_sT]; exact if_neg (fun h => h0 h.symm)
    unfold wdI; rw [e]; rfl
theorem Ok1_F {D : Dt} {r k : Nat} {v : Int} (O : Ok1 D) (h0 : k ≠ 0) (h4 : k ≠ 4) (h8 : k < 8) (v0 : 0 ≤ v) (v1 : v < 1000000) : Ok1 (sFl D r k v) := by
  obtain ⟨a1, a2, a3, a4, a5, a6⟩ := O
  have e8 : ∀ q, gF (sFl D r k v) q 8 = gF D q 8 := fun q => by rw [gF_sFl, if_neg (by omega)]
  have e9 : ∀ q, gF (sFl D r k v) q 9 = gF D q 9 := fun q => by rw [gF_sFl, if_neg (by omega)]
  refine ⟨fun q hq => ⟨?_, (a1 q hq).2⟩, fun q hq i hi => ?_, fun q hq j hj => ?_, a4, fun q hq j hj => ?_, fun q h3 hq hn => ?_⟩
  · rw [e8, e9]; exact (a1 q hq).1
  · refine a2 q hq i ?_
    unfold nIt at hi ⊢; rw [e8] at hi; exact hi
  · rw [gF_sFl]
    split
    · exact ⟨v0, v1⟩
    · exact a3 q hq j hj
  · have := a5 q hq j (by unfold nEt at hj ⊢; rw [e9] at hj; exact hj)
    rw [e8]; exact this
  · rw [gF_sFl, if_neg (by omega)]
    rw [gF_sFl, if_neg (by omega)] at hn
    exact a6 q h3 hq hn
theorem Ok1_T {D : Dt} {k : Nat} {v : Int} (O : Ok1 D) (h : RgT (sT D k v)) : Ok1 (sT D k v) := ⟨O.1, O.2.1, O.2.2.1, h, O.2.2.2.2.1, O.2.2.2.2.2⟩
theorem RgT_k {D : Dt} {k : Nat} {v : Int} (h : RgT D) (hk : 5 < k) (h7 : k = 7 → 0 ≤ v ∧ v ≤ 200) : RgT (sT D k v) := by
  unfold RgT at h ⊢
  simp only [gT_sT]
  rw [if_neg (by omega), if_neg (by omega), if_neg (by omega), if_neg (by omega), if_neg (by omega), if_neg (by omega)]
  by_cases e : 7 = k
  · rw [if_pos e]; have := h7 e.symm; omega
  · rw [if_neg e]; omega
def takI (D : Dt) : Int := if prtI D = -6 then atI D 0 else prtI D
def takD (D : Dt) : Dt := if prtI D = -6 then (if atI D 0 = -6 then D else sFl D (atI D 0).toNat 3 1) else D
def lnD (D : Dt) (r : Nat) : Dt := sT (sT (sFl D r 5 (gF D r 5 + 1)) 7 (gT D 7 - 1)) 8 (gT D 8 + 1)
def plB (D : Dt) : Prop := ¬ (takI D = -6 ∨ gT D 7 = 0)
def plD (D : Dt) : Dt := if takI D = -6 ∨ gT D 7 = 0 then takD D else (if gF D (takI D).toNat 5 + 1 = lnI D (takI D).toNat then endD (lnD (takD D) (takI D).toNat) (takI D).toNat else lnD (takD D) (takI D).toNat)
theorem prtI_c (D : Dt) : prtI D = -6 ∨ ∃ r : Nat, prtI D = r ∧ 3 ≤ r ∧ r < 21 ∧ hwP D 1 r = true := by
  by_cases e : prtI D = -6
  · exact Or.inl e
  · exact Or.inr (fF_some 18 3 e)
theorem atI_c (D : Dt) (z : Int) : atI D z = -6 ∨ ∃ r : Nat, atI D z = r ∧ 3 ≤ r ∧ r < 21 ∧ hwP D 0 r = true ∧ rankI D r = z := by
  by_cases e : atI D z = -6
  · exact Or.inl e
  · obtain ⟨i, h1, h2, h3, h4⟩ := fF_some 18 3 e
    exact Or.inr ⟨i, h1, h2, h3, of_decide_eq_true h4⟩
/-- what printing a line needs -/
def OkM (D : Dt) : Prop := Ok1 D ∧ ∀ r, r < 21 → gF D r 5 < 900000
section
variable {c : Nat → Option Nat} {h : Hp} {a : Nat} {M : Nat → Nat → Int} {D : Dt} {r i k : Nat}
theorem m_sT {k : Nat} {v : Int} (R : MS (M 1) D) (hk : k < 12) : eqS M (mset M 1 k v) ∧ MS (mset M 1 k v 1) (sT D k v) := ⟨eqS.put M k v, by rw [mset_1]; exact MS_T R hk⟩
end
