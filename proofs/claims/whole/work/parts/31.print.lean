/-! PRINTING -/
theorem lEv_congr {D D' : Dt} {r : Nat} {w width : Int} (hE : gE D' r = gE D r) (hP : gP D' r = gP D r) (hN : gN' D' r = gN' D r) : ∀ (m k : Nat) (L : Ly), lEv D' r w width k m L = lEv D r w width k m L
  | 0, _, _ => rfl
  | m + 1, k, L => by
    have e : lEv1 D' r w width k L = lEv1 D r w width k L := by unfold lEv1; rw [hE, hP, hN]
    rw [lEv, lEv, e]
    exact lEv_congr hE hP hN m (k + 1) _
theorem totI_congr {D D' : Dt} {r : Nat} (hP : gP D' r = gP D r) (h8 : gF D' r 8 = gF D r 8) : totI D' r = totI D r := by
  have e : vl D' r = vl D r := by funext i; unfold vl; rw [hP]
  unfold totI nIt; rw [e, h8]
theorem sumT_congr {D D' : Dt} {r : Nat} (t : Int) (hP : gP D' r = gP D r) (h8 : gF D' r 8 = gF D r 8) : sumT D' r t = sumT D r t := by
  have e : tv D' r t = tv D r t := by funext i; unfold tv; rw [hP]
  unfold sumT nIt; rw [e, h8]
theorem taxI_congr {D D' : Dt} {r : Nat} (t : Int) (hP : gP D' r = gP D r) (h8 : gF D' r 8 = gF D r 8) : taxI D' r t = taxI D r t := by
  unfold taxI; rw [sumT_congr t hP h8]
theorem lAll_congr {D D' : Dt} {r : Nat} {num w width : Int} {b : Nat → Int} (hE : gE D' r = gE D r) (hP : gP D' r = gP D r) (hN : gN' D' r = gN' D r) (h8 : gF D' r 8 = gF D r 8) (h9 : gF D' r 9 = gF D r 9) : lAll D' r num w width b = lAll D r num w width b := by
  have e1 : ∀ t L, lTax D' r w width t L = lTax D r w width t L := by
    intro t L; unfold lTax; rw [sumT_congr t hP h8, taxI_congr t hP h8]
  unfold lAll lTail nEt
  rw [e1, e1, totI_congr hP h8, lEv_congr hE hP hN, h9]
theorem lnI_congr {D D' : Dt} {r : Nat} (hE : gE D' r = gE D r) (hP : gP D' r = gP D r) (hN : gN' D' r = gN' D r) (h8 : gF D' r 8 = gF D r 8) (h9 : gF D' r 9 = gF D r 9) (hn : numI D' r = numI D r) (hw : wdI D' r = wdI D r) : lnI D' r = lnI D r := by
  unfold lnI cntI
  rw [hn, hw, lAll_congr hE hP hN h8 h9]
theorem gF_sFl (D : Dt) (r k q j : Nat) (v : Int) : gF (sFl D r k v) q j = if q = r ∧ j = k then v else gF D q j := by
  show (if q = r then st (D.2.1 q) k v else D.2.1 q) j = _
  by_cases e : q = r
  · rw [if_pos e]; unfold st
    by_cases e2 : j = k
    · rw [if_pos e2, if_pos ⟨e, e2⟩]
    · rw [if_neg e2, if_neg (fun h => e2 h.2)]; rfl
  · rw [if_neg e, if_neg (fun h => e h.1)]; rfl
theorem gT_sT (D : Dt) (k j : Nat) (v : Int) : gT (sT D k v) j = if j = k then v else gT D j := rfl
theorem gF_sT (D : Dt) (k : Nat) (v : Int) : gF (sT D k v) = gF D := rfl
theorem gT_sFl (D : Dt) (r k : Nat) (v : Int) : gT (sFl D r k v) = gT D := rfl
theorem lnI_F {D : Dt} {r k q : Nat} {v : Int} (h0 : k ≠ 0) (h4 : k ≠ 4) (h8 : k ≠ 8) (h9 : k ≠ 9) : lnI (sFl D r k v) q = lnI D q := by
  refine lnI_congr rfl rfl rfl ?_ ?_ ?_ ?_
  · rw [gF_sFl, if_neg (fun h => h8 h.2.symm)]
  · rw [gF_sFl, if_neg (fun h => h9 h.2.symm)]
  · have e : gF (sFl D r k v) q 0 = gF D q 0 := by rw [gF_sFl]; exact if_neg (fun h => h0 h.2.symm)
    unfold numI; rw [e]; rfl
  · have e : gF (sFl D r k v) q 4 = gF D q 4 := by rw [gF_sFl]; exact if_neg (fun h => h4 h.2.symm)
    unfold wdI; rw [e]; rfl
theorem lnI_T {D : Dt} {k q : Nat} {v : Int} (h0 : k ≠ 0) (h4 : k ≠ 4) : lnI (sT D k v) q = lnI D q := by
  refine lnI_congr rfl rfl rfl rfl rfl ?_ ?_
  · have e : gT (sT D k v) 4 = gT D 4 := by rw [gT_sT]; exact if_neg (fun h => h4 h.symm)
    unfold numI; rw [e]; rfl
  · have e : gT (sT D k v) 0 = gT D 0 := by rw [gT_sT]; exact if_neg (fun h => h0 h.symm)
    unfold wdI; rw [e]; rfl
theorem Ok1_F {D : Dt} {r k : Nat} {v : Int} (O : Ok1 D) (h0 : k ≠ 0) (h4 : k ≠ 4) (h8 : k < 8) (v0 : 0 ≤ v) (v1 : v < 1000000) : Ok1 (sFl D r k v) := by
  obtain ⟨a1, a2, a3, a4, a5, a6⟩ := O
  have e8 : ∀ q, gF (sFl D r k v) q 8 = gF D q 8 := fun q => by rw [gF_sFl, if_neg (by omega)]
  have e9 : ∀ q, gF (sFl D r k v) q 9 = gF D q 9 := fun q => by rw [gF_sFl, if_neg (by omega)]
  refine ⟨fun q hq => ⟨?_, (a1 q hq).2⟩, fun q hq i hi => ?_, fun q hq j hj => ?_, a4, fun q hq j hj => ?_, fun q h3 hq hn => ?_⟩
  · rw [e8, e9]; exact (a1 q hq).1
  · refine a2 q hq i ?_
    unfold nIt at hi ⊢; rw [e8] at hi; exact hi
  · rw [gF_sFl]
    split
    · exact ⟨v0, v1⟩
    · exact a3 q hq j hj
  · have := a5 q hq j (by unfold nEt at hj ⊢; rw [e9] at hj; exact hj)
    rw [e8]; exact this
  · rw [gF_sFl, if_neg (by omega)]
    rw [gF_sFl, if_neg (by omega)] at hn
    exact a6 q h3 hq hn
theorem Ok1_T {D : Dt} {k : Nat} {v : Int} (O : Ok1 D) (h : RgT (sT D k v)) : Ok1 (sT D k v) := ⟨O.1, O.2.1, O.2.2.1, h, O.2.2.2.2.1, O.2.2.2.2.2⟩
theorem RgT_k {D : Dt} {k : Nat} {v : Int} (h : RgT D) (hk : 5 < k) (h7 : k = 7 → 0 ≤ v ∧ v ≤ 200) : RgT (sT D k v) := by
  unfold RgT at h ⊢
  simp only [gT_sT]
  rw [if_neg (by omega), if_neg (by omega), if_neg (by omega), if_neg (by omega), if_neg (by omega), if_neg (by omega)]
  by_cases e : 7 = k
  · rw [if_pos e]; have := h7 e.symm; omega
  · rw [if_neg e]; omega
def takI (D : Dt) : Int := if prtI D = -6 then atI D 0 else prtI D
def takD (D : Dt) : Dt := if prtI D = -6 then (if atI D 0 = -6 then D else sFl D (atI D 0).toNat 3 1) else D
def lnD (D : Dt) (r : Nat) : Dt := sT (sT (sFl D r 5 (gF D r 5 + 1)) 7 (gT D 7 - 1)) 8 (gT D 8 + 1)
def plB (D : Dt) : Prop := ¬ (takI D = -6 ∨ gT D 7 = 0)
def plD (D : Dt) : Dt := if takI D = -6 ∨ gT D 7 = 0 then takD D else (if gF D (takI D).toNat 5 + 1 = lnI D (takI D).toNat then endD (lnD (takD D) (takI D).toNat) (takI D).toNat else lnD (takD D) (takI D).toNat)
theorem prtI_c (D : Dt) : prtI D = -6 ∨ ∃ r : Nat, prtI D = r ∧ 3 ≤ r ∧ r < 21 ∧ hwP D 1 r = true := by
  by_cases e : prtI D = -6
  · exact Or.inl e
  · exact Or.inr (fF_some 18 3 e)
theorem atI_c (D : Dt) (z : Int) : atI D z = -6 ∨ ∃ r : Nat, atI D z = r ∧ 3 ≤ r ∧ r < 21 ∧ hwP D 0 r = true ∧ rankI D r = z := by
  by_cases e : atI D z = -6
  · exact Or.inl e
  · obtain ⟨i, h1, h2, h3, h4⟩ := fF_some 18 3 e
    exact Or.inr ⟨i, h1, h2, h3, of_decide_eq_true h4⟩
/-- what printing a line needs -/
def OkM (D : Dt) : Prop := Ok1 D ∧ ∀ r, r < 21 → gF D r 5 < 900000
section
variable {c : Nat → Option Nat} {h : Hp} {a : Nat} {M : Nat → Nat → Int} {D : Dt} {r i k : Nat}
theorem m_sT {k : Nat} {v : Int} (R : MS (M 1) D) (hk : k < 12) : eqS M (mset M 1 k v) ∧ MS (mset M 1 k v 1) (sT D k v) := ⟨eqS.put M k v, by rw [mset_1]; exact MS_T R hk⟩
theorem m_ends (O : Ok1 D) (h5 : gT D 5 < 900000) (R : MS (M 1) D) (hr : r < 21) : ∃ M', fX6_ends c (hM h a M) (some a) (iI r) = some (hM h a M', none) ∧ eqS M M' ∧ MS (M' 1) (endD D r) := by
  have T := O.2.2.2.1
  unfold RgT at T
  have a1 := m_sT (v := gT D 5 + 1) R (show 5 < 12 by decide)
  obtain ⟨M2, e2, q2, R2⟩ := m_layF (c := c) (h := h) (a := a) a1.2 hr (w := 3) (v := 2) (by decide) (by decide)
  obtain ⟨M3, e3, q3, R3⟩ := m_layF (c := c) (h := h) (a := a) R2 hr (w := 6) (v := gT D 3) (by decide) (by decide)
  obtain ⟨M4, e4, q4, R4⟩ := m_layF (c := c) (h := h) (a := a) R3 hr (w := 7) (v := gT D 5 + 1) (by decide) (by decide)
  have GF : RgF (sFl (sFl (sFl (sT D 5 (gT D 5 + 1)) r 3 2) r 6 (gT D 3)) r 7 (gT D 5 + 1)) := by
    intro q hq j hj
    rw [gF_sFl]
    split
    · omega
    · rw [gF_sFl]
      split
      · omega
      · rw [gF_sFl]
        split
        · omega
        · exact O.2.2.1 q hq j hj
  obtain ⟨M5, e5, q5, R5⟩ := m_forgets (c := c) (h := h) (a := a) GF R4
  refine ⟨M5, ?_, a1.1.tr (q2.tr (q3.tr (q4.tr q5))), R5⟩
  have b5 : M2 1 3 = gT D 3 := R2.1 3 (by decide)
  have b6 : M3 1 5 = gT D 5 + 1 := R3.1 5 (by decide)
  unfold fX6_ends
  simp (maxSteps := 1000000) (disch := omega) only [cc_s, kI_i, kV_n, kR_r, ck_M, rdI_M3, rdI_M7, rdI_M9, rdI_M10, rdI_M11, rdI_M12, rdI_M14, rdR_M1, rdR_M2, rdR_M4, rdR_M5, rdR_M6, rdR_M8, rdR_M13, wr_M0, wr_M3, wr_M7, wr_M9, wr_M10, wr_M11, wr_M12, wr_M14, ald_M1, ald_M2, ald_M3, ald_M5, ald_M6, ald_M7, ast_M1, ast_M2, ast_M3, ast_M5, ast_M6, ast_M7, iI_l, iI_add, iI_sub, iI_mul, iI_neg, dv_i, Int.reduceToNat, R.1 5]
  rw [e2]
  simp (maxSteps := 1000000) (disch := omega) only [cc_s, kI_i, kV_n, kR_r, ck_M, rdI_M3, rdI_M7, rdI_M9, rdI_M10, rdI_M11, rdI_M12, rdI_M14, rdR_M1, rdR_M2, rdR_M4, rdR_M5, rdR_M6, rdR_M8, rdR_M13, wr_M0, wr_M3, wr_M7, wr_M9, wr_M10, wr_M11, wr_M12, wr_M14, ald_M1, ald_M2, ald_M3, ald_M5, ald_M6, ald_M7, ast_M1, ast_M2, ast_M3, ast_M5, ast_M6, ast_M7, iI_l, iI_add, iI_sub, iI_mul, iI_neg, dv_i, Int.reduceToNat, b5]
  rw [e3]
  simp (maxSteps := 1000000) (disch := omega) only [cc_s, kI_i, kV_n, kR_r, ck_M, rdI_M3, rdI_M7, rdI_M9, rdI_M10, rdI_M11, rdI_M12, rdI_M14, rdR_M1, rdR_M2, rdR_M4, rdR_M5, rdR_M6, rdR_M8, rdR_M13, wr_M0, wr_M3, wr_M7, wr_M9, wr_M10, wr_M11, wr_M12, wr_M14, ald_M1, ald_M2, ald_M3, ald_M5, ald_M6, ald_M7, ast_M1, ast_M2, ast_M3, ast_M5, ast_M6, ast_M7, iI_l, iI_add, iI_sub, iI_mul, iI_neg, dv_i, Int.reduceToNat, b6]
  rw [e4]
  simp (maxSteps := 1000000) (disch := omega) only [cc_s, kI_i, kV_n, kR_r, ck_M, rdI_M3, rdI_M7, rdI_M9, rdI_M10, rdI_M11, rdI_M12, rdI_M14, rdR_M1, rdR_M2, rdR_M4, rdR_M5, rdR_M6, rdR_M8, rdR_M13, wr_M0, wr_M3, wr_M7, wr_M9, wr_M10, wr_M11, wr_M12, wr_M14, ald_M1, ald_M2, ald_M3, ald_M5, ald_M6, ald_M7, ast_M1, ast_M2, ast_M3, ast_M5, ast_M6, ast_M7, iI_l, iI_add, iI_sub, iI_mul, iI_neg, dv_i, Int.reduceToNat]
  rw [e5]
  simp (maxSteps := 1000000) (disch := omega) only [cc_s, kI_i, kV_n, kR_r, ck_M, rdI_M3, rdI_M7, rdI_M9, rdI_M10, rdI_M11, rdI_M12, rdI_M14, rdR_M1, rdR_M2, rdR_M4, rdR_M5, rdR_M6, rdR_M8, rdR_M13, wr_M0, wr_M3, wr_M7, wr_M9, wr_M10, wr_M11, wr_M12, wr_M14, ald_M1, ald_M2, ald_M3, ald_M5, ald_M6, ald_M7, ast_M1, ast_M2, ast_M3, ast_M5, ast_M6, ast_M7, iI_l, iI_add, iI_sub, iI_mul, iI_neg, dv_i, Int.reduceToNat]
theorem m_printsLine (O : OkM D) (h5 : gT D 5 < 900000) (R : MS (M 1) D) : ∃ M', fX6_printsLine c (hM h a M) (some a) = some (hM h a M', some (.inl (iI (if takI D = -6 ∨ gT D 7 = 0 then 0 else 1)))) ∧ eqS M M' ∧ MS (M' 1) (plD D) := by
  have GF := O.1.2.2.1
  have T := O.1.2.2.2.1
  -- once it is taken
  have go : ∀ (M : Nat → Nat → Int) (r : Nat), MS (M 1) (takD D) → Ok1 (takD D) → takI D = r → isR D r → gT (takD D) = gT D → gF (takD D) r 5 = gF D r 5 → (∀ q, lnI (takD D) q = lnI D q) → isR (takD D) r → ∃ M', fX6_printsLine_30 c (hM h a M) (some a) (iI r) = some (hM h a M', some (.inl (iI (if takI D = -6 ∨ gT D 7 = 0 then 0 else 1)))) ∧ eqS M M' ∧ MS (M' 1) (plD D) := by
    intro M r R O2 et ir eT e5 el ir2
    have hr := ir.1
    have T2 := O2.2.2.2.1
    have g5 := GF r hr 5 (by decide)
    have g5' := O.2 r hr
    unfold RgT at T
    unfold fX6_printsLine_30 fX6_printsLine_46 fX6_printsLine_103
    simp (maxSteps := 1000000) (disch := omega) only [cc_s, kI_i, kV_n, kR_r, ck_M, rdI_M3, rdI_M7, rdI_M9, rdI_M10, rdI_M11, rdI_M12, rdI_M14, rdR_M1, rdR_M2, rdR_M4, rdR_M5, rdR_M6, rdR_M8, rdR_M13, wr_M0, wr_M3, wr_M7, wr_M9, wr_M10, wr_M11, wr_M12, wr_M14, ald_M1, ald_M2, ald_M3, ald_M5, ald_M6, ald_M7, ast_M1, ast_M2, ast_M3, ast_M5, ast_M6, ast_M7, iI_l, iI_add, iI_sub, iI_mul, iI_neg, dv_i, Int.reduceToNat, eq_i, R.1 7, eT]
    rw [if_neg (by omega)]
    by_cases e7 : gT D 7 = 0
    · refine ⟨M, ?_, eqS.rf M, ?_⟩
      · rw [if_pos e7, if_pos (Or.inr e7), rt_0]
      · unfold plD; rw [if_pos (Or.inr e7)]; exact R
    · have n7 : ¬ (takI D = -6 ∨ gT D 7 = 0) := by
        rintro (h | h)
        · omega
        · exact e7 h
      obtain ⟨M1, e1, q1, R1⟩ := m_layF (c := c) (h := h) (a := a) R hr (w := 5) (v := gF D r 5 + 1) (by decide) (by decide)
      have a2 := m_sT (v := gT D 7 - 1) R1 (show 7 < 12 by decide)
      have a3 := m_sT (v := gT D 8 + 1) a2.2 (show 8 < 12 by decide)
      have ed : sT (sT (sFl (takD D) r (5 : Int).toNat (gF D r 5 + 1)) 7 (gT D 7 - 1)) 8 (gT D 8 + 1) = lnD (takD D) r := by
        unfold lnD; rw [e5, eT]; rfl
      rw [ed] at a3
      have O3 : Ok1 (lnD (takD D) r) := by
        unfold lnD
        rw [e5, eT]
        refine Ok1_T (Ok1_T (Ok1_F O2 (by decide) (by decide) (by decide) (by omega) (by omega)) (RgT_k T2 (by decide) (fun _ => by omega))) (RgT_k (RgT_k T2 (by decide) (fun _ => by omega)) (by decide) (fun h => by omega))
      have ln3 : lnI (lnD (takD D) r) r = lnI D r := by
        unfold lnD
        rw [lnI_T (by decide) (by decide), lnI_T (by decide) (by decide), lnI_F (by decide) (by decide) (by decide) (by decide)]
        exact el r
      have ir3 : isR (lnD (takD D) r) r := by
        refine ⟨hr, ?_⟩
        rcases ir2.2 with h | h
        · exact Or.inl h
        · right
          unfold lnD
          rw [gF_sT, gF_sT, gF_sFl, if_neg (by omega)]
          exact h
      obtain ⟨M4, j4, e4⟩ := m_linesOf (c := c) (h := h) (a := a) a3.2 O3 ir3
      have f5 : gF (lnD (takD D) r) r 5 = gF D r 5 + 1 := by
        unfold lnD
        rw [gF_sT, gF_sT, gF_sFl, if_pos ⟨rfl, rfl⟩, e5]
      have b7 : M1 1 7 = gT D 7 := by rw [R1.1 7 (by decide), gT_sFl, eT]
      have b8 : mset M1 1 7 (gT D 7 - 1) 1 8 = gT D 8 := by rw [mset_at, if_neg (by decide), R1.1 8 (by decide), gT_sFl, eT]
      have lb := lnI_rg O.1 ir
      rw [if_neg e7, if_neg n7]
      simp (maxSteps := 1000000) (disch := omega) only [cc_s, kI_i, kV_n, kR_r, ck_M, rdI_M3, rdI_M7, rdI_M9, rdI_M10, rdI_M11, rdI_M12, rdI_M14, rdR_M1, rdR_M2, rdR_M4, rdR_M5, rdR_M6, rdR_M8, rdR_M13, wr_M0, wr_M3, wr_M7, wr_M9, wr_M10, wr_M11, wr_M12, wr_M14, ald_M1, ald_M2, ald_M3, ald_M5, ald_M6, ald_M7, ast_M1, ast_M2, ast_M3, ast_M5, ast_M6, ast_M7, iI_l, iI_add, iI_sub, iI_mul, iI_neg, dv_i, Int.reduceToNat, m_F R hr, e5]
      rw [e1]
      simp (maxSteps := 1000000) (disch := omega) only [cc_s, kI_i, kV_n, kR_r, ck_M, rdI_M3, rdI_M7, rdI_M9, rdI_M10, rdI_M11, rdI_M12, rdI_M14, rdR_M1, rdR_M2, rdR_M4, rdR_M5, rdR_M6, rdR_M8, rdR_M13, wr_M0, wr_M3, wr_M7, wr_M9, wr_M10, wr_M11, wr_M12, wr_M14, ald_M1, ald_M2, ald_M3, ald_M5, ald_M6, ald_M7, ast_M1, ast_M2, ast_M3, ast_M5, ast_M6, ast_M7, iI_l, iI_add, iI_sub, iI_mul, iI_neg, dv_i, Int.reduceToNat, b7, b8, m_F a3.2 hr, f5]
      rw [e4, ln3]
      simp (maxSteps := 1000000) (disch := omega) only [cc_s, kI_i, kV_n, kR_r, ck_M, rdI_M3, rdI_M7, rdI_M9, rdI_M10, rdI_M11, rdI_M12, rdI_M14, rdR_M1, rdR_M2, rdR_M4, rdR_M5, rdR_M6, rdR_M8, rdR_M13, wr_M0, wr_M3, wr_M7, wr_M9, wr_M10, wr_M11, wr_M12, wr_M14, ald_M1, ald_M2, ald_M3, ald_M5, ald_M6, ald_M7, ast_M1, ast_M2, ast_M3, ast_M5, ast_M6, ast_M7, iI_l, iI_add, iI_sub, iI_mul, iI_neg, dv_i, Int.reduceToNat, eq_i]
      by_cases el2 : gF D r 5 + 1 = lnI D r
      · have t5 : gT (lnD (takD D) r) 5 < 900000 := by
          show gT (takD D) 5 < 900000
          rw [eT]; exact h5
        obtain ⟨M5, e5', q5, R5⟩ := m_ends (c := c) (h := h) (a := a) O3 t5 (j4.ms a3.2) hr
        refine ⟨M5, ?_, q1.tr (a2.1.tr (a3.1.tr ((eqS.jk j4).tr q5))), ?_⟩
        · rw [if_pos el2, e5']
          simp (maxSteps := 1000000) (disch := omega) only [cc_s, kI_i, kV_n, kR_r, ck_M, rdI_M3, rdI_M7, rdI_M9, rdI_M10, rdI_M11, rdI_M12, rdI_M14, rdR_M1, rdR_M2, rdR_M4, rdR_M5, rdR_M6, rdR_M8, rdR_M13, wr_M0, wr_M3, wr_M7, wr_M9, wr_M10, wr_M11, wr_M12, wr_M14, ald_M1, ald_M2, ald_M3, ald_M5, ald_M6, ald_M7, ast_M1, ast_M2, ast_M3, ast_M5, ast_M6, ast_M7, iI_l, iI_add, iI_sub, iI_mul, iI_neg, dv_i, Int.reduceToNat, rt_1]
        · unfold plD
          rw [if_neg n7, et, Int.toNat_natCast, if_pos el2]
          exact R5
      · refine ⟨M4, ?_, q1.tr (a2.1.tr (a3.1.tr (eqS.jk j4))), ?_⟩
        · rw [if_neg el2, rt_1]
        · unfold plD
          rw [if_neg n7, et, Int.toNat_natCast, if_neg el2]
          exact j4.ms a3.2
  unfold fX6_printsLine
  simp (maxSteps := 1000000) (disch := omega) only [cc_s, kI_i, kV_n, kR_r, ck_M, rdI_M3, rdI_M7, rdI_M9, rdI_M10, rdI_M11, rdI_M12, rdI_M14, rdR_M1, rdR_M2, rdR_M4, rdR_M5, rdR_M6, rdR_M8, rdR_M13, wr_M0, wr_M3, wr_M7, wr_M9, wr_M10, wr_M11, wr_M12, wr_M14, ald_M1, ald_M2, ald_M3, ald_M5, ald_M6, ald_M7, ast_M1, ast_M2, ast_M3, ast_M5, ast_M6, ast_M7, iI_l, iI_add, iI_sub, iI_mul, iI_neg, dv_i, Int.reduceToNat, m_printedNow R GF]
  rcases prtI_c D with e | ⟨r, e, r3, r21, hw⟩
  · rw [e]
    simp (maxSteps := 1000000) (disch := omega) only [cc_s, kI_i, kV_n, kR_r, ck_M, rdI_M3, rdI_M7, rdI_M9, rdI_M10, rdI_M11, rdI_M12, rdI_M14, rdR_M1, rdR_M2, rdR_M4, rdR_M5, rdR_M6, rdR_M8, rdR_M13, wr_M0, wr_M3, wr_M7, wr_M9, wr_M10, wr_M11, wr_M12, wr_M14, ald_M1, ald_M2, ald_M3, ald_M5, ald_M6, ald_M7, ast_M1, ast_M2, ast_M3, ast_M5, ast_M6, ast_M7, iI_l, iI_add, iI_sub, iI_mul, iI_neg, dv_i, Int.reduceToNat, m_recordAt R GF]
    rw [if_pos trivial]
    rcases atI_c D 0 with e0 | ⟨r, e0, r3, r21, hw, -⟩
    · rw [e0]
      have tk : takI D = -6 := by unfold takI; rw [if_pos e, e0]
      have td : takD D = D := by unfold takD; rw [if_pos e, if_pos e0]
      refine ⟨M, ?_, eqS.rf M, ?_⟩
      · unfold fX6_printsLine_30 fX6_printsLine_46
        rw [if_pos rfl, if_pos (Or.inl tk)]
        simp (maxSteps := 1000000) (disch := omega) only [cc_s, kI_i, kV_n, kR_r, ck_M, rdI_M3, rdI_M7, rdI_M9, rdI_M10, rdI_M11, rdI_M12, rdI_M14, rdR_M1, rdR_M2, rdR_M4, rdR_M5, rdR_M6, rdR_M8, rdR_M13, wr_M0, wr_M3, wr_M7, wr_M9, wr_M10, wr_M11, wr_M12, wr_M14, ald_M1, ald_M2, ald_M3, ald_M5, ald_M6, ald_M7, ast_M1, ast_M2, ast_M3, ast_M5, ast_M6, ast_M7, iI_l, iI_add, iI_sub, iI_mul, iI_neg, dv_i, Int.reduceToNat, rt_0]
        rw [if_pos trivial]
      · unfold plD; rw [if_pos (Or.inl tk), td]; exact R
    · rw [e0]
      have tk : takI D = r := by unfold takI; rw [if_pos e, e0]
      have td : takD D = sFl D r 3 1 := by unfold takD; rw [if_pos e, if_neg (by omega), e0]; rfl
      obtain ⟨M1, e1, q1, R1⟩ := m_layF (c := c) (h := h) (a := a) R r21 (w := 3) (v := 1) (by decide) (by decide)
      have R1' : MS (M1 1) (takD D) := by rw [td]; exact R1
      obtain ⟨M', g1, g2, g3⟩ := go M1 r R1' (by rw [td]; exact Ok1_F O.1 (by decide) (by decide) (by decide) (by decide) (by decide)) tk (hwP_is hw r21) (by rw [td]; rfl) (by rw [td, gF_sFl, if_neg (by omega)]) (fun q => by rw [td]; exact lnI_F (by decide) (by decide) (by decide) (by decide)) ⟨r21, by
        right; rw [td, gF_sFl, if_neg (by omega)]
        exact (of_decide_eq_true hw).1⟩
      refine ⟨M', ?_, q1.tr g2, g3⟩
      simp (maxSteps := 1000000) (disch := omega) only [cc_s, kI_i, kV_n, kR_r, ck_M, rdI_M3, rdI_M7, rdI_M9, rdI_M10, rdI_M11, rdI_M12, rdI_M14, rdR_M1, rdR_M2, rdR_M4, rdR_M5, rdR_M6, rdR_M8, rdR_M13, wr_M0, wr_M3, wr_M7, wr_M9, wr_M10, wr_M11, wr_M12, wr_M14, ald_M1, ald_M2, ald_M3, ald_M5, ald_M6, ald_M7, ast_M1, ast_M2, ast_M3, ast_M5, ast_M6, ast_M7, iI_l, iI_add, iI_sub, iI_mul, iI_neg, dv_i, Int.reduceToNat, eq_i]
      rw [if_neg (by omega), e1]
      simp (maxSteps := 1000000) (disch := omega) only [cc_s, kI_i, kV_n, kR_r, ck_M, rdI_M3, rdI_M7, rdI_M9, rdI_M10, rdI_M11, rdI_M12, rdI_M14, rdR_M1, rdR_M2, rdR_M4, rdR_M5, rdR_M6, rdR_M8, rdR_M13, wr_M0, wr_M3, wr_M7, wr_M9, wr_M10, wr_M11, wr_M12, wr_M14, ald_M1, ald_M2, ald_M3, ald_M5, ald_M6, ald_M7, ast_M1, ast_M2, ast_M3, ast_M5, ast_M6, ast_M7, iI_l, iI_add, iI_sub, iI_mul, iI_neg, dv_i, Int.reduceToNat]
      exact g1
  · rw [e]
    have tk : takI D = r := by unfold takI; rw [if_neg (by omega), e]
    have td : takD D = D := by unfold takD; rw [if_neg (by omega)]
    obtain ⟨M', g1, g2, g3⟩ := go M r (by rw [td]; exact R) (by rw [td]; exact O.1) tk (hwP_is hw r21) (by rw [td]) (by rw [td]) (fun q => by rw [td]) (by rw [td]; exact hwP_is hw r21)
    refine ⟨M', ?_, g2, g3⟩
    simp (maxSteps := 1000000) (disch := omega) only [cc_s, kI_i, kV_n, kR_r, ck_M, rdI_M3, rdI_M7, rdI_M9, rdI_M10, rdI_M11, rdI_M12, rdI_M14, rdR_M1, rdR_M2, rdR_M4, rdR_M5, rdR_M6, rdR_M8, rdR_M13, wr_M0, wr_M3, wr_M7, wr_M9, wr_M10, wr_M11, wr_M12, wr_M14, ald_M1, ald_M2, ald_M3, ald_M5, ald_M6, ald_M7, ast_M1, ast_M2, ast_M3, ast_M5, ast_M6, ast_M7, iI_l, iI_add, iI_sub, iI_mul, iI_neg, dv_i, Int.reduceToNat, eq_i]
    rw [if_neg (by omega)]
    exact g1
end
