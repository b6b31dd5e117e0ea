/-! hurry, tear, strike, close -/
theorem recI_c (D : Dt) (z : Int) : recI D z = -6 ∨ ∃ r : Nat, recI D z = r ∧ 3 ≤ r ∧ r < 21 ∧ 0 < z ∧ gF D r 0 = z := by
  by_cases e : recI D z = -6
  · exact Or.inl e
  · obtain ⟨i, h1, h2, h3, h4⟩ := fF_some 18 3 e
    have := of_decide_eq_true h4
    exact Or.inr ⟨i, h1, h2, h3, this.1, this.2⟩
def rHur (D : Dt) (x y : Int) : Int := if recI D x = -6 then -1 else if ¬ (0 ≤ y ∧ y ≤ 3) then -2 else if gF D (recI D x).toNat 3 = 0 then gF D (recI D x).toNat 2 else -5
def zHur (Z : Zt) (x y : Int) : Zt := if recI (zD Z) x = -6 then Z else if ¬ (0 ≤ y ∧ y ≤ 3) then Z else if gF (zD Z) (recI (zD Z) x).toNat 3 = 0 then zDo Z (sFl (zD Z) (recI (zD Z) x).toNat 2 y) else Z
def rTear (D : Dt) (x : Int) : Int := if ¬ (1 ≤ x ∧ x ≤ 99) then -2 else if prtI D = -6 then -5 else if gF D (prtI D).toNat 5 < x then -5 else gF D (prtI D).toNat 5 - begI D (prtI D).toNat (numI D (prtI D).toNat) (gF D (prtI D).toNat 5 - x) (wdI D (prtI D).toNat)
def tearD (D : Dt) (x : Int) : Dt := sT (sFl D (prtI D).toNat 5 (begI D (prtI D).toNat (numI D (prtI D).toNat) (gF D (prtI D).toNat 5 - x) (wdI D (prtI D).toNat))) 9 (gT D 9 + (gF D (prtI D).toNat 5 - begI D (prtI D).toNat (numI D (prtI D).toNat) (gF D (prtI D).toNat 5 - x) (wdI D (prtI D).toNat)))
def zTear (Z : Zt) (x : Int) : Zt := if ¬ (1 ≤ x ∧ x ≤ 99) then Z else if prtI (zD Z) = -6 then Z else if gF (zD Z) (prtI (zD Z)).toNat 5 < x then Z else zDo Z (tearD (zD Z) x)
def itOk (D : Dt) (t i : Int) : Prop := 0 ≤ t ∧ t ≤ 2 ∧ 0 ≤ i ∧ i < gF D t.toNat 8
def rStr (D : Dt) (t i : Int) : Int := if 0 ≤ t ∧ t ≤ 2 ∧ 0 ≤ i ∧ i < gF D t.toNat 8 then (if gP D t.toNat i.toNat 3 = 1 then -5 else gP D t.toNat i.toNat 0 * gP D t.toNat i.toNat 1) else -1
def strD (D : Dt) (t i : Int) : Dt := sT (hapD (sP D t.toNat i.toNat (st (gP D t.toNat i.toNat) 3 1)) t.toNat (i + 16)) 6 (gT D 6 + 1)
def zStr (Z : Zt) (t i : Int) : Zt := if 0 ≤ t ∧ t ≤ 2 ∧ 0 ≤ i ∧ i < gF (zD Z) t.toNat 8 then (if gP (zD Z) t.toNat i.toNat 3 = 1 then Z else zDo Z (strD (zD Z) t i)) else Z
section
variable {c : Nat → Option Nat} {h : Hp} {a : Nat} {M : Nat → Nat → Int} {Z : Zt}
theorem m_rec2 (R : MZ M Z) : ∃ M', fX6_records c (hM h a (mset M 0 0 0)) (some a) = some (hM h a M', none) ∧ MZ M' (zRec Z) ∧ MS (M' 1) (zD Z) := by
  obtain ⟨M1, e1, Z1, s1⟩ := m_records (c := c) (h := h) (a := a) (MZ_0 (v := 0) R)
  exact ⟨M1, e1, Z1, by rw [s1, mset_ne (by decide)]; exact R.1⟩
theorem m_hurry (O : Ok1 (zD Z)) {x y : Int} (hx : ag x) (hy : ag y) (R : MZ M Z) : ∃ M', fX6_hurry c (hM h a M) (some a) (iI x) (iI y) = some (hM h a M', some (.inl (iI (rHur (zD Z) x y)))) ∧ MZ M' (zHur Z x y) := by
  unfold ag at hx hy
  have R0 := MZ_0 (v := 0) R
  have GF := O.2.2.1
  unfold fX6_hurry rHur zHur
  simp (maxSteps := 1000000) (disch := omega) only [cc_s, kI_i, kV_n, kR_r, ck_M, rdI_M3, rdI_M7, rdI_M9, rdI_M10, rdI_M11, rdI_M12, rdI_M14, rdR_M1, rdR_M2, rdR_M4, rdR_M5, rdR_M6, rdR_M8, rdR_M13, wr_M0, wr_M3, wr_M7, wr_M9, wr_M10, wr_M11, wr_M12, wr_M14, ald_M1, ald_M2, ald_M3, ald_M5, ald_M6, ald_M7, ast_M1, ast_M2, ast_M3, ast_M5, ast_M6, ast_M7, iI_l, iI_add, iI_sub, iI_mul, iI_neg, dv_i, Int.reduceToNat, m_recordOf R0.1 GF]
  rcases recI_c (zD Z) x with e | ⟨r, e, r3, r21, -, -⟩
  · rw [e]
    refine ⟨_, ?_, by rw [if_pos rfl]; exact R0⟩
    rw [if_pos rfl, if_pos rfl]
  · have g3 := GF r r21 3 (by decide)
    rw [e, Int.toNat_natCast]
    simp (maxSteps := 1000000) (disch := omega) only [cc_s, kI_i, kV_n, kR_r, ck_M, rdI_M3, rdI_M7, rdI_M9, rdI_M10, rdI_M11, rdI_M12, rdI_M14, rdR_M1, rdR_M2, rdR_M4, rdR_M5, rdR_M6, rdR_M8, rdR_M13, wr_M0, wr_M3, wr_M7, wr_M9, wr_M10, wr_M11, wr_M12, wr_M14, ald_M1, ald_M2, ald_M3, ald_M5, ald_M6, ald_M7, ast_M1, ast_M2, ast_M3, ast_M5, ast_M6, ast_M7, iI_l, iI_add, iI_sub, iI_mul, iI_neg, dv_i, Int.reduceToNat, eq_i, m_in, bI_0]
    have n6 : ¬ ((r : Int) = -6) := by omega
    simp only [if_neg n6]
    by_cases h1 : 0 ≤ y ∧ y ≤ 3
    · have n1 : ¬ ¬ (0 ≤ y ∧ y ≤ 3) := fun h => h h1
      simp only [if_neg n1]
      simp (maxSteps := 1000000) (disch := omega) only [cc_s, kI_i, kV_n, kR_r, ck_M, rdI_M3, rdI_M7, rdI_M9, rdI_M10, rdI_M11, rdI_M12, rdI_M14, rdR_M1, rdR_M2, rdR_M4, rdR_M5, rdR_M6, rdR_M8, rdR_M13, wr_M0, wr_M3, wr_M7, wr_M9, wr_M10, wr_M11, wr_M12, wr_M14, ald_M1, ald_M2, ald_M3, ald_M5, ald_M6, ald_M7, ast_M1, ast_M2, ast_M3, ast_M5, ast_M6, ast_M7, iI_l, iI_add, iI_sub, iI_mul, iI_neg, dv_i, Int.reduceToNat, m_F R0.1 r21, eq_i]
      by_cases h3 : gF (zD Z) r 3 = 0
      · obtain ⟨M1, e1, Z1, R1⟩ := m_rec2 (c := c) (h := h) (a := a) R
        obtain ⟨M2, e2, q2, R2⟩ := m_layF (c := c) (h := h) (a := a) R1 r21 (w := 2) (v := y) (by decide) (by decide)
        simp only [if_pos h3]
        rw [e1]
        simp (maxSteps := 1000000) (disch := omega) only [cc_s, kI_i, kV_n, kR_r, ck_M, rdI_M3, rdI_M7, rdI_M9, rdI_M10, rdI_M11, rdI_M12, rdI_M14, rdR_M1, rdR_M2, rdR_M4, rdR_M5, rdR_M6, rdR_M8, rdR_M13, wr_M0, wr_M3, wr_M7, wr_M9, wr_M10, wr_M11, wr_M12, wr_M14, ald_M1, ald_M2, ald_M3, ald_M5, ald_M6, ald_M7, ast_M1, ast_M2, ast_M3, ast_M5, ast_M6, ast_M7, iI_l, iI_add, iI_sub, iI_mul, iI_neg, dv_i, Int.reduceToNat, m_F R1 r21]
        rw [e2]
        simp (maxSteps := 1000000) (disch := omega) only [cc_s, kI_i, kV_n, kR_r, ck_M, rdI_M3, rdI_M7, rdI_M9, rdI_M10, rdI_M11, rdI_M12, rdI_M14, rdR_M1, rdR_M2, rdR_M4, rdR_M5, rdR_M6, rdR_M8, rdR_M13, wr_M0, wr_M3, wr_M7, wr_M9, wr_M10, wr_M11, wr_M12, wr_M14, ald_M1, ald_M2, ald_M3, ald_M5, ald_M6, ald_M7, ast_M1, ast_M2, ast_M3, ast_M5, ast_M6, ast_M7, iI_l, iI_add, iI_sub, iI_mul, iI_neg, dv_i, Int.reduceToNat]
        exact ⟨M2, rfl, MZ_set Z1 q2 R2⟩
      · simp only [if_neg h3]
        exact ⟨_, rfl, R0⟩
    · simp only [if_pos h1]
      exact ⟨_, rfl, R0⟩
theorem m_tear (O : Ok1 (zD Z)) {x : Int} (hx : ag x) (R : MZ M Z) : ∃ M', fX6_tear c (hM h a M) (some a) (iI x) = some (hM h a M', some (.inl (iI (rTear (zD Z) x)))) ∧ MZ M' (zTear Z x) := by
  unfold ag at hx
  have R0 := MZ_0 (v := 0) R
  have GF := O.2.2.1
  unfold fX6_tear fX6_tear_39 rTear zTear tearD
  simp (maxSteps := 1000000) (disch := omega) only [cc_s, kI_i, kV_n, kR_r, ck_M, rdI_M3, rdI_M7, rdI_M9, rdI_M10, rdI_M11, rdI_M12, rdI_M14, rdR_M1, rdR_M2, rdR_M4, rdR_M5, rdR_M6, rdR_M8, rdR_M13, wr_M0, wr_M3, wr_M7, wr_M9, wr_M10, wr_M11, wr_M12, wr_M14, ald_M1, ald_M2, ald_M3, ald_M5, ald_M6, ald_M7, ast_M1, ast_M2, ast_M3, ast_M5, ast_M6, ast_M7, iI_l, iI_add, iI_sub, iI_mul, iI_neg, dv_i, Int.reduceToNat, m_in, bI_0]
  by_cases h1 : 1 ≤ x ∧ x ≤ 99
  · have n1 : ¬ ¬ (1 ≤ x ∧ x ≤ 99) := fun h => h h1
    simp only [if_neg n1]
    simp (maxSteps := 1000000) (disch := omega) only [cc_s, kI_i, kV_n, kR_r, ck_M, rdI_M3, rdI_M7, rdI_M9, rdI_M10, rdI_M11, rdI_M12, rdI_M14, rdR_M1, rdR_M2, rdR_M4, rdR_M5, rdR_M6, rdR_M8, rdR_M13, wr_M0, wr_M3, wr_M7, wr_M9, wr_M10, wr_M11, wr_M12, wr_M14, ald_M1, ald_M2, ald_M3, ald_M5, ald_M6, ald_M7, ast_M1, ast_M2, ast_M3, ast_M5, ast_M6, ast_M7, iI_l, iI_add, iI_sub, iI_mul, iI_neg, dv_i, Int.reduceToNat, m_printedNow R0.1 GF]
    rcases prtI_c (zD Z) with e | ⟨r, e, r3, r21, hw⟩
    · rw [e]
      refine ⟨_, ?_, by rw [if_pos rfl]; exact R0⟩
      rw [if_pos rfl, if_pos rfl]
    · have g5 := GF r r21 5 (by decide)
      have ir := hwP_is hw r21
      rw [e, Int.toNat_natCast]
      simp (maxSteps := 1000000) (disch := omega) only [cc_s, kI_i, kV_n, kR_r, ck_M, rdI_M3, rdI_M7, rdI_M9, rdI_M10, rdI_M11, rdI_M12, rdI_M14, rdR_M1, rdR_M2, rdR_M4, rdR_M5, rdR_M6, rdR_M8, rdR_M13, wr_M0, wr_M3, wr_M7, wr_M9, wr_M10, wr_M11, wr_M12, wr_M14, ald_M1, ald_M2, ald_M3, ald_M5, ald_M6, ald_M7, ast_M1, ast_M2, ast_M3, ast_M5, ast_M6, ast_M7, iI_l, iI_add, iI_sub, iI_mul, iI_neg, dv_i, Int.reduceToNat, eq_i]
      have n6 : ¬ ((r : Int) = -6) := by omega
      simp only [if_neg n6]
      simp (maxSteps := 1000000) (disch := omega) only [cc_s, kI_i, kV_n, kR_r, ck_M, rdI_M3, rdI_M7, rdI_M9, rdI_M10, rdI_M11, rdI_M12, rdI_M14, rdR_M1, rdR_M2, rdR_M4, rdR_M5, rdR_M6, rdR_M8, rdR_M13, wr_M0, wr_M3, wr_M7, wr_M9, wr_M10, wr_M11, wr_M12, wr_M14, ald_M1, ald_M2, ald_M3, ald_M5, ald_M6, ald_M7, ast_M1, ast_M2, ast_M3, ast_M5, ast_M6, ast_M7, iI_l, iI_add, iI_sub, iI_mul, iI_neg, dv_i, Int.reduceToNat, m_F R0.1 r21, lt_i]
      by_cases h5 : gF (zD Z) r 5 < x
      · simp only [if_pos h5]
        exact ⟨_, rfl, R0⟩
      · simp only [if_neg h5]
        obtain ⟨M1, e1, Z1, R1⟩ := m_rec2 (c := c) (h := h) (a := a) R
        have wb := wdI_rg O ir
        obtain ⟨M2, j2, e2, b2, -⟩ := m_lays2 (c := c) (h := h) (a := a) (w := gF (zD Z) r 5 - x) R1 O r21 wb.1 wb.2 (by omega) (by omega)
        have R2 := j2.ms R1
        obtain ⟨M3, e3, q3, R3⟩ := m_layF (c := c) (h := h) (a := a) R2 r21 (w := 5) (v := begI (zD Z) r (numI (zD Z) r) (gF (zD Z) r 5 - x) (wdI (zD Z) r)) (by decide) (by decide)
        have a4 := m_sT (v := gT (zD Z) 9 + (gF (zD Z) r 5 - begI (zD Z) r (numI (zD Z) r) (gF (zD Z) r 5 - x) (wdI (zD Z) r))) R3 (show 9 < 12 by decide)
        have t9 : M3 1 9 = gT (zD Z) 9 := R3.1 9 (by decide)
        refine ⟨_, ?_, MZ_set Z1 ((eqS.jk j2).tr (q3.tr a4.1)) a4.2⟩
        rw [e1]
        simp (maxSteps := 1000000) (disch := omega) only [cc_s, kI_i, kV_n, kR_r, ck_M, rdI_M3, rdI_M7, rdI_M9, rdI_M10, rdI_M11, rdI_M12, rdI_M14, rdR_M1, rdR_M2, rdR_M4, rdR_M5, rdR_M6, rdR_M8, rdR_M13, wr_M0, wr_M3, wr_M7, wr_M9, wr_M10, wr_M11, wr_M12, wr_M14, ald_M1, ald_M2, ald_M3, ald_M5, ald_M6, ald_M7, ast_M1, ast_M2, ast_M3, ast_M5, ast_M6, ast_M7, iI_l, iI_add, iI_sub, iI_mul, iI_neg, dv_i, Int.reduceToNat, m_F R1 r21, m_widthOf R1 r21]
        rw [e2]
        simp (maxSteps := 1000000) (disch := omega) only [cc_s, kI_i, kV_n, kR_r, ck_M, rdI_M3, rdI_M7, rdI_M9, rdI_M10, rdI_M11, rdI_M12, rdI_M14, rdR_M1, rdR_M2, rdR_M4, rdR_M5, rdR_M6, rdR_M8, rdR_M13, wr_M0, wr_M3, wr_M7, wr_M9, wr_M10, wr_M11, wr_M12, wr_M14, ald_M1, ald_M2, ald_M3, ald_M5, ald_M6, ald_M7, ast_M1, ast_M2, ast_M3, ast_M5, ast_M6, ast_M7, iI_l, iI_add, iI_sub, iI_mul, iI_neg, dv_i, Int.reduceToNat, m_F R2 r21, b2]
        rw [e3]
        simp (maxSteps := 1000000) (disch := omega) only [cc_s, kI_i, kV_n, kR_r, ck_M, rdI_M3, rdI_M7, rdI_M9, rdI_M10, rdI_M11, rdI_M12, rdI_M14, rdR_M1, rdR_M2, rdR_M4, rdR_M5, rdR_M6, rdR_M8, rdR_M13, wr_M0, wr_M3, wr_M7, wr_M9, wr_M10, wr_M11, wr_M12, wr_M14, ald_M1, ald_M2, ald_M3, ald_M5, ald_M6, ald_M7, ast_M1, ast_M2, ast_M3, ast_M5, ast_M6, ast_M7, iI_l, iI_add, iI_sub, iI_mul, iI_neg, dv_i, Int.reduceToNat, t9]
  · simp only [if_pos h1]
    exact ⟨_, rfl, R0⟩
theorem pk_st3 {p : Nat → Int} (h : pRg p) (h3 : p 3 = 0) : iI (pkI p) ||| iI 8388608 = iI (pkI (st p 3 1)) := by
  unfold pRg at h
  have := or_i (s := 23) (t := 1) (hi := p 4) (lo := p 0 + 128 * p 1 + 2097152 * p 2) (v := 1) (by omega) (by omega) (by decide) (by omega) (by decide) (by omega) (by decide)
  have e0 : st p 3 1 0 = p 0 := rfl
  have e1 : st p 3 1 1 = p 1 := rfl
  have e2 : st p 3 1 2 = p 2 := rfl
  have e3 : st p 3 1 3 = 1 := rfl
  have e4 : st p 3 1 4 = p 4 := rfl
  refine Eq.trans (congr (congrArg HOr.hOr (congrArg iI ?_)) (congrArg iI ?_)) (this.trans (congrArg iI ?_))
  · unfold pkI; omega
  · decide
  · unfold pkI; omega
theorem Rg1_P {D : Dt} {r i : Nat} {p : Nat → Int} (G : Rg1 D r) (hp : pRg p) : Rg1 (sP D r i p) r := by
  refine ⟨G.1, fun j => ?_, G.2.2⟩
  show pRg (if r = r ∧ j = i then p else D.2.2.1 r j)
  split
  · exact hp
  · exact G.2.1 j
theorem Rg1_hap {D : Dt} {r : Nat} {v : Int} (G : Rg1 D r) (h9 : gF D r 9 < 24) (v0 : 0 ≤ v) (v1 : v < 32) : Rg1 (hapD D r v) r := by
  have g := G.1
  refine ⟨?_, G.2.1, G.2.2.1, fun k => ?_⟩
  · unfold hapD
    rw [gF_sFl, gF_sFl, if_neg (by omega), if_pos ⟨rfl, rfl⟩]
    show 0 ≤ gF D r 8 ∧ gF D r 8 ≤ 12 ∧ 0 ≤ gF D r 9 + 1 ∧ gF D r 9 + 1 ≤ 24
    omega
  · show 0 ≤ (if r = r then st (gE D r) (gF D r 9).toNat v else gE D r) k ∧ (if r = r then st (gE D r) (gF D r 9).toNat v else gE D r) k < 32
    rw [if_pos rfl]
    unfold st
    split
    · exact ⟨v0, v1⟩
    · exact G.2.2.2 k
theorem m_strike (O : Ok1 (zD Z)) {t i : Int} (ht : ag t) (hi : ag i) (R : MZ M Z) (h24 : ∀ r, r < 3 → ∀ i, i < nIt (zD Z) r → gP (zD Z) r i 3 = 0 → gF (zD Z) r 9 < 24) (h0 : ∀ r, r < 3 → gF (zD Z) r 9 < 24 → gE (zD Z) r (gF (zD Z) r 9).toNat = 0) : ∃ M', fX6_strike c (hM h a M) (some a) (iI t) (iI i) = some (hM h a M', some (.inl (iI (rStr (zD Z) t i)))) ∧ MZ M' (zStr Z t i) := by
  unfold ag at ht hi
  have R0 := MZ_0 (v := 0) R
  unfold fX6_strike rStr zStr strD
  simp (maxSteps := 1000000) (disch := omega) only [cc_s, kI_i, kV_n, kR_r, ck_M, rdI_M3, rdI_M7, rdI_M9, rdI_M10, rdI_M11, rdI_M12, rdI_M14, rdR_M1, rdR_M2, rdR_M4, rdR_M5, rdR_M6, rdR_M8, rdR_M13, wr_M0, wr_M3, wr_M7, wr_M9, wr_M10, wr_M11, wr_M12, wr_M14, ald_M1, ald_M2, ald_M3, ald_M5, ald_M6, ald_M7, ast_M1, ast_M2, ast_M3, ast_M5, ast_M6, ast_M7, iI_l, iI_add, iI_sub, iI_mul, iI_neg, dv_i, Int.reduceToNat, m_isItem R0.1 O.1, bI_0]
  by_cases h1 : 0 ≤ t ∧ t ≤ 2 ∧ 0 ≤ i ∧ i < gF (zD Z) t.toNat 8
  · have n1 : ¬ ¬ (0 ≤ t ∧ t ≤ 2 ∧ 0 ≤ i ∧ i < gF (zD Z) t.toNat 8) := fun h => h h1
    simp only [if_neg n1, if_pos h1]
    obtain ⟨r, rfl⟩ := Int.eq_ofNat_of_zero_le h1.1
    obtain ⟨q, rfl⟩ := Int.eq_ofNat_of_zero_le h1.2.2.1
    rw [Int.toNat_natCast] at h1 ⊢
    rw [Int.toNat_natCast]
    have r21 : r < 21 := by omega
    have G := O.1 r r21
    have nn := nIt_le G
    have q12 : q < 12 := by omega
    have p := G.2.1 q
    simp (maxSteps := 1000000) (disch := omega) only [cc_s, kI_i, kV_n, kR_r, ck_M, rdI_M3, rdI_M7, rdI_M9, rdI_M10, rdI_M11, rdI_M12, rdI_M14, rdR_M1, rdR_M2, rdR_M4, rdR_M5, rdR_M6, rdR_M8, rdR_M13, wr_M0, wr_M3, wr_M7, wr_M9, wr_M10, wr_M11, wr_M12, wr_M14, ald_M1, ald_M2, ald_M3, ald_M5, ald_M6, ald_M7, ast_M1, ast_M2, ast_M3, ast_M5, ast_M6, ast_M7, iI_l, iI_add, iI_sub, iI_mul, iI_neg, dv_i, Int.reduceToNat, m_isStruck R0.1 G r21 q12, bI_0]
    by_cases h3 : gP (zD Z) r q 3 = 1
    · have n3 : ¬ ¬ (gP (zD Z) r q 3 = 1) := fun h => h h3
      simp only [if_neg n3, if_pos h3]
      exact ⟨_, rfl, R0⟩
    · have h30 : gP (zD Z) r q 3 = 0 := by unfold pRg at p; omega
      have p' : pRg (st (gP (zD Z) r q) 3 1) := by
        unfold pRg st at *; simp; omega
      simp only [if_neg h3, if_pos h3]
      obtain ⟨M1, e1, Z1, R1⟩ := m_rec2 (c := c) (h := h) (a := a) R
      have R2 : MS (mset M1 1 (12 + 86 * r + (14 + 6 * q)) (pkI (st (gP (zD Z) r q) 3 1)) 1) (sP (zD Z) r q (st (gP (zD Z) r q) 3 1)) := by
        rw [mset_1]; exact MS_P R1 r21 q12
      obtain ⟨M3, e3, q3, R3⟩ := m_happens (c := c) (h := h) (a := a) R2 (Rg1_P G p') r21 (h24 r (by omega) q (by omega) h30) (h0 r (by omega) (h24 r (by omega) q (by omega) h30)) (v := q + 16) (by omega) (by omega)
      have a4 := m_sT (v := gT (zD Z) 6 + 1) R3 (show 6 < 12 by decide)
      have t6 : M3 1 6 = gT (zD Z) 6 := R3.1 6 (by decide)
      refine ⟨mset M3 1 6 (gT (zD Z) 6 + 1), ?_, MZ_set Z1 ((eqS.put M1 _ _).tr (q3.tr a4.1)) a4.2⟩
      rw [e1]
      simp (maxSteps := 1000000) (disch := omega) only [cc_s, kI_i, kV_n, kR_r, ck_M, rdI_M3, rdI_M7, rdI_M9, rdI_M10, rdI_M11, rdI_M12, rdI_M14, rdR_M1, rdR_M2, rdR_M4, rdR_M5, rdR_M6, rdR_M8, rdR_M13, wr_M0, wr_M3, wr_M7, wr_M9, wr_M10, wr_M11, wr_M12, wr_M14, ald_M1, ald_M2, ald_M3, ald_M5, ald_M6, ald_M7, ast_M1, ast_M2, ast_M3, ast_M5, ast_M6, ast_M7, iI_l, iI_add, iI_sub, iI_mul, iI_neg, dv_i, Int.reduceToNat, m_packed R1 r21 q12, pk_st3 p h30, m_lay]
      rw [show (12 + 86 * (r : Int) + (14 + 6 * q)).toNat = 12 + 86 * r + (14 + 6 * q) by omega, e3]
      simp (maxSteps := 1000000) (disch := omega) only [cc_s, kI_i, kV_n, kR_r, ck_M, rdI_M3, rdI_M7, rdI_M9, rdI_M10, rdI_M11, rdI_M12, rdI_M14, rdR_M1, rdR_M2, rdR_M4, rdR_M5, rdR_M6, rdR_M8, rdR_M13, wr_M0, wr_M3, wr_M7, wr_M9, wr_M10, wr_M11, wr_M12, wr_M14, ald_M1, ald_M2, ald_M3, ald_M5, ald_M6, ald_M7, ast_M1, ast_M2, ast_M3, ast_M5, ast_M6, ast_M7, iI_l, iI_add, iI_sub, iI_mul, iI_neg, dv_i, Int.reduceToNat, t6]
      have G4 : Rg1 (sT (hapD (sP (zD Z) r q (st (gP (zD Z) r q) 3 1)) r (q + 16)) 6 (gT (zD Z) 6 + 1)) r := Rg1_hap (Rg1_P G p') (h24 r (by omega) q (by omega) h30) (by omega) (by omega)
      have eP : gP (sT (hapD (sP (zD Z) r q (st (gP (zD Z) r q) 3 1)) r (q + 16)) 6 (gT (zD Z) 6 + 1)) r q = st (gP (zD Z) r q) 3 1 := by
        show (if r = r ∧ q = q then _ else _) = _
        rw [if_pos ⟨rfl, rfl⟩]
      rw [m_sum a4.2 G4 r21 q12, eP]
      simp (maxSteps := 1000000) (disch := omega) only [cc_s, kI_i, kV_n, kR_r, ck_M, rdI_M3, rdI_M7, rdI_M9, rdI_M10, rdI_M11, rdI_M12, rdI_M14, rdR_M1, rdR_M2, rdR_M4, rdR_M5, rdR_M6, rdR_M8, rdR_M13, wr_M0, wr_M3, wr_M7, wr_M9, wr_M10, wr_M11, wr_M12, wr_M14, ald_M1, ald_M2, ald_M3, ald_M5, ald_M6, ald_M7, ast_M1, ast_M2, ast_M3, ast_M5, ast_M6, ast_M7, iI_l, iI_add, iI_sub, iI_mul, iI_neg, dv_i, Int.reduceToNat]
      rfl
  · simp only [if_pos h1, if_neg h1]
    exact ⟨_, rfl, R0⟩
end
