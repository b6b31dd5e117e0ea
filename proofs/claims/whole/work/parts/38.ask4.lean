/-! ofReceipt, count, sign, undo, save, restore -/
def wRcp (D : Dt) (r : Nat) (w : Int) : Int := if w = 0 then gF D r 3 else if w = 1 then gF D r 1 else if w = 2 then gF D r 2 else if w = 3 then gF D r 8 else if w = 4 then struckI D r else if w = 5 then totI D r else if w = 6 then lnI D r else if w = 7 then gF D r 5 else if w = 8 then gF D r 4 else if w = 9 then (if gF D r 3 = 2 then gF D r 6 else -6) else -2
def rRcp (D : Dt) (x w : Int) : Int := if recI D x = -6 then -1 else wRcp D (recI D x).toNat w
def rCnt (Z : Zt) (w : Int) : Int := if w = 0 then gT (zD Z) 3 else if w = 1 then gT (zD Z) 4 else if w = 2 then manyI (zD Z) 0 else if w = 3 then gT (zD Z) 5 else if w = 4 then gT (zD Z) 6 else if w = 5 then gT (zD Z) 0 else if w = 6 then gT (zD Z) 1 else if w = 7 then gT (zD Z) 2 else if w = 8 then zl Z else if w = 9 then zn Z else -2
/-- the record that a call of sign names -/
def sgR (D : Dt) (x : Int) : Int := if -2 ≤ x ∧ x ≤ 0 then -x else recI D x
def rSgn (D : Dt) (x l k : Int) : Int := if sgR D x = -6 then -1 else if l < 0 then -1 else if l < lnI D (sgR D x).toNat then (if 0 ≤ k ∧ k ≤ wdI D (sgR D x).toNat - 1 then sgnI D (sgR D x).toNat (numI D (sgR D x).toNat) l (wdI D (sgR D x).toNat) k.toNat else -2) else -1
section
variable {c : Nat → Option Nat} {h : Hp} {a : Nat} {M : Nat → Nat → Int} {Z : Zt}
theorem m_ofReceipt (O : Ok1 (zD Z)) {x w : Int} (hx : ag x) (hw : ag w) (R : MZ M Z) : ∃ M', fX6_ofReceipt c (hM h a M) (some a) (iI x) (iI w) = some (hM h a M', some (.inl (iI (rRcp (zD Z) x w)))) ∧ MZ M' Z := by
  unfold ag at hx hw
  have R0 := MZ_0 (v := 0) R
  have GF := O.2.2.1
  unfold fX6_ofReceipt rRcp
  simp (maxSteps := 1000000) (disch := omega) only [cc_s, kI_i, kV_n, kR_r, ck_M, rdI_M3, rdI_M7, rdI_M9, rdI_M10, rdI_M11, rdI_M12, rdI_M14, rdR_M1, rdR_M2, rdR_M4, rdR_M5, rdR_M6, rdR_M8, rdR_M13, wr_M0, wr_M3, wr_M7, wr_M9, wr_M10, wr_M11, wr_M12, wr_M14, ald_M1, ald_M2, ald_M3, ald_M5, ald_M6, ald_M7, ast_M1, ast_M2, ast_M3, ast_M5, ast_M6, ast_M7, iI_l, iI_add, iI_sub, iI_mul, iI_neg, dv_i, Int.reduceToNat, m_recordOf R0.1 GF]
  rcases recI_c (zD Z) x with e | ⟨r, e, r3, r21, x0, ex⟩
  · rw [e]
    refine ⟨_, ?_, R0⟩
    rw [if_pos rfl, if_pos rfl]
  · have g3 := GF r r21 3 (by decide)
    have G := O.1 r r21
    rw [e, Int.toNat_natCast]
    have n6 : ¬ ((r : Int) = -6) := by omega
    have n6' : ¬ (iI (r : Int) = iI (-6)) := by rw [eq_i (by omega) (by omega) (by decide) (by decide)]; exact n6
    simp only [if_neg n6, if_neg n6']
    obtain ⟨M1, j1, e1⟩ := m_linesOf (c := c) (h := h) (a := a) R0.1 O ⟨r21, Or.inr (by omega)⟩
    unfold fX6_ofReceipt_159 wRcp
    simp only [swf]
    simp (maxSteps := 1000000) (disch := omega) only [cc_s, kI_i, kV_n, kR_r, ck_M, rdI_M3, rdI_M7, rdI_M9, rdI_M10, rdI_M11, rdI_M12, rdI_M14, rdR_M1, rdR_M2, rdR_M4, rdR_M5, rdR_M6, rdR_M8, rdR_M13, wr_M0, wr_M3, wr_M7, wr_M9, wr_M10, wr_M11, wr_M12, wr_M14, ald_M1, ald_M2, ald_M3, ald_M5, ald_M6, ald_M7, ast_M1, ast_M2, ast_M3, ast_M5, ast_M6, ast_M7, iI_l, iI_add, iI_sub, iI_mul, iI_neg, dv_i, Int.reduceToNat, eq_i, m_F R0.1 r21, m_struckOf R0.1 G r21, m_total R0.1 G r21]
    by_cases w0 : w = 0
    · simp only [if_pos w0]; exact ⟨_, rfl, R0⟩
    simp only [if_neg w0]
    by_cases w1 : w = 1
    · simp only [if_pos w1]; exact ⟨_, rfl, R0⟩
    simp only [if_neg w1]
    by_cases w2 : w = 2
    · simp only [if_pos w2]; exact ⟨_, rfl, R0⟩
    simp only [if_neg w2]
    by_cases w3 : w = 3
    · simp only [if_pos w3]; exact ⟨_, rfl, R0⟩
    simp only [if_neg w3]
    by_cases w4 : w = 4
    · simp only [if_pos w4]; exact ⟨_, rfl, R0⟩
    simp only [if_neg w4]
    by_cases w5 : w = 5
    · simp only [if_pos w5]; exact ⟨_, rfl, R0⟩
    simp only [if_neg w5]
    by_cases w6 : w = 6
    · simp only [if_pos w6]
      refine ⟨M1, ?_, MZ_jk R0 j1⟩
      rw [e1]
      simp (maxSteps := 1000000) (disch := omega) only [cc_s, kI_i, kV_n, kR_r, ck_M, rdI_M3, rdI_M7, rdI_M9, rdI_M10, rdI_M11, rdI_M12, rdI_M14, rdR_M1, rdR_M2, rdR_M4, rdR_M5, rdR_M6, rdR_M8, rdR_M13, wr_M0, wr_M3, wr_M7, wr_M9, wr_M10, wr_M11, wr_M12, wr_M14, ald_M1, ald_M2, ald_M3, ald_M5, ald_M6, ald_M7, ast_M1, ast_M2, ast_M3, ast_M5, ast_M6, ast_M7, iI_l, iI_add, iI_sub, iI_mul, iI_neg, dv_i, Int.reduceToNat]
    simp only [if_neg w6]
    by_cases w7 : w = 7
    · simp only [if_pos w7]; exact ⟨_, rfl, R0⟩
    simp only [if_neg w7]
    by_cases w8 : w = 8
    · simp only [if_pos w8]; exact ⟨_, rfl, R0⟩
    simp only [if_neg w8]
    by_cases w9 : w = 9
    · simp only [if_pos w9]
      by_cases h3 : gF (zD Z) r 3 = 2
      · simp only [if_pos h3]; exact ⟨_, rfl, R0⟩
      · simp only [if_neg h3]; exact ⟨_, rfl, R0⟩
    simp only [if_neg w9]
    exact ⟨_, rfl, R0⟩
theorem m_count (O : Ok1 (zD Z)) {w : Int} (hw : ag w) (R : MZ M Z) : ∃ M', fX6_count c (hM h a M) (some a) (iI w) = some (hM h a M', some (.inl (iI (rCnt Z w)))) ∧ MZ M' Z := by
  unfold ag at hw
  have R0 := MZ_0 (v := 0) R
  have GF := O.2.2.1
  have e7 := R0.2.2.2.2.2.1.1
  have e3 := R0.2.1.1
  refine ⟨_, ?_, R0⟩
  unfold fX6_count rCnt
  simp only [swf]
  simp (maxSteps := 1000000) (disch := omega) only [cc_s, kI_i, kV_n, kR_r, ck_M, rdI_M3, rdI_M7, rdI_M9, rdI_M10, rdI_M11, rdI_M12, rdI_M14, rdR_M1, rdR_M2, rdR_M4, rdR_M5, rdR_M6, rdR_M8, rdR_M13, wr_M0, wr_M3, wr_M7, wr_M9, wr_M10, wr_M11, wr_M12, wr_M14, ald_M1, ald_M2, ald_M3, ald_M5, ald_M6, ald_M7, ast_M1, ast_M2, ast_M3, ast_M5, ast_M6, ast_M7, iI_l, iI_add, iI_sub, iI_mul, iI_neg, dv_i, Int.reduceToNat, eq_i, R0.1.1 3, R0.1.1 4, R0.1.1 5, R0.1.1 6, m_manyHow R0.1 GF, e7, e3]
  by_cases w0 : w = 0
  · simp only [if_pos w0]
  simp only [if_neg w0]
  by_cases w1 : w = 1
  · simp only [if_pos w1]
  simp only [if_neg w1]
  by_cases w2 : w = 2
  · simp only [if_pos w2]
  simp only [if_neg w2]
  by_cases w3 : w = 3
  · simp only [if_pos w3]
  simp only [if_neg w3]
  by_cases w4 : w = 4
  · simp only [if_pos w4]
  simp only [if_neg w4]
  by_cases w5 : w = 5
  · simp only [if_pos w5]
    subst w5
    exact ret_c (R0.1.1 0 (by decide))
  simp only [if_neg w5]
  by_cases w6 : w = 6
  · simp only [if_pos w6]
    subst w6
    exact ret_c (R0.1.1 1 (by decide))
  simp only [if_neg w6]
  by_cases w7 : w = 7
  · simp only [if_pos w7]
    subst w7
    exact ret_c (R0.1.1 2 (by decide))
  simp only [if_neg w7]
  by_cases w8 : w = 8
  · simp only [if_pos w8]
  simp only [if_neg w8]
  by_cases w9 : w = 9
  · simp only [if_pos w9]
  simp only [if_neg w9]
theorem m_sign (O : Ok1 (zD Z)) {x l k : Int} (hx : ag x) (hl : ag l) (hk : ag k) (R : MZ M Z) : ∃ M', fX6_sign c (hM h a M) (some a) (iI x) (iI l) (iI k) = some (hM h a M', some (.inl (iI (rSgn (zD Z) x l k)))) ∧ MZ M' Z := by
  unfold ag at hx hl hk
  have R0 := MZ_0 (v := 0) R
  have GF := O.2.2.1
  have no : sgR (zD Z) x = -6 → fX6_sign_25 c (hM h a (mset M 0 0 0)) (some a) (iI l) (iI k) (iI (-6)) = some (hM h a (mset M 0 0 0), some (.inl (iI (rSgn (zD Z) x l k)))) := by
    intro e
    unfold fX6_sign_25 fX6_sign_48 rSgn
    rw [if_pos e]
    simp (maxSteps := 1000000) (disch := omega) only [cc_s, kI_i, kV_n, kR_r, ck_M, rdI_M3, rdI_M7, rdI_M9, rdI_M10, rdI_M11, rdI_M12, rdI_M14, rdR_M1, rdR_M2, rdR_M4, rdR_M5, rdR_M6, rdR_M8, rdR_M13, wr_M0, wr_M3, wr_M7, wr_M9, wr_M10, wr_M11, wr_M12, wr_M14, ald_M1, ald_M2, ald_M3, ald_M5, ald_M6, ald_M7, ast_M1, ast_M2, ast_M3, ast_M5, ast_M6, ast_M7, iI_l, iI_add, iI_sub, iI_mul, iI_neg, dv_i, Int.reduceToNat, if_true]
  have yes : ∀ r : Nat, sgR (zD Z) x = r → isR (zD Z) r → ∃ M', fX6_sign_25 c (hM h a (mset M 0 0 0)) (some a) (iI l) (iI k) (iI r) = some (hM h a M', some (.inl (iI (rSgn (zD Z) x l k)))) ∧ MZ M' Z := by
    intro r e ir
    have r21 := ir.1
    have lb := lnI_rg O ir
    have wb := wdI_rg O ir
    unfold fX6_sign_25 fX6_sign_48 rSgn
    rw [e, Int.toNat_natCast]
    simp (maxSteps := 1000000) (disch := omega) only [cc_s, kI_i, kV_n, kR_r, ck_M, rdI_M3, rdI_M7, rdI_M9, rdI_M10, rdI_M11, rdI_M12, rdI_M14, rdR_M1, rdR_M2, rdR_M4, rdR_M5, rdR_M6, rdR_M8, rdR_M13, wr_M0, wr_M3, wr_M7, wr_M9, wr_M10, wr_M11, wr_M12, wr_M14, ald_M1, ald_M2, ald_M3, ald_M5, ald_M6, ald_M7, ast_M1, ast_M2, ast_M3, ast_M5, ast_M6, ast_M7, iI_l, iI_add, iI_sub, iI_mul, iI_neg, dv_i, Int.reduceToNat, eq_i, lt_i]
    have n6 : ¬ ((r : Int) = -6) := by omega
    simp only [if_neg n6]
    by_cases h1 : l < 0
    · simp only [if_pos h1]; exact ⟨_, rfl, R0⟩
    simp only [if_neg h1]
    obtain ⟨M1, j1, e1⟩ := m_linesOf (c := c) (h := h) (a := a) R0.1 O ir
    have R1 := j1.ms R0.1
    rw [e1]
    simp (maxSteps := 1000000) (disch := omega) only [cc_s, kI_i, kV_n, kR_r, ck_M, rdI_M3, rdI_M7, rdI_M9, rdI_M10, rdI_M11, rdI_M12, rdI_M14, rdR_M1, rdR_M2, rdR_M4, rdR_M5, rdR_M6, rdR_M8, rdR_M13, wr_M0, wr_M3, wr_M7, wr_M9, wr_M10, wr_M11, wr_M12, wr_M14, ald_M1, ald_M2, ald_M3, ald_M5, ald_M6, ald_M7, ast_M1, ast_M2, ast_M3, ast_M5, ast_M6, ast_M7, iI_l, iI_add, iI_sub, iI_mul, iI_neg, dv_i, Int.reduceToNat, lt_i]
    by_cases h2 : l < lnI (zD Z) r
    · simp only [if_pos h2]
      simp (maxSteps := 1000000) (disch := omega) only [cc_s, kI_i, kV_n, kR_r, ck_M, rdI_M3, rdI_M7, rdI_M9, rdI_M10, rdI_M11, rdI_M12, rdI_M14, rdR_M1, rdR_M2, rdR_M4, rdR_M5, rdR_M6, rdR_M8, rdR_M13, wr_M0, wr_M3, wr_M7, wr_M9, wr_M10, wr_M11, wr_M12, wr_M14, ald_M1, ald_M2, ald_M3, ald_M5, ald_M6, ald_M7, ast_M1, ast_M2, ast_M3, ast_M5, ast_M6, ast_M7, iI_l, iI_add, iI_sub, iI_mul, iI_neg, dv_i, Int.reduceToNat, m_widthOf R1 r21, m_in, bI_0]
      by_cases h3 : 0 ≤ k ∧ k ≤ wdI (zD Z) r - 1
      · have n3 : ¬ ¬ (0 ≤ k ∧ k ≤ wdI (zD Z) r - 1) := fun h => h h3
        simp only [if_neg n3, if_pos h3]
        obtain ⟨M2, j2, e2⟩ := m_signAt (c := c) (h := h) (a := a) (w := l) (p := k) R1 O ir hl.1 hl.2 (by omega) (by omega)
        refine ⟨M2, ?_, MZ_jk R0 (j1.tr j2)⟩
        rw [e2]
        simp (maxSteps := 1000000) (disch := omega) only [cc_s, kI_i, kV_n, kR_r, ck_M, rdI_M3, rdI_M7, rdI_M9, rdI_M10, rdI_M11, rdI_M12, rdI_M14, rdR_M1, rdR_M2, rdR_M4, rdR_M5, rdR_M6, rdR_M8, rdR_M13, wr_M0, wr_M3, wr_M7, wr_M9, wr_M10, wr_M11, wr_M12, wr_M14, ald_M1, ald_M2, ald_M3, ald_M5, ald_M6, ald_M7, ast_M1, ast_M2, ast_M3, ast_M5, ast_M6, ast_M7, iI_l, iI_add, iI_sub, iI_mul, iI_neg, dv_i, Int.reduceToNat]
      · simp only [if_pos h3, if_neg h3]
        exact ⟨_, rfl, MZ_jk R0 j1⟩
    · simp only [if_neg h2]
      exact ⟨_, rfl, MZ_jk R0 j1⟩
  unfold fX6_sign
  simp (maxSteps := 1000000) (disch := omega) only [cc_s, kI_i, kV_n, kR_r, ck_M, rdI_M3, rdI_M7, rdI_M9, rdI_M10, rdI_M11, rdI_M12, rdI_M14, rdR_M1, rdR_M2, rdR_M4, rdR_M5, rdR_M6, rdR_M8, rdR_M13, wr_M0, wr_M3, wr_M7, wr_M9, wr_M10, wr_M11, wr_M12, wr_M14, ald_M1, ald_M2, ald_M3, ald_M5, ald_M6, ald_M7, ast_M1, ast_M2, ast_M3, ast_M5, ast_M6, ast_M7, iI_l, iI_add, iI_sub, iI_mul, iI_neg, dv_i, Int.reduceToNat, m_in, bI_0]
  by_cases h1 : -2 ≤ x ∧ x ≤ 0
  · rw [if_neg (fun h => h h1)]
    have e : sgR (zD Z) x = -x := by unfold sgR; rw [if_pos h1]
    obtain ⟨r, hr⟩ := Int.eq_ofNat_of_zero_le (show 0 ≤ -x by omega)
    rw [hr]
    exact yes r (e.trans hr) ⟨by omega, Or.inl (by omega)⟩
  · rw [if_pos h1]
    have e : sgR (zD Z) x = recI (zD Z) x := by unfold sgR; rw [if_neg h1]
    rw [m_recordOf R0.1 GF hx.1 hx.2]
    simp (maxSteps := 1000000) (disch := omega) only [cc_s, kI_i, kV_n, kR_r, ck_M, rdI_M3, rdI_M7, rdI_M9, rdI_M10, rdI_M11, rdI_M12, rdI_M14, rdR_M1, rdR_M2, rdR_M4, rdR_M5, rdR_M6, rdR_M8, rdR_M13, wr_M0, wr_M3, wr_M7, wr_M9, wr_M10, wr_M11, wr_M12, wr_M14, ald_M1, ald_M2, ald_M3, ald_M5, ald_M6, ald_M7, ast_M1, ast_M2, ast_M3, ast_M5, ast_M6, ast_M7, iI_l, iI_add, iI_sub, iI_mul, iI_neg, dv_i, Int.reduceToNat]
    rcases recI_c (zD Z) x with e2 | ⟨r, e2, r3, r21, x0, ex⟩
    · rw [e2]
      exact ⟨_, no (e.trans e2), R0⟩
    · rw [e2]
      exact yes r (e.trans e2) ⟨r21, Or.inr (by omega)⟩
end
