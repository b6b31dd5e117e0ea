/-! close, the pad -/
def rClo (D : Dt) (t p : Int) : Int := if ¬ (0 ≤ t ∧ t ≤ 2) then -1 else if ¬ (0 ≤ p ∧ p ≤ 3) then -2 else if gF D t.toNat 8 = 0 then -5 else if manyI D 0 + manyI D 1 = 10 then -4 else gT D 4 + 1
def cloD (D : Dt) (r t : Nat) (p : Int) : Dt := sFl (emD (sFl (sFl (sFl (sT (cpD D r t) 4 (gT D 4 + 1)) r 0 (gT D 4 + 1)) r 2 p) r 4 (gT D 0)) t) t 1 t
def zClo (Z : Zt) (t p : Int) : Zt := if ¬ (0 ≤ t ∧ t ≤ 2) then Z else if ¬ (0 ≤ p ∧ p ≤ 3) then Z else if gF (zD Z) t.toNat 8 = 0 then Z else if manyI (zD Z) 0 + manyI (zD Z) 1 = 10 then Z else zDo Z (cloD (zD Z) (freeI (zD Z)).toNat t.toNat p)
theorem freeI_c {D : Dt} (h : freeI D ≠ -6) : ∃ r : Nat, freeI D = r ∧ 3 ≤ r ∧ r < 21 ∧ gF D r 0 ≤ 0 := by
  obtain ⟨i, h1, h2, h3, h4⟩ := fF_some 18 3 h
  exact ⟨i, h1, h2, h3, of_decide_eq_true h4⟩
section
variable {c : Nat → Option Nat} {h : Hp} {a : Nat} {M : Nat → Nat → Int} {Z : Zt} {D : Dt}
/-- what is left of close once the block is copied -/
theorem m_clo_end {r t : Nat} {p : Int} (R : MS (M 1) (cpD D r t)) (hr : r < 21) (ht : t < 21) (h3 : 3 ≤ r) (ht3 : t < 3) {f : Nat} : ∃ M', fX6_close_70 c (f + 1) (hM h a M) (some a) (iI t) (iI p) (iI r) (iI 86) = some (hM h a M', some (.inl (iI (gT D 4 + 1)))) ∧ eqS M M' ∧ MS (M' 1) (cloD D r t p) := by
  have a1 := m_sT (v := gT D 4 + 1) R (show 4 < 12 by decide)
  obtain ⟨M2, e2, q2, R2⟩ := m_layF (c := c) (h := h) (a := a) a1.2 hr (w := 0) (v := gT D 4 + 1) (by decide) (by decide)
  obtain ⟨M3, e3, q3, R3⟩ := m_layF (c := c) (h := h) (a := a) R2 hr (w := 2) (v := p) (by decide) (by decide)
  obtain ⟨M4, e4, q4, R4⟩ := m_layF (c := c) (h := h) (a := a) R3 hr (w := 4) (v := gT D 0) (by decide) (by decide)
  obtain ⟨M5, e5, q5, R5⟩ := m_empties (c := c) (h := h) (a := a) R4 ht
  obtain ⟨M6, e6, q6, R6⟩ := m_layF (c := c) (h := h) (a := a) R5 ht (w := 1) (v := t) (by decide) (by decide)
  have t4 : M 1 4 = gT D 4 := R.1 4 (by decide)
  have t4' : mset M 1 4 (gT D 4 + 1) 1 4 = gT D 4 + 1 := a1.2.1 4 (by decide)
  have t0 : M3 1 0 = gT D 0 := R3.1 0 (by decide)
  have t6 : M6 1 4 = gT D 4 + 1 := R6.1 4 (by decide)
  refine ⟨M6, ?_, a1.1.tr (q2.tr (q3.tr (q4.tr (q5.tr q6)))), R6⟩
  rw [fX6_close_70]
  simp (maxSteps := 1000000) (disch := omega) only [cc_s, kI_i, kV_n, kR_r, ck_M, rdI_M3, rdI_M7, rdI_M9, rdI_M10, rdI_M11, rdI_M12, rdI_M14, rdR_M1, rdR_M2, rdR_M4, rdR_M5, rdR_M6, rdR_M8, rdR_M13, wr_M0, wr_M3, wr_M7, wr_M9, wr_M10, wr_M11, wr_M12, wr_M14, ald_M1, ald_M2, ald_M3, ald_M5, ald_M6, ald_M7, ast_M1, ast_M2, ast_M3, ast_M5, ast_M6, ast_M7, iI_l, iI_add, iI_sub, iI_mul, iI_neg, dv_i, Int.reduceToNat, lt_i]
  rw [if_neg (by decide)]
  simp (maxSteps := 1000000) (disch := omega) only [cc_s, kI_i, kV_n, kR_r, ck_M, rdI_M3, rdI_M7, rdI_M9, rdI_M10, rdI_M11, rdI_M12, rdI_M14, rdR_M1, rdR_M2, rdR_M4, rdR_M5, rdR_M6, rdR_M8, rdR_M13, wr_M0, wr_M3, wr_M7, wr_M9, wr_M10, wr_M11, wr_M12, wr_M14, ald_M1, ald_M2, ald_M3, ald_M5, ald_M6, ald_M7, ast_M1, ast_M2, ast_M3, ast_M5, ast_M6, ast_M7, iI_l, iI_add, iI_sub, iI_mul, iI_neg, dv_i, Int.reduceToNat, t4, t4']
  rw [e2]
  simp (maxSteps := 1000000) (disch := omega) only [cc_s, kI_i, kV_n, kR_r, ck_M, rdI_M3, rdI_M7, rdI_M9, rdI_M10, rdI_M11, rdI_M12, rdI_M14, rdR_M1, rdR_M2, rdR_M4, rdR_M5, rdR_M6, rdR_M8, rdR_M13, wr_M0, wr_M3, wr_M7, wr_M9, wr_M10, wr_M11, wr_M12, wr_M14, ald_M1, ald_M2, ald_M3, ald_M5, ald_M6, ald_M7, ast_M1, ast_M2, ast_M3, ast_M5, ast_M6, ast_M7, iI_l, iI_add, iI_sub, iI_mul, iI_neg, dv_i, Int.reduceToNat]
  rw [e3]
  simp (maxSteps := 1000000) (disch := omega) only [cc_s, kI_i, kV_n, kR_r, ck_M, rdI_M3, rdI_M7, rdI_M9, rdI_M10, rdI_M11, rdI_M12, rdI_M14, rdR_M1, rdR_M2, rdR_M4, rdR_M5, rdR_M6, rdR_M8, rdR_M13, wr_M0, wr_M3, wr_M7, wr_M9, wr_M10, wr_M11, wr_M12, wr_M14, ald_M1, ald_M2, ald_M3, ald_M5, ald_M6, ald_M7, ast_M1, ast_M2, ast_M3, ast_M5, ast_M6, ast_M7, iI_l, iI_add, iI_sub, iI_mul, iI_neg, dv_i, Int.reduceToNat, t0]
  rw [e4]
  simp (maxSteps := 1000000) (disch := omega) only [cc_s, kI_i, kV_n, kR_r, ck_M, rdI_M3, rdI_M7, rdI_M9, rdI_M10, rdI_M11, rdI_M12, rdI_M14, rdR_M1, rdR_M2, rdR_M4, rdR_M5, rdR_M6, rdR_M8, rdR_M13, wr_M0, wr_M3, wr_M7, wr_M9, wr_M10, wr_M11, wr_M12, wr_M14, ald_M1, ald_M2, ald_M3, ald_M5, ald_M6, ald_M7, ast_M1, ast_M2, ast_M3, ast_M5, ast_M6, ast_M7, iI_l, iI_add, iI_sub, iI_mul, iI_neg, dv_i, Int.reduceToNat]
  rw [e5]
  simp (maxSteps := 1000000) (disch := omega) only [cc_s, kI_i, kV_n, kR_r, ck_M, rdI_M3, rdI_M7, rdI_M9, rdI_M10, rdI_M11, rdI_M12, rdI_M14, rdR_M1, rdR_M2, rdR_M4, rdR_M5, rdR_M6, rdR_M8, rdR_M13, wr_M0, wr_M3, wr_M7, wr_M9, wr_M10, wr_M11, wr_M12, wr_M14, ald_M1, ald_M2, ald_M3, ald_M5, ald_M6, ald_M7, ast_M1, ast_M2, ast_M3, ast_M5, ast_M6, ast_M7, iI_l, iI_add, iI_sub, iI_mul, iI_neg, dv_i, Int.reduceToNat]
  rw [e6]
  simp (maxSteps := 1000000) (disch := omega) only [cc_s, kI_i, kV_n, kR_r, ck_M, rdI_M3, rdI_M7, rdI_M9, rdI_M10, rdI_M11, rdI_M12, rdI_M14, rdR_M1, rdR_M2, rdR_M4, rdR_M5, rdR_M6, rdR_M8, rdR_M13, wr_M0, wr_M3, wr_M7, wr_M9, wr_M10, wr_M11, wr_M12, wr_M14, ald_M1, ald_M2, ald_M3, ald_M5, ald_M6, ald_M7, ast_M1, ast_M2, ast_M3, ast_M5, ast_M6, ast_M7, iI_l, iI_add, iI_sub, iI_mul, iI_neg, dv_i, Int.reduceToNat, t6]
theorem m_clo_l {r t : Nat} {p : Int} (R : MS (M 1) D) (hr : r < 21) (ht : t < 21) (h3 : 3 ≤ r) (ht3 : t < 3) : ∀ (m fu k : Nat) (g : Nat → Int), m < fu → k + m = 86 → (∀ j, 12 + 86 * t ≤ j → j < 12 + 86 * t + 86 → g j = M 1 j) → fX6_close_70 c fu (hM h a (rset M 1 g)) (some a) (iI t) (iI p) (iI r) (iI k) = fX6_close_70 c (fu - m) (hM h a (rset M 1 (fun j => if 12 + 86 * r + k ≤ j ∧ j < 12 + 86 * r + 86 then M 1 (12 + 86 * t + (j - (12 + 86 * r))) else g j))) (some a) (iI t) (iI p) (iI r) (iI 86) := by
  intro m
  induction m with
  | zero =>
    intro fu k g hf hk hg
    have e : (fun j => if 12 + 86 * r + k ≤ j ∧ j < 12 + 86 * r + 86 then M 1 (12 + 86 * t + (j - (12 + 86 * r))) else g j) = g := by
      funext j; rw [if_neg (by omega)]
    rw [e, show k = 86 by omega]
    rfl
  | succ m ih =>
    intro fu k g hf hk hg
    obtain ⟨f, rfl⟩ : ∃ f, fu = f + 1 := ⟨fu - 1, by omega⟩
    rw [fX6_close_70]
    simp (maxSteps := 1000000) (disch := omega) only [cc_s, kI_i, kV_n, kR_r, ck_M, rdI_M3, rdI_M7, rdI_M9, rdI_M10, rdI_M11, rdI_M12, rdI_M14, rdR_M1, rdR_M2, rdR_M4, rdR_M5, rdR_M6, rdR_M8, rdR_M13, wr_M0, wr_M3, wr_M7, wr_M9, wr_M10, wr_M11, wr_M12, wr_M14, ald_M1, ald_M2, ald_M3, ald_M5, ald_M6, ald_M7, ast_M1, ast_M2, ast_M3, ast_M5, ast_M6, ast_M7, iI_l, iI_add, iI_sub, iI_mul, iI_neg, dv_i, Int.reduceToNat, lt_i, m_of, rset_eq, m_lay, mset_r, iI_k1]
    rw [if_pos (by omega), show (12 + 86 * (r : Int) + k).toNat = 12 + 86 * r + k by omega, show (12 + 86 * (t : Int) + k).toNat = 12 + 86 * t + k by omega]
    rw [ih f (k + 1) _ (by omega) (by omega) (fun j h1 h2 => by unfold st; rw [if_neg (by omega)]; exact hg j h1 h2)]
    have e : (fun j => if 12 + 86 * r + (k + 1) ≤ j ∧ j < 12 + 86 * r + 86 then M 1 (12 + 86 * t + (j - (12 + 86 * r))) else st g (12 + 86 * r + k) (g (12 + 86 * t + k)) j) = (fun j => if 12 + 86 * r + k ≤ j ∧ j < 12 + 86 * r + 86 then M 1 (12 + 86 * t + (j - (12 + 86 * r))) else g j) := by
      funext j
      unfold st
      by_cases q : j = 12 + 86 * r + k
      · rw [if_neg (by omega), if_pos q, if_pos (by omega), hg _ (by omega) (by omega)]
        congr 1; omega
      · by_cases q2 : 12 + 86 * r + k ≤ j ∧ j < 12 + 86 * r + 86
        · rw [if_pos (by omega), if_pos q2]
        · rw [if_neg (by omega), if_neg q, if_neg q2]
    rw [e, show f + 1 - (m + 1) = f - m by omega]
theorem m_close (O : Ok1 (zD Z)) (hfr : manyI (zD Z) 0 + manyI (zD Z) 1 ≠ 10 → freeI (zD Z) ≠ -6) {t p : Int} (ht : ag t) (hp : ag p) (R : MZ M Z) : ∃ M', fX6_close c (hM h a M) (some a) (iI t) (iI p) = some (hM h a M', some (.inl (iI (rClo (zD Z) t p)))) ∧ MZ M' (zClo Z t p) := by
  unfold ag at ht hp
  have R0 := MZ_0 (v := 0) R
  have GF := O.2.2.1
  have b0 := manyI_bd (zD Z) 0
  have b1 := manyI_bd (zD Z) 1
  unfold fX6_close rClo zClo
  simp (maxSteps := 1000000) (disch := omega) only [cc_s, kI_i, kV_n, kR_r, ck_M, rdI_M3, rdI_M7, rdI_M9, rdI_M10, rdI_M11, rdI_M12, rdI_M14, rdR_M1, rdR_M2, rdR_M4, rdR_M5, rdR_M6, rdR_M8, rdR_M13, wr_M0, wr_M3, wr_M7, wr_M9, wr_M10, wr_M11, wr_M12, wr_M14, ald_M1, ald_M2, ald_M3, ald_M5, ald_M6, ald_M7, ast_M1, ast_M2, ast_M3, ast_M5, ast_M6, ast_M7, iI_l, iI_add, iI_sub, iI_mul, iI_neg, dv_i, Int.reduceToNat, m_isTill, m_in, bI_0]
  by_cases h1 : 0 ≤ t ∧ t ≤ 2
  · have n1 : ¬ ¬ (0 ≤ t ∧ t ≤ 2) := fun h => h h1
    simp only [if_neg n1]
    by_cases h2 : 0 ≤ p ∧ p ≤ 3
    · have n2 : ¬ ¬ (0 ≤ p ∧ p ≤ 3) := fun h => h h2
      simp only [if_neg n2]
      obtain ⟨q, rfl⟩ := Int.eq_ofNat_of_zero_le h1.1
      have q21 : q < 21 := by omega
      have g8 := (O.1 q q21).1
      rw [Int.toNat_natCast]
      simp (maxSteps := 1000000) (disch := omega) only [cc_s, kI_i, kV_n, kR_r, ck_M, rdI_M3, rdI_M7, rdI_M9, rdI_M10, rdI_M11, rdI_M12, rdI_M14, rdR_M1, rdR_M2, rdR_M4, rdR_M5, rdR_M6, rdR_M8, rdR_M13, wr_M0, wr_M3, wr_M7, wr_M9, wr_M10, wr_M11, wr_M12, wr_M14, ald_M1, ald_M2, ald_M3, ald_M5, ald_M6, ald_M7, ast_M1, ast_M2, ast_M3, ast_M5, ast_M6, ast_M7, iI_l, iI_add, iI_sub, iI_mul, iI_neg, dv_i, Int.reduceToNat, m_F R0.1 q21, eq_i]
      by_cases h8 : gF (zD Z) q 8 = 0
      · simp only [if_pos h8]
        exact ⟨_, rfl, R0⟩
      · simp only [if_neg h8]
        simp (maxSteps := 1000000) (disch := omega) only [cc_s, kI_i, kV_n, kR_r, ck_M, rdI_M3, rdI_M7, rdI_M9, rdI_M10, rdI_M11, rdI_M12, rdI_M14, rdR_M1, rdR_M2, rdR_M4, rdR_M5, rdR_M6, rdR_M8, rdR_M13, wr_M0, wr_M3, wr_M7, wr_M9, wr_M10, wr_M11, wr_M12, wr_M14, ald_M1, ald_M2, ald_M3, ald_M5, ald_M6, ald_M7, ast_M1, ast_M2, ast_M3, ast_M5, ast_M6, ast_M7, iI_l, iI_add, iI_sub, iI_mul, iI_neg, dv_i, Int.reduceToNat, m_manyHow R0.1 GF, eq_i]
        by_cases h10 : manyI (zD Z) 0 + manyI (zD Z) 1 = 10
        · simp only [if_pos h10]
          exact ⟨_, rfl, R0⟩
        · simp only [if_neg h10]
          obtain ⟨M1, e1, Z1, R1⟩ := m_rec2 (c := c) (h := h) (a := a) R
          have hf := hfr h10
          obtain ⟨r, er, r3, r21, -⟩ := freeI_c hf
          have key := m_clo_l (c := c) (h := h) (a := a) (p := p) R1 r21 q21 r3 (by omega) 86 FU 0 (M1 1) (by decide) (by decide) (fun j _ _ => rfl)
          rw [rset_self, show FU - 86 = 19913 + 1 from rfl, show ((0 : Nat) : Int) = 0 from rfl] at key
          have R2 : MS (rset M1 1 (fun j => if 12 + 86 * r + 0 ≤ j ∧ j < 12 + 86 * r + 86 then M1 1 (12 + 86 * q + (j - (12 + 86 * r))) else M1 1 j) 1) (cpD (zD Z) r q) := by
            rw [rset_eq]
            exact MS_cp R1 r21 q21 (fun j => rfl)
          obtain ⟨M', g1, g2, g3⟩ := m_clo_end (c := c) (h := h) (a := a) (p := p) (f := 19913) R2 r21 q21 r3 (by omega)
          refine ⟨M', ?_, MZ_set Z1 ((eqS.row M1 _).tr g2) (by rw [er]; exact g3)⟩
          rw [e1]
          simp (maxSteps := 1000000) (disch := omega) only [cc_s, kI_i, kV_n, kR_r, ck_M, rdI_M3, rdI_M7, rdI_M9, rdI_M10, rdI_M11, rdI_M12, rdI_M14, rdR_M1, rdR_M2, rdR_M4, rdR_M5, rdR_M6, rdR_M8, rdR_M13, wr_M0, wr_M3, wr_M7, wr_M9, wr_M10, wr_M11, wr_M12, wr_M14, ald_M1, ald_M2, ald_M3, ald_M5, ald_M6, ald_M7, ast_M1, ast_M2, ast_M3, ast_M5, ast_M6, ast_M7, iI_l, iI_add, iI_sub, iI_mul, iI_neg, dv_i, Int.reduceToNat]
          rw [m_freeRecord R1 GF hf, er]
          simp (maxSteps := 1000000) (disch := omega) only [cc_s, kI_i, kV_n, kR_r, ck_M, rdI_M3, rdI_M7, rdI_M9, rdI_M10, rdI_M11, rdI_M12, rdI_M14, rdR_M1, rdR_M2, rdR_M4, rdR_M5, rdR_M6, rdR_M8, rdR_M13, wr_M0, wr_M3, wr_M7, wr_M9, wr_M10, wr_M11, wr_M12, wr_M14, ald_M1, ald_M2, ald_M3, ald_M5, ald_M6, ald_M7, ast_M1, ast_M2, ast_M3, ast_M5, ast_M6, ast_M7, iI_l, iI_add, iI_sub, iI_mul, iI_neg, dv_i, Int.reduceToNat]
          rw [key]
          exact g1
    · simp only [if_pos h2]
      exact ⟨_, rfl, R0⟩
  · simp only [if_pos h1]
    exact ⟨_, rfl, R0⟩
end
