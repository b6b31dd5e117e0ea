/-! the reference's answers that change nothing -/
def rOut (D : Dt) : Int := if allI D < gT D 7 then -6 else tksI D (gT D 7)
def rDin (D : Dt) (x : Int) : Int := if recI D x = -6 then -1 else if gF D (recI D x).toNat 3 = 2 then 0 else if gT D 7 < upI D (recI D x).toNat then -6 else tksI D (upI D (recI D x).toNat)
def rIfs (D : Dt) (t i : Int) : Int := if 0 ≤ t ∧ t ≤ 2 ∧ 0 ≤ i ∧ i < gF D t.toNat 8 then totI D t.toNat + (if gP D t.toNat i.toNat 3 = 1 then gP D t.toNat i.toNat 0 * gP D t.toNat i.toNat 1 else -(gP D t.toNat i.toNat 0 * gP D t.toNat i.toNat 1)) else -1
def rWai (D : Dt) (x : Int) : Int := if x < 0 then -1 else if atI D x = -6 then -1 else gF D (atI D x).toNat 0
def rPri (D : Dt) (x : Int) : Int := if x = 0 then (if prtI D = -6 then -6 else gF D (prtI D).toNat 0) else if 1 ≤ x ∧ x ≤ 5 then gT D (6 + x.toNat) else -2
section
variable {c : Nat → Option Nat} {h : Hp} {a : Nat} {M : Nat → Nat → Int} {Z : Zt}
theorem allI_bd {D : Dt} (O : Ok1 D) : -20000000 ≤ allI D ∧ allI D ≤ 27000 := by
  have key : ∀ (m k : Nat), k + m = 21 → -1000000 * (m : Int) ≤ sF (toPrI D) k m ∧ sF (toPrI D) k m ≤ 1500 * m := by
    intro m
    induction m with
    | zero => intro k _; simp [sF]
    | succ m ih =>
      intro k hk
      have h1 := ih (k + 1) (by omega)
      have h2 : -1000000 ≤ toPrI D k ∧ toPrI D k ≤ 1500 := by
        unfold toPrI
        by_cases e : hwP D 0 k = true ∨ hwP D 1 k = true
        · rw [if_pos e]
          have ir : isR D k := by
            rcases e with e | e
            · exact hwP_is e (by omega)
            · exact hwP_is e (by omega)
          have := leftI_rg O ir
          omega
        · rw [if_neg e]; decide
      rw [sF]
      omega
  have := key 18 3 (by decide)
  unfold allI
  omega
theorem upI_bd {D : Dt} {r : Nat} (O : Ok1 D) (hr : isR D r) : -20000000 ≤ upI D r ∧ upI D r ≤ 30000 := by
  have key : ∀ (m k : Nat), k + m = 21 → -1000000 * (m : Int) ≤ sF (aheadI D r) k m ∧ sF (aheadI D r) k m ≤ 1500 * m := by
    intro m
    induction m with
    | zero => intro k _; simp [sF]
    | succ m ih =>
      intro k hk
      have h1 := ih (k + 1) (by omega)
      have h2 : -1000000 ≤ aheadI D r k ∧ aheadI D r k ≤ 1500 := by
        unfold aheadI
        by_cases e : hwP D 1 k = true ∨ (hwP D 0 k = true ∧ k ≠ r ∧ ahD D k r = true)
        · rw [if_pos e]
          have ir : isR D k := by
            rcases e with e | e
            · exact hwP_is e (by omega)
            · exact hwP_is e.1 (by omega)
          have := leftI_rg O ir
          omega
        · rw [if_neg e]; decide
      rw [sF]
      omega
  have := key 18 3 (by decide)
  have h2 := leftI_rg O hr
  unfold upI
  split <;> omega
theorem m_linesLeft (O : Ok1 (zD Z)) (R : MZ M Z) : ∃ M', fX6_linesLeft c (hM h a M) (some a) = some (hM h a M', some (.inl (iI (allI (zD Z))))) ∧ MZ M' Z := by
  have R0 := MZ_0 (v := 0) R
  obtain ⟨M1, j1, e1⟩ := m_allLeft (c := c) (h := h) (a := a) R0.1 O
  refine ⟨M1, ?_, MZ_jk R0 j1⟩
  unfold fX6_linesLeft
  simp (maxSteps := 1000000) (disch := omega) only [cc_s, kI_i, kV_n, kR_r, ck_M, rdI_M3, rdI_M7, rdI_M9, rdI_M10, rdI_M11, rdI_M12, rdI_M14, rdR_M1, rdR_M2, rdR_M4, rdR_M5, rdR_M6, rdR_M8, rdR_M13, wr_M0, wr_M3, wr_M7, wr_M9, wr_M10, wr_M11, wr_M12, wr_M14, ald_M1, ald_M2, ald_M3, ald_M5, ald_M6, ald_M7, ast_M1, ast_M2, ast_M3, ast_M5, ast_M6, ast_M7, iI_l, iI_add, iI_sub, iI_mul, iI_neg, dv_i, Int.reduceToNat]
  rw [e1]
  simp (maxSteps := 1000000) (disch := omega) only [cc_s, kI_i, kV_n, kR_r, ck_M, rdI_M3, rdI_M7, rdI_M9, rdI_M10, rdI_M11, rdI_M12, rdI_M14, rdR_M1, rdR_M2, rdR_M4, rdR_M5, rdR_M6, rdR_M8, rdR_M13, wr_M0, wr_M3, wr_M7, wr_M9, wr_M10, wr_M11, wr_M12, wr_M14, ald_M1, ald_M2, ald_M3, ald_M5, ald_M6, ald_M7, ast_M1, ast_M2, ast_M3, ast_M5, ast_M6, ast_M7, iI_l, iI_add, iI_sub, iI_mul, iI_neg, dv_i, Int.reduceToNat]
theorem m_outIn (O : Ok1 (zD Z)) (R : MZ M Z) : ∃ M', fX6_outIn c (hM h a M) (some a) = some (hM h a M', some (.inl (iI (rOut (zD Z))))) ∧ MZ M' Z := by
  have R0 := MZ_0 (v := 0) R
  have T := O.2.2.2.1
  have b := allI_bd O
  obtain ⟨M1, j1, e1⟩ := m_allLeft (c := c) (h := h) (a := a) R0.1 O
  have R1 := j1.ms R0.1
  have T' := T
  unfold RgT at T'
  refine ⟨M1, ?_, MZ_jk R0 j1⟩
  unfold fX6_outIn fX6_outIn_35 rOut
  simp (maxSteps := 1000000) (disch := omega) only [cc_s, kI_i, kV_n, kR_r, ck_M, rdI_M3, rdI_M7, rdI_M9, rdI_M10, rdI_M11, rdI_M12, rdI_M14, rdR_M1, rdR_M2, rdR_M4, rdR_M5, rdR_M6, rdR_M8, rdR_M13, wr_M0, wr_M3, wr_M7, wr_M9, wr_M10, wr_M11, wr_M12, wr_M14, ald_M1, ald_M2, ald_M3, ald_M5, ald_M6, ald_M7, ast_M1, ast_M2, ast_M3, ast_M5, ast_M6, ast_M7, iI_l, iI_add, iI_sub, iI_mul, iI_neg, dv_i, Int.reduceToNat]
  rw [e1]
  simp (maxSteps := 1000000) (disch := omega) only [cc_s, kI_i, kV_n, kR_r, ck_M, rdI_M3, rdI_M7, rdI_M9, rdI_M10, rdI_M11, rdI_M12, rdI_M14, rdR_M1, rdR_M2, rdR_M4, rdR_M5, rdR_M6, rdR_M8, rdR_M13, wr_M0, wr_M3, wr_M7, wr_M9, wr_M10, wr_M11, wr_M12, wr_M14, ald_M1, ald_M2, ald_M3, ald_M5, ald_M6, ald_M7, ast_M1, ast_M2, ast_M3, ast_M5, ast_M6, ast_M7, iI_l, iI_add, iI_sub, iI_mul, iI_neg, dv_i, Int.reduceToNat, R1.1 7, lt_i, m_ticksFor R1 T]
  split <;> rfl
theorem m_doneIn (O : Ok1 (zD Z)) {x : Int} (hx : ag x) (hup : ∀ r, isR (zD Z) r → gF (zD Z) r 3 ≠ 2 → 0 ≤ upI (zD Z) r) (R : MZ M Z) : ∃ M', fX6_doneIn c (hM h a M) (some a) (iI x) = some (hM h a M', some (.inl (iI (rDin (zD Z) x)))) ∧ MZ M' Z := by
  unfold ag at hx
  have R0 := MZ_0 (v := 0) R
  have GF := O.2.2.1
  have T := O.2.2.2.1
  have T' := T
  unfold RgT at T'
  unfold fX6_doneIn fX6_doneIn_58 rDin
  simp (maxSteps := 1000000) (disch := omega) only [cc_s, kI_i, kV_n, kR_r, ck_M, rdI_M3, rdI_M7, rdI_M9, rdI_M10, rdI_M11, rdI_M12, rdI_M14, rdR_M1, rdR_M2, rdR_M4, rdR_M5, rdR_M6, rdR_M8, rdR_M13, wr_M0, wr_M3, wr_M7, wr_M9, wr_M10, wr_M11, wr_M12, wr_M14, ald_M1, ald_M2, ald_M3, ald_M5, ald_M6, ald_M7, ast_M1, ast_M2, ast_M3, ast_M5, ast_M6, ast_M7, iI_l, iI_add, iI_sub, iI_mul, iI_neg, dv_i, Int.reduceToNat, m_recordOf R0.1 GF]
  rcases recI_c (zD Z) x with e | ⟨r, e, r3, r21, x0, ex⟩
  · rw [e]
    refine ⟨_, ?_, R0⟩
    rw [if_pos rfl, if_pos rfl]
  · have g3 := GF r r21 3 (by decide)
    have ir : isR (zD Z) r := ⟨r21, Or.inr (by omega)⟩
    have ub := upI_bd O ir
    rw [e, Int.toNat_natCast]
    simp (maxSteps := 1000000) (disch := omega) only [cc_s, kI_i, kV_n, kR_r, ck_M, rdI_M3, rdI_M7, rdI_M9, rdI_M10, rdI_M11, rdI_M12, rdI_M14, rdR_M1, rdR_M2, rdR_M4, rdR_M5, rdR_M6, rdR_M8, rdR_M13, wr_M0, wr_M3, wr_M7, wr_M9, wr_M10, wr_M11, wr_M12, wr_M14, ald_M1, ald_M2, ald_M3, ald_M5, ald_M6, ald_M7, ast_M1, ast_M2, ast_M3, ast_M5, ast_M6, ast_M7, iI_l, iI_add, iI_sub, iI_mul, iI_neg, dv_i, Int.reduceToNat, eq_i, m_F R0.1 r21]
    have n6 : ¬ ((r : Int) = -6) := by omega
    simp only [if_neg n6]
    by_cases h3 : gF (zD Z) r 3 = 2
    · simp only [if_pos h3]
      exact ⟨_, rfl, R0⟩
    · simp only [if_neg h3]
      have u0 := hup r ir h3
      obtain ⟨M1, j1, e1⟩ := m_linesUpTo (c := c) (h := h) (a := a) R0.1 O ir
      have R1 := j1.ms R0.1
      refine ⟨M1, ?_, MZ_jk R0 j1⟩
      rw [e1]
      simp (maxSteps := 1000000) (disch := omega) only [cc_s, kI_i, kV_n, kR_r, ck_M, rdI_M3, rdI_M7, rdI_M9, rdI_M10, rdI_M11, rdI_M12, rdI_M14, rdR_M1, rdR_M2, rdR_M4, rdR_M5, rdR_M6, rdR_M8, rdR_M13, wr_M0, wr_M3, wr_M7, wr_M9, wr_M10, wr_M11, wr_M12, wr_M14, ald_M1, ald_M2, ald_M3, ald_M5, ald_M6, ald_M7, ast_M1, ast_M2, ast_M3, ast_M5, ast_M6, ast_M7, iI_l, iI_add, iI_sub, iI_mul, iI_neg, dv_i, Int.reduceToNat, R1.1 7, lt_i, m_ticksFor R1 T]
      split <;> rfl
theorem m_ifStruck (O : Ok1 (zD Z)) {t i : Int} (ht : ag t) (hi : ag i) (R : MZ M Z) : ∃ M', fX6_ifStruck c (hM h a M) (some a) (iI t) (iI i) = some (hM h a M', some (.inl (iI (rIfs (zD Z) t i)))) ∧ MZ M' Z := by
  unfold ag at ht hi
  have R0 := MZ_0 (v := 0) R
  refine ⟨_, ?_, R0⟩
  unfold fX6_ifStruck fX6_ifStruck_46 rIfs
  simp (maxSteps := 1000000) (disch := omega) only [cc_s, kI_i, kV_n, kR_r, ck_M, rdI_M3, rdI_M7, rdI_M9, rdI_M10, rdI_M11, rdI_M12, rdI_M14, rdR_M1, rdR_M2, rdR_M4, rdR_M5, rdR_M6, rdR_M8, rdR_M13, wr_M0, wr_M3, wr_M7, wr_M9, wr_M10, wr_M11, wr_M12, wr_M14, ald_M1, ald_M2, ald_M3, ald_M5, ald_M6, ald_M7, ast_M1, ast_M2, ast_M3, ast_M5, ast_M6, ast_M7, iI_l, iI_add, iI_sub, iI_mul, iI_neg, dv_i, Int.reduceToNat, m_isItem R0.1 O.1, bI_0]
  by_cases h1 : 0 ≤ t ∧ t ≤ 2 ∧ 0 ≤ i ∧ i < gF (zD Z) t.toNat 8
  · have n1 : ¬ ¬ (0 ≤ t ∧ t ≤ 2 ∧ 0 ≤ i ∧ i < gF (zD Z) t.toNat 8) := fun h => h h1
    simp only [if_neg n1, if_pos h1]
    obtain ⟨r, rfl⟩ := Int.eq_ofNat_of_zero_le h1.1
    obtain ⟨q, rfl⟩ := Int.eq_ofNat_of_zero_le h1.2.2.1
    simp only [Int.toNat_natCast] at h1 ⊢
    have r21 : r < 21 := by omega
    have G := O.1 r r21
    have nn := nIt_le G
    have q12 : q < 12 := by omega
    simp (maxSteps := 1000000) (disch := omega) only [cc_s, kI_i, kV_n, kR_r, ck_M, rdI_M3, rdI_M7, rdI_M9, rdI_M10, rdI_M11, rdI_M12, rdI_M14, rdR_M1, rdR_M2, rdR_M4, rdR_M5, rdR_M6, rdR_M8, rdR_M13, wr_M0, wr_M3, wr_M7, wr_M9, wr_M10, wr_M11, wr_M12, wr_M14, ald_M1, ald_M2, ald_M3, ald_M5, ald_M6, ald_M7, ast_M1, ast_M2, ast_M3, ast_M5, ast_M6, ast_M7, iI_l, iI_add, iI_sub, iI_mul, iI_neg, dv_i, Int.reduceToNat, m_total R0.1 G r21, m_isStruck R0.1 G r21 q12, bI_0, m_sum R0.1 G r21 q12]
    by_cases h3 : gP (zD Z) r q 3 = 1
    · rw [if_neg (fun h => h h3), if_pos h3]
    · rw [if_pos h3, if_neg h3]
  · simp only [if_pos h1, if_neg h1]
theorem m_waiting (O : Ok1 (zD Z)) {x : Int} (hx : ag x) (R : MZ M Z) : ∃ M', fX6_waiting c (hM h a M) (some a) (iI x) = some (hM h a M', some (.inl (iI (rWai (zD Z) x)))) ∧ MZ M' Z := by
  unfold ag at hx
  have R0 := MZ_0 (v := 0) R
  have GF := O.2.2.1
  refine ⟨_, ?_, R0⟩
  unfold fX6_waiting fX6_waiting_19 fX6_waiting_36 rWai
  simp (maxSteps := 1000000) (disch := omega) only [cc_s, kI_i, kV_n, kR_r, ck_M, rdI_M3, rdI_M7, rdI_M9, rdI_M10, rdI_M11, rdI_M12, rdI_M14, rdR_M1, rdR_M2, rdR_M4, rdR_M5, rdR_M6, rdR_M8, rdR_M13, wr_M0, wr_M3, wr_M7, wr_M9, wr_M10, wr_M11, wr_M12, wr_M14, ald_M1, ald_M2, ald_M3, ald_M5, ald_M6, ald_M7, ast_M1, ast_M2, ast_M3, ast_M5, ast_M6, ast_M7, iI_l, iI_add, iI_sub, iI_mul, iI_neg, dv_i, Int.reduceToNat, lt_i, m_recordAt R0.1 GF]
  by_cases h1 : x < 0
  · rw [if_pos h1, if_pos h1, if_pos trivial]
  · rw [if_neg h1, if_neg h1]
    rcases atI_c (zD Z) x with e | ⟨r, e, r3, r21, -, -⟩
    · rw [e, if_pos rfl, if_pos rfl]
    · rw [e]
      simp (maxSteps := 1000000) (disch := omega) only [cc_s, kI_i, kV_n, kR_r, ck_M, rdI_M3, rdI_M7, rdI_M9, rdI_M10, rdI_M11, rdI_M12, rdI_M14, rdR_M1, rdR_M2, rdR_M4, rdR_M5, rdR_M6, rdR_M8, rdR_M13, wr_M0, wr_M3, wr_M7, wr_M9, wr_M10, wr_M11, wr_M12, wr_M14, ald_M1, ald_M2, ald_M3, ald_M5, ald_M6, ald_M7, ast_M1, ast_M2, ast_M3, ast_M5, ast_M6, ast_M7, iI_l, iI_add, iI_sub, iI_mul, iI_neg, dv_i, Int.reduceToNat, eq_i, m_F R0.1 r21, Int.toNat_natCast]
      rw [if_neg (by omega), if_neg (by omega)]
theorem m_printer (O : Ok1 (zD Z)) {x : Int} (hx : ag x) (R : MZ M Z) : ∃ M', fX6_printer c (hM h a M) (some a) (iI x) = some (hM h a M', some (.inl (iI (rPri (zD Z) x)))) ∧ MZ M' Z := by
  unfold ag at hx
  have R0 := MZ_0 (v := 0) R
  have GF := O.2.2.1
  refine ⟨_, ?_, R0⟩
  unfold fX6_printer fX6_printer_31 fX6_printer_57 rPri
  simp (maxSteps := 1000000) (disch := omega) only [cc_s, kI_i, kV_n, kR_r, ck_M, rdI_M3, rdI_M7, rdI_M9, rdI_M10, rdI_M11, rdI_M12, rdI_M14, rdR_M1, rdR_M2, rdR_M4, rdR_M5, rdR_M6, rdR_M8, rdR_M13, wr_M0, wr_M3, wr_M7, wr_M9, wr_M10, wr_M11, wr_M12, wr_M14, ald_M1, ald_M2, ald_M3, ald_M5, ald_M6, ald_M7, ast_M1, ast_M2, ast_M3, ast_M5, ast_M6, ast_M7, iI_l, iI_add, iI_sub, iI_mul, iI_neg, dv_i, Int.reduceToNat, eq_i, m_printedNow R0.1 GF, m_in, bI_0]
  by_cases h1 : x = 0
  · rw [if_pos h1, if_pos h1]
    rcases prtI_c (zD Z) with e | ⟨r, e, r3, r21, -⟩
    · rw [e, if_pos rfl, if_pos rfl]
    · rw [e]
      simp (maxSteps := 1000000) (disch := omega) only [cc_s, kI_i, kV_n, kR_r, ck_M, rdI_M3, rdI_M7, rdI_M9, rdI_M10, rdI_M11, rdI_M12, rdI_M14, rdR_M1, rdR_M2, rdR_M4, rdR_M5, rdR_M6, rdR_M8, rdR_M13, wr_M0, wr_M3, wr_M7, wr_M9, wr_M10, wr_M11, wr_M12, wr_M14, ald_M1, ald_M2, ald_M3, ald_M5, ald_M6, ald_M7, ast_M1, ast_M2, ast_M3, ast_M5, ast_M6, ast_M7, iI_l, iI_add, iI_sub, iI_mul, iI_neg, dv_i, Int.reduceToNat, eq_i, m_F R0.1 r21, Int.toNat_natCast]
      rw [if_neg (by omega), if_neg (by omega)]
  · rw [if_neg h1, if_neg h1]
    by_cases h2 : 1 ≤ x ∧ x ≤ 5
    · rw [if_neg (fun h => h h2), if_pos h2]
      rw [R0.1.1 _ (by omega), show (7 + x - 1).toNat = 6 + x.toNat by omega]
    · rw [if_pos h2, if_neg h2]
end
