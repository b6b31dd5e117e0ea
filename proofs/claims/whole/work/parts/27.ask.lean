/-! WHAT THE REFERENCE ANSWERS ABOUT LINES -/
/-- nothing but the sheet is another -/
def jk (M M' : Nat → Nat → Int) : Prop := ∃ w L wm wd, M' = mL M w L wm wd
theorem mL_mL (M : Nat → Nat → Int) (w w' : Int) (L L' : Ly) (wm wm' : Int) (wd wd' : Nat → Int) : mL (mL M w L wm wd) w' L' wm' wd' = mL M w' L' wm' wd' := by
  funext p j
  unfold mL
  by_cases h0 : p = 0
  · simp only [if_pos h0]
    by_cases h1 : j = 9
    · simp only [if_pos h1]
    · by_cases h2 : j = 10
      · simp only [if_neg h1, if_pos h2]
      · by_cases h3 : j = 11
        · simp only [if_neg h1, if_neg h2, if_pos h3]
        · by_cases h4 : j = 12
          · simp only [if_neg h1, if_neg h2, if_neg h3, if_pos h4]
          · by_cases h5 : j = 14
            · simp only [if_neg h1, if_neg h2, if_neg h3, if_neg h4, if_pos h5]
            · simp only [if_neg h1, if_neg h2, if_neg h3, if_neg h4, if_neg h5, if_pos]
  · by_cases h6 : p = 6
    · simp only [if_neg h0, if_pos h6]
    · by_cases h7 : p = 7
      · simp only [if_neg h0, if_neg h6, if_pos h7]
      · simp only [if_neg h0, if_neg h6, if_neg h7]
theorem jk.rf (M : Nat → Nat → Int) : jk M M := ⟨M 0 9, (M 0 10, M 0 11, M 0 12, M 6), M 0 14, M 7, (mL_eta M).symm⟩
theorem jk.tr {M M' M'' : Nat → Nat → Int} (h : jk M M') (h' : jk M' M'') : jk M M'' := by
  obtain ⟨w, L, wm, wd, rfl⟩ := h
  obtain ⟨w', L', wm', wd', rfl⟩ := h'
  exact ⟨w', L', wm', wd', mL_mL ..⟩
theorem jk.s {M M' : Nat → Nat → Int} (h : jk M M') : M' 1 = M 1 := by
  obtain ⟨w, L, wm, wd, rfl⟩ := h; rfl
theorem jk.ms {M M' : Nat → Nat → Int} {D : Dt} (h : jk M M') (R : MS (M 1) D) : MS (M' 1) D := by rw [h.s]; exact R
/-- everything that is told is in its range, and of one kind -/
def Ok1 (D : Dt) : Prop := RgI D ∧ Pos D ∧ RgF D ∧ RgT D ∧ (∀ r, r < 21 → EvOk D r) ∧ ∀ r, 3 ≤ r → r < 21 → 0 < gF D r 0 → 16 ≤ gF D r 4 ∧ gF D r 4 ≤ 40
theorem numI_rg {D : Dt} {r : Nat} (O : Ok1 D) (hr : r < 21) : 0 ≤ numI D r ∧ numI D r < 10000000 := by
  have h1 := O.2.2.1 r hr 0 (by decide)
  have h2 := O.2.2.2.1
  unfold RgT at h2
  unfold numI
  split <;> omega
/-- a receipt with lines: open, or of the ledger -/
def isR (D : Dt) (r : Nat) : Prop := r < 21 ∧ (r < 3 ∨ 0 < gF D r 0)
theorem wdI_rg {D : Dt} {r : Nat} (O : Ok1 D) (hr : isR D r) : 16 ≤ wdI D r ∧ wdI D r ≤ 40 := by
  have h2 := O.2.2.2.1
  unfold RgT at h2
  unfold wdI
  split
  · omega
  · exact O.2.2.2.2.2 r (by omega) hr.1 (by rcases hr.2 with h | h <;> omega)
def lnI (D : Dt) (r : Nat) : Int := cntI D r (numI D r) (wdI D r)
theorem cntI_rg {D : Dt} {r : Nat} {width : Int} (O : Ok1 D) (hr : r < 21) (wd0 : 16 ≤ width) (wd1 : width ≤ 40) : 2 ≤ cntI D r (numI D r) width ∧ cntI D r (numI D r) width ≤ 1500 := by
  have n := numI_rg O hr
  exact lAll_st (O.1 r hr) n.1 n.2 wd0 wd1
theorem lnI_rg {D : Dt} {r : Nat} (O : Ok1 D) (hr : isR D r) : 2 ≤ lnI D r ∧ lnI D r ≤ 1500 := by
  have w := wdI_rg O hr
  exact cntI_rg O hr.1 w.1 w.2
def leftI (D : Dt) (r : Nat) : Int := lnI D r - gF D r 5
theorem leftI_rg {D : Dt} {r : Nat} (O : Ok1 D) (hr : isR D r) : -1000000 < leftI D r ∧ leftI D r ≤ 1500 := by
  have h1 := lnI_rg O hr
  have h2 := O.2.2.1 r hr.1 5 (by decide)
  unfold leftI; omega
theorem hwP_is {D : Dt} {w : Int} {r : Nat} (h : hwP D w r = true) (hr : r < 21) : isR D r := ⟨hr, Or.inr (by unfold hwP at h; exact (of_decide_eq_true h).1)⟩
def aheadI (D : Dt) (r o : Nat) : Int := if hwP D 1 o = true ∨ (hwP D 0 o = true ∧ o ≠ r ∧ ahD D o r = true) then leftI D o else 0
def upI (D : Dt) (r : Nat) : Int := leftI D r + (if gF D r 3 = 0 then sF (aheadI D r) 3 18 else 0)
def toPrI (D : Dt) (r : Nat) : Int := if hwP D 0 r = true ∨ hwP D 1 r = true then leftI D r else 0
def allI (D : Dt) : Int := sF (toPrI D) 3 18
def tksI (D : Dt) (z : Int) : Int := (z + gT D 2 - 1) / gT D 2
def bwL (D : Dt) (r : Nat) : Nat → Nat → Int → Int → Int × Int
  | _, 0, best, few => (best, few)
  | w, m + 1, best, few => bwL D r (w + 1) m (if cntI D r (numI D r) w < few then w else best) (if cntI D r (numI D r) w < few then cntI D r (numI D r) w else few)
def bwI (D : Dt) (r : Nat) : Int × Int := bwL D r 17 24 16 (cntI D r (numI D r) 16)
section
variable {c : Nat → Option Nat} {h : Hp} {a : Nat} {M : Nat → Nat → Int} {D : Dt} {r i k : Nat} {w : Int}
theorem m_lays2 (R : MS (M 1) D) (O : Ok1 D) (hr : r < 21) {width : Int} (wd0 : 16 ≤ width) (wd1 : width ≤ 40) (w0 : -2147483648 ≤ w) (w1 : w < 2147483648) : ∃ M', jk M M' ∧ fX6_laysAll c (hM h a M) (some a) (iI r) (iI width) (iI w) = some (hM h a M', some (.inl (iI (cntI D r (numI D r) width)))) ∧ M' 0 12 = begI D r (numI D r) w width ∧ ∀ q, q < 40 → M' 6 q = sgnI D r (numI D r) w width q := by
  have n := numI_rg O hr
  obtain ⟨wm', wd', e⟩ := m_laysAll (c := c) (h := h) (a := a) R (O.1 r hr) hr (O.2.1 r hr) (O.2.2.2.2.1 r hr) n.1 n.2 wd0 wd1 w0 w1 (M 0 9) (M 0 10, M 0 11, M 0 12, M 6) (M 0 14) (M 7)
  rw [mL_eta] at e
  refine ⟨_, ⟨w, _, wm', wd', rfl⟩, e.trans (ret_c (cnt_any ..)), ?_, fun q hq => ?_⟩
  · rw [mL_12]; exact beg_any D r _ w width rfl
  · rw [mL_6]; exact sgn_any D r _ w width (by unfold row32; rw [if_pos (by omega)])
theorem m_linesOf (R : MS (M 1) D) (O : Ok1 D) (hr : isR D r) : ∃ M', jk M M' ∧ fX6_linesOf c (hM h a M) (some a) (iI r) = some (hM h a M', some (.inl (iI (lnI D r)))) := by
  have w := wdI_rg O hr
  obtain ⟨M', j, e, -⟩ := m_lays2 (c := c) (h := h) (a := a) (w := -6) R O hr.1 w.1 w.2 (by decide) (by decide)
  refine ⟨M', j, ?_⟩
  unfold fX6_linesOf
  simp (maxSteps := 1000000) (disch := omega) only [cc_s, kI_i, kV_n, kR_r, ck_M, rdI_M3, rdI_M7, rdI_M9, rdI_M10, rdI_M11, rdI_M12, rdI_M14, rdR_M1, rdR_M2, rdR_M4, rdR_M5, rdR_M6, rdR_M8, rdR_M13, wr_M0, wr_M3, wr_M7, wr_M9, wr_M10, wr_M11, wr_M12, wr_M14, ald_M1, ald_M2, ald_M3, ald_M5, ald_M6, ald_M7, ast_M1, ast_M2, ast_M3, ast_M5, ast_M6, ast_M7, iI_l, iI_add, iI_sub, iI_mul, iI_neg, dv_i, Int.reduceToNat, m_widthOf R hr.1]
  rw [e]
  simp (maxSteps := 1000000) (disch := omega) only [cc_s, kI_i, kV_n, kR_r, ck_M, rdI_M3, rdI_M7, rdI_M9, rdI_M10, rdI_M11, rdI_M12, rdI_M14, rdR_M1, rdR_M2, rdR_M4, rdR_M5, rdR_M6, rdR_M8, rdR_M13, wr_M0, wr_M3, wr_M7, wr_M9, wr_M10, wr_M11, wr_M12, wr_M14, ald_M1, ald_M2, ald_M3, ald_M5, ald_M6, ald_M7, ast_M1, ast_M2, ast_M3, ast_M5, ast_M6, ast_M7, iI_l, iI_add, iI_sub, iI_mul, iI_neg, dv_i, Int.reduceToNat]
  rfl
theorem m_leftOf (R : MS (M 1) D) (O : Ok1 D) (hr : isR D r) : ∃ M', jk M M' ∧ fX6_leftOf c (hM h a M) (some a) (iI r) = some (hM h a M', some (.inl (iI (leftI D r)))) := by
  obtain ⟨M', j, e⟩ := m_linesOf (c := c) (h := h) (a := a) R O hr
  refine ⟨M', j, ?_⟩
  unfold fX6_leftOf
  simp (maxSteps := 1000000) (disch := omega) only [cc_s, kI_i, kV_n, kR_r, ck_M, rdI_M3, rdI_M7, rdI_M9, rdI_M10, rdI_M11, rdI_M12, rdI_M14, rdR_M1, rdR_M2, rdR_M4, rdR_M5, rdR_M6, rdR_M8, rdR_M13, wr_M0, wr_M3, wr_M7, wr_M9, wr_M10, wr_M11, wr_M12, wr_M14, ald_M1, ald_M2, ald_M3, ald_M5, ald_M6, ald_M7, ast_M1, ast_M2, ast_M3, ast_M5, ast_M6, ast_M7, iI_l, iI_add, iI_sub, iI_mul, iI_neg, dv_i, Int.reduceToNat]
  rw [e]
  simp (maxSteps := 1000000) (disch := omega) only [cc_s, kI_i, kV_n, kR_r, ck_M, rdI_M3, rdI_M7, rdI_M9, rdI_M10, rdI_M11, rdI_M12, rdI_M14, rdR_M1, rdR_M2, rdR_M4, rdR_M5, rdR_M6, rdR_M8, rdR_M13, wr_M0, wr_M3, wr_M7, wr_M9, wr_M10, wr_M11, wr_M12, wr_M14, ald_M1, ald_M2, ald_M3, ald_M5, ald_M6, ald_M7, ast_M1, ast_M2, ast_M3, ast_M5, ast_M6, ast_M7, iI_l, iI_add, iI_sub, iI_mul, iI_neg, dv_i, Int.reduceToNat, m_F (j.ms R) hr.1]
  rfl
theorem m_ticksFor (R : MS (M 1) D) (T : RgT D) {z : Int} (z0 : 0 ≤ z) (z1 : z < 2000000000) : fX6_ticksFor c (hM h a M) (some a) (iI z) = some (hM h a M, some (.inl (iI (tksI D z)))) := by
  unfold RgT at T
  unfold fX6_ticksFor
  simp (maxSteps := 1000000) (disch := omega) only [cc_s, kI_i, kV_n, kR_r, ck_M, rdI_M3, rdI_M7, rdI_M9, rdI_M10, rdI_M11, rdI_M12, rdI_M14, rdR_M1, rdR_M2, rdR_M4, rdR_M5, rdR_M6, rdR_M8, rdR_M13, wr_M0, wr_M3, wr_M7, wr_M9, wr_M10, wr_M11, wr_M12, wr_M14, ald_M1, ald_M2, ald_M3, ald_M5, ald_M6, ald_M7, ast_M1, ast_M2, ast_M3, ast_M5, ast_M6, ast_M7, iI_l, iI_add, iI_sub, iI_mul, iI_neg, dv_i, Int.reduceToNat, R.1 2, div_i]
  rfl
theorem m_up_l (O : Ok1 D) (hr : isR D r) (h3 : gF D r 3 = 0) : ∀ (m fu k : Nat) (acc : Int) (M : Nat → Nat → Int), MS (M 1) D → m < fu → k + m = 21 → ∃ M', jk M M' ∧ fX6_linesUpTo_8 c fu (hM h a M) (some a) (iI r) (iI acc) (iI k) = some (hM h a M', some (.inl (iI (acc + sF (aheadI D r) k m)))) := by
  have GF := O.2.2.1
  have hr0 := hr.1
  intro m
  induction m with
  | zero =>
    intro fu k acc M R hf hk
    obtain ⟨f, rfl⟩ : ∃ f, fu = f + 1 := ⟨fu - 1, by omega⟩
    refine ⟨M, jk.rf M, ?_⟩
    rw [fX6_linesUpTo_8]
    unfold fX6_linesUpTo_85
    simp (maxSteps := 1000000) (disch := omega) only [cc_s, kI_i, kV_n, kR_r, ck_M, rdI_M3, rdI_M7, rdI_M9, rdI_M10, rdI_M11, rdI_M12, rdI_M14, rdR_M1, rdR_M2, rdR_M4, rdR_M5, rdR_M6, rdR_M8, rdR_M13, wr_M0, wr_M3, wr_M7, wr_M9, wr_M10, wr_M11, wr_M12, wr_M14, ald_M1, ald_M2, ald_M3, ald_M5, ald_M6, ald_M7, ast_M1, ast_M2, ast_M3, ast_M5, ast_M6, ast_M7, iI_l, iI_add, iI_sub, iI_mul, iI_neg, dv_i, Int.reduceToNat, lt_i]
    rw [if_neg (by omega)]
    exact ret_c (by simp [sF])
  | succ m ih =>
    intro fu k acc M R hf hk
    obtain ⟨f, rfl⟩ : ∃ f, fu = f + 1 := ⟨fu - 1, by omega⟩
    have g3 := GF r hr0 3 (by decide)
    have hk21 : k < 21 := by omega
    have skip : aheadI D r k = 0 → ∃ M', jk M M' ∧ fX6_linesUpTo_8 c f (hM h a M) (some a) (iI r) (iI (acc + 0)) (iI ((k + 1 : Nat) : Int)) = some (hM h a M', some (.inl (iI (acc + sF (aheadI D r) k (m + 1))))) := by
      intro e
      obtain ⟨M', j, q⟩ := ih f (k + 1) (acc + 0) M R (by omega) (by omega)
      refine ⟨M', j, q.trans (ret_c ?_)⟩
      rw [sF, e]; omega
    have take : isR D k → aheadI D r k = leftI D k → ∃ M', jk M M' ∧ cc (fX6_leftOf c (hM h a M) (some a) (iI k)) (kI fun h1 x2 => fX6_linesUpTo_77 c (fX6_linesUpTo_8 c f) h1 (some a) (iI r) (iI k) (iI acc) x2) = some (hM h a M', some (.inl (iI (acc + sF (aheadI D r) k (m + 1))))) := by
      intro hk e
      obtain ⟨M1, j1, q1⟩ := m_leftOf (c := c) (h := h) (a := a) R O hk
      obtain ⟨M', j, q⟩ := ih f (k + 1) (acc + leftI D k) M1 (j1.ms R) (by omega) (by omega)
      refine ⟨M', j1.tr j, ?_⟩
      rw [q1]
      unfold fX6_linesUpTo_77
      simp (maxSteps := 1000000) (disch := omega) only [cc_s, kI_i, kV_n, kR_r, ck_M, rdI_M3, rdI_M7, rdI_M9, rdI_M10, rdI_M11, rdI_M12, rdI_M14, rdR_M1, rdR_M2, rdR_M4, rdR_M5, rdR_M6, rdR_M8, rdR_M13, wr_M0, wr_M3, wr_M7, wr_M9, wr_M10, wr_M11, wr_M12, wr_M14, ald_M1, ald_M2, ald_M3, ald_M5, ald_M6, ald_M7, ast_M1, ast_M2, ast_M3, ast_M5, ast_M6, ast_M7, iI_l, iI_add, iI_sub, iI_mul, iI_neg, dv_i, Int.reduceToNat, iI_k1]
      refine q.trans (ret_c ?_)
      rw [sF, e]; omega
    have t0 : ∀ X, fX6_linesUpTo_59 c (fX6_linesUpTo_8 c f) (hM h a M) (some a) (iI r) (iI acc) (iI k) = X ↔ fX6_linesUpTo_8 c f (hM h a M) (some a) (iI r) (iI (acc + 0)) (iI ((k + 1 : Nat) : Int)) = X := by
      intro X
      unfold fX6_linesUpTo_59 fX6_linesUpTo_60 fX6_linesUpTo_77
      simp (maxSteps := 1000000) (disch := omega) only [cc_s, kI_i, kV_n, kR_r, ck_M, rdI_M3, rdI_M7, rdI_M9, rdI_M10, rdI_M11, rdI_M12, rdI_M14, rdR_M1, rdR_M2, rdR_M4, rdR_M5, rdR_M6, rdR_M8, rdR_M13, wr_M0, wr_M3, wr_M7, wr_M9, wr_M10, wr_M11, wr_M12, wr_M14, ald_M1, ald_M2, ald_M3, ald_M5, ald_M6, ald_M7, ast_M1, ast_M2, ast_M3, ast_M5, ast_M6, ast_M7, iI_l, iI_add, iI_sub, iI_mul, iI_neg, dv_i, Int.reduceToNat, iI_k1, if_true]
    have t1 : ∀ X, fX6_linesUpTo_55 c (fX6_linesUpTo_8 c f) (hM h a M) (some a) (iI r) (iI acc) (iI k) = X ↔ cc (fX6_leftOf c (hM h a M) (some a) (iI k)) (kI fun h1 x2 => fX6_linesUpTo_77 c (fX6_linesUpTo_8 c f) h1 (some a) (iI r) (iI k) (iI acc) x2) = X := by
      intro X
      unfold fX6_linesUpTo_55 fX6_linesUpTo_60
      simp (maxSteps := 1000000) (disch := omega) only [cc_s, kI_i, kV_n, kR_r, ck_M, rdI_M3, rdI_M7, rdI_M9, rdI_M10, rdI_M11, rdI_M12, rdI_M14, rdR_M1, rdR_M2, rdR_M4, rdR_M5, rdR_M6, rdR_M8, rdR_M13, wr_M0, wr_M3, wr_M7, wr_M9, wr_M10, wr_M11, wr_M12, wr_M14, ald_M1, ald_M2, ald_M3, ald_M5, ald_M6, ald_M7, ast_M1, ast_M2, ast_M3, ast_M5, ast_M6, ast_M7, iI_l, iI_add, iI_sub, iI_mul, iI_neg, dv_i, Int.reduceToNat, ck_M]
      rw [if_neg (show ¬ iI 1 = iI 0 by decide)]
    rw [fX6_linesUpTo_8]
    simp (maxSteps := 1000000) (disch := omega) only [cc_s, kI_i, kV_n, kR_r, ck_M, rdI_M3, rdI_M7, rdI_M9, rdI_M10, rdI_M11, rdI_M12, rdI_M14, rdR_M1, rdR_M2, rdR_M4, rdR_M5, rdR_M6, rdR_M8, rdR_M13, wr_M0, wr_M3, wr_M7, wr_M9, wr_M10, wr_M11, wr_M12, wr_M14, ald_M1, ald_M2, ald_M3, ald_M5, ald_M6, ald_M7, ast_M1, ast_M2, ast_M3, ast_M5, ast_M6, ast_M7, iI_l, iI_add, iI_sub, iI_mul, iI_neg, dv_i, Int.reduceToNat, lt_i, m_F R hr0, h3, m_isHow R GF (r := k), bI_0, eq_i, m_isAhead R GF (r := k) (o := r)]
    rw [if_pos (by omega), if_pos trivial]
    by_cases e1 : hwP D 1 k = true
    · rw [if_neg (fun h => h e1)]
      simp only [t1]
      exact take (hwP_is e1 hk21) (by unfold aheadI; rw [if_pos (Or.inl e1)])
    · rw [if_pos e1]
      by_cases e0 : hwP D 0 k = true
      · rw [if_neg (fun h => h e0)]
        by_cases ek : (k : Int) = r
        · rw [if_pos ek]
          simp only [t0]
          exact skip (by unfold aheadI; rw [if_neg]; rintro (h | h); exact e1 h; exact h.2.1 (by omega))
        · rw [if_neg ek]
          by_cases ea : ahD D k r = true
          · rw [if_neg (fun h => h ea)]
            simp only [t1]
            exact take (hwP_is e0 hk21) (by unfold aheadI; rw [if_pos (Or.inr ⟨e0, by omega, ea⟩)])
          · rw [if_pos ea]
            simp only [t0]
            exact skip (by unfold aheadI; rw [if_neg]; rintro (h | h); exact e1 h; exact ea h.2.2)
      · rw [if_pos e0]
        simp only [t0]
        exact skip (by unfold aheadI; rw [if_neg]; rintro (h | h); exact e1 h; exact e0 h.1)
theorem m_linesUpTo (R : MS (M 1) D) (O : Ok1 D) (hr : isR D r) : ∃ M', jk M M' ∧ fX6_linesUpTo c (hM h a M) (some a) (iI r) = some (hM h a M', some (.inl (iI (upI D r)))) := by
  have hr0 := hr.1
  have g3 := O.2.2.1 r hr.1 3 (by decide)
  obtain ⟨M1, j1, q1⟩ := m_leftOf (c := c) (h := h) (a := a) R O hr
  unfold fX6_linesUpTo
  simp (maxSteps := 1000000) (disch := omega) only [cc_s, kI_i, kV_n, kR_r, ck_M, rdI_M3, rdI_M7, rdI_M9, rdI_M10, rdI_M11, rdI_M12, rdI_M14, rdR_M1, rdR_M2, rdR_M4, rdR_M5, rdR_M6, rdR_M8, rdR_M13, wr_M0, wr_M3, wr_M7, wr_M9, wr_M10, wr_M11, wr_M12, wr_M14, ald_M1, ald_M2, ald_M3, ald_M5, ald_M6, ald_M7, ast_M1, ast_M2, ast_M3, ast_M5, ast_M6, ast_M7, iI_l, iI_add, iI_sub, iI_mul, iI_neg, dv_i, Int.reduceToNat]
  rw [q1]
  simp (maxSteps := 1000000) (disch := omega) only [cc_s, kI_i, kV_n, kR_r, ck_M, rdI_M3, rdI_M7, rdI_M9, rdI_M10, rdI_M11, rdI_M12, rdI_M14, rdR_M1, rdR_M2, rdR_M4, rdR_M5, rdR_M6, rdR_M8, rdR_M13, wr_M0, wr_M3, wr_M7, wr_M9, wr_M10, wr_M11, wr_M12, wr_M14, ald_M1, ald_M2, ald_M3, ald_M5, ald_M6, ald_M7, ast_M1, ast_M2, ast_M3, ast_M5, ast_M6, ast_M7, iI_l, iI_add, iI_sub, iI_mul, iI_neg, dv_i, Int.reduceToNat]
  by_cases h3 : gF D r 3 = 0
  · obtain ⟨M', j, q⟩ := m_up_l (c := c) (h := h) (a := a) O hr h3 18 FU 3 (leftI D r) M1 (j1.ms R) (by decide) (by decide)
    refine ⟨M', j1.tr j, q.trans (ret_c ?_)⟩
    unfold upI; rw [if_pos h3]
  · refine ⟨M1, j1, ?_⟩
    rw [show FU = 19999 + 1 from rfl, fX6_linesUpTo_8]
    unfold fX6_linesUpTo_85
    simp (maxSteps := 1000000) (disch := omega) only [cc_s, kI_i, kV_n, kR_r, ck_M, rdI_M3, rdI_M7, rdI_M9, rdI_M10, rdI_M11, rdI_M12, rdI_M14, rdR_M1, rdR_M2, rdR_M4, rdR_M5, rdR_M6, rdR_M8, rdR_M13, wr_M0, wr_M3, wr_M7, wr_M9, wr_M10, wr_M11, wr_M12, wr_M14, ald_M1, ald_M2, ald_M3, ald_M5, ald_M6, ald_M7, ast_M1, ast_M2, ast_M3, ast_M5, ast_M6, ast_M7, iI_l, iI_add, iI_sub, iI_mul, iI_neg, dv_i, Int.reduceToNat, lt_i, m_F (j1.ms R) hr0, eq_i]
    rw [if_pos (by decide), if_neg h3]
    exact ret_c (by unfold upI; rw [if_neg h3]; omega)
theorem m_all_l (O : Ok1 D) : ∀ (m fu k : Nat) (acc : Int) (M : Nat → Nat → Int), MS (M 1) D → m < fu → k + m = 21 → ∃ M', jk M M' ∧ fX6_allLeft_4 c fu (hM h a M) (some a) (iI acc) (iI k) = some (hM h a M', some (.inl (iI (acc + sF (toPrI D) k m)))) := by
  have GF := O.2.2.1
  intro m
  induction m with
  | zero =>
    intro fu k acc M R hf hk
    obtain ⟨f, rfl⟩ : ∃ f, fu = f + 1 := ⟨fu - 1, by omega⟩
    refine ⟨M, jk.rf M, ?_⟩
    rw [fX6_allLeft_4]
    simp (maxSteps := 1000000) (disch := omega) only [cc_s, kI_i, kV_n, kR_r, ck_M, rdI_M3, rdI_M7, rdI_M9, rdI_M10, rdI_M11, rdI_M12, rdI_M14, rdR_M1, rdR_M2, rdR_M4, rdR_M5, rdR_M6, rdR_M8, rdR_M13, wr_M0, wr_M3, wr_M7, wr_M9, wr_M10, wr_M11, wr_M12, wr_M14, ald_M1, ald_M2, ald_M3, ald_M5, ald_M6, ald_M7, ast_M1, ast_M2, ast_M3, ast_M5, ast_M6, ast_M7, iI_l, iI_add, iI_sub, iI_mul, iI_neg, dv_i, Int.reduceToNat, lt_i]
    rw [if_neg (by omega)]
    exact ret_c (by simp [sF])
  | succ m ih =>
    intro fu k acc M R hf hk
    obtain ⟨f, rfl⟩ : ∃ f, fu = f + 1 := ⟨fu - 1, by omega⟩
    have hk21 : k < 21 := by omega
    have take : isR D k → toPrI D k = leftI D k → ∃ M', jk M M' ∧ fX6_allLeft_29 c (fX6_allLeft_4 c f) (hM h a M) (some a) (iI k) (iI acc) = some (hM h a M', some (.inl (iI (acc + sF (toPrI D) k (m + 1))))) := by
      intro hk e
      obtain ⟨M1, j1, q1⟩ := m_leftOf (c := c) (h := h) (a := a) R O hk
      obtain ⟨M', j, q⟩ := ih f (k + 1) (acc + leftI D k) M1 (j1.ms R) (by omega) (by omega)
      refine ⟨M', j1.tr j, ?_⟩
      unfold fX6_allLeft_29
      simp (maxSteps := 1000000) (disch := omega) only [cc_s, kI_i, kV_n, kR_r, ck_M, rdI_M3, rdI_M7, rdI_M9, rdI_M10, rdI_M11, rdI_M12, rdI_M14, rdR_M1, rdR_M2, rdR_M4, rdR_M5, rdR_M6, rdR_M8, rdR_M13, wr_M0, wr_M3, wr_M7, wr_M9, wr_M10, wr_M11, wr_M12, wr_M14, ald_M1, ald_M2, ald_M3, ald_M5, ald_M6, ald_M7, ast_M1, ast_M2, ast_M3, ast_M5, ast_M6, ast_M7, iI_l, iI_add, iI_sub, iI_mul, iI_neg, dv_i, Int.reduceToNat]
      rw [q1]
      unfold fX6_allLeft_38
      simp (maxSteps := 1000000) (disch := omega) only [cc_s, kI_i, kV_n, kR_r, ck_M, rdI_M3, rdI_M7, rdI_M9, rdI_M10, rdI_M11, rdI_M12, rdI_M14, rdR_M1, rdR_M2, rdR_M4, rdR_M5, rdR_M6, rdR_M8, rdR_M13, wr_M0, wr_M3, wr_M7, wr_M9, wr_M10, wr_M11, wr_M12, wr_M14, ald_M1, ald_M2, ald_M3, ald_M5, ald_M6, ald_M7, ast_M1, ast_M2, ast_M3, ast_M5, ast_M6, ast_M7, iI_l, iI_add, iI_sub, iI_mul, iI_neg, dv_i, Int.reduceToNat, iI_k1]
      refine q.trans (ret_c ?_)
      rw [sF, e]; omega
    rw [fX6_allLeft_4]
    simp (maxSteps := 1000000) (disch := omega) only [cc_s, kI_i, kV_n, kR_r, ck_M, rdI_M3, rdI_M7, rdI_M9, rdI_M10, rdI_M11, rdI_M12, rdI_M14, rdR_M1, rdR_M2, rdR_M4, rdR_M5, rdR_M6, rdR_M8, rdR_M13, wr_M0, wr_M3, wr_M7, wr_M9, wr_M10, wr_M11, wr_M12, wr_M14, ald_M1, ald_M2, ald_M3, ald_M5, ald_M6, ald_M7, ast_M1, ast_M2, ast_M3, ast_M5, ast_M6, ast_M7, iI_l, iI_add, iI_sub, iI_mul, iI_neg, dv_i, Int.reduceToNat, lt_i, m_isHow R GF (r := k), bI_0]
    rw [if_pos (by omega)]
    by_cases e0 : hwP D 0 k = true
    · rw [if_neg (fun h => h e0)]
      exact take (hwP_is e0 hk21) (by unfold toPrI; rw [if_pos (Or.inl e0)])
    · rw [if_pos e0]
      by_cases e1 : hwP D 1 k = true
      · rw [if_neg (fun h => h e1)]
        exact take (hwP_is e1 hk21) (by unfold toPrI; rw [if_pos (Or.inr e1)])
      · rw [if_pos e1]
        unfold fX6_allLeft_38
        simp (maxSteps := 1000000) (disch := omega) only [cc_s, kI_i, kV_n, kR_r, ck_M, rdI_M3, rdI_M7, rdI_M9, rdI_M10, rdI_M11, rdI_M12, rdI_M14, rdR_M1, rdR_M2, rdR_M4, rdR_M5, rdR_M6, rdR_M8, rdR_M13, wr_M0, wr_M3, wr_M7, wr_M9, wr_M10, wr_M11, wr_M12, wr_M14, ald_M1, ald_M2, ald_M3, ald_M5, ald_M6, ald_M7, ast_M1, ast_M2, ast_M3, ast_M5, ast_M6, ast_M7, iI_l, iI_add, iI_sub, iI_mul, iI_neg, dv_i, Int.reduceToNat, iI_k1]
        obtain ⟨M', j, q⟩ := ih f (k + 1) (acc + 0) M R (by omega) (by omega)
        refine ⟨M', j, q.trans (ret_c ?_)⟩
        rw [sF]; unfold toPrI; rw [if_neg (by rintro (h | h); exact e0 h; exact e1 h)]; omega
theorem m_allLeft (R : MS (M 1) D) (O : Ok1 D) : ∃ M', jk M M' ∧ fX6_allLeft c (hM h a M) (some a) = some (hM h a M', some (.inl (iI (allI D)))) := by
  unfold fX6_allLeft
  simp (maxSteps := 1000000) (disch := omega) only [cc_s, kI_i, kV_n, kR_r, ck_M, rdI_M3, rdI_M7, rdI_M9, rdI_M10, rdI_M11, rdI_M12, rdI_M14, rdR_M1, rdR_M2, rdR_M4, rdR_M5, rdR_M6, rdR_M8, rdR_M13, wr_M0, wr_M3, wr_M7, wr_M9, wr_M10, wr_M11, wr_M12, wr_M14, ald_M1, ald_M2, ald_M3, ald_M5, ald_M6, ald_M7, ast_M1, ast_M2, ast_M3, ast_M5, ast_M6, ast_M7, iI_l, iI_add, iI_sub, iI_mul, iI_neg, dv_i, Int.reduceToNat]
  obtain ⟨M', j, q⟩ := m_all_l (c := c) (h := h) (a := a) O 18 FU 3 0 M R (by decide) (by decide)
  refine ⟨M', j, q.trans (ret_c ?_)⟩
  unfold allI; omega
theorem m_bw_l (O : Ok1 D) (hr : r < 21) {q : Int} (q0 : 0 ≤ q) (q1 : q ≤ 1) : ∀ (m fu k : Nat) (best few : Int) (M : Nat → Nat → Int), MS (M 1) D → m < fu → k + m = 41 → 16 ≤ k → 0 ≤ few → few ≤ 1500 → ∃ M', jk M M' ∧ fX6_bestWidth_44 c fu (hM h a M) (some a) (iI r) (iI q) (iI best) (iI few) (iI k) = some (hM h a M', some (.inl (iI (if q = 0 then (bwL D r k m best few).1 else (bwL D r k m best few).2)))) := by
  intro m
  induction m with
  | zero =>
    intro fu k best few M R hf hk hk0 f0 f1
    obtain ⟨f, rfl⟩ : ∃ f, fu = f + 1 := ⟨fu - 1, by omega⟩
    refine ⟨M, jk.rf M, ?_⟩
    rw [fX6_bestWidth_44]
    unfold fX6_bestWidth_108
    simp (maxSteps := 1000000) (disch := omega) only [cc_s, kI_i, kV_n, kR_r, ck_M, rdI_M3, rdI_M7, rdI_M9, rdI_M10, rdI_M11, rdI_M12, rdI_M14, rdR_M1, rdR_M2, rdR_M4, rdR_M5, rdR_M6, rdR_M8, rdR_M13, wr_M0, wr_M3, wr_M7, wr_M9, wr_M10, wr_M11, wr_M12, wr_M14, ald_M1, ald_M2, ald_M3, ald_M5, ald_M6, ald_M7, ast_M1, ast_M2, ast_M3, ast_M5, ast_M6, ast_M7, iI_l, iI_add, iI_sub, iI_mul, iI_neg, dv_i, Int.reduceToNat, lt_i, eq_i]
    rw [if_pos (by omega)]
    by_cases e : q = 0
    · rw [if_pos e, if_pos e]; rfl
    · rw [if_neg e, if_neg e]; rfl
  | succ m ih =>
    intro fu k best few M R hf hk hk0 f0 f1
    obtain ⟨f, rfl⟩ : ∃ f, fu = f + 1 := ⟨fu - 1, by omega⟩
    have b := cntI_rg (width := k) O hr (by omega) (by omega)
    obtain ⟨M1, j1, e1, -⟩ := m_lays2 (c := c) (h := h) (a := a) (w := -6) (width := k) R O hr (by omega) (by omega) (by decide) (by decide)
    rw [fX6_bestWidth_44]
    simp (maxSteps := 1000000) (disch := omega) only [cc_s, kI_i, kV_n, kR_r, ck_M, rdI_M3, rdI_M7, rdI_M9, rdI_M10, rdI_M11, rdI_M12, rdI_M14, rdR_M1, rdR_M2, rdR_M4, rdR_M5, rdR_M6, rdR_M8, rdR_M13, wr_M0, wr_M3, wr_M7, wr_M9, wr_M10, wr_M11, wr_M12, wr_M14, ald_M1, ald_M2, ald_M3, ald_M5, ald_M6, ald_M7, ast_M1, ast_M2, ast_M3, ast_M5, ast_M6, ast_M7, iI_l, iI_add, iI_sub, iI_mul, iI_neg, dv_i, Int.reduceToNat, lt_i]
    rw [if_neg (by omega), e1]
    unfold fX6_bestWidth_75 fX6_bestWidth_90
    simp (maxSteps := 1000000) (disch := omega) only [cc_s, kI_i, kV_n, kR_r, ck_M, rdI_M3, rdI_M7, rdI_M9, rdI_M10, rdI_M11, rdI_M12, rdI_M14, rdR_M1, rdR_M2, rdR_M4, rdR_M5, rdR_M6, rdR_M8, rdR_M13, wr_M0, wr_M3, wr_M7, wr_M9, wr_M10, wr_M11, wr_M12, wr_M14, ald_M1, ald_M2, ald_M3, ald_M5, ald_M6, ald_M7, ast_M1, ast_M2, ast_M3, ast_M5, ast_M6, ast_M7, iI_l, iI_add, iI_sub, iI_mul, iI_neg, dv_i, Int.reduceToNat, lt_i, iI_k1]
    by_cases e : cntI D r (numI D r) k < few
    · obtain ⟨M', j, q'⟩ := ih f (k + 1) k (cntI D r (numI D r) k) M1 (j1.ms R) (by omega) (by omega) (by omega) (by omega) (by omega)
      refine ⟨M', j1.tr j, ?_⟩
      rw [if_pos e, if_pos e, bwL, if_pos e, if_pos e]
      exact q'
    · obtain ⟨M', j, q'⟩ := ih f (k + 1) best few M1 (j1.ms R) (by omega) (by omega) (by omega) (by omega) (by omega)
      refine ⟨M', j1.tr j, ?_⟩
      rw [if_neg e, if_neg e, bwL, if_neg e, if_neg e]
      exact q'
/-- how many lines an item takes -/
def itemI (D : Dt) (r i : Nat) : Int := (lItem (-1) (gT D 0) (gP D r i) (gN' D r i) (0, 0, -1, fun _ => 32)).1
theorem item_any (D : Dt) (r i : Nat) (w b : Int) (row : Nat → Int) : (lItem w (gT D 0) (gP D r i) (gN' D r i) (0, 0, b, row)).1 = itemI D r i := by
  by_cases e : w = -1
  · subst e
    have h1 : sim (-1) (-2) 0 (0, 0, b, row) (0, 0, -1, fun _ => 32) := ⟨rfl, rfl, fun e => absurd e (by decide)⟩
    have h2 : sim (-2) (-1) 0 (0, 0, -1, fun _ => 32) (0, 0, -1, fun _ => 32) := ⟨rfl, rfl, fun e => absurd e (by decide)⟩
    exact (sim_item (gT D 0) (gP D r i) (gN' D r i) h1).1.trans (sim_item (gT D 0) (gP D r i) (gN' D r i) h2).1
  · have h1 : sim w (-1) 0 (0, 0, b, row) (0, 0, -1, fun _ => 32) := ⟨rfl, rfl, fun e' => absurd e' e⟩
    exact (sim_item (gT D 0) (gP D r i) (gN' D r i) h1).1
theorem m_linesOfItem (R : MS (M 1) D) (O : Ok1 D) (hr : r < 21) (hi : i < 12) : ∃ M', jk M M' ∧ fX6_linesOfItem c (hM h a M) (some a) (iI r) (iI i) = some (hM h a M', some (.inl (iI (itemI D r i)))) := by
  have T := O.2.2.2.1
  unfold RgT at T
  have j0 : M = mL M (M 0 9) (M 0 10, M 0 11, M 0 12, M 6) (M 0 14) (M 7) := (mL_eta M).symm
  generalize M 0 9 = w9, (M 0 10, M 0 11, M 0 12, M 6) = L9, M 0 14 = wm9, M 7 = wd9 at j0
  obtain ⟨wd', e⟩ := m_layItem (c := c) (h := h) (a := a) (w := -6) (wm := wm9) (wd := wd9) (L := (0, 0, L9.2.2.1, L9.2.2.2)) R (O.1 r hr) hr hi (width := gT D 0) (by omega) (by omega) (by decide) (by decide) rfl (show (0 : Int) ≤ 0 by decide) (show (0 : Int) < 800000 by decide)
  refine ⟨mL M (-6) (lItem (-6) (gT D 0) (gP D r i) (gN' D r i) (0, 0, L9.2.2.1, L9.2.2.2)) 0 wd', ⟨-6, _, 0, wd', rfl⟩, ?_⟩
  unfold fX6_linesOfItem
  rw [j0]
  simp (maxSteps := 1000000) (disch := omega) only [cc_s, kI_i, kV_n, kR_r, ck_M, rdI_M3, rdI_M7, rdI_M9, rdI_M10, rdI_M11, rdI_M12, rdI_M14, rdR_M1, rdR_M2, rdR_M4, rdR_M5, rdR_M6, rdR_M8, rdR_M13, wr_M0, wr_M3, wr_M7, wr_M9, wr_M10, wr_M11, wr_M12, wr_M14, ald_M1, ald_M2, ald_M3, ald_M5, ald_M6, ald_M7, ast_M1, ast_M2, ast_M3, ast_M5, ast_M6, ast_M7, iI_l, iI_add, iI_sub, iI_mul, iI_neg, dv_i, Int.reduceToNat, ms_9, ms_10, ms_11, R.1 0, mL_1]
  rw [← j0, e]
  simp (maxSteps := 1000000) (disch := omega) only [cc_s, kI_i, kV_n, kR_r, ck_M, rdI_M3, rdI_M7, rdI_M9, rdI_M10, rdI_M11, rdI_M12, rdI_M14, rdR_M1, rdR_M2, rdR_M4, rdR_M5, rdR_M6, rdR_M8, rdR_M13, wr_M0, wr_M3, wr_M7, wr_M9, wr_M10, wr_M11, wr_M12, wr_M14, ald_M1, ald_M2, ald_M3, ald_M5, ald_M6, ald_M7, ast_M1, ast_M2, ast_M3, ast_M5, ast_M6, ast_M7, iI_l, iI_add, iI_sub, iI_mul, iI_neg, dv_i, Int.reduceToNat, mL_10]
  exact ret_c (item_any ..)
theorem m_signAt (R : MS (M 1) D) (O : Ok1 D) (hr : isR D r) {w p : Int} (w0 : -2147483648 ≤ w) (w1 : w < 2147483648) (p0 : 0 ≤ p) (p1 : p < 40) : ∃ M', jk M M' ∧ fX6_signAt c (hM h a M) (some a) (iI r) (iI w) (iI p) = some (hM h a M', some (.inl (iI (sgnI D r (numI D r) w (wdI D r) p.toNat)))) := by
  have b := wdI_rg O hr
  obtain ⟨M', j, e, -, e2⟩ := m_lays2 (c := c) (h := h) (a := a) (w := w) R O hr.1 b.1 b.2 w0 w1
  refine ⟨M', j, ?_⟩
  unfold fX6_signAt
  simp (maxSteps := 1000000) (disch := omega) only [cc_s, kI_i, kV_n, kR_r, ck_M, rdI_M3, rdI_M7, rdI_M9, rdI_M10, rdI_M11, rdI_M12, rdI_M14, rdR_M1, rdR_M2, rdR_M4, rdR_M5, rdR_M6, rdR_M8, rdR_M13, wr_M0, wr_M3, wr_M7, wr_M9, wr_M10, wr_M11, wr_M12, wr_M14, ald_M1, ald_M2, ald_M3, ald_M5, ald_M6, ald_M7, ast_M1, ast_M2, ast_M3, ast_M5, ast_M6, ast_M7, iI_l, iI_add, iI_sub, iI_mul, iI_neg, dv_i, Int.reduceToNat, m_widthOf R hr.1]
  rw [e]
  simp (maxSteps := 1000000) (disch := omega) only [cc_s, kI_i, kV_n, kR_r, ck_M, rdI_M3, rdI_M7, rdI_M9, rdI_M10, rdI_M11, rdI_M12, rdI_M14, rdR_M1, rdR_M2, rdR_M4, rdR_M5, rdR_M6, rdR_M8, rdR_M13, wr_M0, wr_M3, wr_M7, wr_M9, wr_M10, wr_M11, wr_M12, wr_M14, ald_M1, ald_M2, ald_M3, ald_M5, ald_M6, ald_M7, ast_M1, ast_M2, ast_M3, ast_M5, ast_M6, ast_M7, iI_l, iI_add, iI_sub, iI_mul, iI_neg, dv_i, Int.reduceToNat, e2]
end
