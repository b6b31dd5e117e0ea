/-! SUMS AND SEARCHES -/
def vl (D : Dt) (r i : Nat) : Int := if gP D r i 3 = 1 then 0 else gP D r i 0 * gP D r i 1
def nIt (D : Dt) (r : Nat) : Nat := (gF D r 8).toNat
def totI (D : Dt) (r : Nat) : Int := sF (vl D r) 0 (nIt D r)
def tv (D : Dt) (r : Nat) (t : Int) (i : Nat) : Int := if gP D r i 3 = 1 then 0 else if gP D r i 2 = t then gP D r i 0 * gP D r i 1 else 0
def sumT (D : Dt) (r : Nat) (t : Int) : Int := sF (tv D r t) 0 (nIt D r)
def rateI (t : Int) : Int := if t = 0 then 0 else if t = 1 then 7 else 19
def taxI (D : Dt) (r : Nat) (t : Int) : Int := (2 * sumT D r t * rateI t + 100 + rateI t) / (2 * (100 + rateI t))
def struckI (D : Dt) (r : Nat) : Int := sF (fun i => gP D r i 3) 0 (nIt D r)
def hwP (D : Dt) (w : Int) (r : Nat) : Bool := decide (0 < gF D r 0 ∧ gF D r 3 = w)
def manyI (D : Dt) (w : Int) : Int := sF (fun r => bI (hwP D w r = true)) 3 18
def recI (D : Dt) (z : Int) : Int := fF (fun r => decide (0 < z ∧ gF D r 0 = z)) 3 18
def prtI (D : Dt) : Int := fF (hwP D 1) 3 18
def ahD (D : Dt) (r o : Nat) : Bool := decide (gF D o 2 < gF D r 2 ∨ (gF D r 2 = gF D o 2 ∧ gF D r 0 < gF D o 0))
def rankI (D : Dt) (r : Nat) : Int := sF (fun o => bI (hwP D 0 o = true ∧ o ≠ r ∧ ahD D o r = true)) 3 18
def atI (D : Dt) (k : Int) : Int := fF (fun r => decide (hwP D 0 r = true ∧ rankI D r = k)) 3 18
/-- an item that is rung costs something -/
def Pos (D : Dt) : Prop := ∀ r, r < 21 → ∀ i, i < nIt D r → 1 ≤ gP D r i 0 ∧ 1 ≤ gP D r i 1
/-- what is compared is small -/
def RgF (D : Dt) : Prop := ∀ r, r < 21 → ∀ k, k < 8 → 0 ≤ gF D r k ∧ gF D r k < 1000000
def RgT (D : Dt) : Prop := 16 ≤ gT D 0 ∧ gT D 0 ≤ 40 ∧ 5 ≤ gT D 1 ∧ gT D 1 ≤ 200 ∧ 1 ≤ gT D 2 ∧ gT D 2 ≤ 9 ∧ 0 ≤ gT D 3 ∧ gT D 3 ≤ 9999 ∧ 0 ≤ gT D 4 ∧ gT D 4 < 1000000 ∧ 0 ≤ gT D 5 ∧ gT D 5 < 1000000 ∧ 0 ≤ gT D 7 ∧ gT D 7 ≤ 200
theorem vl_bd {D : Dt} {r i : Nat} (h : pRg (gP D r i)) : 0 ≤ vl D r i ∧ vl D r i ≤ 989901 := by
  unfold pRg at h
  have h1 : 0 ≤ gP D r i 0 * gP D r i 1 := Int.mul_nonneg h.1 h.2.2.1
  have h2 : gP D r i 0 * gP D r i 1 ≤ 99 * 9999 := Int.mul_le_mul h.2.1 h.2.2.2.1 h.2.2.1 (by decide)
  unfold vl; split <;> omega
theorem tv_bd {D : Dt} {r i : Nat} {t : Int} (h : pRg (gP D r i)) : 0 ≤ tv D r t i ∧ tv D r t i ≤ 989901 := by
  unfold pRg at h
  have h1 : 0 ≤ gP D r i 0 * gP D r i 1 := Int.mul_nonneg h.1 h.2.2.1
  have h2 : gP D r i 0 * gP D r i 1 ≤ 99 * 9999 := Int.mul_le_mul h.2.1 h.2.2.2.1 h.2.2.1 (by decide)
  unfold tv; split
  · omega
  · split <;> omega
theorem nIt_le {D : Dt} {r : Nat} (G : Rg1 D r) : nIt D r ≤ 12 ∧ ((nIt D r : Nat) : Int) = gF D r 8 := by
  have := G.1; unfold nIt; omega
theorem totI_bd {D : Dt} {r : Nat} (G : Rg1 D r) : 0 ≤ totI D r ∧ totI D r ≤ 11878812 := by
  have h1 := sF_bd (f := vl D r) (b := 989901) (nIt D r) 0 (fun i _ _ => vl_bd (G.2.1 i))
  have h2 := nIt_le G
  unfold totI; omega
theorem sumT_bd {D : Dt} {r : Nat} {t : Int} (G : Rg1 D r) : 0 ≤ sumT D r t ∧ sumT D r t ≤ 11878812 := by
  have h1 := sF_bd (f := tv D r t) (b := 989901) (nIt D r) 0 (fun i _ _ => tv_bd (G.2.1 i))
  have h2 := nIt_le G
  unfold sumT; omega
theorem rateI_c (t : Int) : rateI t = 0 ∨ rateI t = 7 ∨ rateI t = 19 := by
  unfold rateI; split
  · exact Or.inl rfl
  · split
    · exact Or.inr (Or.inl rfl)
    · exact Or.inr (Or.inr rfl)
theorem taxI_bd {D : Dt} {r : Nat} {t : Int} (G : Rg1 D r) : 0 ≤ taxI D r t ∧ taxI D r t ≤ 11878812 := by
  have h := sumT_bd (t := t) G
  unfold taxI
  rcases rateI_c t with e | e | e <;> rw [e] <;> omega
section
variable {c : Nat → Option Nat} {h : Hp} {a : Nat} {M : Nat → Nat → Int} {D : Dt} {r i k : Nat}
theorem m_total_l (R : MS (M 1) D) (G : Rg1 D r) (hr : r < 21) : ∀ (m fu k : Nat) (acc : Int), m < fu → k + m = nIt D r → fX6_total_4 c fu (hM h a M) (some a) (iI r) (iI acc) (iI k) = some (hM h a M, some (.inl (iI (acc + sF (vl D r) k m)))) := by
  have hn := nIt_le G
  have hg := G.1
  intro m
  induction m with
  | zero =>
    intro fu k acc hf hk
    obtain ⟨f, rfl⟩ : ∃ f, fu = f + 1 := ⟨fu - 1, by omega⟩
    rw [fX6_total_4]
    simp (maxSteps := 1000000) (disch := omega) only [cc_s, kI_i, kV_n, kR_r, ck_M, rdI_M3, rdI_M7, rdI_M9, rdI_M10, rdI_M11, rdI_M12, rdI_M14, rdR_M1, rdR_M2, rdR_M4, rdR_M5, rdR_M6, rdR_M8, rdR_M13, wr_M0, wr_M3, wr_M7, wr_M9, wr_M10, wr_M11, wr_M12, wr_M14, ald_M1, ald_M2, ald_M3, ald_M5, ald_M6, ald_M7, ast_M1, ast_M2, ast_M3, ast_M5, ast_M6, ast_M7, iI_l, iI_add, iI_sub, iI_mul, iI_neg, dv_i, Int.reduceToNat, m_F R hr, lt_i]
    rw [if_neg (by omega)]
    exact ret_c (by simp [sF])
  | succ m ih =>
    intro fu k acc hf hk
    obtain ⟨f, rfl⟩ : ∃ f, fu = f + 1 := ⟨fu - 1, by omega⟩
    rw [fX6_total_4]
    simp (maxSteps := 1000000) (disch := omega) only [cc_s, kI_i, kV_n, kR_r, ck_M, rdI_M3, rdI_M7, rdI_M9, rdI_M10, rdI_M11, rdI_M12, rdI_M14, rdR_M1, rdR_M2, rdR_M4, rdR_M5, rdR_M6, rdR_M8, rdR_M13, wr_M0, wr_M3, wr_M7, wr_M9, wr_M10, wr_M11, wr_M12, wr_M14, ald_M1, ald_M2, ald_M3, ald_M5, ald_M6, ald_M7, ast_M1, ast_M2, ast_M3, ast_M5, ast_M6, ast_M7, iI_l, iI_add, iI_sub, iI_mul, iI_neg, dv_i, Int.reduceToNat, m_F R hr, lt_i]
    rw [if_pos (by omega)]
    simp (maxSteps := 1000000) (disch := omega) only [cc_s, kI_i, kV_n, kR_r, ck_M, rdI_M3, rdI_M7, rdI_M9, rdI_M10, rdI_M11, rdI_M12, rdI_M14, rdR_M1, rdR_M2, rdR_M4, rdR_M5, rdR_M6, rdR_M8, rdR_M13, wr_M0, wr_M3, wr_M7, wr_M9, wr_M10, wr_M11, wr_M12, wr_M14, ald_M1, ald_M2, ald_M3, ald_M5, ald_M6, ald_M7, ast_M1, ast_M2, ast_M3, ast_M5, ast_M6, ast_M7, iI_l, iI_add, iI_sub, iI_mul, iI_neg, dv_i, Int.reduceToNat, m_isStruck R G hr (i := k), bI_0, m_sum R G hr (i := k)]
    unfold fX6_total_35
    rw [show (iI ((k : Int)) + (1 : Int32)) = iI ((k + 1 : Nat) : Int) from by rw [iI_1, iI_add]; rfl]
    by_cases hs : gP D r k 3 = 1
    · rw [if_neg (fun h => h hs)]
      simp (maxSteps := 1000000) (disch := omega) only [cc_s, kI_i, kV_n, kR_r, ck_M, rdI_M3, rdI_M7, rdI_M9, rdI_M10, rdI_M11, rdI_M12, rdI_M14, rdR_M1, rdR_M2, rdR_M4, rdR_M5, rdR_M6, rdR_M8, rdR_M13, wr_M0, wr_M3, wr_M7, wr_M9, wr_M10, wr_M11, wr_M12, wr_M14, ald_M1, ald_M2, ald_M3, ald_M5, ald_M6, ald_M7, ast_M1, ast_M2, ast_M3, ast_M5, ast_M6, ast_M7, iI_l, iI_add, iI_sub, iI_mul, iI_neg, dv_i, Int.reduceToNat]
      rw [ih f (k + 1) _ (by omega) (by omega)]
      exact ret_c (by rw [sF]; unfold vl; rw [if_pos hs]; omega)
    · rw [if_pos hs]
      simp (maxSteps := 1000000) (disch := omega) only [cc_s, kI_i, kV_n, kR_r, ck_M, rdI_M3, rdI_M7, rdI_M9, rdI_M10, rdI_M11, rdI_M12, rdI_M14, rdR_M1, rdR_M2, rdR_M4, rdR_M5, rdR_M6, rdR_M8, rdR_M13, wr_M0, wr_M3, wr_M7, wr_M9, wr_M10, wr_M11, wr_M12, wr_M14, ald_M1, ald_M2, ald_M3, ald_M5, ald_M6, ald_M7, ast_M1, ast_M2, ast_M3, ast_M5, ast_M6, ast_M7, iI_l, iI_add, iI_sub, iI_mul, iI_neg, dv_i, Int.reduceToNat]
      rw [ih f (k + 1) _ (by omega) (by omega)]
      exact ret_c (by rw [sF]; simp only [vl, if_neg hs]; omega)
theorem m_total (R : MS (M 1) D) (G : Rg1 D r) (hr : r < 21) : fX6_total c (hM h a M) (some a) (iI r) = some (hM h a M, some (.inl (iI (totI D r)))) := by
  unfold fX6_total
  simp (maxSteps := 1000000) (disch := omega) only [cc_s, kI_i, kV_n, kR_r, ck_M, rdI_M3, rdI_M7, rdI_M9, rdI_M10, rdI_M11, rdI_M12, rdI_M14, rdR_M1, rdR_M2, rdR_M4, rdR_M5, rdR_M6, rdR_M8, rdR_M13, wr_M0, wr_M3, wr_M7, wr_M9, wr_M10, wr_M11, wr_M12, wr_M14, ald_M1, ald_M2, ald_M3, ald_M5, ald_M6, ald_M7, ast_M1, ast_M2, ast_M3, ast_M5, ast_M6, ast_M7, iI_l, iI_add, iI_sub, iI_mul, iI_neg, dv_i, Int.reduceToNat]
  have := nIt_le G
  rw [show FU = 20000 from rfl]
  refine (m_total_l R G hr (nIt D r) 20000 0 0 (by omega) (by omega)).trans (ret_c ?_)
  unfold totI; omega
theorem iI_k1 (k : Nat) : iI ((k : Int) + 1) = iI ((k + 1 : Nat) : Int) := rfl
theorem m_struckOf_l (R : MS (M 1) D) (G : Rg1 D r) (hr : r < 21) : ∀ (m fu k : Nat) (acc : Int), m < fu → k + m = nIt D r → fX6_struckOf_4 c fu (hM h a M) (some a) (iI r) (iI acc) (iI k) = some (hM h a M, some (.inl (iI (acc + sF (fun i => gP D r i 3) k m)))) := by
  have hn := nIt_le G
  have hg := G.1
  intro m
  induction m with
  | zero =>
    intro fu k acc hf hk
    obtain ⟨f, rfl⟩ : ∃ f, fu = f + 1 := ⟨fu - 1, by omega⟩
    rw [fX6_struckOf_4]
    simp (maxSteps := 1000000) (disch := omega) only [cc_s, kI_i, kV_n, kR_r, ck_M, rdI_M3, rdI_M7, rdI_M9, rdI_M10, rdI_M11, rdI_M12, rdI_M14, rdR_M1, rdR_M2, rdR_M4, rdR_M5, rdR_M6, rdR_M8, rdR_M13, wr_M0, wr_M3, wr_M7, wr_M9, wr_M10, wr_M11, wr_M12, wr_M14, ald_M1, ald_M2, ald_M3, ald_M5, ald_M6, ald_M7, ast_M1, ast_M2, ast_M3, ast_M5, ast_M6, ast_M7, iI_l, iI_add, iI_sub, iI_mul, iI_neg, dv_i, Int.reduceToNat, m_F R hr, lt_i]
    rw [if_neg (by omega)]
    exact ret_c (by simp [sF])
  | succ m ih =>
    intro fu k acc hf hk
    obtain ⟨f, rfl⟩ : ∃ f, fu = f + 1 := ⟨fu - 1, by omega⟩
    rw [fX6_struckOf_4]
    simp (maxSteps := 1000000) (disch := omega) only [cc_s, kI_i, kV_n, kR_r, ck_M, rdI_M3, rdI_M7, rdI_M9, rdI_M10, rdI_M11, rdI_M12, rdI_M14, rdR_M1, rdR_M2, rdR_M4, rdR_M5, rdR_M6, rdR_M8, rdR_M13, wr_M0, wr_M3, wr_M7, wr_M9, wr_M10, wr_M11, wr_M12, wr_M14, ald_M1, ald_M2, ald_M3, ald_M5, ald_M6, ald_M7, ast_M1, ast_M2, ast_M3, ast_M5, ast_M6, ast_M7, iI_l, iI_add, iI_sub, iI_mul, iI_neg, dv_i, Int.reduceToNat, m_F R hr, lt_i]
    rw [if_pos (by omega)]
    simp (maxSteps := 1000000) (disch := omega) only [cc_s, kI_i, kV_n, kR_r, ck_M, rdI_M3, rdI_M7, rdI_M9, rdI_M10, rdI_M11, rdI_M12, rdI_M14, rdR_M1, rdR_M2, rdR_M4, rdR_M5, rdR_M6, rdR_M8, rdR_M13, wr_M0, wr_M3, wr_M7, wr_M9, wr_M10, wr_M11, wr_M12, wr_M14, ald_M1, ald_M2, ald_M3, ald_M5, ald_M6, ald_M7, ast_M1, ast_M2, ast_M3, ast_M5, ast_M6, ast_M7, iI_l, iI_add, iI_sub, iI_mul, iI_neg, dv_i, Int.reduceToNat, m_isStruck R G hr (i := k), bI_0]
    unfold fX6_struckOf_30
    have p := G.2.1 k
    unfold pRg at p
    by_cases hs : gP D r k 3 = 1
    · rw [if_neg (fun h => h hs)]
      simp (maxSteps := 1000000) (disch := omega) only [cc_s, kI_i, kV_n, kR_r, ck_M, rdI_M3, rdI_M7, rdI_M9, rdI_M10, rdI_M11, rdI_M12, rdI_M14, rdR_M1, rdR_M2, rdR_M4, rdR_M5, rdR_M6, rdR_M8, rdR_M13, wr_M0, wr_M3, wr_M7, wr_M9, wr_M10, wr_M11, wr_M12, wr_M14, ald_M1, ald_M2, ald_M3, ald_M5, ald_M6, ald_M7, ast_M1, ast_M2, ast_M3, ast_M5, ast_M6, ast_M7, iI_l, iI_add, iI_sub, iI_mul, iI_neg, dv_i, Int.reduceToNat, iI_k1]
      rw [ih f (k + 1) _ (by omega) (by omega)]
      exact ret_c (by rw [sF]; omega)
    · rw [if_pos hs]
      simp (maxSteps := 1000000) (disch := omega) only [cc_s, kI_i, kV_n, kR_r, ck_M, rdI_M3, rdI_M7, rdI_M9, rdI_M10, rdI_M11, rdI_M12, rdI_M14, rdR_M1, rdR_M2, rdR_M4, rdR_M5, rdR_M6, rdR_M8, rdR_M13, wr_M0, wr_M3, wr_M7, wr_M9, wr_M10, wr_M11, wr_M12, wr_M14, ald_M1, ald_M2, ald_M3, ald_M5, ald_M6, ald_M7, ast_M1, ast_M2, ast_M3, ast_M5, ast_M6, ast_M7, iI_l, iI_add, iI_sub, iI_mul, iI_neg, dv_i, Int.reduceToNat, iI_k1]
      rw [ih f (k + 1) _ (by omega) (by omega)]
      exact ret_c (by rw [sF]; omega)
theorem m_struckOf (R : MS (M 1) D) (G : Rg1 D r) (hr : r < 21) : fX6_struckOf c (hM h a M) (some a) (iI r) = some (hM h a M, some (.inl (iI (struckI D r)))) := by
  unfold fX6_struckOf
  simp (maxSteps := 1000000) (disch := omega) only [cc_s, kI_i, kV_n, kR_r, ck_M, rdI_M3, rdI_M7, rdI_M9, rdI_M10, rdI_M11, rdI_M12, rdI_M14, rdR_M1, rdR_M2, rdR_M4, rdR_M5, rdR_M6, rdR_M8, rdR_M13, wr_M0, wr_M3, wr_M7, wr_M9, wr_M10, wr_M11, wr_M12, wr_M14, ald_M1, ald_M2, ald_M3, ald_M5, ald_M6, ald_M7, ast_M1, ast_M2, ast_M3, ast_M5, ast_M6, ast_M7, iI_l, iI_add, iI_sub, iI_mul, iI_neg, dv_i, Int.reduceToNat]
  have := nIt_le G
  rw [show FU = 20000 from rfl]
  refine (m_struckOf_l R G hr (nIt D r) 20000 0 0 (by omega) (by omega)).trans (ret_c ?_)
  unfold struckI; omega
theorem m_rateOf {h : Hp} {t : Int} (h0 : 0 ≤ t) (h1 : t < 3) : fX6_rateOf c h (iI t) = some (h, some (.inl (iI (rateI t)))) := by
  unfold fX6_rateOf fX6_rateOf_20 rateI
  simp (maxSteps := 1000000) (disch := omega) only [cc_s, kI_i, kV_n, kR_r, ck_M, rdI_M3, rdI_M7, rdI_M9, rdI_M10, rdI_M11, rdI_M12, rdI_M14, rdR_M1, rdR_M2, rdR_M4, rdR_M5, rdR_M6, rdR_M8, rdR_M13, wr_M0, wr_M3, wr_M7, wr_M9, wr_M10, wr_M11, wr_M12, wr_M14, ald_M1, ald_M2, ald_M3, ald_M5, ald_M6, ald_M7, ast_M1, ast_M2, ast_M3, ast_M5, ast_M6, ast_M7, iI_l, iI_add, iI_sub, iI_mul, iI_neg, dv_i, Int.reduceToNat, eq_i]
  split
  · rfl
  · split <;> rfl
theorem m_taxOf_l (R : MS (M 1) D) (G : Rg1 D r) (hr : r < 21) {t q : Int} (ht0 : 0 ≤ t) (ht1 : t < 3) (hq0 : 0 ≤ q) (hq1 : q < 20) : ∀ (m fu k : Nat) (acc : Int), m < fu → k + m = nIt D r → 0 ≤ acc → acc + sF (tv D r t) k m < 12000000 → fX6_taxOf_11 c fu (hM h a M) (some a) (iI r) (iI t) (iI acc) (iI q) (iI k) = some (hM h a M, some (.inl (iI ((2 * (acc + sF (tv D r t) k m) * q + 100 + q) / (2 * (100 + q)))))) := by
  have hn := nIt_le G
  have hg := G.1
  intro m
  induction m with
  | zero =>
    intro fu k acc hf hk ha0 ha
    obtain ⟨f, rfl⟩ : ∃ f, fu = f + 1 := ⟨fu - 1, by omega⟩
    rw [fX6_taxOf_11]
    simp only [sF, Int.add_zero] at ha ⊢
    have e1 : 0 ≤ 2 * acc * q := Int.mul_nonneg (by omega) hq0
    have e2 : 2 * acc * q ≤ 24000000 * 19 := Int.mul_le_mul (by omega) (by omega) hq0 (by decide)
    simp (maxSteps := 1000000) (disch := omega) only [cc_s, kI_i, kV_n, kR_r, ck_M, rdI_M3, rdI_M7, rdI_M9, rdI_M10, rdI_M11, rdI_M12, rdI_M14, rdR_M1, rdR_M2, rdR_M4, rdR_M5, rdR_M6, rdR_M8, rdR_M13, wr_M0, wr_M3, wr_M7, wr_M9, wr_M10, wr_M11, wr_M12, wr_M14, ald_M1, ald_M2, ald_M3, ald_M5, ald_M6, ald_M7, ast_M1, ast_M2, ast_M3, ast_M5, ast_M6, ast_M7, iI_l, iI_add, iI_sub, iI_mul, iI_neg, dv_i, Int.reduceToNat, m_F R hr, lt_i]
    rw [if_neg (by omega)]
    simp (maxSteps := 1000000) (disch := omega) only [cc_s, kI_i, kV_n, kR_r, ck_M, rdI_M3, rdI_M7, rdI_M9, rdI_M10, rdI_M11, rdI_M12, rdI_M14, rdR_M1, rdR_M2, rdR_M4, rdR_M5, rdR_M6, rdR_M8, rdR_M13, wr_M0, wr_M3, wr_M7, wr_M9, wr_M10, wr_M11, wr_M12, wr_M14, ald_M1, ald_M2, ald_M3, ald_M5, ald_M6, ald_M7, ast_M1, ast_M2, ast_M3, ast_M5, ast_M6, ast_M7, iI_l, iI_add, iI_sub, iI_mul, iI_neg, dv_i, Int.reduceToNat, div_i]
  | succ m ih =>
    intro fu k acc hf hk ha0 ha
    obtain ⟨f, rfl⟩ : ∃ f, fu = f + 1 := ⟨fu - 1, by omega⟩
    have b1 := tv_bd (t := t) (G.2.1 k)
    have p := G.2.1 k
    unfold pRg at p
    rw [fX6_taxOf_11]
    rw [sF] at ha ⊢
    simp (maxSteps := 1000000) (disch := omega) only [cc_s, kI_i, kV_n, kR_r, ck_M, rdI_M3, rdI_M7, rdI_M9, rdI_M10, rdI_M11, rdI_M12, rdI_M14, rdR_M1, rdR_M2, rdR_M4, rdR_M5, rdR_M6, rdR_M8, rdR_M13, wr_M0, wr_M3, wr_M7, wr_M9, wr_M10, wr_M11, wr_M12, wr_M14, ald_M1, ald_M2, ald_M3, ald_M5, ald_M6, ald_M7, ast_M1, ast_M2, ast_M3, ast_M5, ast_M6, ast_M7, iI_l, iI_add, iI_sub, iI_mul, iI_neg, dv_i, Int.reduceToNat, m_F R hr, lt_i]
    rw [if_pos (by omega)]
    simp (maxSteps := 1000000) (disch := omega) only [cc_s, kI_i, kV_n, kR_r, ck_M, rdI_M3, rdI_M7, rdI_M9, rdI_M10, rdI_M11, rdI_M12, rdI_M14, rdR_M1, rdR_M2, rdR_M4, rdR_M5, rdR_M6, rdR_M8, rdR_M13, wr_M0, wr_M3, wr_M7, wr_M9, wr_M10, wr_M11, wr_M12, wr_M14, ald_M1, ald_M2, ald_M3, ald_M5, ald_M6, ald_M7, ast_M1, ast_M2, ast_M3, ast_M5, ast_M6, ast_M7, iI_l, iI_add, iI_sub, iI_mul, iI_neg, dv_i, Int.reduceToNat, m_isStruck R G hr (i := k), bI_0]
    unfold fX6_taxOf_55 fX6_taxOf_56
    by_cases hs : gP D r k 3 = 1
    · rw [if_neg (fun h => h hs)]
      have e : tv D r t k = 0 := by unfold tv; rw [if_pos hs]
      simp (maxSteps := 1000000) (disch := omega) only [cc_s, kI_i, kV_n, kR_r, ck_M, rdI_M3, rdI_M7, rdI_M9, rdI_M10, rdI_M11, rdI_M12, rdI_M14, rdR_M1, rdR_M2, rdR_M4, rdR_M5, rdR_M6, rdR_M8, rdR_M13, wr_M0, wr_M3, wr_M7, wr_M9, wr_M10, wr_M11, wr_M12, wr_M14, ald_M1, ald_M2, ald_M3, ald_M5, ald_M6, ald_M7, ast_M1, ast_M2, ast_M3, ast_M5, ast_M6, ast_M7, iI_l, iI_add, iI_sub, iI_mul, iI_neg, dv_i, Int.reduceToNat, iI_k1]
      rw [ih f (k + 1) _ (by omega) (by omega) (by omega) (by omega), e]
      exact ret_c (by simp)
    · rw [if_pos hs]
      simp (maxSteps := 1000000) (disch := omega) only [cc_s, kI_i, kV_n, kR_r, ck_M, rdI_M3, rdI_M7, rdI_M9, rdI_M10, rdI_M11, rdI_M12, rdI_M14, rdR_M1, rdR_M2, rdR_M4, rdR_M5, rdR_M6, rdR_M8, rdR_M13, wr_M0, wr_M3, wr_M7, wr_M9, wr_M10, wr_M11, wr_M12, wr_M14, ald_M1, ald_M2, ald_M3, ald_M5, ald_M6, ald_M7, ast_M1, ast_M2, ast_M3, ast_M5, ast_M6, ast_M7, iI_l, iI_add, iI_sub, iI_mul, iI_neg, dv_i, Int.reduceToNat, m_tax R G hr (i := k), eq_i]
      by_cases h2 : gP D r k 2 = t
      · rw [if_pos h2]
        have e : tv D r t k = gP D r k 0 * gP D r k 1 := by unfold tv; rw [if_neg hs, if_pos h2]
        simp (maxSteps := 1000000) (disch := omega) only [cc_s, kI_i, kV_n, kR_r, ck_M, rdI_M3, rdI_M7, rdI_M9, rdI_M10, rdI_M11, rdI_M12, rdI_M14, rdR_M1, rdR_M2, rdR_M4, rdR_M5, rdR_M6, rdR_M8, rdR_M13, wr_M0, wr_M3, wr_M7, wr_M9, wr_M10, wr_M11, wr_M12, wr_M14, ald_M1, ald_M2, ald_M3, ald_M5, ald_M6, ald_M7, ast_M1, ast_M2, ast_M3, ast_M5, ast_M6, ast_M7, iI_l, iI_add, iI_sub, iI_mul, iI_neg, dv_i, Int.reduceToNat, m_sum R G hr (i := k), iI_k1]
        rw [← e, ih f (k + 1) _ (by omega) (by omega) (by omega) (by omega), Int.add_assoc acc]
      · rw [if_neg h2]
        have e : tv D r t k = 0 := by unfold tv; rw [if_neg hs, if_neg h2]
        simp (maxSteps := 1000000) (disch := omega) only [cc_s, kI_i, kV_n, kR_r, ck_M, rdI_M3, rdI_M7, rdI_M9, rdI_M10, rdI_M11, rdI_M12, rdI_M14, rdR_M1, rdR_M2, rdR_M4, rdR_M5, rdR_M6, rdR_M8, rdR_M13, wr_M0, wr_M3, wr_M7, wr_M9, wr_M10, wr_M11, wr_M12, wr_M14, ald_M1, ald_M2, ald_M3, ald_M5, ald_M6, ald_M7, ast_M1, ast_M2, ast_M3, ast_M5, ast_M6, ast_M7, iI_l, iI_add, iI_sub, iI_mul, iI_neg, dv_i, Int.reduceToNat, iI_k1]
        rw [ih f (k + 1) _ (by omega) (by omega) (by omega) (by omega), e]
        exact ret_c (by simp)
theorem m_taxOf (R : MS (M 1) D) (G : Rg1 D r) (hr : r < 21) {t : Int} (ht0 : 0 ≤ t) (ht1 : t < 3) : fX6_taxOf c (hM h a M) (some a) (iI r) (iI t) = some (hM h a M, some (.inl (iI (taxI D r t)))) := by
  unfold fX6_taxOf
  simp (maxSteps := 1000000) (disch := omega) only [cc_s, kI_i, kV_n, kR_r, ck_M, rdI_M3, rdI_M7, rdI_M9, rdI_M10, rdI_M11, rdI_M12, rdI_M14, rdR_M1, rdR_M2, rdR_M4, rdR_M5, rdR_M6, rdR_M8, rdR_M13, wr_M0, wr_M3, wr_M7, wr_M9, wr_M10, wr_M11, wr_M12, wr_M14, ald_M1, ald_M2, ald_M3, ald_M5, ald_M6, ald_M7, ast_M1, ast_M2, ast_M3, ast_M5, ast_M6, ast_M7, iI_l, iI_add, iI_sub, iI_mul, iI_neg, dv_i, Int.reduceToNat, m_rateOf]
  have := nIt_le G
  have b := sumT_bd (t := t) G
  unfold sumT at b
  rw [show FU = 20000 from rfl]
  refine (m_taxOf_l R G hr ht0 ht1 (by rcases rateI_c t with e | e | e <;> omega) (by rcases rateI_c t with e | e | e <;> omega) (nIt D r) 20000 0 0 (by omega) (by omega) (by omega) (by omega)).trans (ret_c ?_)
  rw [Int.zero_add]; rfl
theorem m_hasTax_l (R : MS (M 1) D) (G : Rg1 D r) (hr : r < 21) (hp : ∀ i, i < nIt D r → 1 ≤ gP D r i 0 ∧ 1 ≤ gP D r i 1) {t : Int} (ht0 : 0 ≤ t) (ht1 : t < 3) : ∀ (m fu k : Nat) (b : Prop) [Decidable b], m < fu → k + m = nIt D r → fX6_hasTax_5 c fu (hM h a M) (some a) (iI r) (iI t) (iI (bI b)) (iI k) = some (hM h a M, some (.inl (iI (bI (b ∨ 0 < sF (tv D r t) k m))))) := by
  have hn := nIt_le G
  have hg := G.1
  intro m
  induction m with
  | zero =>
    intro fu k b _ hf hk
    obtain ⟨f, rfl⟩ : ∃ f, fu = f + 1 := ⟨fu - 1, by omega⟩
    rw [fX6_hasTax_5]
    simp (maxSteps := 1000000) (disch := omega) only [cc_s, kI_i, kV_n, kR_r, ck_M, rdI_M3, rdI_M7, rdI_M9, rdI_M10, rdI_M11, rdI_M12, rdI_M14, rdR_M1, rdR_M2, rdR_M4, rdR_M5, rdR_M6, rdR_M8, rdR_M13, wr_M0, wr_M3, wr_M7, wr_M9, wr_M10, wr_M11, wr_M12, wr_M14, ald_M1, ald_M2, ald_M3, ald_M5, ald_M6, ald_M7, ast_M1, ast_M2, ast_M3, ast_M5, ast_M6, ast_M7, iI_l, iI_add, iI_sub, iI_mul, iI_neg, dv_i, Int.reduceToNat, m_F R hr, lt_i, rt_b]
    rw [if_neg (by omega)]
    exact ret_c (by simp [sF])
  | succ m ih =>
    intro fu k b _ hf hk
    obtain ⟨f, rfl⟩ : ∃ f, fu = f + 1 := ⟨fu - 1, by omega⟩
    have b1 := tv_bd (t := t) (G.2.1 k)
    have b2 := (sF_bd (f := tv D r t) (b := 989901) m (k + 1) (fun i _ _ => tv_bd (G.2.1 i))).1
    have p := G.2.1 k
    have hpk := hp k (by omega)
    unfold pRg at p
    rw [fX6_hasTax_5]
    rw [sF]
    unfold fX6_hasTax_42 fX6_hasTax_46 fX6_hasTax_47
    simp (maxSteps := 1000000) (disch := omega) only [cc_s, kI_i, kV_n, kR_r, ck_M, rdI_M3, rdI_M7, rdI_M9, rdI_M10, rdI_M11, rdI_M12, rdI_M14, rdR_M1, rdR_M2, rdR_M4, rdR_M5, rdR_M6, rdR_M8, rdR_M13, wr_M0, wr_M3, wr_M7, wr_M9, wr_M10, wr_M11, wr_M12, wr_M14, ald_M1, ald_M2, ald_M3, ald_M5, ald_M6, ald_M7, ast_M1, ast_M2, ast_M3, ast_M5, ast_M6, ast_M7, iI_l, iI_add, iI_sub, iI_mul, iI_neg, dv_i, Int.reduceToNat, m_F R hr, lt_i, bI_0]
    rw [if_pos (by omega)]
    have one : iI 1 = iI (bI True) := rfl
    have zer : iI 0 = iI (bI False) := rfl
    by_cases hb : b
    · rw [if_neg (fun h => h hb)]
      simp (maxSteps := 1000000) (disch := omega) only [cc_s, kI_i, kV_n, kR_r, ck_M, rdI_M3, rdI_M7, rdI_M9, rdI_M10, rdI_M11, rdI_M12, rdI_M14, rdR_M1, rdR_M2, rdR_M4, rdR_M5, rdR_M6, rdR_M8, rdR_M13, wr_M0, wr_M3, wr_M7, wr_M9, wr_M10, wr_M11, wr_M12, wr_M14, ald_M1, ald_M2, ald_M3, ald_M5, ald_M6, ald_M7, ast_M1, ast_M2, ast_M3, ast_M5, ast_M6, ast_M7, iI_l, iI_add, iI_sub, iI_mul, iI_neg, dv_i, Int.reduceToNat, iI_k1]
      rw [one, ih f (k + 1) True (by omega) (by omega)]
      exact ret_c (by rw [bI_t (Or.inl trivial), bI_t (Or.inl hb)])
    · rw [if_pos hb]
      simp (maxSteps := 1000000) (disch := omega) only [cc_s, kI_i, kV_n, kR_r, ck_M, rdI_M3, rdI_M7, rdI_M9, rdI_M10, rdI_M11, rdI_M12, rdI_M14, rdR_M1, rdR_M2, rdR_M4, rdR_M5, rdR_M6, rdR_M8, rdR_M13, wr_M0, wr_M3, wr_M7, wr_M9, wr_M10, wr_M11, wr_M12, wr_M14, ald_M1, ald_M2, ald_M3, ald_M5, ald_M6, ald_M7, ast_M1, ast_M2, ast_M3, ast_M5, ast_M6, ast_M7, iI_l, iI_add, iI_sub, iI_mul, iI_neg, dv_i, Int.reduceToNat, m_isStruck R G hr (i := k), bI_0]
      by_cases hs : gP D r k 3 = 1
      · rw [if_neg (fun h => h hs)]
        have e : tv D r t k = 0 := by unfold tv; rw [if_pos hs]
        simp (maxSteps := 1000000) (disch := omega) only [cc_s, kI_i, kV_n, kR_r, ck_M, rdI_M3, rdI_M7, rdI_M9, rdI_M10, rdI_M11, rdI_M12, rdI_M14, rdR_M1, rdR_M2, rdR_M4, rdR_M5, rdR_M6, rdR_M8, rdR_M13, wr_M0, wr_M3, wr_M7, wr_M9, wr_M10, wr_M11, wr_M12, wr_M14, ald_M1, ald_M2, ald_M3, ald_M5, ald_M6, ald_M7, ast_M1, ast_M2, ast_M3, ast_M5, ast_M6, ast_M7, iI_l, iI_add, iI_sub, iI_mul, iI_neg, dv_i, Int.reduceToNat, iI_k1]
        rw [zer, ih f (k + 1) False (by omega) (by omega), e, Int.zero_add]
        exact ret_c (by simp [hb])
      · rw [if_pos hs]
        simp (maxSteps := 1000000) (disch := omega) only [cc_s, kI_i, kV_n, kR_r, ck_M, rdI_M3, rdI_M7, rdI_M9, rdI_M10, rdI_M11, rdI_M12, rdI_M14, rdR_M1, rdR_M2, rdR_M4, rdR_M5, rdR_M6, rdR_M8, rdR_M13, wr_M0, wr_M3, wr_M7, wr_M9, wr_M10, wr_M11, wr_M12, wr_M14, ald_M1, ald_M2, ald_M3, ald_M5, ald_M6, ald_M7, ast_M1, ast_M2, ast_M3, ast_M5, ast_M6, ast_M7, iI_l, iI_add, iI_sub, iI_mul, iI_neg, dv_i, Int.reduceToNat, m_tax R G hr (i := k), eq_i]
        by_cases h2 : gP D r k 2 = t
        · rw [if_pos h2]
          have e : tv D r t k = gP D r k 0 * gP D r k 1 := by unfold tv; rw [if_neg hs, if_pos h2]
          have e2 : 1 * 1 ≤ gP D r k 0 * gP D r k 1 := Int.mul_le_mul hpk.1 hpk.2 (by decide) (by omega)
          simp (maxSteps := 1000000) (disch := omega) only [cc_s, kI_i, kV_n, kR_r, ck_M, rdI_M3, rdI_M7, rdI_M9, rdI_M10, rdI_M11, rdI_M12, rdI_M14, rdR_M1, rdR_M2, rdR_M4, rdR_M5, rdR_M6, rdR_M8, rdR_M13, wr_M0, wr_M3, wr_M7, wr_M9, wr_M10, wr_M11, wr_M12, wr_M14, ald_M1, ald_M2, ald_M3, ald_M5, ald_M6, ald_M7, ast_M1, ast_M2, ast_M3, ast_M5, ast_M6, ast_M7, iI_l, iI_add, iI_sub, iI_mul, iI_neg, dv_i, Int.reduceToNat, iI_k1]
          rw [one, ih f (k + 1) True (by omega) (by omega)]
          exact ret_c (by rw [bI_t (Or.inl trivial), bI_t (Or.inr (by omega))])
        · rw [if_neg h2]
          have e : tv D r t k = 0 := by unfold tv; rw [if_neg hs, if_neg h2]
          simp (maxSteps := 1000000) (disch := omega) only [cc_s, kI_i, kV_n, kR_r, ck_M, rdI_M3, rdI_M7, rdI_M9, rdI_M10, rdI_M11, rdI_M12, rdI_M14, rdR_M1, rdR_M2, rdR_M4, rdR_M5, rdR_M6, rdR_M8, rdR_M13, wr_M0, wr_M3, wr_M7, wr_M9, wr_M10, wr_M11, wr_M12, wr_M14, ald_M1, ald_M2, ald_M3, ald_M5, ald_M6, ald_M7, ast_M1, ast_M2, ast_M3, ast_M5, ast_M6, ast_M7, iI_l, iI_add, iI_sub, iI_mul, iI_neg, dv_i, Int.reduceToNat, iI_k1]
          rw [zer, ih f (k + 1) False (by omega) (by omega), e, Int.zero_add]
          exact ret_c (by simp [hb])
theorem m_hasTax (R : MS (M 1) D) (G : Rg1 D r) (hr : r < 21) (hp : ∀ i, i < nIt D r → 1 ≤ gP D r i 0 ∧ 1 ≤ gP D r i 1) {t : Int} (ht0 : 0 ≤ t) (ht1 : t < 3) : fX6_hasTax c (hM h a M) (some a) (iI r) (iI t) = some (hM h a M, some (.inl (iI (bI (0 < sumT D r t))))) := by
  unfold fX6_hasTax
  simp (maxSteps := 1000000) (disch := omega) only [cc_s, kI_i, kV_n, kR_r, ck_M, rdI_M3, rdI_M7, rdI_M9, rdI_M10, rdI_M11, rdI_M12, rdI_M14, rdR_M1, rdR_M2, rdR_M4, rdR_M5, rdR_M6, rdR_M8, rdR_M13, wr_M0, wr_M3, wr_M7, wr_M9, wr_M10, wr_M11, wr_M12, wr_M14, ald_M1, ald_M2, ald_M3, ald_M5, ald_M6, ald_M7, ast_M1, ast_M2, ast_M3, ast_M5, ast_M6, ast_M7, iI_l, iI_add, iI_sub, iI_mul, iI_neg, dv_i, Int.reduceToNat]
  have := nIt_le G
  rw [show FU = 20000 from rfl]
  refine (m_hasTax_l R G hr hp ht0 ht1 (nIt D r) 20000 0 False (by omega) (by omega)).trans (ret_c ?_)
  exact bI_iff (by simp [sumT])
theorem m_isHow (R : MS (M 1) D) (GF : RgF D) (hr : r < 21) {w : Int} (h0 : 0 ≤ w) (h1 : w < 3) : fX6_isHow c (hM h a M) (some a) (iI r) (iI w) = some (hM h a M, some (.inl (iI (bI (hwP D w r = true))))) := by
  have g0 := GF r hr 0 (by decide)
  have g3 := GF r hr 3 (by decide)
  unfold fX6_isHow fX6_isHow_23 fX6_isHow_24
  simp (maxSteps := 1000000) (disch := omega) only [cc_s, kI_i, kV_n, kR_r, ck_M, rdI_M3, rdI_M7, rdI_M9, rdI_M10, rdI_M11, rdI_M12, rdI_M14, rdR_M1, rdR_M2, rdR_M4, rdR_M5, rdR_M6, rdR_M8, rdR_M13, wr_M0, wr_M3, wr_M7, wr_M9, wr_M10, wr_M11, wr_M12, wr_M14, ald_M1, ald_M2, ald_M3, ald_M5, ald_M6, ald_M7, ast_M1, ast_M2, ast_M3, ast_M5, ast_M6, ast_M7, iI_l, iI_add, iI_sub, iI_mul, iI_neg, dv_i, Int.reduceToNat, m_F R hr, lt_i, eq_i, rt_0, rt_1]
  by_cases e1 : 0 < gF D r 0
  · rw [if_pos e1]
    by_cases e2 : gF D r 3 = w
    · rw [if_pos e2]; exact ret_c (bI_t (by simp [hwP, e1, e2])).symm
    · rw [if_neg e2]; exact ret_c (bI_f (by simp [hwP, e1, e2])).symm
  · rw [if_neg e1]; exact ret_c (bI_f (by simp [hwP, e1])).symm
theorem m_manyHow_l (R : MS (M 1) D) (GF : RgF D) {w : Int} (h0 : 0 ≤ w) (h1 : w < 3) : ∀ (m fu k : Nat) (acc : Int), m < fu → k + m = 21 → fX6_manyHow_4 c fu (hM h a M) (some a) (iI w) (iI acc) (iI k) = some (hM h a M, some (.inl (iI (acc + sF (fun r => bI (hwP D w r = true)) k m)))) := by
  intro m
  induction m with
  | zero =>
    intro fu k acc hf hk
    obtain ⟨f, rfl⟩ : ∃ f, fu = f + 1 := ⟨fu - 1, by omega⟩
    rw [fX6_manyHow_4]
    simp (maxSteps := 1000000) (disch := omega) only [cc_s, kI_i, kV_n, kR_r, ck_M, rdI_M3, rdI_M7, rdI_M9, rdI_M10, rdI_M11, rdI_M12, rdI_M14, rdR_M1, rdR_M2, rdR_M4, rdR_M5, rdR_M6, rdR_M8, rdR_M13, wr_M0, wr_M3, wr_M7, wr_M9, wr_M10, wr_M11, wr_M12, wr_M14, ald_M1, ald_M2, ald_M3, ald_M5, ald_M6, ald_M7, ast_M1, ast_M2, ast_M3, ast_M5, ast_M6, ast_M7, iI_l, iI_add, iI_sub, iI_mul, iI_neg, dv_i, Int.reduceToNat, lt_i]
    rw [if_neg (by omega)]
    exact ret_c (by simp [sF])
  | succ m ih =>
    intro fu k acc hf hk
    obtain ⟨f, rfl⟩ : ∃ f, fu = f + 1 := ⟨fu - 1, by omega⟩
    rw [fX6_manyHow_4]
    unfold fX6_manyHow_25
    simp (maxSteps := 1000000) (disch := omega) only [cc_s, kI_i, kV_n, kR_r, ck_M, rdI_M3, rdI_M7, rdI_M9, rdI_M10, rdI_M11, rdI_M12, rdI_M14, rdR_M1, rdR_M2, rdR_M4, rdR_M5, rdR_M6, rdR_M8, rdR_M13, wr_M0, wr_M3, wr_M7, wr_M9, wr_M10, wr_M11, wr_M12, wr_M14, ald_M1, ald_M2, ald_M3, ald_M5, ald_M6, ald_M7, ast_M1, ast_M2, ast_M3, ast_M5, ast_M6, ast_M7, iI_l, iI_add, iI_sub, iI_mul, iI_neg, dv_i, Int.reduceToNat, lt_i, m_isHow R GF (r := k), bI_0]
    rw [if_pos (by omega), sF]
    by_cases hs : hwP D w k = true
    · rw [if_neg (fun h => h hs)]
      simp (maxSteps := 1000000) (disch := omega) only [cc_s, kI_i, kV_n, kR_r, ck_M, rdI_M3, rdI_M7, rdI_M9, rdI_M10, rdI_M11, rdI_M12, rdI_M14, rdR_M1, rdR_M2, rdR_M4, rdR_M5, rdR_M6, rdR_M8, rdR_M13, wr_M0, wr_M3, wr_M7, wr_M9, wr_M10, wr_M11, wr_M12, wr_M14, ald_M1, ald_M2, ald_M3, ald_M5, ald_M6, ald_M7, ast_M1, ast_M2, ast_M3, ast_M5, ast_M6, ast_M7, iI_l, iI_add, iI_sub, iI_mul, iI_neg, dv_i, Int.reduceToNat, iI_k1]
      rw [ih f (k + 1) _ (by omega) (by omega)]
      exact ret_c (by rw [bI_t hs]; omega)
    · rw [if_pos hs]
      simp (maxSteps := 1000000) (disch := omega) only [cc_s, kI_i, kV_n, kR_r, ck_M, rdI_M3, rdI_M7, rdI_M9, rdI_M10, rdI_M11, rdI_M12, rdI_M14, rdR_M1, rdR_M2, rdR_M4, rdR_M5, rdR_M6, rdR_M8, rdR_M13, wr_M0, wr_M3, wr_M7, wr_M9, wr_M10, wr_M11, wr_M12, wr_M14, ald_M1, ald_M2, ald_M3, ald_M5, ald_M6, ald_M7, ast_M1, ast_M2, ast_M3, ast_M5, ast_M6, ast_M7, iI_l, iI_add, iI_sub, iI_mul, iI_neg, dv_i, Int.reduceToNat, iI_k1]
      rw [ih f (k + 1) _ (by omega) (by omega)]
      exact ret_c (by rw [bI_f hs]; omega)
theorem m_manyHow (R : MS (M 1) D) (GF : RgF D) {w : Int} (h0 : 0 ≤ w) (h1 : w < 3) : fX6_manyHow c (hM h a M) (some a) (iI w) = some (hM h a M, some (.inl (iI (manyI D w)))) := by
  unfold fX6_manyHow
  simp (maxSteps := 1000000) (disch := omega) only [cc_s, kI_i, kV_n, kR_r, ck_M, rdI_M3, rdI_M7, rdI_M9, rdI_M10, rdI_M11, rdI_M12, rdI_M14, rdR_M1, rdR_M2, rdR_M4, rdR_M5, rdR_M6, rdR_M8, rdR_M13, wr_M0, wr_M3, wr_M7, wr_M9, wr_M10, wr_M11, wr_M12, wr_M14, ald_M1, ald_M2, ald_M3, ald_M5, ald_M6, ald_M7, ast_M1, ast_M2, ast_M3, ast_M5, ast_M6, ast_M7, iI_l, iI_add, iI_sub, iI_mul, iI_neg, dv_i, Int.reduceToNat]
  refine (m_manyHow_l R GF h0 h1 18 FU 3 0 (by decide) (by decide)).trans (ret_c ?_)
  unfold manyI; omega
theorem m_recordOf_l (R : MS (M 1) D) (GF : RgF D) {z : Int} (h0 : -2147483648 ≤ z) (h1 : z < 2147483648) : ∀ (m fu k : Nat), m < fu → k + m = 21 → fX6_recordOf_2 c fu (hM h a M) (some a) (iI z) (iI k) = some (hM h a M, some (.inl (iI (fF (fun r => decide (0 < z ∧ gF D r 0 = z)) k m)))) := by
  intro m
  induction m with
  | zero =>
    intro fu k hf hk
    obtain ⟨f, rfl⟩ : ∃ f, fu = f + 1 := ⟨fu - 1, by omega⟩
    rw [fX6_recordOf_2]
    simp (maxSteps := 1000000) (disch := omega) only [cc_s, kI_i, kV_n, kR_r, ck_M, rdI_M3, rdI_M7, rdI_M9, rdI_M10, rdI_M11, rdI_M12, rdI_M14, rdR_M1, rdR_M2, rdR_M4, rdR_M5, rdR_M6, rdR_M8, rdR_M13, wr_M0, wr_M3, wr_M7, wr_M9, wr_M10, wr_M11, wr_M12, wr_M14, ald_M1, ald_M2, ald_M3, ald_M5, ald_M6, ald_M7, ast_M1, ast_M2, ast_M3, ast_M5, ast_M6, ast_M7, iI_l, iI_add, iI_sub, iI_mul, iI_neg, dv_i, Int.reduceToNat, lt_i]
    rw [if_neg (by omega)]
    rfl
  | succ m ih =>
    intro fu k hf hk
    obtain ⟨f, rfl⟩ : ∃ f, fu = f + 1 := ⟨fu - 1, by omega⟩
    have g0 := GF k (by omega) 0 (by decide)
    rw [fX6_recordOf_2]
    unfold fX6_recordOf_24
    simp (maxSteps := 1000000) (disch := omega) only [cc_s, kI_i, kV_n, kR_r, ck_M, rdI_M3, rdI_M7, rdI_M9, rdI_M10, rdI_M11, rdI_M12, rdI_M14, rdR_M1, rdR_M2, rdR_M4, rdR_M5, rdR_M6, rdR_M8, rdR_M13, wr_M0, wr_M3, wr_M7, wr_M9, wr_M10, wr_M11, wr_M12, wr_M14, ald_M1, ald_M2, ald_M3, ald_M5, ald_M6, ald_M7, ast_M1, ast_M2, ast_M3, ast_M5, ast_M6, ast_M7, iI_l, iI_add, iI_sub, iI_mul, iI_neg, dv_i, Int.reduceToNat, lt_i]
    rw [if_pos (by omega), fF]
    by_cases hz : 0 < z
    · rw [if_pos hz]
      simp (maxSteps := 1000000) (disch := omega) only [cc_s, kI_i, kV_n, kR_r, ck_M, rdI_M3, rdI_M7, rdI_M9, rdI_M10, rdI_M11, rdI_M12, rdI_M14, rdR_M1, rdR_M2, rdR_M4, rdR_M5, rdR_M6, rdR_M8, rdR_M13, wr_M0, wr_M3, wr_M7, wr_M9, wr_M10, wr_M11, wr_M12, wr_M14, ald_M1, ald_M2, ald_M3, ald_M5, ald_M6, ald_M7, ast_M1, ast_M2, ast_M3, ast_M5, ast_M6, ast_M7, iI_l, iI_add, iI_sub, iI_mul, iI_neg, dv_i, Int.reduceToNat, m_F R (r := k), eq_i, iI_k1]
      by_cases e : gF D k 0 = z
      · rw [if_pos e, if_pos (by simp [hz, e])]
      · rw [if_neg e, if_neg (by simp [e])]
        exact ih f (k + 1) (by omega) (by omega)
    · rw [if_neg hz, if_neg (by simp [hz])]
      simp (maxSteps := 1000000) (disch := omega) only [cc_s, kI_i, kV_n, kR_r, ck_M, rdI_M3, rdI_M7, rdI_M9, rdI_M10, rdI_M11, rdI_M12, rdI_M14, rdR_M1, rdR_M2, rdR_M4, rdR_M5, rdR_M6, rdR_M8, rdR_M13, wr_M0, wr_M3, wr_M7, wr_M9, wr_M10, wr_M11, wr_M12, wr_M14, ald_M1, ald_M2, ald_M3, ald_M5, ald_M6, ald_M7, ast_M1, ast_M2, ast_M3, ast_M5, ast_M6, ast_M7, iI_l, iI_add, iI_sub, iI_mul, iI_neg, dv_i, Int.reduceToNat, iI_k1]
      exact ih f (k + 1) (by omega) (by omega)
theorem m_recordOf (R : MS (M 1) D) (GF : RgF D) {z : Int} (h0 : -2147483648 ≤ z) (h1 : z < 2147483648) : fX6_recordOf c (hM h a M) (some a) (iI z) = some (hM h a M, some (.inl (iI (recI D z)))) := by
  unfold fX6_recordOf
  simp (maxSteps := 1000000) (disch := omega) only [cc_s, kI_i, kV_n, kR_r, ck_M, rdI_M3, rdI_M7, rdI_M9, rdI_M10, rdI_M11, rdI_M12, rdI_M14, rdR_M1, rdR_M2, rdR_M4, rdR_M5, rdR_M6, rdR_M8, rdR_M13, wr_M0, wr_M3, wr_M7, wr_M9, wr_M10, wr_M11, wr_M12, wr_M14, ald_M1, ald_M2, ald_M3, ald_M5, ald_M6, ald_M7, ast_M1, ast_M2, ast_M3, ast_M5, ast_M6, ast_M7, iI_l, iI_add, iI_sub, iI_mul, iI_neg, dv_i, Int.reduceToNat]
  exact m_recordOf_l R GF h0 h1 18 FU 3 (by decide) (by decide)
theorem m_printedNow_l (R : MS (M 1) D) (GF : RgF D) : ∀ (m fu k : Nat), m < fu → k + m = 21 → fX6_printedNow_2 c fu (hM h a M) (some a) (iI k) = some (hM h a M, some (.inl (iI (fF (hwP D 1) k m)))) := by
  intro m
  induction m with
  | zero =>
    intro fu k hf hk
    obtain ⟨f, rfl⟩ : ∃ f, fu = f + 1 := ⟨fu - 1, by omega⟩
    rw [fX6_printedNow_2]
    simp (maxSteps := 1000000) (disch := omega) only [cc_s, kI_i, kV_n, kR_r, ck_M, rdI_M3, rdI_M7, rdI_M9, rdI_M10, rdI_M11, rdI_M12, rdI_M14, rdR_M1, rdR_M2, rdR_M4, rdR_M5, rdR_M6, rdR_M8, rdR_M13, wr_M0, wr_M3, wr_M7, wr_M9, wr_M10, wr_M11, wr_M12, wr_M14, ald_M1, ald_M2, ald_M3, ald_M5, ald_M6, ald_M7, ast_M1, ast_M2, ast_M3, ast_M5, ast_M6, ast_M7, iI_l, iI_add, iI_sub, iI_mul, iI_neg, dv_i, Int.reduceToNat, lt_i]
    rw [if_neg (by omega)]
    rfl
  | succ m ih =>
    intro fu k hf hk
    obtain ⟨f, rfl⟩ : ∃ f, fu = f + 1 := ⟨fu - 1, by omega⟩
    rw [fX6_printedNow_2]
    simp (maxSteps := 1000000) (disch := omega) only [cc_s, kI_i, kV_n, kR_r, ck_M, rdI_M3, rdI_M7, rdI_M9, rdI_M10, rdI_M11, rdI_M12, rdI_M14, rdR_M1, rdR_M2, rdR_M4, rdR_M5, rdR_M6, rdR_M8, rdR_M13, wr_M0, wr_M3, wr_M7, wr_M9, wr_M10, wr_M11, wr_M12, wr_M14, ald_M1, ald_M2, ald_M3, ald_M5, ald_M6, ald_M7, ast_M1, ast_M2, ast_M3, ast_M5, ast_M6, ast_M7, iI_l, iI_add, iI_sub, iI_mul, iI_neg, dv_i, Int.reduceToNat, lt_i, m_isHow R GF (r := k), bI_0, iI_k1]
    rw [if_pos (by omega), fF]
    by_cases hs : hwP D 1 k = true
    · rw [if_neg (fun h => h hs), if_pos hs]
    · rw [if_pos hs, if_neg hs]
      exact ih f (k + 1) (by omega) (by omega)
theorem m_printedNow (R : MS (M 1) D) (GF : RgF D) : fX6_printedNow c (hM h a M) (some a) = some (hM h a M, some (.inl (iI (prtI D)))) := by
  unfold fX6_printedNow
  simp (maxSteps := 1000000) (disch := omega) only [cc_s, kI_i, kV_n, kR_r, ck_M, rdI_M3, rdI_M7, rdI_M9, rdI_M10, rdI_M11, rdI_M12, rdI_M14, rdR_M1, rdR_M2, rdR_M4, rdR_M5, rdR_M6, rdR_M8, rdR_M13, wr_M0, wr_M3, wr_M7, wr_M9, wr_M10, wr_M11, wr_M12, wr_M14, ald_M1, ald_M2, ald_M3, ald_M5, ald_M6, ald_M7, ast_M1, ast_M2, ast_M3, ast_M5, ast_M6, ast_M7, iI_l, iI_add, iI_sub, iI_mul, iI_neg, dv_i, Int.reduceToNat]
  exact m_printedNow_l R GF 18 FU 3 (by decide) (by decide)
theorem m_isAhead (R : MS (M 1) D) (GF : RgF D) {o : Nat} (hr : r < 21) (ho : o < 21) : fX6_isAhead c (hM h a M) (some a) (iI r) (iI o) = some (hM h a M, some (.inl (iI (bI (ahD D r o = true))))) := by
  have g0 := GF r hr 0 (by decide)
  have g2 := GF r hr 2 (by decide)
  have k0 := GF o ho 0 (by decide)
  have k2 := GF o ho 2 (by decide)
  unfold fX6_isAhead fX6_isAhead_50
  simp (maxSteps := 1000000) (disch := omega) only [cc_s, kI_i, kV_n, kR_r, ck_M, rdI_M3, rdI_M7, rdI_M9, rdI_M10, rdI_M11, rdI_M12, rdI_M14, rdR_M1, rdR_M2, rdR_M4, rdR_M5, rdR_M6, rdR_M8, rdR_M13, wr_M0, wr_M3, wr_M7, wr_M9, wr_M10, wr_M11, wr_M12, wr_M14, ald_M1, ald_M2, ald_M3, ald_M5, ald_M6, ald_M7, ast_M1, ast_M2, ast_M3, ast_M5, ast_M6, ast_M7, iI_l, iI_add, iI_sub, iI_mul, iI_neg, dv_i, Int.reduceToNat, m_F R hr, m_F R ho, lt_i, eq_i, rt_0, rt_1]
  have e : (ahD D r o = true) ↔ (gF D o 2 < gF D r 2 ∨ (gF D r 2 = gF D o 2 ∧ gF D r 0 < gF D o 0)) := by simp [ahD]
  by_cases e1 : gF D r 2 - gF D o 2 = 0
  · rw [if_pos e1]
    by_cases e2 : gF D r 0 < gF D o 0
    · rw [if_pos e2]; exact ret_c (bI_t (e.mpr (by omega))).symm
    · rw [if_neg e2]; exact ret_c (bI_f (fun h => by have := e.mp h; omega)).symm
  · rw [if_neg e1]
    by_cases e2 : 0 < gF D r 2 - gF D o 2
    · rw [if_pos e2]; exact ret_c (bI_t (e.mpr (by omega))).symm
    · rw [if_neg e2]; exact ret_c (bI_f (fun h => by have := e.mp h; omega)).symm
theorem m_rank_l (R : MS (M 1) D) (GF : RgF D) (hr : r < 21) : ∀ (m fu k : Nat) (acc : Int), m < fu → k + m = 21 → fX6_rank_4 c fu (hM h a M) (some a) (iI r) (iI acc) (iI k) = some (hM h a M, some (.inl (iI (acc + sF (fun o => bI (hwP D 0 o = true ∧ o ≠ r ∧ ahD D o r = true)) k m)))) := by
  intro m
  induction m with
  | zero =>
    intro fu k acc hf hk
    obtain ⟨f, rfl⟩ : ∃ f, fu = f + 1 := ⟨fu - 1, by omega⟩
    rw [fX6_rank_4]
    simp (maxSteps := 1000000) (disch := omega) only [cc_s, kI_i, kV_n, kR_r, ck_M, rdI_M3, rdI_M7, rdI_M9, rdI_M10, rdI_M11, rdI_M12, rdI_M14, rdR_M1, rdR_M2, rdR_M4, rdR_M5, rdR_M6, rdR_M8, rdR_M13, wr_M0, wr_M3, wr_M7, wr_M9, wr_M10, wr_M11, wr_M12, wr_M14, ald_M1, ald_M2, ald_M3, ald_M5, ald_M6, ald_M7, ast_M1, ast_M2, ast_M3, ast_M5, ast_M6, ast_M7, iI_l, iI_add, iI_sub, iI_mul, iI_neg, dv_i, Int.reduceToNat, lt_i]
    rw [if_neg (by omega)]
    exact ret_c (by simp [sF])
  | succ m ih =>
    intro fu k acc hf hk
    obtain ⟨f, rfl⟩ : ∃ f, fu = f + 1 := ⟨fu - 1, by omega⟩
    rw [fX6_rank_4]
    unfold fX6_rank_38 fX6_rank_39
    simp (maxSteps := 1000000) (disch := omega) only [cc_s, kI_i, kV_n, kR_r, ck_M, rdI_M3, rdI_M7, rdI_M9, rdI_M10, rdI_M11, rdI_M12, rdI_M14, rdR_M1, rdR_M2, rdR_M4, rdR_M5, rdR_M6, rdR_M8, rdR_M13, wr_M0, wr_M3, wr_M7, wr_M9, wr_M10, wr_M11, wr_M12, wr_M14, ald_M1, ald_M2, ald_M3, ald_M5, ald_M6, ald_M7, ast_M1, ast_M2, ast_M3, ast_M5, ast_M6, ast_M7, iI_l, iI_add, iI_sub, iI_mul, iI_neg, dv_i, Int.reduceToNat, lt_i, m_isHow R GF (r := k), bI_0, eq_i, m_isAhead R GF (r := k) (o := r)]
    rw [if_pos (by omega), sF]
    simp (maxSteps := 1000000) (disch := omega) only [cc_s, kI_i, kV_n, kR_r, ck_M, rdI_M3, rdI_M7, rdI_M9, rdI_M10, rdI_M11, rdI_M12, rdI_M14, rdR_M1, rdR_M2, rdR_M4, rdR_M5, rdR_M6, rdR_M8, rdR_M13, wr_M0, wr_M3, wr_M7, wr_M9, wr_M10, wr_M11, wr_M12, wr_M14, ald_M1, ald_M2, ald_M3, ald_M5, ald_M6, ald_M7, ast_M1, ast_M2, ast_M3, ast_M5, ast_M6, ast_M7, iI_l, iI_add, iI_sub, iI_mul, iI_neg, dv_i, Int.reduceToNat, iI_k1]
    by_cases hs : hwP D 0 k = true
    · rw [if_neg (fun h => h hs)]
      by_cases hk2 : (k : Int) = r
      · rw [if_pos hk2, ih f (k + 1) _ (by omega) (by omega)]
        exact ret_c (by rw [bI_f (fun h => h.2.1 (by omega))]; omega)
      · rw [if_neg hk2]
        by_cases ha : ahD D k r = true
        · rw [if_neg (fun h => h ha), ih f (k + 1) _ (by omega) (by omega)]
          exact ret_c (by rw [bI_t ⟨hs, by omega, ha⟩]; omega)
        · rw [if_pos ha, ih f (k + 1) _ (by omega) (by omega)]
          exact ret_c (by rw [bI_f (fun h => ha h.2.2)]; omega)
    · rw [if_pos hs, ih f (k + 1) _ (by omega) (by omega)]
      exact ret_c (by rw [bI_f (fun h => hs h.1)]; omega)
theorem m_rank (R : MS (M 1) D) (GF : RgF D) (hr : r < 21) : fX6_rank c (hM h a M) (some a) (iI r) = some (hM h a M, some (.inl (iI (rankI D r)))) := by
  unfold fX6_rank
  simp (maxSteps := 1000000) (disch := omega) only [cc_s, kI_i, kV_n, kR_r, ck_M, rdI_M3, rdI_M7, rdI_M9, rdI_M10, rdI_M11, rdI_M12, rdI_M14, rdR_M1, rdR_M2, rdR_M4, rdR_M5, rdR_M6, rdR_M8, rdR_M13, wr_M0, wr_M3, wr_M7, wr_M9, wr_M10, wr_M11, wr_M12, wr_M14, ald_M1, ald_M2, ald_M3, ald_M5, ald_M6, ald_M7, ast_M1, ast_M2, ast_M3, ast_M5, ast_M6, ast_M7, iI_l, iI_add, iI_sub, iI_mul, iI_neg, dv_i, Int.reduceToNat]
  refine (m_rank_l R GF hr 18 FU 3 0 (by decide) (by decide)).trans (ret_c ?_)
  unfold rankI; omega
theorem rankI_bd (D : Dt) (r : Nat) : 0 ≤ rankI D r ∧ rankI D r ≤ 18 := by
  have := sF_bd (f := fun o => bI (hwP D 0 o = true ∧ o ≠ r ∧ ahD D o r = true)) (b := 1) 18 3 (fun i _ _ => by rcases bI_c (p := hwP D 0 i = true ∧ i ≠ r ∧ ahD D i r = true) with h | h <;> simp only [h] <;> decide)
  unfold rankI; omega
theorem m_recordAt_l (R : MS (M 1) D) (GF : RgF D) {z : Int} (h0 : -2147483648 ≤ z) (h1 : z < 2147483648) : ∀ (m fu k : Nat), m < fu → k + m = 21 → fX6_recordAt_2 c fu (hM h a M) (some a) (iI z) (iI k) = some (hM h a M, some (.inl (iI (fF (fun r => decide (hwP D 0 r = true ∧ rankI D r = z)) k m)))) := by
  intro m
  induction m with
  | zero =>
    intro fu k hf hk
    obtain ⟨f, rfl⟩ : ∃ f, fu = f + 1 := ⟨fu - 1, by omega⟩
    rw [fX6_recordAt_2]
    simp (maxSteps := 1000000) (disch := omega) only [cc_s, kI_i, kV_n, kR_r, ck_M, rdI_M3, rdI_M7, rdI_M9, rdI_M10, rdI_M11, rdI_M12, rdI_M14, rdR_M1, rdR_M2, rdR_M4, rdR_M5, rdR_M6, rdR_M8, rdR_M13, wr_M0, wr_M3, wr_M7, wr_M9, wr_M10, wr_M11, wr_M12, wr_M14, ald_M1, ald_M2, ald_M3, ald_M5, ald_M6, ald_M7, ast_M1, ast_M2, ast_M3, ast_M5, ast_M6, ast_M7, iI_l, iI_add, iI_sub, iI_mul, iI_neg, dv_i, Int.reduceToNat, lt_i]
    rw [if_neg (by omega)]
    rfl
  | succ m ih =>
    intro fu k hf hk
    obtain ⟨f, rfl⟩ : ∃ f, fu = f + 1 := ⟨fu - 1, by omega⟩
    have b := rankI_bd D k
    rw [fX6_recordAt_2]
    unfold fX6_recordAt_28
    simp (maxSteps := 1000000) (disch := omega) only [cc_s, kI_i, kV_n, kR_r, ck_M, rdI_M3, rdI_M7, rdI_M9, rdI_M10, rdI_M11, rdI_M12, rdI_M14, rdR_M1, rdR_M2, rdR_M4, rdR_M5, rdR_M6, rdR_M8, rdR_M13, wr_M0, wr_M3, wr_M7, wr_M9, wr_M10, wr_M11, wr_M12, wr_M14, ald_M1, ald_M2, ald_M3, ald_M5, ald_M6, ald_M7, ast_M1, ast_M2, ast_M3, ast_M5, ast_M6, ast_M7, iI_l, iI_add, iI_sub, iI_mul, iI_neg, dv_i, Int.reduceToNat, lt_i, m_isHow R GF (r := k), bI_0, m_rank R GF (r := k), eq_i, iI_k1]
    rw [if_pos (by omega), fF]
    by_cases hs : hwP D 0 k = true
    · rw [if_neg (fun h => h hs)]
      by_cases e : rankI D k = z
      · rw [if_pos e, if_pos (by simp [hs, e])]
      · rw [if_neg e, if_neg (by simp [e])]
        exact ih f (k + 1) (by omega) (by omega)
    · rw [if_pos hs, if_neg (by simp [hs])]
      exact ih f (k + 1) (by omega) (by omega)
theorem m_recordAt (R : MS (M 1) D) (GF : RgF D) {z : Int} (h0 : -2147483648 ≤ z) (h1 : z < 2147483648) : fX6_recordAt c (hM h a M) (some a) (iI z) = some (hM h a M, some (.inl (iI (atI D z)))) := by
  unfold fX6_recordAt
  simp (maxSteps := 1000000) (disch := omega) only [cc_s, kI_i, kV_n, kR_r, ck_M, rdI_M3, rdI_M7, rdI_M9, rdI_M10, rdI_M11, rdI_M12, rdI_M14, rdR_M1, rdR_M2, rdR_M4, rdR_M5, rdR_M6, rdR_M8, rdR_M13, wr_M0, wr_M3, wr_M7, wr_M9, wr_M10, wr_M11, wr_M12, wr_M14, ald_M1, ald_M2, ald_M3, ald_M5, ald_M6, ald_M7, ast_M1, ast_M2, ast_M3, ast_M5, ast_M6, ast_M7, iI_l, iI_add, iI_sub, iI_mul, iI_neg, dv_i, Int.reduceToNat]
  exact m_recordAt_l R GF h0 h1 18 FU 3 (by decide) (by decide)
theorem m_numberOf (R : MS (M 1) D) (hr : r < 21) : fX6_numberOf c (hM h a M) (some a) (iI r) = some (hM h a M, some (.inl (iI (if r < 3 then gT D 4 + 1 else gF D r 0)))) := by
  unfold fX6_numberOf fX6_numberOf_22
  simp (maxSteps := 1000000) (disch := omega) only [cc_s, kI_i, kV_n, kR_r, ck_M, rdI_M3, rdI_M7, rdI_M9, rdI_M10, rdI_M11, rdI_M12, rdI_M14, rdR_M1, rdR_M2, rdR_M4, rdR_M5, rdR_M6, rdR_M8, rdR_M13, wr_M0, wr_M3, wr_M7, wr_M9, wr_M10, wr_M11, wr_M12, wr_M14, ald_M1, ald_M2, ald_M3, ald_M5, ald_M6, ald_M7, ast_M1, ast_M2, ast_M3, ast_M5, ast_M6, ast_M7, iI_l, iI_add, iI_sub, iI_mul, iI_neg, dv_i, Int.reduceToNat, lt_i, m_F R hr, R.1 4]
  by_cases e : r < 3
  · rw [if_pos (by omega), if_pos e]
  · rw [if_neg (by omega), if_neg e]
def wdI (D : Dt) (r : Nat) : Int := if r < 3 then gT D 0 else gF D r 4
theorem m_widthOf (R : MS (M 1) D) (hr : r < 21) : fX6_widthOf c (hM h a M) (some a) (iI r) = some (hM h a M, some (.inl (iI (wdI D r)))) := by
  unfold fX6_widthOf fX6_widthOf_20 wdI
  simp (maxSteps := 1000000) (disch := omega) only [cc_s, kI_i, kV_n, kR_r, ck_M, rdI_M3, rdI_M7, rdI_M9, rdI_M10, rdI_M11, rdI_M12, rdI_M14, rdR_M1, rdR_M2, rdR_M4, rdR_M5, rdR_M6, rdR_M8, rdR_M13, wr_M0, wr_M3, wr_M7, wr_M9, wr_M10, wr_M11, wr_M12, wr_M14, ald_M1, ald_M2, ald_M3, ald_M5, ald_M6, ald_M7, ast_M1, ast_M2, ast_M3, ast_M5, ast_M6, ast_M7, iI_l, iI_add, iI_sub, iI_mul, iI_neg, dv_i, Int.reduceToNat, lt_i, m_F R hr, R.1 0]
  by_cases e : r < 3
  · rw [if_pos (by omega), if_pos e]
  · rw [if_neg (by omega), if_neg e]
end
