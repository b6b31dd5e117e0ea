/-! ALL LINES OF A RECEIPT -/
def nEt (D : Dt) (r : Nat) : Nat := (gF D r 9).toNat
/-- events tell of items that are there -/
def EvOk (D : Dt) (r : Nat) : Prop := ∀ k, k < nEt D r → (gE D r k < 16 → gE D r k < gF D r 8) ∧ (16 ≤ gE D r k → gE D r k - 16 < gF D r 8)
def lEv1 (D : Dt) (r : Nat) (w width : Int) (k : Nat) (L : Ly) : Ly := if gE D r k < 16 then lItem w width (gP D r (gE D r k).toNat) (gN' D r (gE D r k).toNat) L else lTold w width [118, 111, 105, 100, 32] (gE D r k - 16) (-(gP D r (gE D r k - 16).toNat 0 * gP D r (gE D r k - 16).toNat 1)) L
def lEv (D : Dt) (r : Nat) (w width : Int) : Nat → Nat → Ly → Ly
  | _, 0, L => L
  | k, m + 1, L => lEv D r w width (k + 1) m (lEv1 D r w width k L)
def lHead (w num : Int) (L : Ly) : Ly := lNl (lNum w num 9 (lSay w L 35))
def lSum (w width v : Int) (L : Ly) : Ly := lNl (lMoney w width v (lSays w L [115, 117, 109]))
def lTax (D : Dt) (r : Nat) (w width t : Int) (L : Ly) : Ly := if 0 < sumT D r t then lTold w width [116, 97, 120, 32] (rateI t) (taxI D r t) L else L
def lTail (D : Dt) (r : Nat) (w width : Int) (L : Ly) : Ly := lTax D r w width 2 (lTax D r w width 1 (lSum w width (totI D r) L))
def lAll (D : Dt) (r : Nat) (num w width : Int) (b0 : Nat → Int) : Ly := lTail D r w width (lEv D r w width 0 (nEt D r) (lHead w num (0, 0, w, b0)))
theorem lEv1_st {D : Dt} {r k : Nat} {w width : Int} {L : Ly} (G : Rg1 D r) (wd0 : 16 ≤ width) (wd1 : width ≤ 40) (c0 : L.2.1 = 0) : L.1 + 1 ≤ (lEv1 D r w width k L).1 ∧ (lEv1 D r w width k L).1 ≤ L.1 + 62 ∧ (lEv1 D r w width k L).2.1 = 0 := by
  have g := G.2.2.2 k
  unfold lEv1
  split
  · exact lItem_st wd0 wd1 (G.2.1 _) c0
  · have b := sum_bd (G.2.1 (gE D r k - 16).toNat)
    have h := lTold_st (w := w) (width := width) (n := gE D r k - 16) (v := -(gP D r (gE D r k - 16).toNat 0 * gP D r (gE D r k - 16).toNat 1)) (s := [118, 111, 105, 100, 32]) (L := L) (by omega) (by omega) (by rw [aI_n b.1]; omega) wd0 wd1
    omega
theorem lEv_st {D : Dt} {r : Nat} {w width : Int} (G : Rg1 D r) (wd0 : 16 ≤ width) (wd1 : width ≤ 40) : ∀ (m k : Nat) (L : Ly), L.2.1 = 0 → L.1 ≤ (lEv D r w width k m L).1 ∧ (lEv D r w width k m L).1 ≤ L.1 + 62 * m ∧ (lEv D r w width k m L).2.1 = 0
  | 0, k, L, c0 => ⟨Int.le_refl _, by show L.1 ≤ L.1 + 62 * ((0 : Nat) : Int); omega, c0⟩
  | m + 1, k, L, c0 => by
    have h1 := lEv1_st (w := w) (k := k) G wd0 wd1 c0
    have h2 := lEv_st (w := w) G wd0 wd1 m (k + 1) (lEv1 D r w width k L) h1.2.2
    rw [lEv]
    omega
theorem lSum_st {w width v : Int} {L : Ly} (A1 : aI v < 12000000) (wd0 : 16 ≤ width) (wd1 : width ≤ 40) : (lSum w width v L).1 = L.1 + 1 ∧ (lSum w width v L).2.1 = 0 := by
  have h1 := lSays_st (w := w) [115, 117, 109] L
  have h3 := lMoney_st (w := w) (L := lSays w L [115, 117, 109]) A1 wd0 wd1
  have h4 := lNl_st (lMoney w width v (lSays w L [115, 117, 109]))
  unfold lSum
  omega
theorem lTax_st {D : Dt} {r : Nat} {w width t : Int} {L : Ly} (G : Rg1 D r) (wd0 : 16 ≤ width) (wd1 : width ≤ 40) (c0 : L.2.1 = 0) : L.1 ≤ (lTax D r w width t L).1 ∧ (lTax D r w width t L).1 ≤ L.1 + 1 ∧ (lTax D r w width t L).2.1 = 0 := by
  have b := taxI_bd (t := t) G
  have rb : 0 ≤ rateI t ∧ rateI t < 20 := by rcases rateI_c t with e | e | e <;> omega
  have h := lTold_st (w := w) (width := width) (n := rateI t) (v := taxI D r t) (s := [116, 97, 120, 32]) (L := L) (by omega) (by omega) (by rw [aI_p b.1]; omega) wd0 wd1
  unfold lTax
  split <;> omega
theorem lTail_st {D : Dt} {r : Nat} {w width : Int} {L : Ly} (G : Rg1 D r) (wd0 : 16 ≤ width) (wd1 : width ≤ 40) (c0 : L.2.1 = 0) : L.1 + 1 ≤ (lTail D r w width L).1 ∧ (lTail D r w width L).1 ≤ L.1 + 3 ∧ (lTail D r w width L).2.1 = 0 := by
  have b := totI_bd G
  have h1 := lSum_st (w := w) (L := L) (v := totI D r) (by rw [aI_p b.1]; omega) wd0 wd1
  have h2 := lTax_st (w := w) (t := 1) G wd0 wd1 h1.2
  have h3 := lTax_st (w := w) (t := 2) G wd0 wd1 h2.2.2
  unfold lTail
  omega
theorem lHead_st {w num : Int} {L : Ly} (n0 : 0 ≤ num) (n1 : num < 10000000) : (lHead w num L).1 = L.1 + 1 ∧ (lHead w num L).2.1 = 0 := by
  have h1 := lSay_st (w := w) L 35
  have h2 := lNum_st (w := w) n0 n1 (lSay w L 35)
  have h3 := lNl_st (lNum w num 9 (lSay w L 35))
  unfold lHead
  omega
theorem lAll_st {D : Dt} {r : Nat} {num w width : Int} {b0 : Nat → Int} (G : Rg1 D r) (n0 : 0 ≤ num) (n1 : num < 10000000) (wd0 : 16 ≤ width) (wd1 : width ≤ 40) : 2 ≤ (lAll D r num w width b0).1 ∧ (lAll D r num w width b0).1 ≤ 1500 := by
  have g := G.1
  have h1 := lHead_st (w := w) (L := (0, 0, w, b0)) n0 n1
  have h2 := lEv_st (w := w) G wd0 wd1 (nEt D r) 0 (lHead w num (0, 0, w, b0)) h1.2
  have h3 := lTail_st (w := w) G wd0 wd1 h2.2.2
  have e : ((nEt D r : Nat) : Int) ≤ 24 := by unfold nEt; omega
  have e2 : ((0, 0, w, b0) : Ly).1 = 0 := rfl
  unfold lAll
  omega
section
variable {c : Nat → Option Nat} {h : Hp} {a : Nat} {M : Nat → Nat → Int} {D : Dt} {r i k : Nat} {w : Int}
theorem m_taxes (R : MS (M 1) D) (G : Rg1 D r) (hr : r < 21) (hp : ∀ i, i < nIt D r → 1 ≤ gP D r i 0 ∧ 1 ≤ gP D r i 1) {width wm : Int} {L : Ly} {wd : Nat → Int} (wd0 : 16 ≤ width) (wd1 : width ≤ 40) (w0 : -2147483648 ≤ w) (w1 : w < 2147483648) (c0 : L.2.1 = 0) (a0 : 0 ≤ L.1) (a1 : L.1 < 700000) {fu : Nat} (hf : 3 ≤ fu) : fX6_laysAll_158 c fu (hM h a (mL M w L wm wd)) (some a) (iI r) (iI width) (iI 1) = some (hM h a (mL M w (lTax D r w width 2 (lTax D r w width 1 L)) wm wd), some (.inl (iI (lTax D r w width 2 (lTax D r w width 1 L)).1))) := by
  have RL : ∀ w L wm wd, MS (mL M w L wm wd 1) D := fun _ _ _ _ => R
  have s1 := lTax_st (w := w) (t := 1) G wd0 wd1 c0
  obtain ⟨f, rfl⟩ : ∃ f, fu = f + 3 := ⟨fu - 3, by omega⟩
  have step : ∀ (t : Int) (f : Nat) (L : Ly), 0 < t → t < 3 → L.2.1 = 0 → 0 ≤ L.1 → L.1 < 800000 → fX6_laysAll_158 c (f + 1) (hM h a (mL M w L wm wd)) (some a) (iI r) (iI width) (iI t) = fX6_laysAll_158 c f (hM h a (mL M w (lTax D r w width t L) wm wd)) (some a) (iI r) (iI width) (iI (t + 1)) := by
    intro t f L t0 t1 c0 a0 a1
    rw [fX6_laysAll_158]
    unfold fX6_laysAll_182 lTax
    simp (maxSteps := 1000000) (disch := omega) only [cc_s, kI_i, kV_n, kR_r, ck_M, rdI_M3, rdI_M7, rdI_M9, rdI_M10, rdI_M11, rdI_M12, rdI_M14, rdR_M1, rdR_M2, rdR_M4, rdR_M5, rdR_M6, rdR_M8, rdR_M13, wr_M0, wr_M3, wr_M7, wr_M9, wr_M10, wr_M11, wr_M12, wr_M14, ald_M1, ald_M2, ald_M3, ald_M5, ald_M6, ald_M7, ast_M1, ast_M2, ast_M3, ast_M5, ast_M6, ast_M7, iI_l, iI_add, iI_sub, iI_mul, iI_neg, dv_i, Int.reduceToNat, lt_i, m_hasTax (RL _ _ _ _) G hr hp, bI_0]
    rw [if_pos t1]
    by_cases e : 0 < sumT D r t
    · rw [if_neg (fun h => h e), if_pos e, m_layTax R G hr (by omega) t1 wd0 wd1 w0 w1 c0 a0 a1]
      simp (maxSteps := 1000000) (disch := omega) only [cc_s, kI_i, kV_n, kR_r, ck_M, rdI_M3, rdI_M7, rdI_M9, rdI_M10, rdI_M11, rdI_M12, rdI_M14, rdR_M1, rdR_M2, rdR_M4, rdR_M5, rdR_M6, rdR_M8, rdR_M13, wr_M0, wr_M3, wr_M7, wr_M9, wr_M10, wr_M11, wr_M12, wr_M14, ald_M1, ald_M2, ald_M3, ald_M5, ald_M6, ald_M7, ast_M1, ast_M2, ast_M3, ast_M5, ast_M6, ast_M7, iI_l, iI_add, iI_sub, iI_mul, iI_neg, dv_i, Int.reduceToNat]
    · rw [if_pos e, if_neg e]
  rw [step 1 (f + 2) L (by decide) (by decide) c0 a0 (by omega)]
  rw [show (1 : Int) + 1 = 2 from rfl, step 2 (f + 1) _ (by decide) (by decide) s1.2.2 (by omega) (by omega)]
  rw [show (2 : Int) + 1 = 3 from rfl, fX6_laysAll_158]
  simp (maxSteps := 1000000) (disch := omega) only [cc_s, kI_i, kV_n, kR_r, ck_M, rdI_M3, rdI_M7, rdI_M9, rdI_M10, rdI_M11, rdI_M12, rdI_M14, rdR_M1, rdR_M2, rdR_M4, rdR_M5, rdR_M6, rdR_M8, rdR_M13, wr_M0, wr_M3, wr_M7, wr_M9, wr_M10, wr_M11, wr_M12, wr_M14, ald_M1, ald_M2, ald_M3, ald_M5, ald_M6, ald_M7, ast_M1, ast_M2, ast_M3, ast_M5, ast_M6, ast_M7, iI_l, iI_add, iI_sub, iI_mul, iI_neg, dv_i, Int.reduceToNat, lt_i, mL_10]
  rw [if_neg (by decide)]
theorem m_events (R : MS (M 1) D) (G : Rg1 D r) (hr : r < 21) (hp : ∀ i, i < nIt D r → 1 ≤ gP D r i 0 ∧ 1 ≤ gP D r i 1) (he : EvOk D r) {width : Int} (wd0 : 16 ≤ width) (wd1 : width ≤ 40) (w0 : -2147483648 ≤ w) (w1 : w < 2147483648) : ∀ (m fu k : Nat) (L : Ly) (wm : Int) (wd : Nat → Int), m < fu → k + m = nEt D r → L.2.1 = 0 → 0 ≤ L.1 → L.1 + 62 * m < 600000 → ∃ wm' wd', fX6_laysAll_67 c fu (hM h a (mL M w L wm wd)) (some a) (iI r) (iI width) (iI k) = some (hM h a (mL M w (lTail D r w width (lEv D r w width k m L)) wm' wd'), some (.inl (iI (lTail D r w width (lEv D r w width k m L)).1))) := by
  have RL : ∀ w L wm wd, MS (mL M w L wm wd 1) D := fun _ _ _ _ => R
  have g := G.1
  have ne : ((nEt D r : Nat) : Int) = gF D r 9 := by unfold nEt; omega
  intro m
  induction m with
  | zero =>
    intro fu k L wm wd hf hk c0 a0 a1
    obtain ⟨f, rfl⟩ : ∃ f, fu = f + 1 := ⟨fu - 1, by omega⟩
    have b := totI_bd G
    have s1 := lSay_st (w := w) L 115
    have s2 := lSay_st (w := w) (lSay w L 115) 117
    have s3 := lSay_st (w := w) (lSay w (lSay w L 115) 117) 109
    have s4 := lSum_st (w := w) (L := L) (v := totI D r) (by rw [aI_p b.1]; omega) wd0 wd1
    refine ⟨wm, wd, ?_⟩
    rw [fX6_laysAll_67]
    simp (maxSteps := 1000000) (disch := omega) only [cc_s, kI_i, kV_n, kR_r, ck_M, rdI_M3, rdI_M7, rdI_M9, rdI_M10, rdI_M11, rdI_M12, rdI_M14, rdR_M1, rdR_M2, rdR_M4, rdR_M5, rdR_M6, rdR_M8, rdR_M13, wr_M0, wr_M3, wr_M7, wr_M9, wr_M10, wr_M11, wr_M12, wr_M14, ald_M1, ald_M2, ald_M3, ald_M5, ald_M6, ald_M7, ast_M1, ast_M2, ast_M3, ast_M5, ast_M6, ast_M7, iI_l, iI_add, iI_sub, iI_mul, iI_neg, dv_i, Int.reduceToNat, m_F (RL _ _ _ _) hr, lt_i, m_lays, m_total (RL _ _ _ _) G hr]
    rw [if_neg (by omega), m_mon (by rw [aI_p b.1]; omega) wd0 wd1 w0 w1 (by omega) (by omega)]
    simp (maxSteps := 1000000) (disch := omega) only [cc_s, kI_i, kV_n, kR_r, ck_M, rdI_M3, rdI_M7, rdI_M9, rdI_M10, rdI_M11, rdI_M12, rdI_M14, rdR_M1, rdR_M2, rdR_M4, rdR_M5, rdR_M6, rdR_M8, rdR_M13, wr_M0, wr_M3, wr_M7, wr_M9, wr_M10, wr_M11, wr_M12, wr_M14, ald_M1, ald_M2, ald_M3, ald_M5, ald_M6, ald_M7, ast_M1, ast_M2, ast_M3, ast_M5, ast_M6, ast_M7, iI_l, iI_add, iI_sub, iI_mul, iI_neg, dv_i, Int.reduceToNat, m_nextLine]
    rw [lNl_mn (by rw [aI_p b.1]; omega) wd0 wd1]
    exact m_taxes R G hr hp wd0 wd1 w0 w1 (L := lSum w width (totI D r) L) s4.2 (by omega) (by omega) (by decide)
  | succ m ih =>
    intro fu k L wm wd hf hk c0 a0 a1
    obtain ⟨f, rfl⟩ : ∃ f, fu = f + 1 := ⟨fu - 1, by omega⟩
    have gk := G.2.2.2 k
    have ek := he k (by omega)
    have s := lEv1_st (w := w) (k := k) G wd0 wd1 c0
    rw [fX6_laysAll_67]
    unfold fX6_laysAll_117
    simp (maxSteps := 1000000) (disch := omega) only [cc_s, kI_i, kV_n, kR_r, ck_M, rdI_M3, rdI_M7, rdI_M9, rdI_M10, rdI_M11, rdI_M12, rdI_M14, rdR_M1, rdR_M2, rdR_M4, rdR_M5, rdR_M6, rdR_M8, rdR_M13, wr_M0, wr_M3, wr_M7, wr_M9, wr_M10, wr_M11, wr_M12, wr_M14, ald_M1, ald_M2, ald_M3, ald_M5, ald_M6, ald_M7, ast_M1, ast_M2, ast_M3, ast_M5, ast_M6, ast_M7, iI_l, iI_add, iI_sub, iI_mul, iI_neg, dv_i, Int.reduceToNat, m_F (RL _ _ _ _) hr, lt_i, m_event (RL _ _ _ _) G hr (k := k), iI_k1]
    rw [if_pos (by omega), lEv]
    by_cases e : gE D r k < 16
    · rw [if_pos e]
      obtain ⟨q, hq⟩ := Int.eq_ofNat_of_zero_le gk.1
      have e1 : lEv1 D r w width k L = lItem w width (gP D r q) (gN' D r q) L := by
        unfold lEv1; rw [if_pos e, hq]; rfl
      obtain ⟨wd1', h1⟩ := m_layItem (c := c) (h := h) (a := a) (wm := wm) (wd := wd) R G hr (show q < 12 by omega) wd0 wd1 w0 w1 c0 a0 (by omega)
      rw [hq, h1]
      simp (maxSteps := 1000000) (disch := omega) only [cc_s, kI_i, kV_n, kR_r, ck_M, rdI_M3, rdI_M7, rdI_M9, rdI_M10, rdI_M11, rdI_M12, rdI_M14, rdR_M1, rdR_M2, rdR_M4, rdR_M5, rdR_M6, rdR_M8, rdR_M13, wr_M0, wr_M3, wr_M7, wr_M9, wr_M10, wr_M11, wr_M12, wr_M14, ald_M1, ald_M2, ald_M3, ald_M5, ald_M6, ald_M7, ast_M1, ast_M2, ast_M3, ast_M5, ast_M6, ast_M7, iI_l, iI_add, iI_sub, iI_mul, iI_neg, dv_i, Int.reduceToNat]
      rw [← e1]
      exact ih f (k + 1) (lEv1 D r w width k L) 0 wd1' (by omega) (by omega) s.2.2 (by omega) (by omega)
    · rw [if_neg e]
      obtain ⟨q, hq⟩ := Int.eq_ofNat_of_zero_le (show 0 ≤ gE D r k - 16 by omega)
      have e1 : lEv1 D r w width k L = lTold w width [118, 111, 105, 100, 32] q (-(gP D r q 0 * gP D r q 1)) L := by
        unfold lEv1; rw [if_neg e, hq]; rfl
      rw [hq, m_layVoid R G hr (show q < 12 by omega) wd0 wd1 w0 w1 c0 a0 (by omega)]
      simp (maxSteps := 1000000) (disch := omega) only [cc_s, kI_i, kV_n, kR_r, ck_M, rdI_M3, rdI_M7, rdI_M9, rdI_M10, rdI_M11, rdI_M12, rdI_M14, rdR_M1, rdR_M2, rdR_M4, rdR_M5, rdR_M6, rdR_M8, rdR_M13, wr_M0, wr_M3, wr_M7, wr_M9, wr_M10, wr_M11, wr_M12, wr_M14, ald_M1, ald_M2, ald_M3, ald_M5, ald_M6, ald_M7, ast_M1, ast_M2, ast_M3, ast_M5, ast_M6, ast_M7, iI_l, iI_add, iI_sub, iI_mul, iI_neg, dv_i, Int.reduceToNat]
      rw [← e1]
      exact ih f (k + 1) (lEv1 D r w width k L) wm wd (by omega) (by omega) s.2.2 (by omega) (by omega)
def numI (D : Dt) (r : Nat) : Int := if r < 3 then gT D 4 + 1 else gF D r 0
def row32 (b : Nat → Int) (k : Nat) : Nat → Int := fun j => if k ≤ j ∧ j < 40 then 32 else b j
theorem m_laysAll_l (R : MS (M 1) D) (G : Rg1 D r) (hr : r < 21) (hp : ∀ i, i < nIt D r → 1 ≤ gP D r i 0 ∧ 1 ≤ gP D r i 1) (he : EvOk D r) (n0 : 0 ≤ numI D r) (n1 : numI D r < 10000000) {width : Int} (wd0 : 16 ≤ width) (wd1 : width ≤ 40) (w0 : -2147483648 ≤ w) (w1 : w < 2147483648) {wm : Int} {wd : Nat → Int} : ∀ (m fu k : Nat) (v : Int) (L : Ly), m < fu → k + m = 40 → ∃ wm' wd', fX6_laysAll_3 c fu (hM h a (mL M v L wm wd)) (some a) (iI r) (iI width) (iI w) (iI k) = some (hM h a (mL M w (lAll D r (numI D r) w width (row32 L.2.2.2 k)) wm' wd'), some (.inl (iI (lAll D r (numI D r) w width (row32 L.2.2.2 k)).1))) := by
  have RL : ∀ w L wm wd, MS (mL M w L wm wd 1) D := fun _ _ _ _ => R
  intro m
  induction m with
  | zero =>
    intro fu k v L hf hk
    obtain ⟨f, rfl⟩ : ∃ f, fu = f + 1 := ⟨fu - 1, by omega⟩
    have e : row32 L.2.2.2 k = L.2.2.2 := by
      funext j; unfold row32; rw [if_neg (by omega)]
    rw [e]
    have s0 : ((0, 0, w, L.2.2.2) : Ly).1 = 0 ∧ ((0, 0, w, L.2.2.2) : Ly).2.1 = 0 := ⟨rfl, rfl⟩
    have s1 := lSay_st (w := w) (0, 0, w, L.2.2.2) 35
    have s2 := lHead_st (w := w) (L := (0, 0, w, L.2.2.2)) n0 n1
    have g := G.1
    have ne : ((nEt D r : Nat) : Int) ≤ 24 := by unfold nEt; omega
    have s3 := s2.1.trans (show ((0, 0, w, L.2.2.2) : Ly).1 + 1 = 1 from rfl)
    obtain ⟨wm', wd', key⟩ := m_events (c := c) (h := h) (a := a) R G hr hp he wd0 wd1 w0 w1 (nEt D r) FU 0 (lHead w (numI D r) (0, 0, w, L.2.2.2)) wm wd (by show nEt D r < 20000; omega) (by omega) s2.2 (by omega) (by omega)
    refine ⟨wm', wd', ?_⟩
    rw [fX6_laysAll_3]
    simp (maxSteps := 1000000) (disch := omega) only [cc_s, kI_i, kV_n, kR_r, ck_M, rdI_M3, rdI_M7, rdI_M9, rdI_M10, rdI_M11, rdI_M12, rdI_M14, rdR_M1, rdR_M2, rdR_M4, rdR_M5, rdR_M6, rdR_M8, rdR_M13, wr_M0, wr_M3, wr_M7, wr_M9, wr_M10, wr_M11, wr_M12, wr_M14, ald_M1, ald_M2, ald_M3, ald_M5, ald_M6, ald_M7, ast_M1, ast_M2, ast_M3, ast_M5, ast_M6, ast_M7, iI_l, iI_add, iI_sub, iI_mul, iI_neg, dv_i, Int.reduceToNat, lt_i, ms_9, ms_10, ms_11, ms_12]
    rw [if_neg (by omega), m_lays (L := (0, 0, w, L.2.2.2)) (by omega) (by omega) (by omega) (by omega) w0 w1]
    simp (maxSteps := 1000000) (disch := omega) only [cc_s, kI_i, kV_n, kR_r, ck_M, rdI_M3, rdI_M7, rdI_M9, rdI_M10, rdI_M11, rdI_M12, rdI_M14, rdR_M1, rdR_M2, rdR_M4, rdR_M5, rdR_M6, rdR_M8, rdR_M13, wr_M0, wr_M3, wr_M7, wr_M9, wr_M10, wr_M11, wr_M12, wr_M14, ald_M1, ald_M2, ald_M3, ald_M5, ald_M6, ald_M7, ast_M1, ast_M2, ast_M3, ast_M5, ast_M6, ast_M7, iI_l, iI_add, iI_sub, iI_mul, iI_neg, dv_i, Int.reduceToNat, m_numberOf (RL _ _ _ _) hr]
    rw [m_number (n := if r < 3 then gT D 4 + 1 else gF D r 0) n0 n1 w0 w1 (by omega) (by omega) (by omega) (by omega)]
    simp (maxSteps := 1000000) (disch := omega) only [cc_s, kI_i, kV_n, kR_r, ck_M, rdI_M3, rdI_M7, rdI_M9, rdI_M10, rdI_M11, rdI_M12, rdI_M14, rdR_M1, rdR_M2, rdR_M4, rdR_M5, rdR_M6, rdR_M8, rdR_M13, wr_M0, wr_M3, wr_M7, wr_M9, wr_M10, wr_M11, wr_M12, wr_M14, ald_M1, ald_M2, ald_M3, ald_M5, ald_M6, ald_M7, ast_M1, ast_M2, ast_M3, ast_M5, ast_M6, ast_M7, iI_l, iI_add, iI_sub, iI_mul, iI_neg, dv_i, Int.reduceToNat, m_nextLine]
    exact key
  | succ m ih =>
    intro fu k v L hf hk
    obtain ⟨f, rfl⟩ : ∃ f, fu = f + 1 := ⟨fu - 1, by omega⟩
    rw [fX6_laysAll_3]
    simp (maxSteps := 1000000) (disch := omega) only [cc_s, kI_i, kV_n, kR_r, ck_M, rdI_M3, rdI_M7, rdI_M9, rdI_M10, rdI_M11, rdI_M12, rdI_M14, rdR_M1, rdR_M2, rdR_M4, rdR_M5, rdR_M6, rdR_M8, rdR_M13, wr_M0, wr_M3, wr_M7, wr_M9, wr_M10, wr_M11, wr_M12, wr_M14, ald_M1, ald_M2, ald_M3, ald_M5, ald_M6, ald_M7, ast_M1, ast_M2, ast_M3, ast_M5, ast_M6, ast_M7, iI_l, iI_add, iI_sub, iI_mul, iI_neg, dv_i, Int.reduceToNat, lt_i, ms_6, iI_k1]
    rw [if_pos (by omega), Int.toNat_natCast]
    have e : row32 L.2.2.2 k = row32 (st L.2.2.2 k 32) (k + 1) := by
      funext j
      unfold row32 st
      by_cases e1 : j = k
      · rw [if_pos (by omega), if_neg (by omega), if_pos e1]
      · by_cases e2 : k ≤ j ∧ j < 40
        · rw [if_pos e2, if_pos (by omega)]
        · rw [if_neg e2, if_neg (by omega), if_neg e1]
    rw [e]
    exact ih f (k + 1) v (L.1, L.2.1, L.2.2.1, st L.2.2.2 k 32) (by omega) (by omega)
theorem m_laysAll (R : MS (M 1) D) (G : Rg1 D r) (hr : r < 21) (hp : ∀ i, i < nIt D r → 1 ≤ gP D r i 0 ∧ 1 ≤ gP D r i 1) (he : EvOk D r) (n0 : 0 ≤ numI D r) (n1 : numI D r < 10000000) {width : Int} (wd0 : 16 ≤ width) (wd1 : width ≤ 40) (w0 : -2147483648 ≤ w) (w1 : w < 2147483648) (v : Int) (L : Ly) (wm : Int) (wd : Nat → Int) : ∃ wm' wd', fX6_laysAll c (hM h a (mL M v L wm wd)) (some a) (iI r) (iI width) (iI w) = some (hM h a (mL M w (lAll D r (numI D r) w width (row32 L.2.2.2 0)) wm' wd'), some (.inl (iI (lAll D r (numI D r) w width (row32 L.2.2.2 0)).1))) := by
  unfold fX6_laysAll
  simp (maxSteps := 1000000) (disch := omega) only [cc_s, kI_i, kV_n, kR_r, ck_M, rdI_M3, rdI_M7, rdI_M9, rdI_M10, rdI_M11, rdI_M12, rdI_M14, rdR_M1, rdR_M2, rdR_M4, rdR_M5, rdR_M6, rdR_M8, rdR_M13, wr_M0, wr_M3, wr_M7, wr_M9, wr_M10, wr_M11, wr_M12, wr_M14, ald_M1, ald_M2, ald_M3, ald_M5, ald_M6, ald_M7, ast_M1, ast_M2, ast_M3, ast_M5, ast_M6, ast_M7, iI_l, iI_add, iI_sub, iI_mul, iI_neg, dv_i, Int.reduceToNat]
  exact m_laysAll_l R G hr hp he n0 n1 wd0 wd1 w0 w1 40 FU 0 v L (by decide) (by decide)
end
