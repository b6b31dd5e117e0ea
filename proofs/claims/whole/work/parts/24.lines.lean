/-! ITEMS, AND ALL LINES -/
def chr (n : Int) : Int := if n = 27 then 95 else 96 + n
def lName (w room : Int) (N : Nat → Int) : Nat → Nat → Nat → Ly → Ly
  | fr, k, 0, L => lWord w room (fun j => chr (N (fr + j))) (k - fr) L
  | fr, k, m + 1, L => if N k = 27 then lName w room N (k + 1) (k + 1) m (lWord w room (fun j => chr (N (fr + j))) (k - fr) L) else lName w room N fr (k + 1) m L
/-- the lines since fr tell the same as the wanted one -/
def lBeg (w fr : Int) (L : Ly) : Ly := (L.1, L.2.1, if fr ≤ w ∧ w ≤ L.1 then fr else L.2.2.1, L.2.2.2)
def lMany (w n : Int) (L : Ly) : Ly := if 1 < n then lSay w (lNum w n 9 L) 120 else L
def lWords (w width : Int) (P N : Nat → Int) (L : Ly) : Ly := lName w (width - 8) N 0 0 (P 4).toNat (lMany w (P 0) L)
def lItem (w width : Int) (P N : Nat → Int) (L : Ly) : Ly := lNl (lMoney w width (P 0 * P 1) (lBeg w L.1 (lWords w width P N L)))
/-- what, a number, money -/
def lTold (w width : Int) (s : List Int) (n v : Int) (L : Ly) : Ly := lNl (lMoney w width v (lNum w n 9 (lSays w L s)))
theorem lName_st {w room : Int} {N : Nat → Int} (r0 : 1 ≤ room) : ∀ (m fr k : Nat) (L : Ly), fr ≤ k → 0 ≤ L.2.1 → L.2.1 ≤ room → L.1 ≤ (lName w room N fr k m L).1 ∧ (lName w room N fr k m L).1 ≤ L.1 + (k - fr) + 2 * m + 1 ∧ 0 ≤ (lName w room N fr k m L).2.1 ∧ (lName w room N fr k m L).2.1 ≤ room ∧ (lName w room N fr k m L).2.2.1 = L.2.2.1
  | 0, fr, k, L, hf, c0, c1 => by
    have h := lWord_st (w := w) (wd := fun j => chr (N (fr + j))) r0 (k - fr) c0 c1
    rw [lName]
    omega
  | m + 1, fr, k, L, hf, c0, c1 => by
    rw [lName]
    by_cases e : N k = 27
    · rw [if_pos e]
      have h := lWord_st (w := w) (wd := fun j => chr (N (fr + j))) r0 (k - fr) c0 c1
      have h2 := lName_st (w := w) (N := N) r0 m (k + 1) (k + 1) (lWord w room (fun j => chr (N (fr + j))) (k - fr) L) (Nat.le_refl _) (by omega) (by omega)
      omega
    · rw [if_neg e]
      have h2 := lName_st (w := w) (N := N) r0 m fr (k + 1) L (by omega) c0 c1
      omega
theorem lMany_st {w n : Int} {L : Ly} (n0 : 0 ≤ n) (n1 : n < 100) (c0 : L.2.1 = 0) : (lMany w n L).1 = L.1 ∧ 0 ≤ (lMany w n L).2.1 ∧ (lMany w n L).2.1 ≤ 8 ∧ (lMany w n L).2.2.1 = L.2.2.1 := by
  unfold lMany
  have h := lNum_st (w := w) n0 (by omega) L
  have h2 := lSay_st (w := w) (lNum w n 9 L) 120
  split <;> omega
theorem lWords_st {w width : Int} {P N : Nat → Int} {L : Ly} (wd0 : 16 ≤ width) (hp : pRg P) (c0 : L.2.1 = 0) : L.1 ≤ (lWords w width P N L).1 ∧ (lWords w width P N L).1 ≤ L.1 + 61 ∧ (lWords w width P N L).2.2.1 = L.2.2.1 := by
  unfold pRg at hp
  have h := lMany_st (w := w) (n := P 0) (L := L) (by omega) (by omega) c0
  have h2 := lName_st (w := w) (room := width - 8) (N := N) (by omega) (P 4).toNat 0 0 (lMany w (P 0) L) (Nat.le_refl _) (by omega) (by omega)
  unfold lWords
  omega
theorem sum_bd {P : Nat → Int} (hp : pRg P) : 0 ≤ P 0 * P 1 ∧ P 0 * P 1 ≤ 989901 := by
  unfold pRg at hp
  have h1 : 0 ≤ P 0 * P 1 := Int.mul_nonneg hp.1 hp.2.2.1
  have h2 : P 0 * P 1 ≤ 99 * 9999 := Int.mul_le_mul hp.2.1 hp.2.2.2.1 hp.2.2.1 (by decide)
  omega
theorem aI_p {v : Int} (h : 0 ≤ v) : aI v = v := by unfold aI; rw [if_neg (by omega)]
theorem aI_n {v : Int} (h : 0 ≤ v) : aI (-v) = v := by unfold aI; split <;> omega
theorem lItem_st {w width : Int} {P N : Nat → Int} {L : Ly} (wd0 : 16 ≤ width) (wd1 : width ≤ 40) (hp : pRg P) (c0 : L.2.1 = 0) : L.1 + 1 ≤ (lItem w width P N L).1 ∧ (lItem w width P N L).1 ≤ L.1 + 62 ∧ (lItem w width P N L).2.1 = 0 := by
  have h := lWords_st (w := w) (N := N) wd0 hp c0
  have b := sum_bd hp
  have h2 := lMoney_st (w := w) (v := P 0 * P 1) (L := lBeg w L.1 (lWords w width P N L)) (by rw [aI_p b.1]; omega) wd0 wd1
  have h3 := lNl_st (lMoney w width (P 0 * P 1) (lBeg w L.1 (lWords w width P N L)))
  have h4 : (lBeg w L.1 (lWords w width P N L)).1 = (lWords w width P N L).1 := rfl
  unfold lItem
  omega
theorem lSays_st {w : Int} : ∀ (s : List Int) (L : Ly), (lSays w L s).1 = L.1 ∧ (lSays w L s).2.1 = L.2.1 + s.length ∧ (lSays w L s).2.2.1 = L.2.2.1
  | [], L => ⟨rfl, by show L.2.1 = L.2.1 + ((0 : Nat) : Int); omega, rfl⟩
  | x :: s, L => by
    have h := lSays_st (w := w) s (lSay w L x)
    have h2 := lSay_st (w := w) L x
    rw [lSays, List.length_cons]
    omega
theorem lTold_st {w width n v : Int} {s : List Int} {L : Ly} (n0 : 0 ≤ n) (n1 : n < 10000000) (A1 : aI v < 12000000) (wd0 : 16 ≤ width) (wd1 : width ≤ 40) : (lTold w width s n v L).1 = L.1 + 1 ∧ (lTold w width s n v L).2.1 = 0 ∧ (lTold w width s n v L).2.2.1 = L.2.2.1 := by
  have h1 := lSays_st (w := w) s L
  have h2 := lNum_st (w := w) n0 n1 (lSays w L s)
  have h3 := lMoney_st (w := w) (L := lNum w n 9 (lSays w L s)) A1 wd0 wd1
  have h4 := lNl_st (lMoney w width v (lNum w n 9 (lSays w L s)))
  unfold lTold
  omega
section
variable {c : Nat → Option Nat} {h : Hp} {a : Nat} {M : Nat → Nat → Int} {D : Dt} {r i k : Nat} {w : Int} {wm : Int} {wd : Nat → Int}
theorem m_name_l (R : MS (M 1) D) (G : Rg1 D r) (hr : r < 21) (hi : i < 12) {width fr0 : Int} (wd0 : 16 ≤ width) (wd1 : width ≤ 40) (w0 : -2147483648 ≤ w) (w1 : w < 2147483648) (f0 : 0 ≤ fr0) (f1 : fr0 < 1000000) : ∀ (m fu k fr : Nat) (L : Ly) (wd : Nat → Int), m < fu → k + m = (gP D r i 4).toNat → fr ≤ k → (∀ j, j < k - fr → wd j = chr (gN' D r i (fr + j))) → 0 ≤ L.2.1 → L.2.1 ≤ width - 8 → 0 ≤ L.1 → L.1 + (k - fr) + 2 * m + 1 < 900000 → ∃ wd', fX6_layItem_73 c fu (hM h a (mL M w L ((k - fr : Nat) : Int) wd)) (some a) (iI r) (iI i) (iI width) (iI fr0) (iI k) = some (hM h a (mL M w (lNl (lMn w width (gP D r i 0 * gP D r i 1) (lBeg w fr0 (lName w (width - 8) (gN' D r i) fr k m L)))) 0 wd'), none) := by
  have RL : ∀ w L wm wd, MS (mL M w L wm wd 1) D := fun _ _ _ _ => R
  have hp := G.2.1 i
  have b := sum_bd hp
  unfold pRg at hp
  intro m
  induction m with
  | zero =>
    intro fu k fr L wd hf hk hfr hw c0 c1 a0 a1
    obtain ⟨f, rfl⟩ : ∃ f, fu = f + 1 := ⟨fu - 1, by omega⟩
    have cg : lWord w (width - 8) wd (k - fr) L = lName w (width - 8) (gN' D r i) fr k 0 L := by
      rw [lName]; exact lWord_congr hw
    have s := lName_st (w := w) (room := width - 8) (N := gN' D r i) (by omega) 0 fr k L hfr c0 c1
    rw [fX6_layItem_73]
    simp (maxSteps := 1000000) (disch := omega) only [cc_s, kI_i, kV_n, kR_r, ck_M, rdI_M3, rdI_M7, rdI_M9, rdI_M10, rdI_M11, rdI_M12, rdI_M14, rdR_M1, rdR_M2, rdR_M4, rdR_M5, rdR_M6, rdR_M8, rdR_M13, wr_M0, wr_M3, wr_M7, wr_M9, wr_M10, wr_M11, wr_M12, wr_M14, ald_M1, ald_M2, ald_M3, ald_M5, ald_M6, ald_M7, ast_M1, ast_M2, ast_M3, ast_M5, ast_M6, ast_M7, iI_l, iI_add, iI_sub, iI_mul, iI_neg, dv_i, Int.reduceToNat, m_nameLength (RL _ _ _ _) G hr hi, lt_i]
    rw [if_neg (by omega)]
    rw [m_layWord (m := k - fr) rfl (by omega) (by omega) (by omega) w0 w1 c0 c1 a0 (by omega), cg]
    generalize hL : lName w (width - 8) (gN' D r i) fr k 0 L = L2 at s ⊢
    have sm : (lMn w width (gP D r i 0 * gP D r i 1) L2).1 = L2.1 := rfl
    unfold fX6_layItem_174
    simp (maxSteps := 1000000) (disch := omega) only [cc_s, kI_i, kV_n, kR_r, ck_M, rdI_M3, rdI_M7, rdI_M9, rdI_M10, rdI_M11, rdI_M12, rdI_M14, rdR_M1, rdR_M2, rdR_M4, rdR_M5, rdR_M6, rdR_M8, rdR_M13, wr_M0, wr_M3, wr_M7, wr_M9, wr_M10, wr_M11, wr_M12, wr_M14, ald_M1, ald_M2, ald_M3, ald_M5, ald_M6, ald_M7, ast_M1, ast_M2, ast_M3, ast_M5, ast_M6, ast_M7, iI_l, iI_add, iI_sub, iI_mul, iI_neg, dv_i, Int.reduceToNat, m_sum (RL _ _ _ _) G hr hi]
    rw [m_mon (by rw [aI_p b.1]; omega) wd0 wd1 w0 w1 (by omega) (by omega)]
    simp (maxSteps := 1000000) (disch := omega) only [cc_s, kI_i, kV_n, kR_r, ck_M, rdI_M3, rdI_M7, rdI_M9, rdI_M10, rdI_M11, rdI_M12, rdI_M14, rdR_M1, rdR_M2, rdR_M4, rdR_M5, rdR_M6, rdR_M8, rdR_M13, wr_M0, wr_M3, wr_M7, wr_M9, wr_M10, wr_M11, wr_M12, wr_M14, ald_M1, ald_M2, ald_M3, ald_M5, ald_M6, ald_M7, ast_M1, ast_M2, ast_M3, ast_M5, ast_M6, ast_M7, iI_l, iI_add, iI_sub, iI_mul, iI_neg, dv_i, Int.reduceToNat, mL_9, mL_10, mL_12, m_in, bI_0]
    refine ⟨wd, ?_⟩
    by_cases e : fr0 ≤ w ∧ w ≤ (lMn w width (gP D r i 0 * gP D r i 1) L2).1
    · rw [if_neg (fun h => h e)]
      simp (maxSteps := 1000000) (disch := omega) only [cc_s, kI_i, kV_n, kR_r, ck_M, rdI_M3, rdI_M7, rdI_M9, rdI_M10, rdI_M11, rdI_M12, rdI_M14, rdR_M1, rdR_M2, rdR_M4, rdR_M5, rdR_M6, rdR_M8, rdR_M13, wr_M0, wr_M3, wr_M7, wr_M9, wr_M10, wr_M11, wr_M12, wr_M14, ald_M1, ald_M2, ald_M3, ald_M5, ald_M6, ald_M7, ast_M1, ast_M2, ast_M3, ast_M5, ast_M6, ast_M7, iI_l, iI_add, iI_sub, iI_mul, iI_neg, dv_i, Int.reduceToNat, ms_12, m_nextLine]
      have e' : fr0 ≤ w ∧ w ≤ L2.1 := e
      have lb := lMn_beg (w := w) (width := width) (v := gP D r i 0 * gP D r i 1) (b := fr0) (L := L2) (by rw [aI_p b.1]; omega) wd0 wd1
      rw [lBeg, if_pos e', lb]
    · rw [if_pos e]
      simp (maxSteps := 1000000) (disch := omega) only [cc_s, kI_i, kV_n, kR_r, ck_M, rdI_M3, rdI_M7, rdI_M9, rdI_M10, rdI_M11, rdI_M12, rdI_M14, rdR_M1, rdR_M2, rdR_M4, rdR_M5, rdR_M6, rdR_M8, rdR_M13, wr_M0, wr_M3, wr_M7, wr_M9, wr_M10, wr_M11, wr_M12, wr_M14, ald_M1, ald_M2, ald_M3, ald_M5, ald_M6, ald_M7, ast_M1, ast_M2, ast_M3, ast_M5, ast_M6, ast_M7, iI_l, iI_add, iI_sub, iI_mul, iI_neg, dv_i, Int.reduceToNat, ms_12, m_nextLine]
      have e' : ¬ (fr0 ≤ w ∧ w ≤ L2.1) := e
      rw [lBeg, if_neg e']
  | succ m ih =>
    intro fu k fr L wd hf hk hfr hw c0 c1 a0 a1
    obtain ⟨f, rfl⟩ : ∃ f, fu = f + 1 := ⟨fu - 1, by omega⟩
    have cg : lWord w (width - 8) wd (k - fr) L = lWord w (width - 8) (fun j => chr (gN' D r i (fr + j))) (k - fr) L := lWord_congr hw
    have s := lWord_st (w := w) (room := width - 8) (wd := fun j => chr (gN' D r i (fr + j))) (by omega) (k - fr) c0 c1
    have nb := G.2.2.1 i k
    rw [fX6_layItem_73]
    unfold fX6_layItem_123
    simp (maxSteps := 1000000) (disch := omega) only [cc_s, kI_i, kV_n, kR_r, ck_M, rdI_M3, rdI_M7, rdI_M9, rdI_M10, rdI_M11, rdI_M12, rdI_M14, rdR_M1, rdR_M2, rdR_M4, rdR_M5, rdR_M6, rdR_M8, rdR_M13, wr_M0, wr_M3, wr_M7, wr_M9, wr_M10, wr_M11, wr_M12, wr_M14, ald_M1, ald_M2, ald_M3, ald_M5, ald_M6, ald_M7, ast_M1, ast_M2, ast_M3, ast_M5, ast_M6, ast_M7, iI_l, iI_add, iI_sub, iI_mul, iI_neg, dv_i, Int.reduceToNat, m_nameLength (RL _ _ _ _) G hr hi, lt_i, m_nameSign (RL _ _ _ _) G hr hi (k := k), eq_i, iI_k1]
    rw [if_pos (by omega), lName]
    by_cases e : gN' D r i k = 27
    · rw [if_pos e, if_pos e]
      rw [m_layWord (m := k - fr) rfl (by omega) (by omega) (by omega) w0 w1 c0 c1 a0 (by omega), cg]
      simp (maxSteps := 1000000) (disch := omega) only [cc_s, kI_i, kV_n, kR_r, ck_M, rdI_M3, rdI_M7, rdI_M9, rdI_M10, rdI_M11, rdI_M12, rdI_M14, rdR_M1, rdR_M2, rdR_M4, rdR_M5, rdR_M6, rdR_M8, rdR_M13, wr_M0, wr_M3, wr_M7, wr_M9, wr_M10, wr_M11, wr_M12, wr_M14, ald_M1, ald_M2, ald_M3, ald_M5, ald_M6, ald_M7, ast_M1, ast_M2, ast_M3, ast_M5, ast_M6, ast_M7, iI_l, iI_add, iI_sub, iI_mul, iI_neg, dv_i, Int.reduceToNat]
      have := ih f (k + 1) (k + 1) (lWord w (width - 8) (fun j => chr (gN' D r i (fr + j))) (k - fr) L) wd (by omega) (by omega) (Nat.le_refl _) (fun j hj => by omega) (by omega) (by omega) (by omega) (by omega)
      rw [Nat.sub_self] at this
      exact this
    · rw [if_neg e, if_neg e]
      simp (maxSteps := 1000000) (disch := omega) only [cc_s, kI_i, kV_n, kR_r, ck_M, rdI_M3, rdI_M7, rdI_M9, rdI_M10, rdI_M11, rdI_M12, rdI_M14, rdR_M1, rdR_M2, rdR_M4, rdR_M5, rdR_M6, rdR_M8, rdR_M13, wr_M0, wr_M3, wr_M7, wr_M9, wr_M10, wr_M11, wr_M12, wr_M14, ald_M1, ald_M2, ald_M3, ald_M5, ald_M6, ald_M7, ast_M1, ast_M2, ast_M3, ast_M5, ast_M6, ast_M7, iI_l, iI_add, iI_sub, iI_mul, iI_neg, dv_i, Int.reduceToNat, m_addsToWord]
      have := ih f (k + 1) fr L (st wd (k - fr) (97 + gN' D r i k - 1)) (by omega) (by omega) (by omega) (fun j hj => by
        unfold st
        by_cases ej : j = k - fr
        · rw [if_pos ej, chr, show fr + j = k by omega, if_neg e]; omega
        · rw [if_neg ej]; exact hw j (by omega)) c0 c1 a0 (by omega)
      rw [show ((k + 1 - fr : Nat) : Int) = ((k - fr : Nat) : Int) + 1 by omega] at this
      rw [Int.toNat_natCast]
      exact this
theorem lWord_0 {room : Int} {m : Nat} {L : Ly} (c0 : L.2.1 = 0) : lWord w room wd m L = lChars w room wd 0 m L := by
  unfold lWord lGap
  rw [if_neg (by omega), if_neg (by omega)]
theorem lMany_1 {room n : Int} {L : Ly} (r0 : 8 ≤ room) (n0 : 1 < n) (n1 : n ≤ 9) (c0 : L.2.1 = 0) (h0 : wd 0 = 48 + n) (h1 : wd 1 = 120) : lWord w room wd 2 L = lMany w n L := by
  rw [lWord_0 c0]
  unfold lMany
  rw [if_pos n0, lNum_D (m := 0) (by decide) (by show n < 10; omega) (Or.inl rfl), lNumD, lChars, if_neg (by omega), lChars, if_neg (by show ¬ room ≤ L.2.1 + 1; omega), lChars, h0, h1, Int.emod_eq_of_lt (by omega) (by omega)]
theorem lMany_2 {room n : Int} {L : Ly} (r0 : 8 ≤ room) (n0 : 9 < n) (n1 : n ≤ 99) (c0 : L.2.1 = 0) (h0 : wd 0 = 48 + n / 10) (h1 : wd 1 = 48 + n % 10) (h2 : wd 2 = 120) : lWord w room wd 3 L = lMany w n L := by
  rw [lWord_0 c0]
  unfold lMany
  rw [if_pos (by omega), lNum_D (m := 1) (by decide) (by show n < 100; omega) (Or.inr (by show 10 ≤ n; omega)), lNumD, lNumD, lChars, if_neg (by omega), lChars, if_neg (by show ¬ room ≤ L.2.1 + 1; omega), lChars, if_neg (by show ¬ room ≤ L.2.1 + 1 + 1; omega), lChars, h0, h1, h2, show (10 : Int) ^ (0 + 1) = 10 from rfl, Int.emod_eq_of_lt (show 0 ≤ n / 10 by omega) (by omega)]
theorem m_layItem (R : MS (M 1) D) (G : Rg1 D r) (hr : r < 21) (hi : i < 12) {width : Int} {L : Ly} (wd0 : 16 ≤ width) (wd1 : width ≤ 40) (w0 : -2147483648 ≤ w) (w1 : w < 2147483648) (c0 : L.2.1 = 0) (a0 : 0 ≤ L.1) (a1 : L.1 < 800000) : ∃ wd', fX6_layItem c (hM h a (mL M w L wm wd)) (some a) (iI r) (iI i) (iI width) = some (hM h a (mL M w (lItem w width (gP D r i) (gN' D r i) L) 0 wd'), none) := by
  have RL : ∀ w L wm wd, MS (mL M w L wm wd 1) D := fun _ _ _ _ => R
  have hp := G.2.1 i
  have b := sum_bd hp
  unfold pRg at hp
  have rest : ∀ wd : Nat → Int, ∃ wd', fX6_layItem_70 c (hM h a (mL M w (lMany w (gP D r i 0) L) 0 wd)) (some a) (iI r) (iI i) (iI width) (iI L.1) = some (hM h a (mL M w (lItem w width (gP D r i) (gN' D r i) L) 0 wd'), none) := by
    intro wd
    have s := lMany_st (w := w) (n := gP D r i 0) (L := L) (by omega) (by omega) c0
    obtain ⟨wd', e⟩ := m_name_l (c := c) (h := h) (a := a) (w := w) R G hr hi wd0 wd1 w0 w1 a0 (by omega) (gP D r i 4).toNat FU 0 0 (lMany w (gP D r i 0) L) wd (by show _ < 20000; omega) (by omega) (Nat.le_refl _) (fun j hj => by omega) (by omega) (by omega) (by omega) (by omega)
    refine ⟨wd', ?_⟩
    unfold fX6_layItem_70
    simp (maxSteps := 1000000) (disch := omega) only [cc_s, kI_i, kV_n, kR_r, ck_M, rdI_M3, rdI_M7, rdI_M9, rdI_M10, rdI_M11, rdI_M12, rdI_M14, rdR_M1, rdR_M2, rdR_M4, rdR_M5, rdR_M6, rdR_M8, rdR_M13, wr_M0, wr_M3, wr_M7, wr_M9, wr_M10, wr_M11, wr_M12, wr_M14, ald_M1, ald_M2, ald_M3, ald_M5, ald_M6, ald_M7, ast_M1, ast_M2, ast_M3, ast_M5, ast_M6, ast_M7, iI_l, iI_add, iI_sub, iI_mul, iI_neg, dv_i, Int.reduceToNat]
    refine e.trans ?_
    unfold lItem lWords
    rw [lNl_mn (by rw [aI_p b.1]; omega) wd0 wd1]
  unfold fX6_layItem
  simp (maxSteps := 1000000) (disch := omega) only [cc_s, kI_i, kV_n, kR_r, ck_M, rdI_M3, rdI_M7, rdI_M9, rdI_M10, rdI_M11, rdI_M12, rdI_M14, rdR_M1, rdR_M2, rdR_M4, rdR_M5, rdR_M6, rdR_M8, rdR_M13, wr_M0, wr_M3, wr_M7, wr_M9, wr_M10, wr_M11, wr_M12, wr_M14, ald_M1, ald_M2, ald_M3, ald_M5, ald_M6, ald_M7, ast_M1, ast_M2, ast_M3, ast_M5, ast_M6, ast_M7, iI_l, iI_add, iI_sub, iI_mul, iI_neg, dv_i, Int.reduceToNat, mL_10, m_howMany (RL _ _ _ _) G hr hi, ms_14, lt_i, div_i, m_addsToWord]
  unfold fX6_layItem_38
  simp (maxSteps := 1000000) (disch := omega) only [cc_s, kI_i, kV_n, kR_r, ck_M, rdI_M3, rdI_M7, rdI_M9, rdI_M10, rdI_M11, rdI_M12, rdI_M14, rdR_M1, rdR_M2, rdR_M4, rdR_M5, rdR_M6, rdR_M8, rdR_M13, wr_M0, wr_M3, wr_M7, wr_M9, wr_M10, wr_M11, wr_M12, wr_M14, ald_M1, ald_M2, ald_M3, ald_M5, ald_M6, ald_M7, ast_M1, ast_M2, ast_M3, ast_M5, ast_M6, ast_M7, iI_l, iI_add, iI_sub, iI_mul, iI_neg, dv_i, Int.reduceToNat, lt_i, div_i, m_addsToWord]
  by_cases n9 : 9 < gP D r i 0
  · obtain ⟨wd', e⟩ := rest (st (st (st wd 0 (48 + gP D r i 0 / 10)) 1 (48 + (gP D r i 0 - gP D r i 0 / 10 * 10))) 2 120)
    refine ⟨wd', ?_⟩
    rw [if_pos n9, if_pos (by omega)]
    rw [show ((0 : Int) + 1 + 1 + 1) = ((3 : Nat) : Int) from rfl, show ((0 : Int) + 1).toNat = 1 from rfl, show ((0 : Int) + 1 + 1).toNat = 2 from rfl]
    rw [m_layWord (m := 3) rfl (by decide) (by omega) (by omega) w0 w1 (by omega) (by omega) a0 (by omega)]
    simp (maxSteps := 1000000) (disch := omega) only [cc_s, kI_i, kV_n, kR_r, ck_M, rdI_M3, rdI_M7, rdI_M9, rdI_M10, rdI_M11, rdI_M12, rdI_M14, rdR_M1, rdR_M2, rdR_M4, rdR_M5, rdR_M6, rdR_M8, rdR_M13, wr_M0, wr_M3, wr_M7, wr_M9, wr_M10, wr_M11, wr_M12, wr_M14, ald_M1, ald_M2, ald_M3, ald_M5, ald_M6, ald_M7, ast_M1, ast_M2, ast_M3, ast_M5, ast_M6, ast_M7, iI_l, iI_add, iI_sub, iI_mul, iI_neg, dv_i, Int.reduceToNat]
    rw [lMany_2 (by omega) n9 (by omega) c0 rfl (by show 48 + (gP D r i 0 - gP D r i 0 / 10 * 10) = _; omega) rfl]
    exact e
  · rw [if_neg n9]
    by_cases n1 : 1 < gP D r i 0
    · obtain ⟨wd', e⟩ := rest (st (st wd 0 (48 + (gP D r i 0 - gP D r i 0 / 10 * 10))) 1 120)
      refine ⟨wd', ?_⟩
      rw [if_pos n1]
      rw [show ((0 : Int) + 1 + 1) = ((2 : Nat) : Int) from rfl, show ((0 : Int) + 1).toNat = 1 from rfl]
      rw [m_layWord (m := 2) rfl (by decide) (by omega) (by omega) w0 w1 (by omega) (by omega) a0 (by omega)]
      simp (maxSteps := 1000000) (disch := omega) only [cc_s, kI_i, kV_n, kR_r, ck_M, rdI_M3, rdI_M7, rdI_M9, rdI_M10, rdI_M11, rdI_M12, rdI_M14, rdR_M1, rdR_M2, rdR_M4, rdR_M5, rdR_M6, rdR_M8, rdR_M13, wr_M0, wr_M3, wr_M7, wr_M9, wr_M10, wr_M11, wr_M12, wr_M14, ald_M1, ald_M2, ald_M3, ald_M5, ald_M6, ald_M7, ast_M1, ast_M2, ast_M3, ast_M5, ast_M6, ast_M7, iI_l, iI_add, iI_sub, iI_mul, iI_neg, dv_i, Int.reduceToNat]
      rw [lMany_1 (by omega) n1 (by omega) c0 (by show 48 + (gP D r i 0 - gP D r i 0 / 10 * 10) = _; omega) rfl]
      exact e
    · obtain ⟨wd', e⟩ := rest wd
      refine ⟨wd', ?_⟩
      rw [if_neg n1]
      rw [show lMany w (gP D r i 0) L = L from if_neg n1] at e
      exact e
theorem m_layVoid (R : MS (M 1) D) (G : Rg1 D r) (hr : r < 21) (hi : i < 12) {width : Int} {L : Ly} (wd0 : 16 ≤ width) (wd1 : width ≤ 40) (w0 : -2147483648 ≤ w) (w1 : w < 2147483648) (c0 : L.2.1 = 0) (a0 : 0 ≤ L.1) (a1 : L.1 < 800000) : fX6_layVoid c (hM h a (mL M w L wm wd)) (some a) (iI r) (iI i) (iI width) = some (hM h a (mL M w (lTold w width [118, 111, 105, 100, 32] i (-(gP D r i 0 * gP D r i 1)) L) wm wd), none) := by
  have RL : ∀ w L wm wd, MS (mL M w L wm wd 1) D := fun _ _ _ _ => R
  have hp := G.2.1 i
  have b := sum_bd hp
  have s1 := lSay_st (w := w) L 118
  have s2 := lSay_st (w := w) (lSay w L 118) 111
  have s3 := lSay_st (w := w) (lSay w (lSay w L 118) 111) 105
  have s4 := lSay_st (w := w) (lSay w (lSay w (lSay w L 118) 111) 105) 100
  have s5 := lSay_st (w := w) (lSay w (lSay w (lSay w (lSay w L 118) 111) 105) 100) 32
  have s6 := lNum_st (w := w) (n := i) (by omega) (by omega) (lSay w (lSay w (lSay w (lSay w (lSay w L 118) 111) 105) 100) 32)
  unfold fX6_layVoid
  simp (maxSteps := 1000000) (disch := omega) only [cc_s, kI_i, kV_n, kR_r, ck_M, rdI_M3, rdI_M7, rdI_M9, rdI_M10, rdI_M11, rdI_M12, rdI_M14, rdR_M1, rdR_M2, rdR_M4, rdR_M5, rdR_M6, rdR_M8, rdR_M13, wr_M0, wr_M3, wr_M7, wr_M9, wr_M10, wr_M11, wr_M12, wr_M14, ald_M1, ald_M2, ald_M3, ald_M5, ald_M6, ald_M7, ast_M1, ast_M2, ast_M3, ast_M5, ast_M6, ast_M7, iI_l, iI_add, iI_sub, iI_mul, iI_neg, dv_i, Int.reduceToNat, m_lays, m_number, m_sum (RL _ _ _ _) G hr hi]
  rw [m_mon (by rw [aI_n b.1]; omega) wd0 wd1 w0 w1 (by omega) (by omega)]
  simp (maxSteps := 1000000) (disch := omega) only [cc_s, kI_i, kV_n, kR_r, ck_M, rdI_M3, rdI_M7, rdI_M9, rdI_M10, rdI_M11, rdI_M12, rdI_M14, rdR_M1, rdR_M2, rdR_M4, rdR_M5, rdR_M6, rdR_M8, rdR_M13, wr_M0, wr_M3, wr_M7, wr_M9, wr_M10, wr_M11, wr_M12, wr_M14, ald_M1, ald_M2, ald_M3, ald_M5, ald_M6, ald_M7, ast_M1, ast_M2, ast_M3, ast_M5, ast_M6, ast_M7, iI_l, iI_add, iI_sub, iI_mul, iI_neg, dv_i, Int.reduceToNat, m_nextLine]
  rw [lNl_mn (by rw [aI_n b.1]; omega) wd0 wd1]
  rfl
theorem m_layTax (R : MS (M 1) D) (G : Rg1 D r) (hr : r < 21) {t width : Int} {L : Ly} (t0 : 0 ≤ t) (t1 : t < 3) (wd0 : 16 ≤ width) (wd1 : width ≤ 40) (w0 : -2147483648 ≤ w) (w1 : w < 2147483648) (c0 : L.2.1 = 0) (a0 : 0 ≤ L.1) (a1 : L.1 < 800000) : fX6_layTax c (hM h a (mL M w L wm wd)) (some a) (iI r) (iI t) (iI width) = some (hM h a (mL M w (lTold w width [116, 97, 120, 32] (rateI t) (taxI D r t) L) wm wd), none) := by
  have RL : ∀ w L wm wd, MS (mL M w L wm wd 1) D := fun _ _ _ _ => R
  have b := taxI_bd (t := t) G
  have rb : 0 ≤ rateI t ∧ rateI t < 20 := by rcases rateI_c t with e | e | e <;> omega
  have s1 := lSay_st (w := w) L 116
  have s2 := lSay_st (w := w) (lSay w L 116) 97
  have s3 := lSay_st (w := w) (lSay w (lSay w L 116) 97) 120
  have s4 := lSay_st (w := w) (lSay w (lSay w (lSay w L 116) 97) 120) 32
  have s6 := lNum_st (w := w) (n := rateI t) (by omega) (by omega) (lSay w (lSay w (lSay w (lSay w L 116) 97) 120) 32)
  unfold fX6_layTax
  simp (maxSteps := 1000000) (disch := omega) only [cc_s, kI_i, kV_n, kR_r, ck_M, rdI_M3, rdI_M7, rdI_M9, rdI_M10, rdI_M11, rdI_M12, rdI_M14, rdR_M1, rdR_M2, rdR_M4, rdR_M5, rdR_M6, rdR_M8, rdR_M13, wr_M0, wr_M3, wr_M7, wr_M9, wr_M10, wr_M11, wr_M12, wr_M14, ald_M1, ald_M2, ald_M3, ald_M5, ald_M6, ald_M7, ast_M1, ast_M2, ast_M3, ast_M5, ast_M6, ast_M7, iI_l, iI_add, iI_sub, iI_mul, iI_neg, dv_i, Int.reduceToNat, m_lays, m_rateOf, m_number, m_taxOf (RL _ _ _ _) G hr t0 t1]
  rw [m_mon (by rw [aI_p b.1]; omega) wd0 wd1 w0 w1 (by omega) (by omega)]
  simp (maxSteps := 1000000) (disch := omega) only [cc_s, kI_i, kV_n, kR_r, ck_M, rdI_M3, rdI_M7, rdI_M9, rdI_M10, rdI_M11, rdI_M12, rdI_M14, rdR_M1, rdR_M2, rdR_M4, rdR_M5, rdR_M6, rdR_M8, rdR_M13, wr_M0, wr_M3, wr_M7, wr_M9, wr_M10, wr_M11, wr_M12, wr_M14, ald_M1, ald_M2, ald_M3, ald_M5, ald_M6, ald_M7, ast_M1, ast_M2, ast_M3, ast_M5, ast_M6, ast_M7, iI_l, iI_add, iI_sub, iI_mul, iI_neg, dv_i, Int.reduceToNat, m_nextLine]
  rw [lNl_mn (by rw [aI_p b.1]; omega) wd0 wd1]
  rfl
end
