/-! item, ofTill, between, bestWidth -/
def wItem (D : Dt) (t i : Nat) (w : Int) : Int := if w = 0 then gP D t i 0 else if w = 1 then gP D t i 1 else if w = 2 then gP D t i 2 else if w = 3 then gP D t i 0 * gP D t i 1 else if w = 4 then bI (gP D t i 3 = 1) else if w = 5 then itemI D t i else if w = 6 then gP D t i 4 else -2
def rItm (D : Dt) (t i w : Int) : Int := if 0 ≤ t ∧ t ≤ 2 ∧ 0 ≤ i ∧ i < gF D t.toNat 8 then wItem D t.toNat i.toNat w else -1
def wTil (D : Dt) (t : Nat) (w : Int) : Int := if w = 0 then gF D t 8 else if w = 1 then struckI D t else if w = 2 then totI D t else if w = 3 then lnI D t else if w = 4 then taxI D t 1 else if w = 5 then taxI D t 2 else -2
def rTil (D : Dt) (t w : Int) : Int := if 0 ≤ t ∧ t ≤ 2 then wTil D t.toNat w else -1
def btP (D : Dt) (x y : Int) (r : Nat) : Prop := 0 < gF D r 0 ∧ x ≤ gF D r 0 ∧ gF D r 0 ≤ y
/-- sum, how many, the greatest -/
def btL (D : Dt) (x y : Int) : Nat → Nat → Int → Int → Int → Int × Int × Int
  | _, 0, s, n, g => (s, n, g)
  | k, m + 1, s, n, g => if 0 < gF D k 0 ∧ x ≤ gF D k 0 ∧ gF D k 0 ≤ y then btL D x y (k + 1) m (s + totI D k) (n + 1) (if g < totI D k then totI D k else g) else btL D x y (k + 1) m s n g
def wBt (p : Int × Int × Int) (w : Int) : Int := if w = 0 then p.1 else if w = 1 then p.2.1 else p.2.2
def rBt (D : Dt) (x y w : Int) : Int := if y < x then -2 else if ¬ (0 ≤ w ∧ w ≤ 2) then -2 else wBt (btL D x y 3 18 0 0 (-6)) w
def rBw (D : Dt) (t w : Int) : Int := if ¬ (0 ≤ t ∧ t ≤ 2) then -1 else if ¬ (0 ≤ w ∧ w ≤ 1) then -2 else if w = 0 then (bwI D t.toNat).1 else (bwI D t.toNat).2
section
variable {c : Nat → Option Nat} {h : Hp} {a : Nat} {M : Nat → Nat → Int} {Z : Zt}
theorem m_item (O : Ok1 (zD Z)) {t i w : Int} (ht : ag t) (hi : ag i) (hw : ag w) (R : MZ M Z) : ∃ M', fX6_item c (hM h a M) (some a) (iI t) (iI i) (iI w) = some (hM h a M', some (.inl (iI (rItm (zD Z) t i w)))) ∧ MZ M' Z := by
  unfold ag at ht hi hw
  have R0 := MZ_0 (v := 0) R
  unfold fX6_item rItm
  simp (maxSteps := 1000000) (disch := omega) only [cc_s, kI_i, kV_n, kR_r, ck_M, rdI_M3, rdI_M7, rdI_M9, rdI_M10, rdI_M11, rdI_M12, rdI_M14, rdR_M1, rdR_M2, rdR_M4, rdR_M5, rdR_M6, rdR_M8, rdR_M13, wr_M0, wr_M3, wr_M7, wr_M9, wr_M10, wr_M11, wr_M12, wr_M14, ald_M1, ald_M2, ald_M3, ald_M5, ald_M6, ald_M7, ast_M1, ast_M2, ast_M3, ast_M5, ast_M6, ast_M7, iI_l, iI_add, iI_sub, iI_mul, iI_neg, dv_i, Int.reduceToNat, m_isItem R0.1 O.1, bI_0]
  by_cases h1 : 0 ≤ t ∧ t ≤ 2 ∧ 0 ≤ i ∧ i < gF (zD Z) t.toNat 8
  · have n1 : ¬ ¬ (0 ≤ t ∧ t ≤ 2 ∧ 0 ≤ i ∧ i < gF (zD Z) t.toNat 8) := fun h => h h1
    simp only [if_neg n1, if_pos h1]
    obtain ⟨r, rfl⟩ := Int.eq_ofNat_of_zero_le h1.1
    obtain ⟨q, rfl⟩ := Int.eq_ofNat_of_zero_le h1.2.2.1
    simp only [Int.toNat_natCast] at h1 ⊢
    have r21 : r < 21 := by omega
    have G := O.1 r r21
    have nn := nIt_le G
    have q12 : q < 12 := by omega
    obtain ⟨M1, j1, e1⟩ := m_linesOfItem (c := c) (h := h) (a := a) R0.1 O r21 q12
    unfold fX6_item_102 wItem
    simp only [swf]
    simp (maxSteps := 1000000) (disch := omega) only [cc_s, kI_i, kV_n, kR_r, ck_M, rdI_M3, rdI_M7, rdI_M9, rdI_M10, rdI_M11, rdI_M12, rdI_M14, rdR_M1, rdR_M2, rdR_M4, rdR_M5, rdR_M6, rdR_M8, rdR_M13, wr_M0, wr_M3, wr_M7, wr_M9, wr_M10, wr_M11, wr_M12, wr_M14, ald_M1, ald_M2, ald_M3, ald_M5, ald_M6, ald_M7, ast_M1, ast_M2, ast_M3, ast_M5, ast_M6, ast_M7, iI_l, iI_add, iI_sub, iI_mul, iI_neg, dv_i, Int.reduceToNat, eq_i, m_howMany R0.1 G r21 q12, m_price R0.1 G r21 q12, m_tax R0.1 G r21 q12, m_sum R0.1 G r21 q12, m_isStruck R0.1 G r21 q12, bI_0, m_nameLength R0.1 G r21 q12]
    by_cases w0 : w = 0
    · simp only [if_pos w0]; exact ⟨_, rfl, R0⟩
    · simp only [if_neg w0]
      by_cases w1 : w = 1
      · simp only [if_pos w1]; exact ⟨_, rfl, R0⟩
      · simp only [if_neg w1]
        by_cases w2 : w = 2
        · simp only [if_pos w2]; exact ⟨_, rfl, R0⟩
        · simp only [if_neg w2]
          by_cases w3 : w = 3
          · simp only [if_pos w3]; exact ⟨_, rfl, R0⟩
          · simp only [if_neg w3]
            by_cases w4 : w = 4
            · simp only [if_pos w4]
              by_cases h3 : gP (zD Z) r q 3 = 1
              · rw [bI_t h3, if_neg (fun h => h h3)]; exact ⟨_, rfl, R0⟩
              · rw [bI_f h3, if_pos h3]; exact ⟨_, rfl, R0⟩
            · simp only [if_neg w4]
              by_cases w5 : w = 5
              · simp only [if_pos w5]
                refine ⟨M1, ?_, MZ_jk R0 j1⟩
                rw [e1]
                simp (maxSteps := 1000000) (disch := omega) only [cc_s, kI_i, kV_n, kR_r, ck_M, rdI_M3, rdI_M7, rdI_M9, rdI_M10, rdI_M11, rdI_M12, rdI_M14, rdR_M1, rdR_M2, rdR_M4, rdR_M5, rdR_M6, rdR_M8, rdR_M13, wr_M0, wr_M3, wr_M7, wr_M9, wr_M10, wr_M11, wr_M12, wr_M14, ald_M1, ald_M2, ald_M3, ald_M5, ald_M6, ald_M7, ast_M1, ast_M2, ast_M3, ast_M5, ast_M6, ast_M7, iI_l, iI_add, iI_sub, iI_mul, iI_neg, dv_i, Int.reduceToNat]
              · simp only [if_neg w5]
                by_cases w6 : w = 6
                · simp only [if_pos w6]; exact ⟨_, rfl, R0⟩
                · simp only [if_neg w6]; exact ⟨_, rfl, R0⟩
  · simp only [if_pos h1, if_neg h1]
    exact ⟨_, rfl, R0⟩
theorem m_ofTill (O : Ok1 (zD Z)) {t w : Int} (ht : ag t) (hw : ag w) (R : MZ M Z) : ∃ M', fX6_ofTill c (hM h a M) (some a) (iI t) (iI w) = some (hM h a M', some (.inl (iI (rTil (zD Z) t w)))) ∧ MZ M' Z := by
  unfold ag at ht hw
  have R0 := MZ_0 (v := 0) R
  unfold fX6_ofTill rTil
  simp (maxSteps := 1000000) (disch := omega) only [cc_s, kI_i, kV_n, kR_r, ck_M, rdI_M3, rdI_M7, rdI_M9, rdI_M10, rdI_M11, rdI_M12, rdI_M14, rdR_M1, rdR_M2, rdR_M4, rdR_M5, rdR_M6, rdR_M8, rdR_M13, wr_M0, wr_M3, wr_M7, wr_M9, wr_M10, wr_M11, wr_M12, wr_M14, ald_M1, ald_M2, ald_M3, ald_M5, ald_M6, ald_M7, ast_M1, ast_M2, ast_M3, ast_M5, ast_M6, ast_M7, iI_l, iI_add, iI_sub, iI_mul, iI_neg, dv_i, Int.reduceToNat, m_isTill, bI_0]
  by_cases h1 : 0 ≤ t ∧ t ≤ 2
  · have n1 : ¬ ¬ (0 ≤ t ∧ t ≤ 2) := fun h => h h1
    simp only [if_neg n1, if_pos h1]
    obtain ⟨r, rfl⟩ := Int.eq_ofNat_of_zero_le h1.1
    simp only [Int.toNat_natCast] at h1 ⊢
    have r21 : r < 21 := by omega
    have G := O.1 r r21
    obtain ⟨M1, j1, e1⟩ := m_linesOf (c := c) (h := h) (a := a) R0.1 O ⟨r21, Or.inl (by omega)⟩
    unfold wTil
    simp only [swf]
    simp (maxSteps := 1000000) (disch := omega) only [cc_s, kI_i, kV_n, kR_r, ck_M, rdI_M3, rdI_M7, rdI_M9, rdI_M10, rdI_M11, rdI_M12, rdI_M14, rdR_M1, rdR_M2, rdR_M4, rdR_M5, rdR_M6, rdR_M8, rdR_M13, wr_M0, wr_M3, wr_M7, wr_M9, wr_M10, wr_M11, wr_M12, wr_M14, ald_M1, ald_M2, ald_M3, ald_M5, ald_M6, ald_M7, ast_M1, ast_M2, ast_M3, ast_M5, ast_M6, ast_M7, iI_l, iI_add, iI_sub, iI_mul, iI_neg, dv_i, Int.reduceToNat, eq_i, m_F R0.1 r21, m_struckOf R0.1 G r21, m_total R0.1 G r21]
    by_cases w0 : w = 0
    · simp only [if_pos w0]; exact ⟨_, rfl, R0⟩
    · simp only [if_neg w0]
      by_cases w1 : w = 1
      · simp only [if_pos w1]; exact ⟨_, rfl, R0⟩
      · simp only [if_neg w1]
        by_cases w2 : w = 2
        · simp only [if_pos w2]; exact ⟨_, rfl, R0⟩
        · simp only [if_neg w2]
          by_cases w3 : w = 3
          · simp only [if_pos w3]
            refine ⟨M1, ?_, MZ_jk R0 j1⟩
            rw [e1]
            simp (maxSteps := 1000000) (disch := omega) only [cc_s, kI_i, kV_n, kR_r, ck_M, rdI_M3, rdI_M7, rdI_M9, rdI_M10, rdI_M11, rdI_M12, rdI_M14, rdR_M1, rdR_M2, rdR_M4, rdR_M5, rdR_M6, rdR_M8, rdR_M13, wr_M0, wr_M3, wr_M7, wr_M9, wr_M10, wr_M11, wr_M12, wr_M14, ald_M1, ald_M2, ald_M3, ald_M5, ald_M6, ald_M7, ast_M1, ast_M2, ast_M3, ast_M5, ast_M6, ast_M7, iI_l, iI_add, iI_sub, iI_mul, iI_neg, dv_i, Int.reduceToNat]
          · simp only [if_neg w3]
            by_cases w4 : w = 4
            · subst w4
              simp only [if_true]
              rw [m_taxOf R0.1 G r21 (by decide) (by decide)]
              simp (maxSteps := 1000000) (disch := omega) only [cc_s, kI_i, kV_n, kR_r, ck_M, rdI_M3, rdI_M7, rdI_M9, rdI_M10, rdI_M11, rdI_M12, rdI_M14, rdR_M1, rdR_M2, rdR_M4, rdR_M5, rdR_M6, rdR_M8, rdR_M13, wr_M0, wr_M3, wr_M7, wr_M9, wr_M10, wr_M11, wr_M12, wr_M14, ald_M1, ald_M2, ald_M3, ald_M5, ald_M6, ald_M7, ast_M1, ast_M2, ast_M3, ast_M5, ast_M6, ast_M7, iI_l, iI_add, iI_sub, iI_mul, iI_neg, dv_i, Int.reduceToNat]
              exact ⟨_, rfl, R0⟩
            · simp only [if_neg w4]
              by_cases w5 : w = 5
              · subst w5
                simp only [if_true]
                rw [m_taxOf R0.1 G r21 (by decide) (by decide)]
                simp (maxSteps := 1000000) (disch := omega) only [cc_s, kI_i, kV_n, kR_r, ck_M, rdI_M3, rdI_M7, rdI_M9, rdI_M10, rdI_M11, rdI_M12, rdI_M14, rdR_M1, rdR_M2, rdR_M4, rdR_M5, rdR_M6, rdR_M8, rdR_M13, wr_M0, wr_M3, wr_M7, wr_M9, wr_M10, wr_M11, wr_M12, wr_M14, ald_M1, ald_M2, ald_M3, ald_M5, ald_M6, ald_M7, ast_M1, ast_M2, ast_M3, ast_M5, ast_M6, ast_M7, iI_l, iI_add, iI_sub, iI_mul, iI_neg, dv_i, Int.reduceToNat]
                exact ⟨_, rfl, R0⟩
              · simp only [if_neg w5]; exact ⟨_, rfl, R0⟩
  · simp only [if_pos h1, if_neg h1]
    exact ⟨_, rfl, R0⟩
theorem m_bestWidth (O : Ok1 (zD Z)) {t w : Int} (ht : ag t) (hw : ag w) (R : MZ M Z) : ∃ M', fX6_bestWidth c (hM h a M) (some a) (iI t) (iI w) = some (hM h a M', some (.inl (iI (rBw (zD Z) t w)))) ∧ MZ M' Z := by
  unfold ag at ht hw
  have R0 := MZ_0 (v := 0) R
  unfold fX6_bestWidth rBw
  simp (maxSteps := 1000000) (disch := omega) only [cc_s, kI_i, kV_n, kR_r, ck_M, rdI_M3, rdI_M7, rdI_M9, rdI_M10, rdI_M11, rdI_M12, rdI_M14, rdR_M1, rdR_M2, rdR_M4, rdR_M5, rdR_M6, rdR_M8, rdR_M13, wr_M0, wr_M3, wr_M7, wr_M9, wr_M10, wr_M11, wr_M12, wr_M14, ald_M1, ald_M2, ald_M3, ald_M5, ald_M6, ald_M7, ast_M1, ast_M2, ast_M3, ast_M5, ast_M6, ast_M7, iI_l, iI_add, iI_sub, iI_mul, iI_neg, dv_i, Int.reduceToNat, m_isTill, m_in, bI_0]
  by_cases h1 : 0 ≤ t ∧ t ≤ 2
  · have n1 : ¬ ¬ (0 ≤ t ∧ t ≤ 2) := fun h => h h1
    simp only [if_neg n1]
    by_cases h2 : 0 ≤ w ∧ w ≤ 1
    · have n2 : ¬ ¬ (0 ≤ w ∧ w ≤ 1) := fun h => h h2
      simp only [if_neg n2]
      obtain ⟨r, rfl⟩ := Int.eq_ofNat_of_zero_le h1.1
      simp only [Int.toNat_natCast] at h1 ⊢
      have r21 : r < 21 := by omega
      have b := cntI_rg (width := 16) O r21 (by decide) (by decide)
      obtain ⟨M1, j1, e1, -⟩ := m_lays2 (c := c) (h := h) (a := a) (w := -6) (width := 16) R0.1 O r21 (by decide) (by decide) (by decide) (by decide)
      obtain ⟨M2, j2, e2⟩ := m_bw_l (c := c) (h := h) (a := a) O r21 h2.1 h2.2 24 FU 17 16 (cntI (zD Z) r (numI (zD Z) r) 16) M1 (j1.ms R0.1) (by decide) (by decide) (by decide) (by omega) (by omega)
      refine ⟨M2, ?_, MZ_jk R0 (j1.tr j2)⟩
      rw [e1]
      simp (maxSteps := 1000000) (disch := omega) only [cc_s, kI_i, kV_n, kR_r, ck_M, rdI_M3, rdI_M7, rdI_M9, rdI_M10, rdI_M11, rdI_M12, rdI_M14, rdR_M1, rdR_M2, rdR_M4, rdR_M5, rdR_M6, rdR_M8, rdR_M13, wr_M0, wr_M3, wr_M7, wr_M9, wr_M10, wr_M11, wr_M12, wr_M14, ald_M1, ald_M2, ald_M3, ald_M5, ald_M6, ald_M7, ast_M1, ast_M2, ast_M3, ast_M5, ast_M6, ast_M7, iI_l, iI_add, iI_sub, iI_mul, iI_neg, dv_i, Int.reduceToNat]
      exact e2
    · simp only [if_pos h2]
      exact ⟨_, rfl, R0⟩
  · simp only [if_pos h1]
    exact ⟨_, rfl, R0⟩
theorem m_bt_l (O : Ok1 (zD Z)) (R : MS (M 1) (zD Z)) {x y w : Int} (hx : ag x) (hy : ag y) (w0 : 0 ≤ w) (w1 : w ≤ 2) : ∀ (m fu k : Nat) (s n g : Int), m < fu → k + m = 21 → 0 ≤ n → n + m < 100 → -6 ≤ g → g < 12000000 → fX6_between_35 c fu (hM h a M) (some a) (iI x) (iI y) (iI w) (iI s) (iI n) (iI g) (iI k) = some (hM h a M, some (.inl (iI (wBt (btL (zD Z) x y k m s n g) w)))) := by
  unfold ag at hx hy
  have GF := O.2.2.1
  intro m
  induction m with
  | zero =>
    intro fu k s n g hf hk n0 n1 g0 g1
    obtain ⟨f, rfl⟩ : ∃ f, fu = f + 1 := ⟨fu - 1, by omega⟩
    rw [fX6_between_35]
    unfold fX6_between_128 wBt
    simp (maxSteps := 1000000) (disch := omega) only [cc_s, kI_i, kV_n, kR_r, ck_M, rdI_M3, rdI_M7, rdI_M9, rdI_M10, rdI_M11, rdI_M12, rdI_M14, rdR_M1, rdR_M2, rdR_M4, rdR_M5, rdR_M6, rdR_M8, rdR_M13, wr_M0, wr_M3, wr_M7, wr_M9, wr_M10, wr_M11, wr_M12, wr_M14, ald_M1, ald_M2, ald_M3, ald_M5, ald_M6, ald_M7, ast_M1, ast_M2, ast_M3, ast_M5, ast_M6, ast_M7, iI_l, iI_add, iI_sub, iI_mul, iI_neg, dv_i, Int.reduceToNat, lt_i, eq_i]
    rw [if_neg (by omega)]
    by_cases e0 : w = 0
    · rw [if_pos e0, if_pos e0]; rfl
    · rw [if_neg e0, if_neg e0]
      by_cases e1 : w = 1
      · rw [if_pos e1, if_pos e1]; rfl
      · rw [if_neg e1, if_neg e1]; rfl
  | succ m ih =>
    intro fu k s n g hf hk n0 n1 g0 g1
    obtain ⟨f, rfl⟩ : ∃ f, fu = f + 1 := ⟨fu - 1, by omega⟩
    have k21 : k < 21 := by omega
    have gk := GF k k21 0 (by decide)
    have G := O.1 k k21
    have tb := totI_bd G
    have i1 := ih f (k + 1) (s + totI (zD Z) k) (n + 1) (totI (zD Z) k) (by omega) (by omega) (by omega) (by omega) (by omega) (by omega)
    have i2 := ih f (k + 1) (s + totI (zD Z) k) (n + 1) g (by omega) (by omega) (by omega) (by omega) (by omega) (by omega)
    have i3 := ih f (k + 1) s n g (by omega) (by omega) (by omega) (by omega) (by omega) (by omega)
    rw [fX6_between_35]
    unfold fX6_between_99 fX6_between_101
    simp (maxSteps := 1000000) (disch := omega) only [cc_s, kI_i, kV_n, kR_r, ck_M, rdI_M3, rdI_M7, rdI_M9, rdI_M10, rdI_M11, rdI_M12, rdI_M14, rdR_M1, rdR_M2, rdR_M4, rdR_M5, rdR_M6, rdR_M8, rdR_M13, wr_M0, wr_M3, wr_M7, wr_M9, wr_M10, wr_M11, wr_M12, wr_M14, ald_M1, ald_M2, ald_M3, ald_M5, ald_M6, ald_M7, ast_M1, ast_M2, ast_M3, ast_M5, ast_M6, ast_M7, iI_l, iI_add, iI_sub, iI_mul, iI_neg, dv_i, Int.reduceToNat, lt_i, m_F R k21, m_in, bI_0, m_total R G k21, iI_k1]
    rw [if_pos (by omega), btL]
    by_cases e1 : 0 < gF (zD Z) k 0
    · rw [if_pos e1]
      by_cases e2 : x ≤ gF (zD Z) k 0 ∧ gF (zD Z) k 0 ≤ y
      · rw [if_neg (fun h => h e2), if_pos (show _ ∧ _ from ⟨e1, e2⟩)]
        by_cases e3 : g < totI (zD Z) k
        · rw [if_pos e3, if_pos e3]; exact i1
        · rw [if_neg e3, if_neg e3]; exact i2
      · rw [if_pos e2, if_neg (fun h => e2 h.2)]; exact i3
    · rw [if_neg e1, if_neg (fun h => e1 h.1)]; exact i3
theorem m_between (O : Ok1 (zD Z)) {x y w : Int} (hx : ag x) (hy : ag y) (hw : ag w) (R : MZ M Z) : ∃ M', fX6_between c (hM h a M) (some a) (iI x) (iI y) (iI w) = some (hM h a M', some (.inl (iI (rBt (zD Z) x y w)))) ∧ MZ M' Z := by
  have hx' := hx
  have hy' := hy
  unfold ag at hx' hy' hw
  have R0 := MZ_0 (v := 0) R
  refine ⟨_, ?_, R0⟩
  unfold fX6_between fX6_between_19 rBt
  simp (maxSteps := 1000000) (disch := omega) only [cc_s, kI_i, kV_n, kR_r, ck_M, rdI_M3, rdI_M7, rdI_M9, rdI_M10, rdI_M11, rdI_M12, rdI_M14, rdR_M1, rdR_M2, rdR_M4, rdR_M5, rdR_M6, rdR_M8, rdR_M13, wr_M0, wr_M3, wr_M7, wr_M9, wr_M10, wr_M11, wr_M12, wr_M14, ald_M1, ald_M2, ald_M3, ald_M5, ald_M6, ald_M7, ast_M1, ast_M2, ast_M3, ast_M5, ast_M6, ast_M7, iI_l, iI_add, iI_sub, iI_mul, iI_neg, dv_i, Int.reduceToNat, lt_i, m_in, bI_0]
  by_cases h1 : y < x
  · simp only [if_pos h1]
  · simp only [if_neg h1]
    by_cases h2 : 0 ≤ w ∧ w ≤ 2
    · have n2 : ¬ ¬ (0 ≤ w ∧ w ≤ 2) := fun h => h h2
      simp only [if_neg n2]
      exact m_bt_l O R0.1 hx hy h2.1 h2.2 18 FU 3 0 0 (-6) (by decide) (by decide) (by decide) (by decide) (by decide) (by decide)
    · simp only [if_pos h2]
end
