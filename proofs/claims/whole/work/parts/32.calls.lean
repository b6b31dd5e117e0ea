/-! THE REFERENCE'S CALLS: changes -/
/-- ticks: how many of m lines are printed, and what is then -/
def tkL : Nat → Int → Dt → Int × Dt
  | 0, n, D => (n, D)
  | m + 1, n, D => if takI D = -6 ∨ gT D 7 = 0 then (n, plD D) else tkL m (n + 1) (plD D)
def tkR (D : Dt) : Int × Dt := ((tkL (gT D 2).toNat 0 D).1, sT (tkL (gT D 2).toNat 0 D).2 3 (gT (tkL (gT D 2).toNat 0 D).2 3 + 1))
def psL : Nat → Int → Dt → Int × Dt
  | 0, n, D => (n, D)
  | m + 1, n, D => psL m (n + (tkR D).1) (tkR D).2
theorem gT_em (D : Dt) (r : Nat) : gT (emD D r) = gT D := rfl
theorem gT_fg (D : Dt) : gT (fgD D) = gT D := by unfold fgD; split <;> rfl
theorem gT_tak (D : Dt) : gT (takD D) = gT D := by
  unfold takD
  split
  · split <;> rfl
  · rfl
theorem gT_pl (D : Dt) {k : Nat} (hk : k < 5) : gT (plD D) k = gT D k := by
  unfold plD
  split
  · rw [gT_tak]
  · have e : ∀ r, gT (lnD (takD D) r) k = gT D k := by
      intro r; unfold lnD
      rw [gT_sT, if_neg (by omega), gT_sT, if_neg (by omega), gT_sFl, gT_tak]
    split
    · unfold endD
      rw [gT_fg, gT_sFl, gT_sFl, gT_sFl, gT_sT, if_neg (by omega), e]
    · rw [e]
/-- what printing keeps, and what it needs -/
def Keep (J : Dt → Prop) : Prop := ∀ D, J D → (OkM D ∧ gT D 5 < 900000) ∧ J (plD D) ∧ ∀ v, 0 ≤ v → v ≤ 9999 → J (sT D 3 v)
section
variable {c : Nat → Option Nat} {h : Hp} {a : Nat} {J : Dt → Prop}
theorem m_ticks_l (hJ : Keep J) {sp : Int} (s1 : sp ≤ 9) : ∀ (m fu : Nat) (n : Int) (M : Nat → Nat → Int) (D : Dt), J D → MS (M 1) D → gT D 2 = sp → m < fu → n + m = sp → 0 ≤ n → ∃ M', fX6_ticks_2 c fu (hM h a M) (some a) (iI n) = some (hM h a M', some (.inl (iI (tkL m n D).1))) ∧ eqS M M' ∧ MS (M' 1) (sT (tkL m n D).2 3 (gT (tkL m n D).2 3 + 1)) := by
  intro m
  have fin : ∀ (M : Nat → Nat → Int) (D : Dt) (n : Int), MS (M 1) D → fX6_ticks_25 c (hM h a M) (some a) (iI n) = some (hM h a (mset M 1 3 (gT D 3 + 1)), some (.inl (iI n))) ∧ eqS M (mset M 1 3 (gT D 3 + 1)) ∧ MS (mset M 1 3 (gT D 3 + 1) 1) (sT D 3 (gT D 3 + 1)) := by
    intro M D n R
    refine ⟨?_, m_sT R (by decide)⟩
    unfold fX6_ticks_25
    simp (maxSteps := 1000000) (disch := omega) only [cc_s, kI_i, kV_n, kR_r, ck_M, rdI_M3, rdI_M7, rdI_M9, rdI_M10, rdI_M11, rdI_M12, rdI_M14, rdR_M1, rdR_M2, rdR_M4, rdR_M5, rdR_M6, rdR_M8, rdR_M13, wr_M0, wr_M3, wr_M7, wr_M9, wr_M10, wr_M11, wr_M12, wr_M14, ald_M1, ald_M2, ald_M3, ald_M5, ald_M6, ald_M7, ast_M1, ast_M2, ast_M3, ast_M5, ast_M6, ast_M7, iI_l, iI_add, iI_sub, iI_mul, iI_neg, dv_i, Int.reduceToNat, R.1 3]
  induction m with
  | zero =>
    intro fu n M D j R e2 hf hn n0
    obtain ⟨f, rfl⟩ : ∃ f, fu = f + 1 := ⟨fu - 1, by omega⟩
    refine ⟨_, ?_, (fin M D n R).2⟩
    rw [fX6_ticks_2]
    simp (maxSteps := 1000000) (disch := omega) only [cc_s, kI_i, kV_n, kR_r, ck_M, rdI_M3, rdI_M7, rdI_M9, rdI_M10, rdI_M11, rdI_M12, rdI_M14, rdR_M1, rdR_M2, rdR_M4, rdR_M5, rdR_M6, rdR_M8, rdR_M13, wr_M0, wr_M3, wr_M7, wr_M9, wr_M10, wr_M11, wr_M12, wr_M14, ald_M1, ald_M2, ald_M3, ald_M5, ald_M6, ald_M7, ast_M1, ast_M2, ast_M3, ast_M5, ast_M6, ast_M7, iI_l, iI_add, iI_sub, iI_mul, iI_neg, dv_i, Int.reduceToNat, R.1 2, e2, lt_i]
    rw [if_neg (by omega)]
    exact (fin M D n R).1
  | succ m ih =>
    intro fu n M D j R e2 hf hn n0
    obtain ⟨f, rfl⟩ : ∃ f, fu = f + 1 := ⟨fu - 1, by omega⟩
    obtain ⟨⟨O, h5⟩, j2, -⟩ := hJ D j
    obtain ⟨M1, e1, q1, R1⟩ := m_printsLine (c := c) (h := h) (a := a) O h5 R
    rw [fX6_ticks_2]
    simp (maxSteps := 1000000) (disch := omega) only [cc_s, kI_i, kV_n, kR_r, ck_M, rdI_M3, rdI_M7, rdI_M9, rdI_M10, rdI_M11, rdI_M12, rdI_M14, rdR_M1, rdR_M2, rdR_M4, rdR_M5, rdR_M6, rdR_M8, rdR_M13, wr_M0, wr_M3, wr_M7, wr_M9, wr_M10, wr_M11, wr_M12, wr_M14, ald_M1, ald_M2, ald_M3, ald_M5, ald_M6, ald_M7, ast_M1, ast_M2, ast_M3, ast_M5, ast_M6, ast_M7, iI_l, iI_add, iI_sub, iI_mul, iI_neg, dv_i, Int.reduceToNat, R.1 2, e2, lt_i]
    rw [if_pos (by omega), e1, tkL]
    by_cases e : takI D = -6 ∨ gT D 7 = 0
    · rw [if_pos e, if_pos e]
      obtain ⟨f1, f2, f3⟩ := fin M1 (plD D) n R1
      refine ⟨_, ?_, q1.tr f2, f3⟩
      simp (maxSteps := 1000000) (disch := omega) only [cc_s, kI_i, kV_n, kR_r, ck_M, rdI_M3, rdI_M7, rdI_M9, rdI_M10, rdI_M11, rdI_M12, rdI_M14, rdR_M1, rdR_M2, rdR_M4, rdR_M5, rdR_M6, rdR_M8, rdR_M13, wr_M0, wr_M3, wr_M7, wr_M9, wr_M10, wr_M11, wr_M12, wr_M14, ald_M1, ald_M2, ald_M3, ald_M5, ald_M6, ald_M7, ast_M1, ast_M2, ast_M3, ast_M5, ast_M6, ast_M7, iI_l, iI_add, iI_sub, iI_mul, iI_neg, dv_i, Int.reduceToNat]
      rw [if_pos trivial]
      exact f1
    · rw [if_neg e, if_neg e]
      obtain ⟨M', g1, g2, g3⟩ := ih f (n + 1) M1 (plD D) j2 R1 (by rw [gT_pl D (by decide), e2]) (by omega) (by omega) (by omega)
      refine ⟨M', ?_, q1.tr g2, g3⟩
      simp (maxSteps := 1000000) (disch := omega) only [cc_s, kI_i, kV_n, kR_r, ck_M, rdI_M3, rdI_M7, rdI_M9, rdI_M10, rdI_M11, rdI_M12, rdI_M14, rdR_M1, rdR_M2, rdR_M4, rdR_M5, rdR_M6, rdR_M8, rdR_M13, wr_M0, wr_M3, wr_M7, wr_M9, wr_M10, wr_M11, wr_M12, wr_M14, ald_M1, ald_M2, ald_M3, ald_M5, ald_M6, ald_M7, ast_M1, ast_M2, ast_M3, ast_M5, ast_M6, ast_M7, iI_l, iI_add, iI_sub, iI_mul, iI_neg, dv_i, Int.reduceToNat]
      rw [if_neg (show ¬ iI 1 = iI 0 by decide)]
      exact g1
theorem m_ticks (hJ : Keep J) {M : Nat → Nat → Int} {D : Dt} (j : J D) (R : MS (M 1) D) : ∃ M', fX6_ticks c (hM h a M) (some a) = some (hM h a M', some (.inl (iI (tkR D).1))) ∧ eqS M M' ∧ MS (M' 1) (tkR D).2 := by
  have T := (hJ D j).1.1.1.2.2.2.1
  unfold RgT at T
  unfold fX6_ticks
  simp (maxSteps := 1000000) (disch := omega) only [cc_s, kI_i, kV_n, kR_r, ck_M, rdI_M3, rdI_M7, rdI_M9, rdI_M10, rdI_M11, rdI_M12, rdI_M14, rdR_M1, rdR_M2, rdR_M4, rdR_M5, rdR_M6, rdR_M8, rdR_M13, wr_M0, wr_M3, wr_M7, wr_M9, wr_M10, wr_M11, wr_M12, wr_M14, ald_M1, ald_M2, ald_M3, ald_M5, ald_M6, ald_M7, ast_M1, ast_M2, ast_M3, ast_M5, ast_M6, ast_M7, iI_l, iI_add, iI_sub, iI_mul, iI_neg, dv_i, Int.reduceToNat]
  exact m_ticks_l hJ (sp := gT D 2) (by omega) (gT D 2).toNat FU 0 M D j R rfl (by show _ < 20000; omega) (by omega) (by decide)
theorem tkL_J (hJ : Keep J) : ∀ (m : Nat) (n : Int) (D : Dt), J D → J (tkL m n D).2 ∧ ∀ k, k < 5 → gT (tkL m n D).2 k = gT D k
  | 0, _, _, j => ⟨j, fun _ _ => rfl⟩
  | m + 1, n, D, j => by
    rw [tkL]
    split
    · exact ⟨(hJ D j).2.1, fun k hk => gT_pl D hk⟩
    · have := tkL_J hJ m (n + 1) (plD D) (hJ D j).2.1
      exact ⟨this.1, fun k hk => (this.2 k hk).trans (gT_pl D hk)⟩
theorem tkR_J (hJ : Keep J) {D : Dt} (j : J D) (h3 : gT D 3 < 9999) : J (tkR D).2 ∧ gT (tkR D).2 3 = gT D 3 + 1 := by
  have T := (hJ D j).1.1.1.2.2.2.1
  unfold RgT at T
  have := tkL_J hJ (gT D 2).toNat 0 D j
  have e := this.2 3 (by decide)
  refine ⟨(hJ _ this.1).2.2 _ (by omega) (by omega), ?_⟩
  show gT (sT _ 3 _) 3 = _
  rw [gT_sT, if_pos rfl, e]
theorem m_pass_l (hJ : Keep J) {t : Int} (t1 : t ≤ 99) : ∀ (m fu k : Nat) (n : Int) (M : Nat → Nat → Int) (D : Dt), J D → MS (M 1) D → gT D 3 + m ≤ 9999 → m < fu → k + m = t → ∃ M', fX6_pass_43 c fu (hM h a M) (some a) (iI t) (iI n) (iI k) = some (hM h a M', some (.inl (iI (psL m n D).1))) ∧ eqS M M' ∧ MS (M' 1) (psL m n D).2 := by
  intro m
  induction m with
  | zero =>
    intro fu k n M D j R h3 hf hk
    obtain ⟨f, rfl⟩ : ∃ f, fu = f + 1 := ⟨fu - 1, by omega⟩
    refine ⟨M, ?_, eqS.rf M, R⟩
    rw [fX6_pass_43]
    simp (maxSteps := 1000000) (disch := omega) only [cc_s, kI_i, kV_n, kR_r, ck_M, rdI_M3, rdI_M7, rdI_M9, rdI_M10, rdI_M11, rdI_M12, rdI_M14, rdR_M1, rdR_M2, rdR_M4, rdR_M5, rdR_M6, rdR_M8, rdR_M13, wr_M0, wr_M3, wr_M7, wr_M9, wr_M10, wr_M11, wr_M12, wr_M14, ald_M1, ald_M2, ald_M3, ald_M5, ald_M6, ald_M7, ast_M1, ast_M2, ast_M3, ast_M5, ast_M6, ast_M7, iI_l, iI_add, iI_sub, iI_mul, iI_neg, dv_i, Int.reduceToNat, lt_i]
    rw [if_neg (by omega)]
    rfl
  | succ m ih =>
    intro fu k n M D j R h3 hf hk
    obtain ⟨f, rfl⟩ : ∃ f, fu = f + 1 := ⟨fu - 1, by omega⟩
    obtain ⟨M1, e1, q1, R1⟩ := m_ticks (c := c) (h := h) (a := a) hJ j R
    have jj := tkR_J hJ j (by omega)
    obtain ⟨M', g1, g2, g3⟩ := ih f (k + 1) (n + (tkR D).1) M1 (tkR D).2 jj.1 R1 (by omega) (by omega) (by omega)
    refine ⟨M', ?_, q1.tr g2, g3⟩
    rw [fX6_pass_43]
    simp (maxSteps := 1000000) (disch := omega) only [cc_s, kI_i, kV_n, kR_r, ck_M, rdI_M3, rdI_M7, rdI_M9, rdI_M10, rdI_M11, rdI_M12, rdI_M14, rdR_M1, rdR_M2, rdR_M4, rdR_M5, rdR_M6, rdR_M8, rdR_M13, wr_M0, wr_M3, wr_M7, wr_M9, wr_M10, wr_M11, wr_M12, wr_M14, ald_M1, ald_M2, ald_M3, ald_M5, ald_M6, ald_M7, ast_M1, ast_M2, ast_M3, ast_M5, ast_M6, ast_M7, iI_l, iI_add, iI_sub, iI_mul, iI_neg, dv_i, Int.reduceToNat, lt_i]
    rw [if_pos (by omega), e1]
    simp (maxSteps := 1000000) (disch := omega) only [cc_s, kI_i, kV_n, kR_r, ck_M, rdI_M3, rdI_M7, rdI_M9, rdI_M10, rdI_M11, rdI_M12, rdI_M14, rdR_M1, rdR_M2, rdR_M4, rdR_M5, rdR_M6, rdR_M8, rdR_M13, wr_M0, wr_M3, wr_M7, wr_M9, wr_M10, wr_M11, wr_M12, wr_M14, ald_M1, ald_M2, ald_M3, ald_M5, ald_M6, ald_M7, ast_M1, ast_M2, ast_M3, ast_M5, ast_M6, ast_M7, iI_l, iI_add, iI_sub, iI_mul, iI_neg, dv_i, Int.reduceToNat, iI_k1]
    exact g1
end
/-! what calls answer (r..), what is then (z..) -/
def lstI (x : Int) : Int := if x = 0 then 16 else if x = 1 then 5 else 1
def mstI (x : Int) : Int := if x = 0 then 40 else if x = 1 then 200 else 9
def okSet (x y : Int) : Prop := (0 ≤ x ∧ x ≤ 2) ∧ lstI x ≤ y ∧ y ≤ mstI x
/-- an int as a call is given it -/
def ag (x : Int) : Prop := -2147483648 ≤ x ∧ x < 2147483648
/-- the present state changed, the one ahead of it remembered -/
def zDo (Z : Zt) (D : Dt) : Zt := zSet (zRec Z) D
section
variable {c : Nat → Option Nat} {h : Hp} {a : Nat} {M : Nat → Nat → Int} {Z : Zt} {J : Dt → Prop}
theorem m_set {x y : Int} (hx : ag x) (hy : ag y) (R : MZ M Z) : (okSet x y → ∃ M', fX6_set c (hM h a M) (some a) (iI x) (iI y) = some (hM h a M', some (.inl (iI (gT (zD Z) x.toNat)))) ∧ MZ M' (zDo Z (sT (zD Z) x.toNat y))) ∧ (¬ okSet x y → ∃ M', fX6_set c (hM h a M) (some a) (iI x) (iI y) = some (hM h a M', some (.inl (iI (-2)))) ∧ MZ M' Z) := by
  unfold ag at hx hy
  have l1 : ∀ (h : Hp), fX6_leastOf c h (iI x) = some (h, some (.inl (iI (lstI x)))) := by
    intro h
    unfold fX6_leastOf fX6_leastOf_19 lstI
    simp (maxSteps := 1000000) (disch := omega) only [cc_s, kI_i, kV_n, kR_r, ck_M, rdI_M3, rdI_M7, rdI_M9, rdI_M10, rdI_M11, rdI_M12, rdI_M14, rdR_M1, rdR_M2, rdR_M4, rdR_M5, rdR_M6, rdR_M8, rdR_M13, wr_M0, wr_M3, wr_M7, wr_M9, wr_M10, wr_M11, wr_M12, wr_M14, ald_M1, ald_M2, ald_M3, ald_M5, ald_M6, ald_M7, ast_M1, ast_M2, ast_M3, ast_M5, ast_M6, ast_M7, iI_l, iI_add, iI_sub, iI_mul, iI_neg, dv_i, Int.reduceToNat, eq_i]
    split
    · rfl
    · split <;> rfl
  have l2 : ∀ (h : Hp), fX6_mostOf c h (iI x) = some (h, some (.inl (iI (mstI x)))) := by
    intro h
    unfold fX6_mostOf fX6_mostOf_22 mstI
    simp (maxSteps := 1000000) (disch := omega) only [cc_s, kI_i, kV_n, kR_r, ck_M, rdI_M3, rdI_M7, rdI_M9, rdI_M10, rdI_M11, rdI_M12, rdI_M14, rdR_M1, rdR_M2, rdR_M4, rdR_M5, rdR_M6, rdR_M8, rdR_M13, wr_M0, wr_M3, wr_M7, wr_M9, wr_M10, wr_M11, wr_M12, wr_M14, ald_M1, ald_M2, ald_M3, ald_M5, ald_M6, ald_M7, ast_M1, ast_M2, ast_M3, ast_M5, ast_M6, ast_M7, iI_l, iI_add, iI_sub, iI_mul, iI_neg, dv_i, Int.reduceToNat, eq_i]
    split
    · rfl
    · split <;> rfl
  have b1 : 1 ≤ lstI x ∧ lstI x ≤ 16 := by
    unfold lstI
    split
    · omega
    · split <;> omega
  have b2 : 9 ≤ mstI x ∧ mstI x ≤ 200 := by
    unfold mstI
    split
    · omega
    · split <;> omega
  have R0 := MZ_0 (v := 0) R
  unfold fX6_set fX6_set_29
  simp (maxSteps := 1000000) (disch := omega) only [cc_s, kI_i, kV_n, kR_r, ck_M, rdI_M3, rdI_M7, rdI_M9, rdI_M10, rdI_M11, rdI_M12, rdI_M14, rdR_M1, rdR_M2, rdR_M4, rdR_M5, rdR_M6, rdR_M8, rdR_M13, wr_M0, wr_M3, wr_M7, wr_M9, wr_M10, wr_M11, wr_M12, wr_M14, ald_M1, ald_M2, ald_M3, ald_M5, ald_M6, ald_M7, ast_M1, ast_M2, ast_M3, ast_M5, ast_M6, ast_M7, iI_l, iI_add, iI_sub, iI_mul, iI_neg, dv_i, Int.reduceToNat, m_in, bI_0, l1, l2]
  constructor
  · rintro ⟨h1, h2⟩
    obtain ⟨M1, e1, Z1, s1⟩ := m_records (c := c) (h := h) (a := a) R0
    have q1 : M1 1 = M 1 := by rw [s1, mset_ne (by decide)]
    have R1 : MS (M1 1) (zD Z) := by rw [q1]; exact R.1
    refine ⟨mset M1 1 x.toNat y, ?_, MZ_set Z1 (eqS.put M1 _ y) (m_sT R1 (by omega)).2⟩
    rw [if_neg (fun h => h h1), if_neg (fun h => h h2), e1]
    simp (maxSteps := 1000000) (disch := omega) only [cc_s, kI_i, kV_n, kR_r, ck_M, rdI_M3, rdI_M7, rdI_M9, rdI_M10, rdI_M11, rdI_M12, rdI_M14, rdR_M1, rdR_M2, rdR_M4, rdR_M5, rdR_M6, rdR_M8, rdR_M13, wr_M0, wr_M3, wr_M7, wr_M9, wr_M10, wr_M11, wr_M12, wr_M14, ald_M1, ald_M2, ald_M3, ald_M5, ald_M6, ald_M7, ast_M1, ast_M2, ast_M3, ast_M5, ast_M6, ast_M7, iI_l, iI_add, iI_sub, iI_mul, iI_neg, dv_i, Int.reduceToNat, R1.1]
  · intro hn
    refine ⟨_, ?_, R0⟩
    by_cases h1 : 0 ≤ x ∧ x ≤ 2
    · rw [if_neg (fun h => h h1), if_pos (fun h2 => hn ⟨h1, h2⟩)]
    · rw [if_pos h1]
theorem m_newRoll (R : MZ M Z) : ∃ M', fX6_newRoll c (hM h a M) (some a) = some (hM h a M', some (.inl (iI (gT (zD Z) 7)))) ∧ MZ M' (zDo Z (sT (sT (sT (zD Z) 11 (gT (zD Z) 11 + gT (zD Z) 7)) 10 (gT (zD Z) 10 + 1)) 7 (gT (zD Z) 1))) := by
  have R0 := MZ_0 (v := 0) R
  obtain ⟨M1, e1, Z1, s1⟩ := m_records (c := c) (h := h) (a := a) R0
  have q1 : M1 1 = M 1 := by rw [s1, mset_ne (by decide)]
  have R1 : MS (M1 1) (zD Z) := by rw [q1]; exact R.1
  have a1 := m_sT (v := gT (zD Z) 11 + gT (zD Z) 7) R1 (show 11 < 12 by decide)
  have a2 := m_sT (v := gT (zD Z) 10 + 1) a1.2 (show 10 < 12 by decide)
  have a3 := m_sT (v := gT (zD Z) 1) a2.2 (show 7 < 12 by decide)
  refine ⟨_, ?_, MZ_set Z1 (a1.1.tr (a2.1.tr a3.1)) a3.2⟩
  have x10 : mset M1 1 11 (gT (zD Z) 11 + gT (zD Z) 7) 1 10 = gT (zD Z) 10 := a1.2.1 10 (by decide)
  have x1 : mset (mset M1 1 11 (gT (zD Z) 11 + gT (zD Z) 7)) 1 10 (gT (zD Z) 10 + 1) 1 1 = gT (zD Z) 1 := a2.2.1 1 (by decide)
  unfold fX6_newRoll
  simp (maxSteps := 1000000) (disch := omega) only [cc_s, kI_i, kV_n, kR_r, ck_M, rdI_M3, rdI_M7, rdI_M9, rdI_M10, rdI_M11, rdI_M12, rdI_M14, rdR_M1, rdR_M2, rdR_M4, rdR_M5, rdR_M6, rdR_M8, rdR_M13, wr_M0, wr_M3, wr_M7, wr_M9, wr_M10, wr_M11, wr_M12, wr_M14, ald_M1, ald_M2, ald_M3, ald_M5, ald_M6, ald_M7, ast_M1, ast_M2, ast_M3, ast_M5, ast_M6, ast_M7, iI_l, iI_add, iI_sub, iI_mul, iI_neg, dv_i, Int.reduceToNat]
  rw [e1]
  simp (maxSteps := 1000000) (disch := omega) only [cc_s, kI_i, kV_n, kR_r, ck_M, rdI_M3, rdI_M7, rdI_M9, rdI_M10, rdI_M11, rdI_M12, rdI_M14, rdR_M1, rdR_M2, rdR_M4, rdR_M5, rdR_M6, rdR_M8, rdR_M13, wr_M0, wr_M3, wr_M7, wr_M9, wr_M10, wr_M11, wr_M12, wr_M14, ald_M1, ald_M2, ald_M3, ald_M5, ald_M6, ald_M7, ast_M1, ast_M2, ast_M3, ast_M5, ast_M6, ast_M7, iI_l, iI_add, iI_sub, iI_mul, iI_neg, dv_i, Int.reduceToNat, R1.1 7, R1.1 11, x10, x1]
theorem m_pass (hJ : Keep J) (j : J (zD Z)) {t : Int} (ht : ag t) (R : MZ M Z) : ∃ M', fX6_pass c (hM h a M) (some a) (iI t) = some (hM h a M', some (.inl (iI (if ¬ (1 ≤ t ∧ t ≤ 99) then -2 else if 9999 < gT (zD Z) 3 + t then -5 else (psL t.toNat 0 (zD Z)).1)))) ∧ MZ M' (if ¬ (1 ≤ t ∧ t ≤ 99) then Z else if 9999 < gT (zD Z) 3 + t then Z else zDo Z (psL t.toNat 0 (zD Z)).2) := by
  unfold ag at ht
  have T := (hJ _ j).1.1.1.2.2.2.1
  unfold RgT at T
  have R0 := MZ_0 (v := 0) R
  have x3 : mset M 0 0 0 1 3 = gT (zD Z) 3 := R0.1.1 3 (by decide)
  unfold fX6_pass
  simp (maxSteps := 1000000) (disch := omega) only [cc_s, kI_i, kV_n, kR_r, ck_M, rdI_M3, rdI_M7, rdI_M9, rdI_M10, rdI_M11, rdI_M12, rdI_M14, rdR_M1, rdR_M2, rdR_M4, rdR_M5, rdR_M6, rdR_M8, rdR_M13, wr_M0, wr_M3, wr_M7, wr_M9, wr_M10, wr_M11, wr_M12, wr_M14, ald_M1, ald_M2, ald_M3, ald_M5, ald_M6, ald_M7, ast_M1, ast_M2, ast_M3, ast_M5, ast_M6, ast_M7, iI_l, iI_add, iI_sub, iI_mul, iI_neg, dv_i, Int.reduceToNat, m_in, bI_0, x3]
  by_cases h1 : 1 ≤ t ∧ t ≤ 99
  · have n1 : ¬ ¬ (1 ≤ t ∧ t ≤ 99) := fun h => h h1
    simp only [if_neg n1]
    simp (maxSteps := 1000000) (disch := omega) only [cc_s, kI_i, kV_n, kR_r, ck_M, rdI_M3, rdI_M7, rdI_M9, rdI_M10, rdI_M11, rdI_M12, rdI_M14, rdR_M1, rdR_M2, rdR_M4, rdR_M5, rdR_M6, rdR_M8, rdR_M13, wr_M0, wr_M3, wr_M7, wr_M9, wr_M10, wr_M11, wr_M12, wr_M14, ald_M1, ald_M2, ald_M3, ald_M5, ald_M6, ald_M7, ast_M1, ast_M2, ast_M3, ast_M5, ast_M6, ast_M7, iI_l, iI_add, iI_sub, iI_mul, iI_neg, dv_i, Int.reduceToNat, lt_i]
    by_cases h2 : 9999 < gT (zD Z) 3 + t
    · simp only [if_pos h2]
      exact ⟨_, rfl, R0⟩
    · simp only [if_neg h2]
      obtain ⟨M1, e1, Z1, s1⟩ := m_records (c := c) (h := h) (a := a) R0
      have q1 : M1 1 = M 1 := by rw [s1, mset_ne (by decide)]
      have R1 : MS (M1 1) (zD Z) := by rw [q1]; exact R.1
      have hFU : t.toNat < FU := by
        rw [show FU = 20000 from rfl]; omega
      obtain ⟨M', g1, g2, g3⟩ := m_pass_l (c := c) (h := h) (a := a) hJ h1.2 t.toNat FU 0 0 M1 (zD Z) j R1 (by omega) hFU (by omega)
      rw [show ((0 : Nat) : Int) = 0 from rfl] at g1
      refine ⟨M', ?_, MZ_set Z1 g2 g3⟩
      rw [e1]
      simp (maxSteps := 1000000) (disch := omega) only [cc_s, kI_i, kV_n, kR_r, ck_M, rdI_M3, rdI_M7, rdI_M9, rdI_M10, rdI_M11, rdI_M12, rdI_M14, rdR_M1, rdR_M2, rdR_M4, rdR_M5, rdR_M6, rdR_M8, rdR_M13, wr_M0, wr_M3, wr_M7, wr_M9, wr_M10, wr_M11, wr_M12, wr_M14, ald_M1, ald_M2, ald_M3, ald_M5, ald_M6, ald_M7, ast_M1, ast_M2, ast_M3, ast_M5, ast_M6, ast_M7, iI_l, iI_add, iI_sub, iI_mul, iI_neg, dv_i, Int.reduceToNat]
      rw [g1]
  · simp only [if_pos h1]
    exact ⟨_, rfl, R0⟩
end
