/-! A STATE of the class: what is read -/
/-- the number of the receipt that is printed, or 0 -/
def pnI (D : Dt) : Int := if prtI D = -6 then 0 else gF D (prtI D).toNat 0
/-- nothing, or an item -/
def el (fz : Nat → Option Cl) (v : Option Nat) : Prop := v = none ∨ ∃ q fs, v = some q ∧ fz q = some (.inr (3, fs))
/-- what a state's cells tell -/
def CD (fz : Nat → Option Cl) (C : Ct) (D : Dt) : Prop := (∀ k, k < 3 → cT C k = gT D k) ∧ (cF C 0 = gT D 7 ∧ cF C 1 = gT D 8 ∧ cF C 2 = gT D 9 ∧ cF C 3 = gT D 10 ∧ cF C 4 = gT D 11 ∧ cF C 5 = gT D 3 ∧ cF C 6 = gT D 4 ∧ cF C 7 = gT D 5 ∧ cF C 8 = gT D 6 ∧ cF C 9 = pnI D ∧ ∀ r i, r < 21 → i < 12 → el fz (cG C r i)) ∧ (∀ r, r < 21 → cR C r 0 = gF D r 0) ∧ (∀ r, isR D r → RcD fz (cR C r) (cG C r) (cE C r) D r) ∧ ∀ r, 3 ≤ r → r < 21 → 0 < gF D r 0 → (cR C r 1 = gF D r 1 ∧ cR C r 2 = gF D r 2 ∧ cR C r 3 = gF D r 3 ∧ cR C r 4 = gF D r 4 ∧ cR C r 5 = lnI D r ∧ cR C r 6 = gF D r 5) ∧ (gF D r 3 = 2 → cR C r 7 = gF D r 6 ∧ cR C r 8 = gF D r 7 - 1)
/-- where the receipt of a record is -/
def rf (b : Nat) (x : Int) : Option Nat := if x = -6 then none else some (b + 4 + 3 * x.toNat)
theorem rf_s (b k : Nat) : rf b (k : Int) = some (b + 4 + 3 * k) := by unfold rf; rw [if_neg (by omega), Int.toNat_natCast]
section
variable {c : Nat → Option Nat} {h : Hp} {fz : Nat → Option Cl} {b : Nat} {C : Ct} {D : Dt} {r : Nat}
theorem s_placeAt (Q : CD fz C D) (GF : RgF D) {k : Nat} (hk : k < 18) : fX4_placeAt c (hS h b C) (some b) (iI (k : Int)) = some (hS h b C, some (.inr (.inr (if 0 < gF D (k + 3) 0 then some (b + 4 + 3 * (k + 3)) else none)))) := by
  have g := GF (k + 3) (by omega) 0 (by decide)
  unfold fX4_placeAt fX4_placeAt_13 fX4_placeAt_33 fX4_placeAt_38
  simp (maxSteps := 1000000) (disch := omega) only [cc_s, kI_i, kV_n, kR_r, ck_S, ck_R, rdI_S, rdR_S10, rdR_S11, rdR_S12, rdI_R, rdR_R12, rdR_R13, len_S1, len_S2, len_S3, len_G, len_E, ald_S1, ald_S2, ald_S3, ald_G, ald_E, wr_S, wr_R, ast_S1, ast_E, iI_l, iI_add, iI_sub, iI_mul, iI_neg, Int.reduceToNat]
  rw [if_neg (show ¬ iI (k : Int) < iI 0 from (by rw [lt_i (by omega) (by omega) (by omega) (by omega)]; omega)), if_pos (show iI (k : Int) < iI 18 from (by rw [lt_i (by omega) (by omega) (by omega) (by omega)]; omega))]
  simp (maxSteps := 1000000) (disch := omega) only [cc_s, kI_i, kV_n, kR_r, ck_S, ck_R, rdI_S, rdR_S10, rdR_S11, rdR_S12, rdI_R, rdR_R12, rdR_R13, len_S1, len_S2, len_S3, len_G, len_E, ald_S1, ald_S2, ald_S3, ald_G, ald_E, wr_S, wr_R, ast_S1, ast_E, iI_l, iI_add, iI_sub, iI_mul, iI_neg, Int.reduceToNat, Int.toNat_natCast, ifN]
  rw [Q.2.2.1 (k + 3) (by omega)]
  by_cases e : 0 < gF D (k + 3) 0
  · rw [if_neg (show ¬ iI (gF D (k + 3) 0) = iI 0 from (by rw [eq_i (by omega) (by omega) (by omega) (by omega)]; omega)), if_pos e]
  · rw [if_pos (show iI (gF D (k + 3) 0) = iI 0 from (by rw [eq_i (by omega) (by omega) (by omega) (by omega)]; omega)), if_neg e]
theorem s_places : fX4_places c (hS h b C) (some b) = some (hS h b C, some (.inl (iI 18))) := by
  unfold fX4_places
  simp (maxSteps := 1000000) (disch := omega) only [cc_s, kI_i, kV_n, kR_r, ck_S, ck_R, rdI_S, rdR_S10, rdR_S11, rdR_S12, rdI_R, rdR_R12, rdR_R13, len_S1, len_S2, len_S3, len_G, len_E, ald_S1, ald_S2, ald_S3, ald_G, ald_E, wr_S, wr_R, ast_S1, ast_E, iI_l, iI_add, iI_sub, iI_mul, iI_neg, Int.reduceToNat]
theorem s_setting (Q : CD fz C D) {k : Nat} (hk : k < 3) : fX4_settingAt c (hS h b C) (some b) (iI (k : Int)) = some (hS h b C, some (.inl (iI (gT D k)))) := by
  unfold fX4_settingAt fX4_settingAt_22 fX4_settingAt_23
  simp (maxSteps := 1000000) (disch := omega) only [cc_s, kI_i, kV_n, kR_r, ck_S, ck_R, rdI_S, rdR_S10, rdR_S11, rdR_S12, rdI_R, rdR_R12, rdR_R13, len_S1, len_S2, len_S3, len_G, len_E, ald_S1, ald_S2, ald_S3, ald_G, ald_E, wr_S, wr_R, ast_S1, ast_E, iI_l, iI_add, iI_sub, iI_mul, iI_neg, Int.reduceToNat]
  rw [if_neg (show ¬ iI (k : Int) < iI 0 from (by rw [lt_i (by omega) (by omega) (by omega) (by omega)]; omega)), if_pos (show iI (k : Int) < iI 3 from (by rw [lt_i (by omega) (by omega) (by omega) (by omega)]; omega))]
  simp (maxSteps := 1000000) (disch := omega) only [cc_s, kI_i, kV_n, kR_r, ck_S, ck_R, rdI_S, rdR_S10, rdR_S11, rdR_S12, rdI_R, rdR_R12, rdR_R13, len_S1, len_S2, len_S3, len_G, len_E, ald_S1, ald_S2, ald_S3, ald_G, ald_E, wr_S, wr_R, ast_S1, ast_E, iI_l, iI_add, iI_sub, iI_mul, iI_neg, Int.reduceToNat, Int.toNat_natCast]
  rw [Q.1 k hk]
theorem s_openAt {z : Int} (z0 : -2147483648 ≤ z) (z1 : z < 2147483648) : fX4_openAt c (hS h b C) (some b) (iI z) = some (hS h b C, some (.inr (.inr (if 0 ≤ z ∧ z ≤ 2 then some (b + 4 + 3 * z.toNat) else none)))) := by
  unfold fX4_openAt fX4_openAt_22 fX4_openAt_23
  simp (maxSteps := 1000000) (disch := omega) only [cc_s, kI_i, kV_n, kR_r, ck_S, ck_R, rdI_S, rdR_S10, rdR_S11, rdR_S12, rdI_R, rdR_R12, rdR_R13, len_S1, len_S2, len_S3, len_G, len_E, ald_S1, ald_S2, ald_S3, ald_G, ald_E, wr_S, wr_R, ast_S1, ast_E, iI_l, iI_add, iI_sub, iI_mul, iI_neg, Int.reduceToNat]
  by_cases e : z < 0
  · rw [if_pos (show iI z < iI 0 from (by rw [lt_i (by omega) (by omega) (by omega) (by omega)]; omega)), if_neg (show ¬ (0 ≤ z ∧ z ≤ 2) by omega)]
  rw [if_neg (show ¬ iI z < iI 0 from (by rw [lt_i (by omega) (by omega) (by omega) (by omega)]; omega))]
  by_cases e2 : z ≤ 2
  · rw [if_pos (show iI z < iI 3 from (by rw [lt_i (by omega) (by omega) (by omega) (by omega)]; omega)), if_pos (show 0 ≤ z ∧ z ≤ 2 by omega)]
    simp (maxSteps := 1000000) (disch := omega) only [cc_s, kI_i, kV_n, kR_r, ck_S, ck_R, rdI_S, rdR_S10, rdR_S11, rdR_S12, rdI_R, rdR_R12, rdR_R13, len_S1, len_S2, len_S3, len_G, len_E, ald_S1, ald_S2, ald_S3, ald_G, ald_E, wr_S, wr_R, ast_S1, ast_E, iI_l, iI_add, iI_sub, iI_mul, iI_neg, Int.reduceToNat]
  · rw [if_neg (show ¬ iI z < iI 3 from (by rw [lt_i (by omega) (by omega) (by omega) (by omega)]; omega)), if_neg (show ¬ (0 ≤ z ∧ z ≤ 2) by omega)]
theorem s_known_l (Q : CD fz C D) (GF : RgF D) {z : Int} (z0 : -2147483648 ≤ z) (z1 : z < 2147483648) : ∀ (m fu k : Nat), m < fu → k + m = 18 → fX4_known_2 c fu (hS h b C) (some b) (iI z) (iI (k : Int)) = some (hS h b C, some (.inr (.inr (rf b (fF (fun r => decide (0 < z ∧ gF D r 0 = z)) (k + 3) m))))) := by
  intro m
  induction m with
  | zero =>
    intro fu k hf hk
    obtain ⟨f, rfl⟩ : ∃ f, fu = f + 1 := ⟨fu - 1, by omega⟩
    unfold fX4_known_2
    rw [ck_S, s_places]
    simp only [cc_s, kI_i]
    rw [if_neg (show ¬ iI (k : Int) < iI 18 from (by rw [lt_i (by omega) (by omega) (by omega) (by omega)]; omega))]
    rfl
  | succ m ih =>
    intro fu k hf hk
    obtain ⟨f, rfl⟩ : ∃ f, fu = f + 1 := ⟨fu - 1, by omega⟩
    have g := GF (k + 3) (by omega) 0 (by decide)
    unfold fX4_known_2 fX4_known_30
    rw [ck_S, s_places]
    simp only [cc_s, kI_i]
    rw [if_pos (show iI (k : Int) < iI 18 from (by rw [lt_i (by omega) (by omega) (by omega) (by omega)]; omega)), ck_S, s_placeAt Q GF (by omega)]
    simp only [cc_s, kR_r, iI_l, iI_add]
    rw [fF]
    by_cases e : 0 < gF D (k + 3) 0
    · rw [if_pos e]
      simp (maxSteps := 1000000) (disch := omega) only [cc_s, kI_i, kV_n, kR_r, ck_S, ck_R, rdI_S, rdR_S10, rdR_S11, rdR_S12, rdI_R, rdR_R12, rdR_R13, len_S1, len_S2, len_S3, len_G, len_E, ald_S1, ald_S2, ald_S3, ald_G, ald_E, wr_S, wr_R, ast_S1, ast_E, iI_l, iI_add, iI_sub, iI_mul, iI_neg, Int.reduceToNat, ifN]
      rw [Q.2.2.1 (k + 3) (by omega)]
      by_cases e2 : gF D (k + 3) 0 = z
      · rw [if_pos (show iI (gF D (k + 3) 0) = iI z by rw [e2]), if_pos (show decide (0 < z ∧ gF D (k + 3) 0 = z) = true from decide_eq_true ⟨by omega, e2⟩), rf_s]
      · rw [if_neg (show ¬ iI (gF D (k + 3) 0) = iI z from (by rw [eq_i (by omega) (by omega) (by omega) (by omega)]; omega)), if_neg (show ¬ decide (0 < z ∧ gF D (k + 3) 0 = z) = true by simp only [decide_eq_true_eq]; omega), iI_k1, ih f (k + 1) (by omega) (by omega), show k + 1 + 3 = k + 3 + 1 by omega]
    · rw [if_neg e]
      simp only [ifN]
      rw [if_neg (show ¬ decide (0 < z ∧ gF D (k + 3) 0 = z) = true by simp only [decide_eq_true_eq]; omega), iI_k1, ih f (k + 1) (by omega) (by omega), show k + 1 + 3 = k + 3 + 1 by omega]
theorem s_known (Q : CD fz C D) (GF : RgF D) {z : Int} (z0 : -2147483648 ≤ z) (z1 : z < 2147483648) : fX4_known c (hS h b C) (some b) (iI z) = some (hS h b C, some (.inr (.inr (rf b (recI D z))))) := by
  unfold fX4_known
  simp only [iI_l]
  have key := s_known_l (c := c) (h := h) (b := b) Q GF z0 z1 18 FU 0 (by decide) (by decide)
  rw [show ((0 : Nat) : Int) = 0 from rfl] at key
  rw [key]; rfl
theorem s_free_l (Q : CD fz C D) (GF : RgF D) : ∀ (m fu k : Nat), m < fu → k + m = 18 → fX4_freePlace_2 c fu (hS h b C) (some b) (iI (k : Int)) = some (hS h b C, some (.inr (.inr (rf b (fF (fun r => decide (gF D r 0 ≤ 0)) (k + 3) m))))) := by
  intro m
  induction m with
  | zero =>
    intro fu k hf hk
    obtain ⟨f, rfl⟩ : ∃ f, fu = f + 1 := ⟨fu - 1, by omega⟩
    unfold fX4_freePlace_2
    simp (maxSteps := 1000000) (disch := omega) only [cc_s, kI_i, kV_n, kR_r, ck_S, ck_R, rdI_S, rdR_S10, rdR_S11, rdR_S12, rdI_R, rdR_R12, rdR_R13, len_S1, len_S2, len_S3, len_G, len_E, ald_S1, ald_S2, ald_S3, ald_G, ald_E, wr_S, wr_R, ast_S1, ast_E, iI_l, iI_add, iI_sub, iI_mul, iI_neg, Int.reduceToNat]
    rw [if_neg (show ¬ iI (k : Int) < iI 18 from (by rw [lt_i (by omega) (by omega) (by omega) (by omega)]; omega))]
    rfl
  | succ m ih =>
    intro fu k hf hk
    obtain ⟨f, rfl⟩ : ∃ f, fu = f + 1 := ⟨fu - 1, by omega⟩
    have g := GF (k + 3) (by omega) 0 (by decide)
    unfold fX4_freePlace_2 fX4_freePlace_39
    simp (maxSteps := 1000000) (disch := omega) only [cc_s, kI_i, kV_n, kR_r, ck_S, ck_R, rdI_S, rdR_S10, rdR_S11, rdR_S12, rdI_R, rdR_R12, rdR_R13, len_S1, len_S2, len_S3, len_G, len_E, ald_S1, ald_S2, ald_S3, ald_G, ald_E, wr_S, wr_R, ast_S1, ast_E, iI_l, iI_add, iI_sub, iI_mul, iI_neg, Int.reduceToNat]
    rw [if_pos (show iI (k : Int) < iI 18 from (by rw [lt_i (by omega) (by omega) (by omega) (by omega)]; omega))]
    simp (maxSteps := 1000000) (disch := omega) only [cc_s, kI_i, kV_n, kR_r, ck_S, ck_R, rdI_S, rdR_S10, rdR_S11, rdR_S12, rdI_R, rdR_R12, rdR_R13, len_S1, len_S2, len_S3, len_G, len_E, ald_S1, ald_S2, ald_S3, ald_G, ald_E, wr_S, wr_R, ast_S1, ast_E, iI_l, iI_add, iI_sub, iI_mul, iI_neg, Int.reduceToNat, Int.toNat_natCast, ifN]
    rw [Q.2.2.1 (k + 3) (by omega), fF]
    by_cases e : gF D (k + 3) 0 ≤ 0
    · rw [if_pos (show iI (gF D (k + 3) 0) = iI 0 from (by rw [eq_i (by omega) (by omega) (by omega) (by omega)]; omega)), if_pos (decide_eq_true e), rf_s]
    · rw [if_neg (show ¬ iI (gF D (k + 3) 0) = iI 0 from (by rw [eq_i (by omega) (by omega) (by omega) (by omega)]; omega)), if_neg (by simpa using e), iI_k1, ih f (k + 1) (by omega) (by omega), show k + 1 + 3 = k + 3 + 1 by omega]
theorem s_free (Q : CD fz C D) (GF : RgF D) : fX4_freePlace c (hS h b C) (some b) = some (hS h b C, some (.inr (.inr (rf b (freeI D))))) := by
  unfold fX4_freePlace
  simp only [iI_l]
  have key := s_free_l (c := c) (h := h) (b := b) Q GF 18 FU 0 (by decide) (by decide)
  rw [show ((0 : Nat) : Int) = 0 from rfl] at key
  rw [key]; rfl
theorem s_ahead (Q : CD fz C D) (GF : RgF D) {o : Nat} (o3 : 3 ≤ o) (ho : o < 21) (r3 : 3 ≤ r) (hr : r < 21) (no : 0 < gF D o 0) (nr : 0 < gF D r 0) : fX2_isAheadOf c (hS h b C) (some (b + 4 + 3 * o)) (some (b + 4 + 3 * r)) = some (hS h b C, some (.inl (iI (bI (if gF D o 3 = gF D r 3 then ahD D o r = true else gF D o 3 = 1))))) := by
  have a1 := GF o ho 0 (by decide)
  have a2 := GF o ho 2 (by decide)
  have a3 := GF o ho 3 (by decide)
  have b1 := GF r hr 0 (by decide)
  have b2 := GF r hr 2 (by decide)
  have b3 := GF r hr 3 (by decide)
  have q1 := (Q.2.2.2.2 o o3 ho no).1
  have q2 := (Q.2.2.2.2 r r3 hr nr).1
  have q3 := Q.2.2.1 o ho
  have q4 := Q.2.2.1 r hr
  unfold fX2_isAheadOf fX2_isAheadOf_24 fX2_isAheadOf_71 ahD
  simp (maxSteps := 1000000) (disch := omega) only [cc_s, kI_i, kV_n, kR_r, ck_S, ck_R, rdI_S, rdR_S10, rdR_S11, rdR_S12, rdI_R, rdR_R12, rdR_R13, len_S1, len_S2, len_S3, len_G, len_E, ald_S1, ald_S2, ald_S3, ald_G, ald_E, wr_S, wr_R, ast_S1, ast_E, iI_l, iI_add, iI_sub, iI_mul, iI_neg, Int.reduceToNat, q1.2.1, q1.2.2.1, q2.2.1, q2.2.2.1, q3, q4, rt_0, rt_1]
  by_cases e : gF D o 3 = gF D r 3
  · rw [if_pos (show iI (gF D o 3) = iI (gF D r 3) by rw [e])]
    simp only [if_pos e, decide_eq_true_eq]
    by_cases e2 : gF D o 2 = gF D r 2
    · rw [if_pos (show iI (gF D o 2) = iI (gF D r 2) by rw [e2])]
      by_cases e3 : gF D o 0 < gF D r 0
      · rw [if_pos (show iI (gF D o 0) < iI (gF D r 0) from (by rw [lt_i (by omega) (by omega) (by omega) (by omega)]; omega)), bI_t (by omega)]
      · rw [if_neg (show ¬ iI (gF D o 0) < iI (gF D r 0) from (by rw [lt_i (by omega) (by omega) (by omega) (by omega)]; omega)), bI_f (by omega)]
    · rw [if_neg (show ¬ iI (gF D o 2) = iI (gF D r 2) from (by rw [eq_i (by omega) (by omega) (by omega) (by omega)]; omega))]
      by_cases e3 : gF D r 2 < gF D o 2
      · rw [if_pos (show iI (gF D r 2) < iI (gF D o 2) from (by rw [lt_i (by omega) (by omega) (by omega) (by omega)]; omega)), bI_t (by omega)]
      · rw [if_neg (show ¬ iI (gF D r 2) < iI (gF D o 2) from (by rw [lt_i (by omega) (by omega) (by omega) (by omega)]; omega)), bI_f (by omega)]
  · rw [if_neg (show ¬ iI (gF D o 3) = iI (gF D r 3) from (by rw [eq_i (by omega) (by omega) (by omega) (by omega)]; omega))]
    simp only [if_neg e]
    by_cases e2 : gF D o 3 = 1
    · rw [if_pos (show iI (gF D o 3) = iI 1 by rw [e2]), bI_t e2]
    · rw [if_neg (show ¬ iI (gF D o 3) = iI 1 from (by rw [eq_i (by omega) (by omega) (by omega) (by omega)]; omega)), bI_f e2]
theorem s_rank_l (Q : CD fz C D) (GF : RgF D) (r3 : 3 ≤ r) (hr : r < 21) (h0 : hwP D 0 r = true) : ∀ (m fu k : Nat) (acc : Int), m < fu → k + m = 18 → fX4_waitingAheadOf_4 c fu (hS h b C) (some b) (some (b + 4 + 3 * r)) (iI acc) (iI (k : Int)) = some (hS h b C, some (.inl (iI (acc + sF (fun o => bI (hwP D 0 o = true ∧ o ≠ r ∧ ahD D o r = true)) (k + 3) m)))) := by
  have hh := of_decide_eq_true h0
  intro m
  induction m with
  | zero =>
    intro fu k acc hf hk
    obtain ⟨f, rfl⟩ : ∃ f, fu = f + 1 := ⟨fu - 1, by omega⟩
    unfold fX4_waitingAheadOf_4
    rw [ck_S, s_places]
    simp only [cc_s, kI_i]
    rw [if_neg (show ¬ iI (k : Int) < iI 18 from (by rw [lt_i (by omega) (by omega) (by omega) (by omega)]; omega))]
    simp only [sF, Int.add_zero]
  | succ m ih =>
    intro fu k acc hf hk
    obtain ⟨f, rfl⟩ : ∃ f, fu = f + 1 := ⟨fu - 1, by omega⟩
    have g := GF (k + 3) (by omega) 0 (by decide)
    have g3 := GF (k + 3) (by omega) 3 (by decide)
    unfold fX4_waitingAheadOf_4 fX4_waitingAheadOf_44
    rw [ck_S, s_places]
    simp only [cc_s, kI_i]
    rw [if_pos (show iI (k : Int) < iI 18 from (by rw [lt_i (by omega) (by omega) (by omega) (by omega)]; omega)), ck_S, s_placeAt Q GF (by omega)]
    simp only [cc_s, kR_r, iI_l, iI_add]
    rw [sF]
    by_cases e : 0 < gF D (k + 3) 0
    · rw [if_pos e]
      simp (maxSteps := 1000000) (disch := omega) only [cc_s, kI_i, kV_n, kR_r, ck_S, ck_R, rdI_S, rdR_S10, rdR_S11, rdR_S12, rdI_R, rdR_R12, rdR_R13, len_S1, len_S2, len_S3, len_G, len_E, ald_S1, ald_S2, ald_S3, ald_G, ald_E, wr_S, wr_R, ast_S1, ast_E, iI_l, iI_add, iI_sub, iI_mul, iI_neg, Int.reduceToNat, ifN]
      rw [(Q.2.2.2.2 (k + 3) (by omega) (by omega) e).1.2.2.1]
      by_cases e2 : gF D (k + 3) 3 = 0
      · rw [if_pos (show iI (gF D (k + 3) 3) = iI 0 by rw [e2]), s_ahead Q GF (by omega) (by omega) r3 hr e hh.1]
        simp only [cc_s, kI_i]
        simp only [if_pos (show gF D (k + 3) 3 = gF D r 3 by rw [e2, hh.2])]
        have hw : hwP D 0 (k + 3) = true := decide_eq_true ⟨e, e2⟩
        by_cases e3 : ahD D (k + 3) r = true
        · have ne : k + 3 ≠ r := by
            intro e4
            have := of_decide_eq_true e3
            rw [e4] at this
            omega
          rw [bI_t e3, if_neg (show ¬ iI 1 = iI 0 by decide), bI_t ⟨hw, ne, e3⟩, iI_k1, ih f (k + 1) _ (by omega) (by omega), show k + 1 + 3 = k + 3 + 1 by omega, Int.add_assoc]
        · rw [bI_f e3, if_pos rfl, bI_f (fun x => e3 x.2.2), iI_k1, ih f (k + 1) _ (by omega) (by omega), show k + 1 + 3 = k + 3 + 1 by omega, Int.zero_add]
      · rw [if_neg (show ¬ iI (gF D (k + 3) 3) = iI 0 from (by rw [eq_i (by omega) (by omega) (by omega) (by omega)]; omega)), bI_f (fun x => e2 (of_decide_eq_true x.1).2), iI_k1, ih f (k + 1) _ (by omega) (by omega), show k + 1 + 3 = k + 3 + 1 by omega, Int.zero_add]
    · rw [if_neg e]
      simp only [ifN]
      rw [bI_f (fun x => e (of_decide_eq_true x.1).1), iI_k1, ih f (k + 1) _ (by omega) (by omega), show k + 1 + 3 = k + 3 + 1 by omega, Int.zero_add]
theorem s_rank (Q : CD fz C D) (GF : RgF D) (r3 : 3 ≤ r) (hr : r < 21) (h0 : hwP D 0 r = true) : fX4_waitingAheadOf c (hS h b C) (some b) (some (b + 4 + 3 * r)) = some (hS h b C, some (.inl (iI (rankI D r)))) := by
  unfold fX4_waitingAheadOf
  simp only [iI_l]
  have key := s_rank_l (c := c) (h := h) (b := b) Q GF r3 hr h0 18 FU 0 0 (by decide) (by decide)
  rw [show ((0 : Nat) : Int) = 0 from rfl, Int.zero_add] at key
  rw [key]; rfl
theorem s_waitingAt_l (Q : CD fz C D) (GF : RgF D) {z : Int} (z0 : -2147483648 ≤ z) (z1 : z < 2147483648) : ∀ (m fu k : Nat), m < fu → k + m = 18 → fX4_waitingAt_2 c fu (hS h b C) (some b) (iI z) (iI (k : Int)) = some (hS h b C, some (.inr (.inr (rf b (fF (fun r => decide (hwP D 0 r = true ∧ rankI D r = z)) (k + 3) m))))) := by
  intro m
  induction m with
  | zero =>
    intro fu k hf hk
    obtain ⟨f, rfl⟩ : ∃ f, fu = f + 1 := ⟨fu - 1, by omega⟩
    unfold fX4_waitingAt_2
    rw [ck_S, s_places]
    simp only [cc_s, kI_i]
    rw [if_neg (show ¬ iI (k : Int) < iI 18 from (by rw [lt_i (by omega) (by omega) (by omega) (by omega)]; omega))]
    rfl
  | succ m ih =>
    intro fu k hf hk
    obtain ⟨f, rfl⟩ : ∃ f, fu = f + 1 := ⟨fu - 1, by omega⟩
    have g := GF (k + 3) (by omega) 0 (by decide)
    have g3 := GF (k + 3) (by omega) 3 (by decide)
    have hb := rankI_bd D (k + 3)
    unfold fX4_waitingAt_2 fX4_waitingAt_38
    rw [ck_S, s_places]
    simp only [cc_s, kI_i]
    rw [if_pos (show iI (k : Int) < iI 18 from (by rw [lt_i (by omega) (by omega) (by omega) (by omega)]; omega)), ck_S, s_placeAt Q GF (by omega)]
    simp only [cc_s, kR_r, iI_l, iI_add]
    rw [fF]
    by_cases e : 0 < gF D (k + 3) 0
    · rw [if_pos e]
      simp (maxSteps := 1000000) (disch := omega) only [cc_s, kI_i, kV_n, kR_r, ck_S, ck_R, rdI_S, rdR_S10, rdR_S11, rdR_S12, rdI_R, rdR_R12, rdR_R13, len_S1, len_S2, len_S3, len_G, len_E, ald_S1, ald_S2, ald_S3, ald_G, ald_E, wr_S, wr_R, ast_S1, ast_E, iI_l, iI_add, iI_sub, iI_mul, iI_neg, Int.reduceToNat, ifN]
      rw [(Q.2.2.2.2 (k + 3) (by omega) (by omega) e).1.2.2.1]
      by_cases e2 : gF D (k + 3) 3 = 0
      · have hw : hwP D 0 (k + 3) = true := decide_eq_true ⟨e, e2⟩
        rw [if_pos (show iI (gF D (k + 3) 3) = iI 0 by rw [e2]), s_rank Q GF (by omega) (by omega) hw]
        simp only [cc_s, kI_i]
        by_cases e3 : rankI D (k + 3) = z
        · rw [if_pos (show iI (rankI D (k + 3)) = iI z by rw [e3]), if_pos (decide_eq_true ⟨hw, e3⟩), rf_s]
        · rw [if_neg (show ¬ iI (rankI D (k + 3)) = iI z from (by rw [eq_i (by omega) (by omega) (by omega) (by omega)]; omega)), if_neg (fun x => e3 (of_decide_eq_true x).2), iI_k1, ih f (k + 1) (by omega) (by omega), show k + 1 + 3 = k + 3 + 1 by omega]
      · rw [if_neg (show ¬ iI (gF D (k + 3) 3) = iI 0 from (by rw [eq_i (by omega) (by omega) (by omega) (by omega)]; omega)), if_neg (fun x => e2 (of_decide_eq_true (of_decide_eq_true x).1).2), iI_k1, ih f (k + 1) (by omega) (by omega), show k + 1 + 3 = k + 3 + 1 by omega]
    · rw [if_neg e]
      simp only [ifN]
      rw [if_neg (fun x => e (of_decide_eq_true (of_decide_eq_true x).1).1), iI_k1, ih f (k + 1) (by omega) (by omega), show k + 1 + 3 = k + 3 + 1 by omega]
theorem s_waitingAt (Q : CD fz C D) (GF : RgF D) {z : Int} (z0 : -2147483648 ≤ z) (z1 : z < 2147483648) : fX4_waitingAt c (hS h b C) (some b) (iI z) = some (hS h b C, some (.inr (.inr (rf b (atI D z))))) := by
  unfold fX4_waitingAt
  simp only [iI_l]
  have key := s_waitingAt_l (c := c) (h := h) (b := b) Q GF z0 z1 18 FU 0 (by decide) (by decide)
  rw [show ((0 : Nat) : Int) = 0 from rfl] at key
  rw [key]; rfl
theorem s_many_l (Q : CD fz C D) (GF : RgF D) : ∀ (m fu k : Nat) (acc : Int), m < fu → k + m = 18 → fX4_receiptsWaiting_4 c fu (hS h b C) (some b) (iI acc) (iI (k : Int)) = some (hS h b C, some (.inl (iI (acc + sF (fun r => bI (hwP D 0 r = true)) (k + 3) m)))) := by
  intro m
  induction m with
  | zero =>
    intro fu k acc hf hk
    obtain ⟨f, rfl⟩ : ∃ f, fu = f + 1 := ⟨fu - 1, by omega⟩
    unfold fX4_receiptsWaiting_4
    rw [ck_S, s_places]
    simp only [cc_s, kI_i]
    rw [if_neg (show ¬ iI (k : Int) < iI 18 from (by rw [lt_i (by omega) (by omega) (by omega) (by omega)]; omega))]
    simp only [sF, Int.add_zero]
  | succ m ih =>
    intro fu k acc hf hk
    obtain ⟨f, rfl⟩ : ∃ f, fu = f + 1 := ⟨fu - 1, by omega⟩
    have g := GF (k + 3) (by omega) 0 (by decide)
    have g3 := GF (k + 3) (by omega) 3 (by decide)
    unfold fX4_receiptsWaiting_4 fX4_receiptsWaiting_32
    rw [ck_S, s_places]
    simp only [cc_s, kI_i]
    rw [if_pos (show iI (k : Int) < iI 18 from (by rw [lt_i (by omega) (by omega) (by omega) (by omega)]; omega)), ck_S, s_placeAt Q GF (by omega)]
    simp only [cc_s, kR_r, iI_l, iI_add]
    rw [sF]
    by_cases e : 0 < gF D (k + 3) 0
    · rw [if_pos e]
      simp (maxSteps := 1000000) (disch := omega) only [cc_s, kI_i, kV_n, kR_r, ck_S, ck_R, rdI_S, rdR_S10, rdR_S11, rdR_S12, rdI_R, rdR_R12, rdR_R13, len_S1, len_S2, len_S3, len_G, len_E, ald_S1, ald_S2, ald_S3, ald_G, ald_E, wr_S, wr_R, ast_S1, ast_E, iI_l, iI_add, iI_sub, iI_mul, iI_neg, Int.reduceToNat, ifN]
      rw [(Q.2.2.2.2 (k + 3) (by omega) (by omega) e).1.2.2.1]
      by_cases e2 : gF D (k + 3) 3 = 0
      · have hw : hwP D 0 (k + 3) = true := decide_eq_true ⟨e, e2⟩
        rw [if_pos (show iI (gF D (k + 3) 3) = iI 0 by rw [e2]), bI_t hw, iI_k1, ih f (k + 1) _ (by omega) (by omega), show k + 1 + 3 = k + 3 + 1 by omega, Int.add_assoc]
      · rw [if_neg (show ¬ iI (gF D (k + 3) 3) = iI 0 from (by rw [eq_i (by omega) (by omega) (by omega) (by omega)]; omega)), bI_f (fun x => e2 (of_decide_eq_true x).2), iI_k1, ih f (k + 1) _ (by omega) (by omega), show k + 1 + 3 = k + 3 + 1 by omega, Int.zero_add]
    · rw [if_neg e]
      simp only [ifN]
      rw [bI_f (fun x => e (of_decide_eq_true x).1), iI_k1, ih f (k + 1) _ (by omega) (by omega), show k + 1 + 3 = k + 3 + 1 by omega, Int.zero_add]
theorem s_many (Q : CD fz C D) (GF : RgF D) : fX4_receiptsWaiting c (hS h b C) (some b) = some (hS h b C, some (.inl (iI (manyI D 0)))) := by
  unfold fX4_receiptsWaiting
  simp only [iI_l]
  have key := s_many_l (c := c) (h := h) (b := b) Q GF 18 FU 0 0 (by decide) (by decide)
  rw [show ((0 : Nat) : Int) = 0 from rfl, Int.zero_add] at key
  rw [key]; rfl
theorem s_left (Q : CD fz C D) (GF : RgF D) (r3 : 3 ≤ r) (hr : r < 21) (n : 0 < gF D r 0) : fX2_linesToPrint c (hS h b C) (some (b + 4 + 3 * r)) = some (hS h b C, some (.inl (iI (if gF D r 3 = 2 then 0 else leftI D r)))) := by
  have q := (Q.2.2.2.2 r r3 hr n).1
  have g3 := GF r hr 3 (by decide)
  unfold fX2_linesToPrint fX2_linesToPrint_21 leftI
  simp (maxSteps := 1000000) (disch := omega) only [cc_s, kI_i, kV_n, kR_r, ck_S, ck_R, rdI_S, rdR_S10, rdR_S11, rdR_S12, rdI_R, rdR_R12, rdR_R13, len_S1, len_S2, len_S3, len_G, len_E, ald_S1, ald_S2, ald_S3, ald_G, ald_E, wr_S, wr_R, ast_S1, ast_E, iI_l, iI_add, iI_sub, iI_mul, iI_neg, Int.reduceToNat, q.2.2.1, q.2.2.2.2.1, q.2.2.2.2.2]
  by_cases e : gF D r 3 = 2
  · rw [if_pos (show iI (gF D r 3) = iI 2 by rw [e]), if_pos e]
  · rw [if_neg (show ¬ iI (gF D r 3) = iI 2 from (by rw [eq_i (by omega) (by omega) (by omega) (by omega)]; omega)), if_neg e]
/-- whoever is known waits, is printed, or is done -/
def How (D : Dt) : Prop := ∀ r, 3 ≤ r → r < 21 → 0 < gF D r 0 → 0 ≤ gF D r 3 ∧ gF D r 3 ≤ 2
/-- at most one is printed -/
def One (D : Dt) : Prop := ∀ r q, 3 ≤ r → r < 21 → 3 ≤ q → q < 21 → hwP D 1 r = true → hwP D 1 q = true → r = q
theorem s_all_l (Q : CD fz C D) (GF : RgF D) (Hw : How D) : ∀ (m fu k : Nat) (acc : Int), m < fu → k + m = 18 → fX4_linesToPrint_4 c fu (hS h b C) (some b) (iI acc) (iI (k : Int)) = some (hS h b C, some (.inl (iI (acc + sF (toPrI D) (k + 3) m)))) := by
  intro m
  induction m with
  | zero =>
    intro fu k acc hf hk
    obtain ⟨f, rfl⟩ : ∃ f, fu = f + 1 := ⟨fu - 1, by omega⟩
    unfold fX4_linesToPrint_4
    rw [ck_S, s_places]
    simp only [cc_s, kI_i]
    rw [if_neg (show ¬ iI (k : Int) < iI 18 from (by rw [lt_i (by omega) (by omega) (by omega) (by omega)]; omega))]
    simp only [sF, Int.add_zero]
  | succ m ih =>
    intro fu k acc hf hk
    obtain ⟨f, rfl⟩ : ∃ f, fu = f + 1 := ⟨fu - 1, by omega⟩
    unfold fX4_linesToPrint_4 fX4_linesToPrint_29
    rw [ck_S, s_places]
    simp only [cc_s, kI_i]
    rw [if_pos (show iI (k : Int) < iI 18 from (by rw [lt_i (by omega) (by omega) (by omega) (by omega)]; omega)), ck_S, s_placeAt Q GF (by omega)]
    simp only [cc_s, kR_r, iI_l, iI_add]
    rw [sF]
    by_cases e : 0 < gF D (k + 3) 0
    · have hw := Hw (k + 3) (by omega) (by omega) e
      rw [if_pos e]
      simp only [ifN]
      rw [ck_R (by omega), s_left Q GF (by omega) (by omega) e]
      simp only [cc_s, kI_i, iI_add]
      have e2 : (if gF D (k + 3) 3 = 2 then 0 else leftI D (k + 3)) = toPrI D (k + 3) := by
        unfold toPrI hwP
        simp only [decide_eq_true_eq]
        by_cases e3 : gF D (k + 3) 3 = 2
        · rw [if_pos e3, if_neg (by omega)]
        · rw [if_neg e3, if_pos (by omega)]
      rw [e2, iI_k1, ih f (k + 1) _ (by omega) (by omega), show k + 1 + 3 = k + 3 + 1 by omega, Int.add_assoc]
    · rw [if_neg e]
      simp only [ifN]
      have e2 : toPrI D (k + 3) = 0 := by unfold toPrI hwP; simp only [decide_eq_true_eq]; rw [if_neg (by omega)]
      rw [e2, iI_k1, ih f (k + 1) _ (by omega) (by omega), show k + 1 + 3 = k + 3 + 1 by omega, Int.zero_add]
theorem s_all (Q : CD fz C D) (GF : RgF D) (Hw : How D) : fX4_linesToPrint c (hS h b C) (some b) = some (hS h b C, some (.inl (iI (allI D)))) := by
  unfold fX4_linesToPrint
  simp only [iI_l]
  have key := s_all_l (c := c) (h := h) (b := b) Q GF Hw 18 FU 0 0 (by decide) (by decide)
  rw [show ((0 : Nat) : Int) = 0 from rfl, Int.zero_add] at key
  rw [key]; rfl
end
