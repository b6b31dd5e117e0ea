/-! THE REFERENCE'S CHANGES OF A RECEIPT -/
theorem or_add {s t hi lo v : Nat} (hl : lo < 2 ^ s) (hv : v < 2 ^ t) : (2 ^ (s + t) * hi + lo) ||| (v * 2 ^ s) = 2 ^ (s + t) * hi + lo + v * 2 ^ s := by
  have e1 : 2 ^ s * v + lo < 2 ^ (s + t) := by
    have : 2 ^ s * v + 2 ^ s ≤ 2 ^ s * 2 ^ t := by
      have := Nat.mul_le_mul_left (2 ^ s) (show v + 1 ≤ 2 ^ t from hv)
      rw [Nat.mul_add, Nat.mul_one] at this
      exact this
    rw [Nat.pow_add]
    omega
  have e2 : lo < 2 ^ (s + t) := by omega
  rw [Nat.two_pow_add_eq_or_of_lt e2, Nat.or_assoc, Nat.or_comm lo, Nat.mul_comm v, ← Nat.two_pow_add_eq_or_of_lt hl, ← Nat.two_pow_add_eq_or_of_lt e1, ← Nat.two_pow_add_eq_or_of_lt e2]
  omega
theorem or_i {s t : Nat} {hi lo v : Int} (h0 : 0 ≤ hi) (l0 : 0 ≤ lo) (v0 : 0 ≤ v) (hl : lo < 2 ^ s) (hv : v < 2 ^ t) (hb : 2 ^ (s + t) * hi + lo < 4294967296) (hb2 : v * 2 ^ s < 4294967296) : iI (2 ^ (s + t) * hi + lo) ||| iI (v * 2 ^ s) = iI (2 ^ (s + t) * hi + lo + v * 2 ^ s) := by
  obtain ⟨h, rfl⟩ := Int.eq_ofNat_of_zero_le h0
  obtain ⟨l, rfl⟩ := Int.eq_ofNat_of_zero_le l0
  obtain ⟨w, rfl⟩ := Int.eq_ofNat_of_zero_le v0
  have c1 : ((2 : Int) ^ (s + t) * h + l) = ((2 ^ (s + t) * h + l : Nat) : Int) := by simp
  have c2 : ((w : Int) * 2 ^ s) = ((w * 2 ^ s : Nat) : Int) := by simp
  have k1 : (l : Int) < ((2 ^ s : Nat) : Int) := by simpa using hl
  have k2 : (w : Int) < ((2 ^ t : Nat) : Int) := by simpa using hv
  have k3 : ((2 ^ (s + t) * h + l : Nat) : Int) < 4294967296 := by rw [← c1]; exact hb
  have k4 : ((w * 2 ^ s : Nat) : Int) < 4294967296 := by rw [← c2]; exact hb2
  rw [c1, c2, or_iI (by omega) (by omega), or_add (by omega) (by omega)]
  simp
theorem or_six {e : Nat → Int} {w m : Nat} {v : Int} (he : ∀ k, 0 ≤ e k ∧ e k < 32) (hm : m < 6) (h0 : e (6 * w + m) = 0) (v0 : 0 ≤ v) (v1 : v < 32) : iI (six e w) ||| iI (v * 2 ^ (5 * m)) = iI (six (st e (6 * w + m) v) w) := by
  have h0' := he (6 * w); have h1 := he (6 * w + 1); have h2 := he (6 * w + 2); have h3 := he (6 * w + 3); have h4 := he (6 * w + 4); have h5 := he (6 * w + 5)
  have n : ∀ j, j ≠ m → st e (6 * w + m) v (6 * w + j) = e (6 * w + j) := fun j hj => by unfold st; rw [if_neg (by omega)]
  have n0 : m ≠ 0 → st e (6 * w + m) v (6 * w) = e (6 * w) := fun hj => n 0 (fun h => hj h.symm)
  have y : st e (6 * w + m) v (6 * w + m) = v := by unfold st; rw [if_pos rfl]
  unfold six
  match m, hm with
  | 0, _ =>
    have h0 : e (6 * w) = 0 := h0
    have y : st e (6 * w + 0) v (6 * w) = v := y
    have := or_i (s := 0) (t := 5) (hi := e (6 * w + 1) + 32 * e (6 * w + 2) + 1024 * e (6 * w + 3) + 32768 * e (6 * w + 4) + 1048576 * e (6 * w + 5)) (lo := 0) (v := v) (by omega) (by decide) v0 (by decide) v1 (by omega) (by omega)
    rw [y, n 1 (by decide), n 2 (by decide), n 3 (by decide), n 4 (by decide), n 5 (by decide), h0]
    refine Eq.trans (congr (congrArg HOr.hOr (congrArg iI ?_)) (congrArg iI ?_)) (this.trans (congrArg iI ?_)) <;> omega
  | 1, _ =>
    have := or_i (s := 5) (t := 5) (hi := e (6 * w + 2) + 32 * e (6 * w + 3) + 1024 * e (6 * w + 4) + 32768 * e (6 * w + 5)) (lo := e (6 * w)) (v := v) (by omega) (by omega) v0 (by omega) v1 (by omega) (by omega)
    rw [y, n0 (by decide), n 2 (by decide), n 3 (by decide), n 4 (by decide), n 5 (by decide), h0]
    refine Eq.trans (congr (congrArg HOr.hOr (congrArg iI ?_)) (congrArg iI ?_)) (this.trans (congrArg iI ?_)) <;> omega
  | 2, _ =>
    have := or_i (s := 10) (t := 5) (hi := e (6 * w + 3) + 32 * e (6 * w + 4) + 1024 * e (6 * w + 5)) (lo := e (6 * w) + 32 * e (6 * w + 1)) (v := v) (by omega) (by omega) v0 (by omega) v1 (by omega) (by omega)
    rw [y, n0 (by decide), n 1 (by decide), n 3 (by decide), n 4 (by decide), n 5 (by decide), h0]
    refine Eq.trans (congr (congrArg HOr.hOr (congrArg iI ?_)) (congrArg iI ?_)) (this.trans (congrArg iI ?_)) <;> omega
  | 3, _ =>
    have := or_i (s := 15) (t := 5) (hi := e (6 * w + 4) + 32 * e (6 * w + 5)) (lo := e (6 * w) + 32 * e (6 * w + 1) + 1024 * e (6 * w + 2)) (v := v) (by omega) (by omega) v0 (by omega) v1 (by omega) (by omega)
    rw [y, n0 (by decide), n 1 (by decide), n 2 (by decide), n 4 (by decide), n 5 (by decide), h0]
    refine Eq.trans (congr (congrArg HOr.hOr (congrArg iI ?_)) (congrArg iI ?_)) (this.trans (congrArg iI ?_)) <;> omega
  | 4, _ =>
    have := or_i (s := 20) (t := 5) (hi := e (6 * w + 5)) (lo := e (6 * w) + 32 * e (6 * w + 1) + 1024 * e (6 * w + 2) + 32768 * e (6 * w + 3)) (v := v) (by omega) (by omega) v0 (by omega) v1 (by omega) (by omega)
    rw [y, n0 (by decide), n 1 (by decide), n 2 (by decide), n 3 (by decide), n 5 (by decide), h0]
    refine Eq.trans (congr (congrArg HOr.hOr (congrArg iI ?_)) (congrArg iI ?_)) (this.trans (congrArg iI ?_)) <;> omega
  | 5, _ =>
    have := or_i (s := 25) (t := 5) (hi := 0) (lo := e (6 * w) + 32 * e (6 * w + 1) + 1024 * e (6 * w + 2) + 32768 * e (6 * w + 3) + 1048576 * e (6 * w + 4)) (v := v) (by decide) (by omega) v0 (by omega) v1 (by omega) (by omega)
    rw [y, n0 (by decide), n 1 (by decide), n 2 (by decide), n 3 (by decide), n 4 (by decide), h0]
    refine Eq.trans (congr (congrArg HOr.hOr (congrArg iI ?_)) (congrArg iI ?_)) (this.trans (congrArg iI ?_)) <;> omega
theorem six_st {e : Nat → Int} {w m w' : Nat} {v : Int} (hm : m < 6) (h : w' ≠ w) : six (st e (6 * w + m) v) w' = six e w' := by
  unfold six st
  rw [if_neg (by omega), if_neg (by omega), if_neg (by omega), if_neg (by omega), if_neg (by omega), if_neg (by omega)]
def hapD (D : Dt) (r : Nat) (v : Int) : Dt := sFl (sE D r (st (gE D r) (gF D r 9).toNat v)) r 9 (gF D r 9 + 1)
section
variable {c : Nat → Option Nat} {h : Hp} {a : Nat} {M : Nat → Nat → Int} {D : Dt} {r i k : Nat}
theorem m_layF (R : MS (M 1) D) (hr : r < 21) {w v : Int} (h0 : 0 ≤ w) (h1 : w < 10) : ∃ M', fX6_lay c (hM h a M) (some a) (iI r) (iI w) (iI v) = some (hM h a M', none) ∧ eqS M M' ∧ MS (M' 1) (sFl D r w.toNat v) := by
  refine ⟨mset M 1 (12 + 86 * r + w.toNat) v, ?_, eqS.put M _ v, ?_⟩
  · rw [m_lay (by omega) (by omega), show (12 + 86 * (r : Int) + w).toNat = 12 + 86 * r + w.toNat by omega]
  · rw [mset_1]; exact MS_F R hr (by omega)
theorem m_happens (R : MS (M 1) D) (G : Rg1 D r) (hr : r < 21) (h9 : gF D r 9 < 24) (h0 : gE D r (gF D r 9).toNat = 0) {v : Int} (v0 : 0 ≤ v) (v1 : v < 32) : ∃ M', fX6_happens c (hM h a M) (some a) (iI r) (iI v) = some (hM h a M', none) ∧ eqS M M' ∧ MS (M' 1) (hapD D r v) := by
  have g := G.1
  obtain ⟨k, hk⟩ := Int.eq_ofNat_of_zero_le g.2.2.1
  have hk' : (gF D r 9).toNat = k := by omega
  rw [hk'] at h0
  have e := (R.2 r hr).2.1 (k / 6) (by omega)
  have o := or_six (e := gE D r) (w := k / 6) (m := k % 6) G.2.2.2 (by omega) (by rw [Nat.div_add_mod]; exact h0) v0 v1
  rw [Nat.div_add_mod] at o
  have R1 : MS (mset M 1 (12 + 86 * r + (10 + k / 6)) (six (st (gE D r) k v) (k / 6)) 1) (sE D r (st (gE D r) k v)) := by
    rw [mset_1]
    refine MS_E R hr (by omega) (fun w' hw' => ?_)
    have := six_st (e := gE D r) (w := k / 6) (m := k % 6) (v := v) (by omega) hw'
    rw [Nat.div_add_mod] at this
    exact this
  refine ⟨mset (mset M 1 (12 + 86 * r + (10 + k / 6)) (six (st (gE D r) k v) (k / 6))) 1 (12 + 86 * r + 9) (k + 1), ?_, (eqS.put M _ _).tr (eqS.put _ _ _), ?_⟩
  · unfold fX6_happens
    simp (maxSteps := 1000000) (disch := omega) only [cc_s, kI_i, kV_n, kR_r, ck_M, rdI_M3, rdI_M7, rdI_M9, rdI_M10, rdI_M11, rdI_M12, rdI_M14, rdR_M1, rdR_M2, rdR_M4, rdR_M5, rdR_M6, rdR_M8, rdR_M13, wr_M0, wr_M3, wr_M7, wr_M9, wr_M10, wr_M11, wr_M12, wr_M14, ald_M1, ald_M2, ald_M3, ald_M5, ald_M6, ald_M7, ast_M1, ast_M2, ast_M3, ast_M5, ast_M6, ast_M7, iI_l, iI_add, iI_sub, iI_mul, iI_neg, dv_i, Int.reduceToNat, m_F R hr, hk, div_i, m_of, shl_i]
    rw [show (12 + 86 * (r : Int) + (10 + k / 6)).toNat = 12 + 86 * r + 10 + k / 6 by omega, e]
    rw [show (5 * ((k : Int) - k / 6 * 6)).toNat = 5 * (k % 6) by omega, o]
    simp (maxSteps := 1000000) (disch := omega) only [cc_s, kI_i, kV_n, kR_r, ck_M, rdI_M3, rdI_M7, rdI_M9, rdI_M10, rdI_M11, rdI_M12, rdI_M14, rdR_M1, rdR_M2, rdR_M4, rdR_M5, rdR_M6, rdR_M8, rdR_M13, wr_M0, wr_M3, wr_M7, wr_M9, wr_M10, wr_M11, wr_M12, wr_M14, ald_M1, ald_M2, ald_M3, ald_M5, ald_M6, ald_M7, ast_M1, ast_M2, ast_M3, ast_M5, ast_M6, ast_M7, iI_l, iI_add, iI_sub, iI_mul, iI_neg, dv_i, Int.reduceToNat, m_lay]
    rw [show (12 + 86 * (r : Int) + (10 + k / 6)).toNat = 12 + 86 * r + (10 + k / 6) by omega, show (12 + 86 * (r : Int) + 9).toNat = 12 + 86 * r + 9 by omega]
  · unfold hapD
    rw [hk', mset_1]
    rw [show gF D r 9 + 1 = (k : Int) + 1 by omega]
    exact MS_F R1 hr (by decide)
theorem m_empties_l (R : MS (M 1) D) (hr : r < 21) : ∀ (m fu k : Nat) (g : Nat → Int), m < fu → k + m = 86 → fX6_empties_2 c fu (hM h a (rset M 1 g)) (some a) (iI r) (iI k) = some (hM h a (rset M 1 (fun j => if 12 + 86 * r + k ≤ j ∧ j < 12 + 86 * r + 86 then 0 else g j)), none) := by
  intro m
  induction m with
  | zero =>
    intro fu k g hf hk
    obtain ⟨f, rfl⟩ : ∃ f, fu = f + 1 := ⟨fu - 1, by omega⟩
    rw [fX6_empties_2]
    simp (maxSteps := 1000000) (disch := omega) only [cc_s, kI_i, kV_n, kR_r, ck_M, rdI_M3, rdI_M7, rdI_M9, rdI_M10, rdI_M11, rdI_M12, rdI_M14, rdR_M1, rdR_M2, rdR_M4, rdR_M5, rdR_M6, rdR_M8, rdR_M13, wr_M0, wr_M3, wr_M7, wr_M9, wr_M10, wr_M11, wr_M12, wr_M14, ald_M1, ald_M2, ald_M3, ald_M5, ald_M6, ald_M7, ast_M1, ast_M2, ast_M3, ast_M5, ast_M6, ast_M7, iI_l, iI_add, iI_sub, iI_mul, iI_neg, dv_i, Int.reduceToNat, lt_i]
    rw [if_neg (by omega)]
    have e : (fun j => if 12 + 86 * r + k ≤ j ∧ j < 12 + 86 * r + 86 then 0 else g j) = g := by
      funext j; rw [if_neg (by omega)]
    rw [e]
  | succ m ih =>
    intro fu k g hf hk
    obtain ⟨f, rfl⟩ : ∃ f, fu = f + 1 := ⟨fu - 1, by omega⟩
    rw [fX6_empties_2]
    simp (maxSteps := 1000000) (disch := omega) only [cc_s, kI_i, kV_n, kR_r, ck_M, rdI_M3, rdI_M7, rdI_M9, rdI_M10, rdI_M11, rdI_M12, rdI_M14, rdR_M1, rdR_M2, rdR_M4, rdR_M5, rdR_M6, rdR_M8, rdR_M13, wr_M0, wr_M3, wr_M7, wr_M9, wr_M10, wr_M11, wr_M12, wr_M14, ald_M1, ald_M2, ald_M3, ald_M5, ald_M6, ald_M7, ast_M1, ast_M2, ast_M3, ast_M5, ast_M6, ast_M7, iI_l, iI_add, iI_sub, iI_mul, iI_neg, dv_i, Int.reduceToNat, lt_i, m_lay, mset_r, iI_k1]
    rw [if_pos (by omega), show (12 + 86 * (r : Int) + k).toNat = 12 + 86 * r + k by omega, ih _ (k + 1) _ (by omega) (by omega)]
    have e : (fun j => if 12 + 86 * r + (k + 1) ≤ j ∧ j < 12 + 86 * r + 86 then 0 else st g (12 + 86 * r + k) 0 j) = (fun j => if 12 + 86 * r + k ≤ j ∧ j < 12 + 86 * r + 86 then 0 else g j) := by
      funext j
      unfold st
      by_cases q : j = 12 + 86 * r + k
      · rw [if_neg (by omega), if_pos q, if_pos (by omega)]
      · by_cases q2 : 12 + 86 * r + k ≤ j ∧ j < 12 + 86 * r + 86
        · rw [if_pos (by omega), if_pos q2]
        · rw [if_neg (by omega), if_neg q, if_neg q2]
    rw [e]
theorem eqS.row (M : Nat → Nat → Int) (g : Nat → Int) : eqS M (rset M 1 g) := ⟨fun p h1 _ _ _ => rset_ne h1, by rw [rset_ne (by decide)], by rw [rset_ne (by decide)]⟩
theorem m_empties (R : MS (M 1) D) (hr : r < 21) : ∃ M', fX6_empties c (hM h a M) (some a) (iI r) = some (hM h a M', none) ∧ eqS M M' ∧ MS (M' 1) (emD D r) := by
  have := m_empties_l (c := c) (h := h) (a := a) R hr 86 FU 0 (M 1) (by decide) (by decide)
  rw [rset_self] at this
  refine ⟨rset M 1 (fun j => if 12 + 86 * r + 0 ≤ j ∧ j < 12 + 86 * r + 86 then 0 else M 1 j), ?_, eqS.row M _, ?_⟩
  · unfold fX6_empties
    simp (maxSteps := 1000000) (disch := omega) only [cc_s, kI_i, kV_n, kR_r, ck_M, rdI_M3, rdI_M7, rdI_M9, rdI_M10, rdI_M11, rdI_M12, rdI_M14, rdR_M1, rdR_M2, rdR_M4, rdR_M5, rdR_M6, rdR_M8, rdR_M13, wr_M0, wr_M3, wr_M7, wr_M9, wr_M10, wr_M11, wr_M12, wr_M14, ald_M1, ald_M2, ald_M3, ald_M5, ald_M6, ald_M7, ast_M1, ast_M2, ast_M3, ast_M5, ast_M6, ast_M7, iI_l, iI_add, iI_sub, iI_mul, iI_neg, dv_i, Int.reduceToNat]
    exact this
  · rw [rset_eq]; exact MS_em R hr (fun j => rfl)
theorem m_freeRecord_l (R : MS (M 1) D) (GF : RgF D) : ∀ (m fu k : Nat), m < fu → k + m ≤ 21 → fF (fun r => decide (gF D r 0 ≤ 0)) k m ≠ -6 → fX6_freeRecord_2 c fu (hM h a M) (some a) (iI k) = some (hM h a M, some (.inl (iI (fF (fun r => decide (gF D r 0 ≤ 0)) k m)))) := by
  intro m
  induction m with
  | zero => intro fu k hf hk hn; exact absurd rfl hn
  | succ m ih =>
    intro fu k hf hk hn
    obtain ⟨f, rfl⟩ : ∃ f, fu = f + 1 := ⟨fu - 1, by omega⟩
    have g0 := GF k (by omega) 0 (by decide)
    rw [fX6_freeRecord_2]
    simp (maxSteps := 1000000) (disch := omega) only [cc_s, kI_i, kV_n, kR_r, ck_M, rdI_M3, rdI_M7, rdI_M9, rdI_M10, rdI_M11, rdI_M12, rdI_M14, rdR_M1, rdR_M2, rdR_M4, rdR_M5, rdR_M6, rdR_M8, rdR_M13, wr_M0, wr_M3, wr_M7, wr_M9, wr_M10, wr_M11, wr_M12, wr_M14, ald_M1, ald_M2, ald_M3, ald_M5, ald_M6, ald_M7, ast_M1, ast_M2, ast_M3, ast_M5, ast_M6, ast_M7, iI_l, iI_add, iI_sub, iI_mul, iI_neg, dv_i, Int.reduceToNat, m_F R (r := k), lt_i, iI_k1]
    by_cases e : 0 < gF D k 0
    · have e' : fF (fun r => decide (gF D r 0 ≤ 0)) k (m + 1) = fF (fun r => decide (gF D r 0 ≤ 0)) (k + 1) m := by
        rw [fF, if_neg (by simp; omega)]
      rw [if_pos e, e']
      rw [e'] at hn
      exact ih f (k + 1) (by omega) (by omega) hn
    · rw [if_neg e, fF, if_pos (by simp; omega)]
def freeI (D : Dt) : Int := fF (fun r => decide (gF D r 0 ≤ 0)) 3 18
theorem m_freeRecord (R : MS (M 1) D) (GF : RgF D) (hn : freeI D ≠ -6) : fX6_freeRecord c (hM h a M) (some a) = some (hM h a M, some (.inl (iI (freeI D)))) := by
  unfold fX6_freeRecord
  simp (maxSteps := 1000000) (disch := omega) only [cc_s, kI_i, kV_n, kR_r, ck_M, rdI_M3, rdI_M7, rdI_M9, rdI_M10, rdI_M11, rdI_M12, rdI_M14, rdR_M1, rdR_M2, rdR_M4, rdR_M5, rdR_M6, rdR_M8, rdR_M13, wr_M0, wr_M3, wr_M7, wr_M9, wr_M10, wr_M11, wr_M12, wr_M14, ald_M1, ald_M2, ald_M3, ald_M5, ald_M6, ald_M7, ast_M1, ast_M2, ast_M3, ast_M5, ast_M6, ast_M7, iI_l, iI_add, iI_sub, iI_mul, iI_neg, dv_i, Int.reduceToNat]
  exact m_freeRecord_l R GF 18 FU 3 (by decide) (by decide) hn
/-- of those that are done the one that was so first -/
def olL (D : Dt) : Nat → Nat → Int → Int
  | _, 0, o => o
  | k, m + 1, o => olL D (k + 1) m (if hwP D 2 k = true ∧ (o = -6 ∨ gF D k 7 < gF D o.toNat 7) then (k : Int) else o)
def olI (D : Dt) : Int := olL D 3 18 (-6)
def fgD (D : Dt) : Dt := if 8 < manyI D 2 then emD D (olI D).toNat else D
def endD (D : Dt) (r : Nat) : Dt := fgD (sFl (sFl (sFl (sT D 5 (gT D 5 + 1)) r 3 2) r 6 (gT D 3)) r 7 (gT D 5 + 1))
theorem manyI_bd (D : Dt) (w : Int) : 0 ≤ manyI D w ∧ manyI D w ≤ 18 := by
  have := sF_bd (f := fun r => bI (hwP D w r = true)) (b := 1) 18 3 (fun i _ _ => by rcases bI_c (p := hwP D w i = true) with h | h <;> simp only [h] <;> decide)
  unfold manyI; omega
theorem olL_some {D : Dt} : ∀ (m k : Nat) (o : Int), 3 ≤ k → k + m = 21 → (o ≠ -6 → 3 ≤ o ∧ o < 21) → (olL D k m o ≠ -6 → 3 ≤ olL D k m o ∧ olL D k m o < 21) ∧ (0 < sF (fun r => bI (hwP D 2 r = true)) k m ∨ o ≠ -6 → olL D k m o ≠ -6)
  | 0, k, o, _, _, ho => ⟨ho, fun h => by rcases h with h | h; simp [sF] at h; exact h⟩
  | m + 1, k, o, h3, hk, ho => by
    rw [olL, sF]
    by_cases e : hwP D 2 k = true ∧ (o = -6 ∨ gF D k 7 < gF D o.toNat 7)
    · rw [if_pos e]
      have := olL_some (D := D) m (k + 1) k (by omega) (by omega) (fun _ => by omega)
      exact ⟨this.1, fun _ => this.2 (Or.inr (by omega))⟩
    · rw [if_neg e]
      have := olL_some (D := D) m (k + 1) o (by omega) (by omega) ho
      refine ⟨this.1, fun h => ?_⟩
      by_cases e1 : hwP D 2 k = true
      · exact this.2 (Or.inr (fun h6 => e ⟨e1, Or.inl h6⟩))
      · rw [bI_f e1] at h
        exact this.2 (by omega)
theorem m_forgets_l (GF : RgF D) (R : MS (M 1) D) : ∀ (m fu k : Nat) (o : Int), m < fu → k + m = 21 → 3 ≤ k → (o = -6 ∨ (3 ≤ o ∧ o < 21)) → (8 < manyI D 2 → olL D k m o ≠ -6) → ∃ M', fX6_forgets_5 c fu (hM h a M) (some a) (iI o) (iI k) = some (hM h a M', none) ∧ eqS M M' ∧ MS (M' 1) (if 8 < manyI D 2 then emD D (olL D k m o).toNat else D) := by
  intro m
  induction m with
  | zero =>
    intro fu k o hf hk h3 ho hn
    obtain ⟨f, rfl⟩ : ∃ f, fu = f + 1 := ⟨fu - 1, by omega⟩
    have b := manyI_bd D 2
    rw [fX6_forgets_5]
    unfold fX6_forgets_80
    simp (maxSteps := 1000000) (disch := omega) only [cc_s, kI_i, kV_n, kR_r, ck_M, rdI_M3, rdI_M7, rdI_M9, rdI_M10, rdI_M11, rdI_M12, rdI_M14, rdR_M1, rdR_M2, rdR_M4, rdR_M5, rdR_M6, rdR_M8, rdR_M13, wr_M0, wr_M3, wr_M7, wr_M9, wr_M10, wr_M11, wr_M12, wr_M14, ald_M1, ald_M2, ald_M3, ald_M5, ald_M6, ald_M7, ast_M1, ast_M2, ast_M3, ast_M5, ast_M6, ast_M7, iI_l, iI_add, iI_sub, iI_mul, iI_neg, dv_i, Int.reduceToNat, lt_i, m_manyHow R GF]
    rw [if_neg (by omega)]
    by_cases e : 8 < manyI D 2
    · have ho' : 3 ≤ o ∧ o < 21 := by
        rcases ho with h | h
        · exact absurd h (hn e)
        · exact h
      obtain ⟨q, rfl⟩ := Int.eq_ofNat_of_zero_le (show 0 ≤ o by omega)
      obtain ⟨M', e1, e2, e3⟩ := m_empties (c := c) (h := h) (a := a) R (show q < 21 by omega)
      refine ⟨M', ?_, e2, ?_⟩
      · rw [if_pos e, e1]; simp (maxSteps := 1000000) (disch := omega) only [cc_s, kI_i, kV_n, kR_r, ck_M, rdI_M3, rdI_M7, rdI_M9, rdI_M10, rdI_M11, rdI_M12, rdI_M14, rdR_M1, rdR_M2, rdR_M4, rdR_M5, rdR_M6, rdR_M8, rdR_M13, wr_M0, wr_M3, wr_M7, wr_M9, wr_M10, wr_M11, wr_M12, wr_M14, ald_M1, ald_M2, ald_M3, ald_M5, ald_M6, ald_M7, ast_M1, ast_M2, ast_M3, ast_M5, ast_M6, ast_M7, iI_l, iI_add, iI_sub, iI_mul, iI_neg, dv_i, Int.reduceToNat]
      · rw [if_pos e]; exact e3
    · exact ⟨M, by rw [if_neg e], eqS.rf M, by rw [if_neg e]; exact R⟩
  | succ m ih =>
    intro fu k o hf hk h3 ho hn
    obtain ⟨f, rfl⟩ : ∃ f, fu = f + 1 := ⟨fu - 1, by omega⟩
    have hk21 : k < 21 := by omega
    have g7 := GF k hk21 7 (by decide)
    have i1 := ih f (k + 1) k (by omega) (by omega) (by omega) (Or.inr (by omega))
    have i2 := ih f (k + 1) o (by omega) (by omega) (by omega) ho
    rw [fX6_forgets_5]
    unfold fX6_forgets_43 fX6_forgets_47 fX6_forgets_48 fX6_forgets_58
    simp (maxSteps := 1000000) (disch := omega) only [cc_s, kI_i, kV_n, kR_r, ck_M, rdI_M3, rdI_M7, rdI_M9, rdI_M10, rdI_M11, rdI_M12, rdI_M14, rdR_M1, rdR_M2, rdR_M4, rdR_M5, rdR_M6, rdR_M8, rdR_M13, wr_M0, wr_M3, wr_M7, wr_M9, wr_M10, wr_M11, wr_M12, wr_M14, ald_M1, ald_M2, ald_M3, ald_M5, ald_M6, ald_M7, ast_M1, ast_M2, ast_M3, ast_M5, ast_M6, ast_M7, iI_l, iI_add, iI_sub, iI_mul, iI_neg, dv_i, Int.reduceToNat, lt_i, m_isHow R GF (r := k), bI_0, iI_k1]
    rw [if_pos (by omega)]
    rw [olL] at hn ⊢
    have i10 : (iI 1 = iI 0) = False := eq_false (by decide)
    simp only [i10, if_true, if_false]
    by_cases e1 : hwP D 2 k = true
    · rw [if_neg (fun h => h e1)]
      by_cases e2 : o = -6
      · subst e2
        rw [if_pos (show iI (-6) = iI (-6) from rfl)]
        have e4 : hwP D 2 k = true ∧ ((-6 : Int) = -6 ∨ gF D k 7 < gF D (-6 : Int).toNat 7) := ⟨e1, Or.inl rfl⟩
        rw [if_pos e4] at hn ⊢
        exact i1 hn
      · have ho' : 3 ≤ o ∧ o < 21 := by
          rcases ho with h | h
          · exact absurd h e2
          · exact h
        obtain ⟨q, rfl⟩ := Int.eq_ofNat_of_zero_le (show 0 ≤ o by omega)
        have gq := GF q (by omega) 7 (by decide)
        simp (maxSteps := 1000000) (disch := omega) only [cc_s, kI_i, kV_n, kR_r, ck_M, rdI_M3, rdI_M7, rdI_M9, rdI_M10, rdI_M11, rdI_M12, rdI_M14, rdR_M1, rdR_M2, rdR_M4, rdR_M5, rdR_M6, rdR_M8, rdR_M13, wr_M0, wr_M3, wr_M7, wr_M9, wr_M10, wr_M11, wr_M12, wr_M14, ald_M1, ald_M2, ald_M3, ald_M5, ald_M6, ald_M7, ast_M1, ast_M2, ast_M3, ast_M5, ast_M6, ast_M7, iI_l, iI_add, iI_sub, iI_mul, iI_neg, dv_i, Int.reduceToNat, eq_i, m_F R (r := k), m_F R (r := q), lt_i]
        rw [if_neg e2]
        rw [Int.toNat_natCast] at hn ⊢
        by_cases e3 : gF D k 7 < gF D q 7
        · rw [if_pos e3]
          have e4 : hwP D 2 k = true ∧ ((q : Int) = -6 ∨ gF D k 7 < gF D q 7) := ⟨e1, Or.inr e3⟩
          rw [if_pos e4] at hn ⊢
          exact i1 hn
        · rw [if_neg e3]
          have e4 : ¬ (hwP D 2 k = true ∧ ((q : Int) = -6 ∨ gF D k 7 < gF D q 7)) := by
            rintro ⟨-, h | h⟩
            · exact e2 h
            · exact e3 h
          rw [if_neg e4] at hn ⊢
          exact i2 hn
    · rw [if_pos e1]
      have e4 : ¬ (hwP D 2 k = true ∧ (o = -6 ∨ gF D k 7 < gF D o.toNat 7)) := fun h => e1 h.1
      rw [if_neg e4] at hn ⊢
      exact i2 hn
theorem m_forgets (GF : RgF D) (R : MS (M 1) D) : ∃ M', fX6_forgets c (hM h a M) (some a) = some (hM h a M', none) ∧ eqS M M' ∧ MS (M' 1) (fgD D) := by
  unfold fX6_forgets
  simp (maxSteps := 1000000) (disch := omega) only [cc_s, kI_i, kV_n, kR_r, ck_M, rdI_M3, rdI_M7, rdI_M9, rdI_M10, rdI_M11, rdI_M12, rdI_M14, rdR_M1, rdR_M2, rdR_M4, rdR_M5, rdR_M6, rdR_M8, rdR_M13, wr_M0, wr_M3, wr_M7, wr_M9, wr_M10, wr_M11, wr_M12, wr_M14, ald_M1, ald_M2, ald_M3, ald_M5, ald_M6, ald_M7, ast_M1, ast_M2, ast_M3, ast_M5, ast_M6, ast_M7, iI_l, iI_add, iI_sub, iI_mul, iI_neg, dv_i, Int.reduceToNat]
  exact m_forgets_l GF R 18 FU 3 (-6) (by decide) (by decide) (by decide) (Or.inl rfl) (fun h => (olL_some 18 3 (-6) (by decide) (by decide) (fun h => absurd rfl h)).2 (Or.inl (by unfold manyI at h; omega)))
end
