/-! the pad, ring -/
def stnd (p : Nat → Int) (k : Nat) : Prop := if 97 ≤ p k ∧ p k ≤ 122 then k < 30 else p k = 95 ∧ 0 < k ∧ k < 29 ∧ p (k - 1) ≠ 95
def stB (p : Nat → Int) (k : Nat) : Bool := if 97 ≤ p k ∧ p k ≤ 122 then decide (k < 30) else decide (p k = 95 ∧ 0 < k ∧ k < 29 ∧ p (k - 1) ≠ 95)
def flL (p : Nat → Int) (len : Nat) : Nat → Nat → Int
  | _, 0 => if len = 0 ∨ p (len - 1) = 95 then len else -6
  | k, m + 1 => if stB p k = true then flL p len (k + 1) m else k
def flI (Z : Zt) : Int := flL (zp Z) (zl Z) 0 (zl Z)
/-- the pad's signs -/
def OkP (Z : Zt) : Prop := ∀ j, j < zl Z → 33 ≤ zp Z j ∧ zp Z j ≤ 126
def zPad (Z : Zt) (l : Nat) (p : Nat → Int) : Zt := (Z.1, Z.2.1, Z.2.2.1, Z.2.2.2.1, Z.2.2.2.2.1, l, p)
theorem MZ_pad {M : Nat → Nat → Int} {Z : Zt} {l : Nat} (R : MZ M Z) (hl : l ≤ zl Z) : MZ (mset M 0 7 l) (zPad Z l (zp Z)) := by
  obtain ⟨h1, h2, h3, h4, h5, h6, h7⟩ := R
  refine ⟨by rw [mset_ne (by decide)]; exact h1, ⟨by rw [mset_at, if_neg (by decide)]; exact h2.1, h2.2⟩, fun k hk => by rw [mset_ne (by decide)]; exact h3 k hk, fun i hi => by rw [mset_ne (by decide)]; exact h4 i hi, fun i hi e => by rw [mset_ne (by decide)]; exact h5 i hi e, ⟨by rw [mset_at, if_pos rfl]; rfl, by show l ≤ 80; omega⟩, fun j hj => by rw [mset_ne (by decide)]; exact h7 j (by have : j < l := hj; omega)⟩
def cod (x : Int) : Int := if x = 95 then 27 else x - 97 + 1
def nmK (p : Nat → Int) (k : Nat) : Nat → Int := fun j => if j < k then cod (p j) else 0
theorem sN_sN (D : Dt) (r i : Nat) (n n' : Nat → Int) : sN (sN D r i n) r i n' = sN D r i n' := by
  unfold sN
  have : (fun q j => if q = r ∧ j = i then n' else (fun q j => if q = r ∧ j = i then n else D.2.2.2.1 q j) q j) = (fun q j => if q = r ∧ j = i then n' else D.2.2.2.1 q j) := by
    funext q j
    by_cases e : q = r ∧ j = i
    · rw [if_pos e, if_pos e]
    · rw [if_neg e, if_neg e]; dsimp only; rw [if_neg e]
  dsimp only at this ⊢
  rw [this]
theorem sN_self (D : Dt) (r i : Nat) : sN D r i (gN' D r i) = D := by
  unfold sN
  have : (fun q j => if q = r ∧ j = i then gN' D r i else D.2.2.2.1 q j) = D.2.2.2.1 := by
    funext q j
    by_cases e : q = r ∧ j = i
    · rw [if_pos e, e.1, e.2]; rfl
    · rw [if_neg e]
  rw [this]
section
variable {c : Nat → Option Nat} {h : Hp} {a : Nat} {M : Nat → Nat → Int} {Z : Zt} {D : Dt}
theorem m_canStand (R : MZ M Z) (P : OkP Z) {k : Nat} (hk : k < zl Z) : fX6_canStand c (hM h a M) (some a) (iI k) = some (hM h a M, some (.inl (iI (bI (stB (zp Z) k = true))))) := by
  obtain ⟨-, -, -, -, -, h6, h7⟩ := R
  have p := P k hk
  have e := h7 k hk
  unfold fX6_canStand fX6_canStand_66 fX6_canStand_67 fX6_canStand_27
  simp (maxSteps := 1000000) (disch := omega) only [cc_s, kI_i, kV_n, kR_r, ck_M, rdI_M3, rdI_M7, rdI_M9, rdI_M10, rdI_M11, rdI_M12, rdI_M14, rdR_M1, rdR_M2, rdR_M4, rdR_M5, rdR_M6, rdR_M8, rdR_M13, wr_M0, wr_M3, wr_M7, wr_M9, wr_M10, wr_M11, wr_M12, wr_M14, ald_M1, ald_M2, ald_M3, ald_M5, ald_M6, ald_M7, ast_M1, ast_M2, ast_M3, ast_M5, ast_M6, ast_M7, iI_l, iI_add, iI_sub, iI_mul, iI_neg, dv_i, Int.reduceToNat, Int.toNat_natCast, e, m_in, bI_0, lt_i, eq_i, rt_0, rt_1]
  by_cases h1 : 97 ≤ zp Z k ∧ zp Z k ≤ 122
  · rw [if_neg (fun h => h h1)]
    by_cases h2 : (k : Int) < 30
    · rw [if_pos h2]; exact ret_c (bI_t (by unfold stB; rw [if_pos h1]; exact decide_eq_true (by omega))).symm
    · rw [if_neg h2]; exact ret_c (bI_f (by unfold stB; rw [if_pos h1, decide_eq_true_eq]; omega)).symm
  · rw [if_pos h1]
    have nb : ∀ {q : Prop} [Decidable q], (stB (zp Z) k = true ↔ (zp Z k = 95 ∧ 0 < k ∧ k < 29 ∧ zp Z (k - 1) ≠ 95)) := by
      intro _ _; unfold stB; rw [if_neg h1, decide_eq_true_eq]
    have nb' := nb (q := True)
    by_cases h2 : zp Z k = 95
    · rw [if_pos h2]
      by_cases h3 : (0 : Int) < k
      · rw [if_pos h3]
        by_cases h4 : (k : Int) < 29
        · rw [if_pos h4]
          have p' := P (k - 1) (by omega)
          have e' := h7 (k - 1) (by omega)
          simp (maxSteps := 1000000) (disch := omega) only [cc_s, kI_i, kV_n, kR_r, ck_M, rdI_M3, rdI_M7, rdI_M9, rdI_M10, rdI_M11, rdI_M12, rdI_M14, rdR_M1, rdR_M2, rdR_M4, rdR_M5, rdR_M6, rdR_M8, rdR_M13, wr_M0, wr_M3, wr_M7, wr_M9, wr_M10, wr_M11, wr_M12, wr_M14, ald_M1, ald_M2, ald_M3, ald_M5, ald_M6, ald_M7, ast_M1, ast_M2, ast_M3, ast_M5, ast_M6, ast_M7, iI_l, iI_add, iI_sub, iI_mul, iI_neg, dv_i, Int.reduceToNat, show ((k : Int) - 1).toNat = k - 1 by omega, e', eq_i]
          by_cases h5 : zp Z (k - 1) = 95
          · rw [if_pos h5]; exact ret_c (bI_f (fun h => (nb'.mp h).2.2.2 h5)).symm
          · rw [if_neg h5]; exact ret_c (bI_t (nb'.mpr ⟨h2, by omega, by omega, h5⟩)).symm
        · rw [if_neg h4]; exact ret_c (bI_f (fun h => by have := nb'.mp h; omega)).symm
      · rw [if_neg h3]; exact ret_c (bI_f (fun h => by have := nb'.mp h; omega)).symm
    · rw [if_neg h2]; exact ret_c (bI_f (fun h => h2 (nb'.mp h).1)).symm
theorem m_faultAt_l (R : MZ M Z) (P : OkP Z) : ∀ (m fu k : Nat), m < fu → k + m = zl Z → fX6_faultAt_2 c fu (hM h a M) (some a) (iI k) = some (hM h a M, some (.inl (iI (flL (zp Z) (zl Z) k m)))) := by
  have h6 := R.2.2.2.2.2.1
  have h7 := R.2.2.2.2.2.2
  intro m
  induction m with
  | zero =>
    intro fu k hf hk
    obtain ⟨f, rfl⟩ : ∃ f, fu = f + 1 := ⟨fu - 1, by omega⟩
    rw [fX6_faultAt_2]
    unfold fX6_faultAt_49 fX6_faultAt_58
    simp (maxSteps := 1000000) (disch := omega) only [cc_s, kI_i, kV_n, kR_r, ck_M, rdI_M3, rdI_M7, rdI_M9, rdI_M10, rdI_M11, rdI_M12, rdI_M14, rdR_M1, rdR_M2, rdR_M4, rdR_M5, rdR_M6, rdR_M8, rdR_M13, wr_M0, wr_M3, wr_M7, wr_M9, wr_M10, wr_M11, wr_M12, wr_M14, ald_M1, ald_M2, ald_M3, ald_M5, ald_M6, ald_M7, ast_M1, ast_M2, ast_M3, ast_M5, ast_M6, ast_M7, iI_l, iI_add, iI_sub, iI_mul, iI_neg, dv_i, Int.reduceToNat, h6.1, lt_i, eq_i]
    rw [if_neg (by omega)]
    by_cases e : (zl Z : Int) = 0
    · rw [if_pos e]
      exact ret_c (by rw [flL, if_pos (Or.inl (by omega))])
    · rw [if_neg e]
      have p' := P (zl Z - 1) (by omega)
      have e' := h7 (zl Z - 1) (by omega)
      simp (maxSteps := 1000000) (disch := omega) only [cc_s, kI_i, kV_n, kR_r, ck_M, rdI_M3, rdI_M7, rdI_M9, rdI_M10, rdI_M11, rdI_M12, rdI_M14, rdR_M1, rdR_M2, rdR_M4, rdR_M5, rdR_M6, rdR_M8, rdR_M13, wr_M0, wr_M3, wr_M7, wr_M9, wr_M10, wr_M11, wr_M12, wr_M14, ald_M1, ald_M2, ald_M3, ald_M5, ald_M6, ald_M7, ast_M1, ast_M2, ast_M3, ast_M5, ast_M6, ast_M7, iI_l, iI_add, iI_sub, iI_mul, iI_neg, dv_i, Int.reduceToNat, show ((zl Z : Int) - 1).toNat = zl Z - 1 by omega, e', eq_i]
      by_cases h5 : zp Z (zl Z - 1) = 95
      · rw [if_pos h5]; exact ret_c (by rw [flL, if_pos (Or.inr h5)])
      · rw [if_neg h5]; exact ret_c (by rw [flL, if_neg (by rintro (h | h); omega; exact h5 h)])
  | succ m ih =>
    intro fu k hf hk
    obtain ⟨f, rfl⟩ : ∃ f, fu = f + 1 := ⟨fu - 1, by omega⟩
    rw [fX6_faultAt_2]
    simp (maxSteps := 1000000) (disch := omega) only [cc_s, kI_i, kV_n, kR_r, ck_M, rdI_M3, rdI_M7, rdI_M9, rdI_M10, rdI_M11, rdI_M12, rdI_M14, rdR_M1, rdR_M2, rdR_M4, rdR_M5, rdR_M6, rdR_M8, rdR_M13, wr_M0, wr_M3, wr_M7, wr_M9, wr_M10, wr_M11, wr_M12, wr_M14, ald_M1, ald_M2, ald_M3, ald_M5, ald_M6, ald_M7, ast_M1, ast_M2, ast_M3, ast_M5, ast_M6, ast_M7, iI_l, iI_add, iI_sub, iI_mul, iI_neg, dv_i, Int.reduceToNat, h6.1, lt_i, m_canStand R P (k := k), bI_0, iI_k1]
    rw [if_pos (by omega), flL]
    by_cases e : stB (zp Z) k = true
    · rw [if_neg (fun h => h e), if_pos e]
      exact ih f (k + 1) (by omega) (by omega)
    · rw [if_pos e, if_neg e]
theorem m_faultAt (R : MZ M Z) (P : OkP Z) : fX6_faultAt c (hM h a M) (some a) = some (hM h a M, some (.inl (iI (flI Z)))) := by
  have h6 := R.2.2.2.2.2.1
  unfold fX6_faultAt
  simp (maxSteps := 1000000) (disch := omega) only [cc_s, kI_i, kV_n, kR_r, ck_M, rdI_M3, rdI_M7, rdI_M9, rdI_M10, rdI_M11, rdI_M12, rdI_M14, rdR_M1, rdR_M2, rdR_M4, rdR_M5, rdR_M6, rdR_M8, rdR_M13, wr_M0, wr_M3, wr_M7, wr_M9, wr_M10, wr_M11, wr_M12, wr_M14, ald_M1, ald_M2, ald_M3, ald_M5, ald_M6, ald_M7, ast_M1, ast_M2, ast_M3, ast_M5, ast_M6, ast_M7, iI_l, iI_add, iI_sub, iI_mul, iI_neg, dv_i, Int.reduceToNat]
  exact m_faultAt_l R P (zl Z) FU 0 (by show zl Z < 20000; omega) (by omega)
theorem m_fault (R : MZ M Z) (P : OkP Z) : ∃ M', fX6_fault c (hM h a M) (some a) = some (hM h a M', some (.inl (iI (flI Z)))) ∧ MZ M' Z := by
  refine ⟨_, ?_, MZ_0 (v := 0) R⟩
  unfold fX6_fault
  simp (maxSteps := 1000000) (disch := omega) only [cc_s, kI_i, kV_n, kR_r, ck_M, rdI_M3, rdI_M7, rdI_M9, rdI_M10, rdI_M11, rdI_M12, rdI_M14, rdR_M1, rdR_M2, rdR_M4, rdR_M5, rdR_M6, rdR_M8, rdR_M13, wr_M0, wr_M3, wr_M7, wr_M9, wr_M10, wr_M11, wr_M12, wr_M14, ald_M1, ald_M2, ald_M3, ald_M5, ald_M6, ald_M7, ast_M1, ast_M2, ast_M3, ast_M5, ast_M6, ast_M7, iI_l, iI_add, iI_sub, iI_mul, iI_neg, dv_i, Int.reduceToNat, m_faultAt (MZ_0 (v := 0) R) P]
theorem m_wipe (R : MZ M Z) : ∃ M', fX6_wipe c (hM h a M) (some a) = some (hM h a M', some (.inl (iI (zl Z)))) ∧ MZ M' (zPad Z 0 (zp Z)) := by
  have R0 := MZ_0 (v := 0) R
  have e : mset M 0 0 0 0 7 = zl Z := R0.2.2.2.2.2.1.1
  refine ⟨mset (mset M 0 0 0) 0 7 0, ?_, MZ_pad R0 (Nat.zero_le _)⟩
  unfold fX6_wipe
  simp (maxSteps := 1000000) (disch := omega) only [cc_s, kI_i, kV_n, kR_r, ck_M, rdI_M3, rdI_M7, rdI_M9, rdI_M10, rdI_M11, rdI_M12, rdI_M14, rdR_M1, rdR_M2, rdR_M4, rdR_M5, rdR_M6, rdR_M8, rdR_M13, wr_M0, wr_M3, wr_M7, wr_M9, wr_M10, wr_M11, wr_M12, wr_M14, ald_M1, ald_M2, ald_M3, ald_M5, ald_M6, ald_M7, ast_M1, ast_M2, ast_M3, ast_M5, ast_M6, ast_M7, iI_l, iI_add, iI_sub, iI_mul, iI_neg, dv_i, Int.reduceToNat, e]
theorem m_packs_l (hl : M 0 7 = zl Z ∧ zl Z ≤ 30) (hp : ∀ j, j < zl Z → M 5 j = zp Z j) (P : OkP Z) (hc : ∀ j, j < zl Z → 0 ≤ cod (zp Z j) ∧ cod (zp Z j) < 32) {r i : Nat} (hr : r < 21) (hi : i < 12) : ∀ (m fu k : Nat) (M1 : Nat → Nat → Int), m < fu → k + m = zl Z → eqS M M1 → MS (M1 1) (sN D r i (nmK (zp Z) k)) → ∃ M', fX6_packsName_2 c fu (hM h a M1) (some a) (iI r) (iI i) (iI k) = some (hM h a M', none) ∧ eqS M M' ∧ MS (M' 1) (sN D r i (nmK (zp Z) (zl Z))) := by
  intro m
  induction m with
  | zero =>
    intro fu k M1 hf hk q R
    obtain ⟨f, rfl⟩ : ∃ f, fu = f + 1 := ⟨fu - 1, by omega⟩
    refine ⟨M1, ?_, q, by rw [show zl Z = k by omega]; exact R⟩
    have e7 : M1 0 7 = zl Z := q.2.2.trans hl.1
    rw [fX6_packsName_2]
    simp (maxSteps := 1000000) (disch := omega) only [cc_s, kI_i, kV_n, kR_r, ck_M, rdI_M3, rdI_M7, rdI_M9, rdI_M10, rdI_M11, rdI_M12, rdI_M14, rdR_M1, rdR_M2, rdR_M4, rdR_M5, rdR_M6, rdR_M8, rdR_M13, wr_M0, wr_M3, wr_M7, wr_M9, wr_M10, wr_M11, wr_M12, wr_M14, ald_M1, ald_M2, ald_M3, ald_M5, ald_M6, ald_M7, ast_M1, ast_M2, ast_M3, ast_M5, ast_M6, ast_M7, iI_l, iI_add, iI_sub, iI_mul, iI_neg, dv_i, Int.reduceToNat, e7, lt_i]
    rw [if_neg (by omega)]
  | succ m ih =>
    intro fu k M1 hf hk q R
    obtain ⟨f, rfl⟩ : ∃ f, fu = f + 1 := ⟨fu - 1, by omega⟩
    have e7 : M1 0 7 = zl Z := q.2.2.trans hl.1
    have e5 : M1 5 k = zp Z k := by rw [q.1 5 (by decide) (by decide) (by decide) (by decide)]; exact hp k (by omega)
    have p := P k (by omega)
    have cc1 := hc k (by omega)
    have nb : ∀ j, 0 ≤ nmK (zp Z) k j ∧ nmK (zp Z) k j < 32 := by
      intro j; unfold nmK
      by_cases e : j < k
      · rw [if_pos e]; exact hc j (by omega)
      · rw [if_neg e]; decide
    have gN : gN' (sN D r i (nmK (zp Z) k)) r i = nmK (zp Z) k := by
      show (if r = r ∧ i = i then _ else _) = _
      rw [if_pos ⟨rfl, rfl⟩]
    have e := ((R.2 r hr).2.2 i hi).2 (k / 6) (by omega)
    rw [gN] at e
    have z0 : nmK (zp Z) k (6 * (k / 6) + k % 6) = 0 := by rw [Nat.div_add_mod]; unfold nmK; rw [if_neg (by omega)]
    have o := or_six (e := nmK (zp Z) k) (w := k / 6) (m := k % 6) nb (by omega) z0 cc1.1 cc1.2
    rw [Nat.div_add_mod] at o
    have en : st (nmK (zp Z) k) k (cod (zp Z k)) = nmK (zp Z) (k + 1) := by
      funext j; unfold st nmK
      by_cases e1 : j = k
      · rw [if_pos e1, if_pos (by omega), e1]
      · rw [if_neg e1]
        by_cases e2 : j < k
        · rw [if_pos e2, if_pos (by omega)]
        · rw [if_neg e2, if_neg (by omega)]
    rw [en] at o
    have R2 : MS (mset M1 1 (12 + 86 * r + (15 + 6 * i + k / 6)) (six (nmK (zp Z) (k + 1)) (k / 6)) 1) (sN D r i (nmK (zp Z) (k + 1))) := by
      rw [mset_1, ← sN_sN D r i (nmK (zp Z) k)]
      refine MS_N R hr hi (by omega) (fun w' hw' => ?_)
      have := six_st (e := nmK (zp Z) k) (w := k / 6) (m := k % 6) (v := cod (zp Z k)) (by omega) hw'
      rw [Nat.div_add_mod, en] at this
      rw [gN]; exact this
    obtain ⟨M', g1, g2, g3⟩ := ih f (k + 1) _ (by omega) (by omega) (q.tr (eqS.put M1 _ _)) R2
    refine ⟨M', ?_, g2, g3⟩
    have body : ∀ v : Int, v = cod (zp Z k) → fX6_packsName_53 c (fX6_packsName_2 c f) (hM h a M1) (some a) (iI r) (iI i) (iI k) (iI (14 + 6 * i + 1 + k / 6)) (iI v) = some (hM h a M', none) := by
      intro v hv
      subst hv
      unfold fX6_packsName_53
      simp (maxSteps := 1000000) (disch := omega) only [cc_s, kI_i, kV_n, kR_r, ck_M, rdI_M3, rdI_M7, rdI_M9, rdI_M10, rdI_M11, rdI_M12, rdI_M14, rdR_M1, rdR_M2, rdR_M4, rdR_M5, rdR_M6, rdR_M8, rdR_M13, wr_M0, wr_M3, wr_M7, wr_M9, wr_M10, wr_M11, wr_M12, wr_M14, ald_M1, ald_M2, ald_M3, ald_M5, ald_M6, ald_M7, ast_M1, ast_M2, ast_M3, ast_M5, ast_M6, ast_M7, iI_l, iI_add, iI_sub, iI_mul, iI_neg, dv_i, Int.reduceToNat, m_of, div_i, shl_i]
      rw [show (12 + 86 * (r : Int) + (14 + 6 * i + 1 + k / 6)).toNat = 12 + 86 * r + 15 + 6 * i + k / 6 by omega, e]
      rw [show (5 * ((k : Int) - k / 6 * 6)).toNat = 5 * (k % 6) by omega, o]
      simp (maxSteps := 1000000) (disch := omega) only [cc_s, kI_i, kV_n, kR_r, ck_M, rdI_M3, rdI_M7, rdI_M9, rdI_M10, rdI_M11, rdI_M12, rdI_M14, rdR_M1, rdR_M2, rdR_M4, rdR_M5, rdR_M6, rdR_M8, rdR_M13, wr_M0, wr_M3, wr_M7, wr_M9, wr_M10, wr_M11, wr_M12, wr_M14, ald_M1, ald_M2, ald_M3, ald_M5, ald_M6, ald_M7, ast_M1, ast_M2, ast_M3, ast_M5, ast_M6, ast_M7, iI_l, iI_add, iI_sub, iI_mul, iI_neg, dv_i, Int.reduceToNat, m_lay, iI_k1]
      rw [show (12 + 86 * (r : Int) + (14 + 6 * i + 1 + k / 6)).toNat = 12 + 86 * r + (15 + 6 * i + k / 6) by omega]
      exact g1
    rw [fX6_packsName_2]
    simp (maxSteps := 1000000) (disch := omega) only [cc_s, kI_i, kV_n, kR_r, ck_M, rdI_M3, rdI_M7, rdI_M9, rdI_M10, rdI_M11, rdI_M12, rdI_M14, rdR_M1, rdR_M2, rdR_M4, rdR_M5, rdR_M6, rdR_M8, rdR_M13, wr_M0, wr_M3, wr_M7, wr_M9, wr_M10, wr_M11, wr_M12, wr_M14, ald_M1, ald_M2, ald_M3, ald_M5, ald_M6, ald_M7, ast_M1, ast_M2, ast_M3, ast_M5, ast_M6, ast_M7, iI_l, iI_add, iI_sub, iI_mul, iI_neg, dv_i, Int.reduceToNat, e7, lt_i, Int.toNat_natCast, e5, eq_i, div_i]
    rw [if_pos (by omega)]
    by_cases h95 : zp Z k = 95
    · rw [if_pos h95]
      exact body 27 (by unfold cod; rw [if_pos h95])
    · rw [if_neg h95]
      exact body (zp Z k - 97 + 1) (by unfold cod; rw [if_neg h95])
theorem or_lo {s t : Nat} {lo v : Int} (l0 : 0 ≤ lo) (v0 : 0 ≤ v) (hl : lo < 2 ^ s) (hv : v < 2 ^ t) (hb : lo < 4294967296) (hb2 : v * 2 ^ s < 4294967296) : iI lo ||| iI (v * 2 ^ s) = iI (lo + v * 2 ^ s) := by
  have := or_i (s := s) (t := t) (hi := 0) (lo := lo) (v := v) (by decide) l0 v0 hl hv (by rw [Int.mul_zero, Int.zero_add]; exact hb) hb2
  rw [Int.mul_zero, Int.zero_add] at this
  exact this
def itm (m p x l : Int) : Nat → Int := fun k => if k = 0 then m else if k = 1 then p else if k = 2 then x else if k = 3 then 0 else if k = 4 then l else 0
theorem pk_itm {m p x l : Int} (h1 : 1 ≤ m ∧ m ≤ 99) (h2 : 1 ≤ p ∧ p ≤ 9999) (h3 : 0 ≤ x ∧ x ≤ 2) (h4 : 0 ≤ l ∧ l ≤ 30) : ((iI m ||| iI (p * 2 ^ 7)) ||| iI (x * 2 ^ 21)) ||| iI (l * 2 ^ 24) = iI (pkI (itm m p x l)) := by
  rw [or_lo (t := 14) (by omega) (by omega) (by omega) (by omega) (by omega) (by omega), or_lo (t := 2) (by omega) (by omega) (by omega) (by omega) (by omega) (by omega), or_lo (t := 5) (by omega) (by omega) (by omega) (by omega) (by omega) (by omega)]
  congr 1
  show _ = m + 128 * p + 2097152 * x + 8388608 * 0 + 16777216 * l
  omega
theorem flL_6 {p : Nat → Int} {len : Nat} : ∀ (m k : Nat), flL p len k m = -6 → (∀ j, k ≤ j → j < k + m → stB p j = true) ∧ ¬ (len = 0 ∨ p (len - 1) = 95)
  | 0, k, h => by
    rw [flL] at h
    refine ⟨fun j h1 h2 => by omega, fun hn => ?_⟩
    rw [if_pos hn] at h
    omega
  | m + 1, k, h => by
    rw [flL] at h
    by_cases e : stB p k = true
    · rw [if_pos e] at h
      have := flL_6 m (k + 1) h
      refine ⟨fun j h1 h2 => ?_, this.2⟩
      by_cases ej : j = k
      · rw [ej]; exact e
      · exact this.1 j (by omega) (by omega)
    · rw [if_neg e] at h
      omega
theorem stB_c {p : Nat → Int} {k : Nat} (h : stB p k = true) : k < 30 ∧ ((97 ≤ p k ∧ p k ≤ 122) ∨ p k = 95) := by
  unfold stB at h
  by_cases e : 97 ≤ p k ∧ p k ≤ 122
  · rw [if_pos e] at h
    exact ⟨of_decide_eq_true h, Or.inl e⟩
  · rw [if_neg e] at h
    have := of_decide_eq_true h
    exact ⟨by omega, Or.inr this.1⟩
theorem flI_6 {Z : Zt} (h : flI Z = -6) : (1 ≤ zl Z ∧ zl Z ≤ 30) ∧ ∀ j, j < zl Z → ((97 ≤ zp Z j ∧ zp Z j ≤ 122) ∨ zp Z j = 95) ∧ 1 ≤ cod (zp Z j) ∧ cod (zp Z j) ≤ 27 := by
  obtain ⟨h1, h2⟩ := flL_6 _ _ h
  have h3 : 1 ≤ zl Z := by omega
  have h4 := stB_c (h1 (zl Z - 1) (by omega) (by omega))
  refine ⟨⟨h3, by omega⟩, fun j hj => ?_⟩
  have h5 := (stB_c (h1 j (by omega) (by omega))).2
  refine ⟨h5, ?_⟩
  unfold cod
  rcases h5 with h | h
  · rw [if_neg (by omega)]; omega
  · rw [if_pos h]; decide
def rngD (Z : Zt) (t : Nat) (m p x : Int) : Dt := hapD (sFl (sN (sP (zD Z) t (gF (zD Z) t 8).toNat (itm m p x (zl Z))) t (gF (zD Z) t 8).toNat (nmK (zp Z) (zl Z))) t 8 (gF (zD Z) t 8 + 1)) t (gF (zD Z) t 8)
def rRing (Z : Zt) (t m p x : Int) : Int := if ¬ (0 ≤ t ∧ t ≤ 2) then -1 else if flI Z ≠ -6 then -3 else if ¬ (1 ≤ m ∧ m ≤ 99) then -2 else if ¬ (1 ≤ p ∧ p ≤ 9999) then -2 else if ¬ (0 ≤ x ∧ x ≤ 2) then -2 else if gF (zD Z) t.toNat 8 = 12 then -4 else gF (zD Z) t.toNat 8
def zRing (Z : Zt) (t m p x : Int) : Zt := if ¬ (0 ≤ t ∧ t ≤ 2) then Z else if flI Z ≠ -6 then Z else if ¬ (1 ≤ m ∧ m ≤ 99) then Z else if ¬ (1 ≤ p ∧ p ≤ 9999) then Z else if ¬ (0 ≤ x ∧ x ≤ 2) then Z else if gF (zD Z) t.toNat 8 = 12 then Z else zPad (zDo Z (rngD Z t.toNat m p x)) 0 (zp Z)
/-- what is rung next finds its place clean -/
def Cln (D : Dt) : Prop := ∀ t, t < 3 → gF D t 8 < 12 → gF D t 9 < 24 ∧ gE D t (gF D t 9).toNat = 0 ∧ gN' D t (gF D t 8).toNat = fun _ => 0
theorem flI_bd (Z : Zt) : -6 ≤ flI Z ∧ flI Z ≤ zl Z := by
  have : ∀ (m k : Nat), k + m = zl Z → -6 ≤ flL (zp Z) (zl Z) k m ∧ flL (zp Z) (zl Z) k m ≤ zl Z := by
    intro m
    induction m with
    | zero => intro k hk; rw [flL]; split <;> omega
    | succ m ih =>
      intro k hk; rw [flL]
      split
      · exact ih (k + 1) (by omega)
      · omega
  exact this (zl Z) 0 (by omega)
theorem m_ring (O : Ok1 (zD Z)) (C : Cln (zD Z)) (P : OkP Z) {t m p x : Int} (ht : ag t) (hm : ag m) (hp : ag p) (hx : ag x) (R : MZ M Z) : ∃ M', fX6_ring c (hM h a M) (some a) (iI t) (iI m) (iI p) (iI x) = some (hM h a M', some (.inl (iI (rRing Z t m p x)))) ∧ MZ M' (zRing Z t m p x) := by
  unfold ag at ht hm hp hx
  have R0 := MZ_0 (v := 0) R
  have fb := flI_bd Z
  have l80 := R.2.2.2.2.2.1.2
  unfold fX6_ring fX6_ring_57 rRing zRing
  simp (maxSteps := 1000000) (disch := omega) only [cc_s, kI_i, kV_n, kR_r, ck_M, rdI_M3, rdI_M7, rdI_M9, rdI_M10, rdI_M11, rdI_M12, rdI_M14, rdR_M1, rdR_M2, rdR_M4, rdR_M5, rdR_M6, rdR_M8, rdR_M13, wr_M0, wr_M3, wr_M7, wr_M9, wr_M10, wr_M11, wr_M12, wr_M14, ald_M1, ald_M2, ald_M3, ald_M5, ald_M6, ald_M7, ast_M1, ast_M2, ast_M3, ast_M5, ast_M6, ast_M7, iI_l, iI_add, iI_sub, iI_mul, iI_neg, dv_i, Int.reduceToNat, m_isTill, bI_0, m_faultAt R0 P, m_in, eq_i]
  by_cases h1 : 0 ≤ t ∧ t ≤ 2
  · have n1 : ¬ ¬ (0 ≤ t ∧ t ≤ 2) := fun h => h h1
    simp only [if_neg n1]
    by_cases hf : flI Z = -6
    · have nf : ¬ (flI Z ≠ -6) := fun h => h hf
      simp only [if_neg nf, if_pos hf]
      by_cases h2 : 1 ≤ m ∧ m ≤ 99
      · have n2 : ¬ ¬ (1 ≤ m ∧ m ≤ 99) := fun h => h h2
        simp only [if_neg n2]
        by_cases h3 : 1 ≤ p ∧ p ≤ 9999
        · have n3 : ¬ ¬ (1 ≤ p ∧ p ≤ 9999) := fun h => h h3
          simp only [if_neg n3]
          by_cases h4 : 0 ≤ x ∧ x ≤ 2
          · have n4 : ¬ ¬ (0 ≤ x ∧ x ≤ 2) := fun h => h h4
            simp only [if_neg n4]
            obtain ⟨r, rfl⟩ := Int.eq_ofNat_of_zero_le h1.1
            have r21 : r < 21 := by omega
            have G := O.1 r r21
            have g8 := G.1
            rw [Int.toNat_natCast]
            simp (maxSteps := 1000000) (disch := omega) only [cc_s, kI_i, kV_n, kR_r, ck_M, rdI_M3, rdI_M7, rdI_M9, rdI_M10, rdI_M11, rdI_M12, rdI_M14, rdR_M1, rdR_M2, rdR_M4, rdR_M5, rdR_M6, rdR_M8, rdR_M13, wr_M0, wr_M3, wr_M7, wr_M9, wr_M10, wr_M11, wr_M12, wr_M14, ald_M1, ald_M2, ald_M3, ald_M5, ald_M6, ald_M7, ast_M1, ast_M2, ast_M3, ast_M5, ast_M6, ast_M7, iI_l, iI_add, iI_sub, iI_mul, iI_neg, dv_i, Int.reduceToNat, m_F R0.1 r21, eq_i]
            by_cases h5 : gF (zD Z) r 8 = 12
            · simp only [if_pos h5]
              exact ⟨_, rfl, R0⟩
            · simp only [if_neg h5]
              obtain ⟨M1, e1, Z1, R1⟩ := m_rec2 (c := c) (h := h) (a := a) R
              obtain ⟨c1, c2, c3⟩ := C r (by omega) (by omega)
              obtain ⟨i, hi⟩ := Int.eq_ofNat_of_zero_le g8.1
              have hi' : (gF (zD Z) r 8).toNat = i := by omega
              have i12 : i < 12 := by omega
              have f6 := flI_6 hf
              have zle : zl (zRec Z) = zl Z ∧ zp (zRec Z) = zp Z := by unfold zRec; split <;> exact ⟨rfl, rfl⟩
              have l1 : M1 0 7 = zl Z := by have := Z1.2.2.2.2.2.1.1; rw [zle.1] at this; exact this
              have pp1 : ∀ j, j < zl Z → M1 5 j = zp Z j := by have := Z1.2.2.2.2.2.2; rw [zle.1, zle.2] at this; exact this
              have R2 : MS (mset M1 1 (12 + 86 * r + (14 + 6 * i)) (pkI (itm m p x (zl Z))) 1) (sP (zD Z) r i (itm m p x (zl Z))) := by
                rw [mset_1]; exact MS_P R1 r21 i12
              have R2' : MS (mset M1 1 (12 + 86 * r + (14 + 6 * i)) (pkI (itm m p x (zl Z))) 1) (sN (sP (zD Z) r i (itm m p x (zl Z))) r i (nmK (zp Z) 0)) := by
                have e : nmK (zp Z) 0 = gN' (sP (zD Z) r i (itm m p x (zl Z))) r i := by
                  show nmK (zp Z) 0 = gN' (zD Z) r i
                  rw [← hi', c3]
                  funext j; unfold nmK; rw [if_neg (by omega)]
                rw [e, sN_self]; exact R2
              have q2 := eqS.put M1 (12 + 86 * r + (14 + 6 * i)) (pkI (itm m p x (zl Z)))
              obtain ⟨M3, e3, q3, R3⟩ := m_packs_l (c := c) (h := h) (a := a) (Z := Z) (M := M1) ⟨l1, f6.1.2⟩ pp1 P (fun j hj => by have := f6.2 j hj; omega) r21 i12 (zl Z) FU 0 _ (by show zl Z < 20000; omega) (by omega) q2 R2'
              obtain ⟨M4, e4, q4, R4⟩ := m_layF (c := c) (h := h) (a := a) R3 r21 (w := 8) (v := i + 1) (by decide) (by decide)
              have G4 : Rg1 (sFl (sN (sP (zD Z) r i (itm m p x (zl Z))) r i (nmK (zp Z) (zl Z))) r 8 (i + 1)) r := by
                refine ⟨?_, ?_, ?_, G.2.2.2⟩
                · rw [gF_sFl, gF_sFl, if_pos ⟨rfl, rfl⟩, if_neg (by omega)]
                  show 0 ≤ (i : Int) + 1 ∧ (i : Int) + 1 ≤ 12 ∧ 0 ≤ gF (zD Z) r 9 ∧ gF (zD Z) r 9 ≤ 24
                  omega
                · exact (Rg1_P G (p := itm m p x (zl Z)) (by unfold pRg itm; simp; omega)).2.1
                · intro j k
                  show 0 ≤ (if r = r ∧ j = i then nmK (zp Z) (zl Z) else gN' (zD Z) r j) k ∧ (if r = r ∧ j = i then nmK (zp Z) (zl Z) else gN' (zD Z) r j) k ≤ 27
                  split
                  · unfold nmK
                    split
                    · next hk => have := f6.2 k hk; omega
                    · decide
                  · exact G.2.2.1 j k
              obtain ⟨M5, e5, q5, R5⟩ := m_happens (c := c) (h := h) (a := a) R4 G4 r21 (by rw [gF_sFl, if_neg (by omega)]; exact c1) (by rw [gF_sFl, if_neg (by omega)]; exact c2) (v := i) (by omega) (by omega)
              have RZ : MZ M5 (zDo Z (rngD Z r m p x)) := by
                refine MZ_set Z1 (q3.tr (q4.tr q5)) ?_
                unfold rngD
                rw [hi', hi]
                exact R5
              have RZ' := MZ_pad (l := 0) RZ (Nat.zero_le _)
              rw [show zp (zDo Z (rngD Z r m p x)) = zp Z from zle.2] at RZ'
              refine ⟨mset M5 0 7 0, ?_, RZ'⟩
              rw [e1, hi]
              simp (maxSteps := 1000000) (disch := omega) only [cc_s, kI_i, kV_n, kR_r, ck_M, rdI_M3, rdI_M7, rdI_M9, rdI_M10, rdI_M11, rdI_M12, rdI_M14, rdR_M1, rdR_M2, rdR_M4, rdR_M5, rdR_M6, rdR_M8, rdR_M13, wr_M0, wr_M3, wr_M7, wr_M9, wr_M10, wr_M11, wr_M12, wr_M14, ald_M1, ald_M2, ald_M3, ald_M5, ald_M6, ald_M7, ast_M1, ast_M2, ast_M3, ast_M5, ast_M6, ast_M7, iI_l, iI_add, iI_sub, iI_mul, iI_neg, dv_i, Int.reduceToNat, l1, shl_i]
              rw [pk_itm h2 h3 h4 (by omega)]
              simp (maxSteps := 1000000) (disch := omega) only [cc_s, kI_i, kV_n, kR_r, ck_M, rdI_M3, rdI_M7, rdI_M9, rdI_M10, rdI_M11, rdI_M12, rdI_M14, rdR_M1, rdR_M2, rdR_M4, rdR_M5, rdR_M6, rdR_M8, rdR_M13, wr_M0, wr_M3, wr_M7, wr_M9, wr_M10, wr_M11, wr_M12, wr_M14, ald_M1, ald_M2, ald_M3, ald_M5, ald_M6, ald_M7, ast_M1, ast_M2, ast_M3, ast_M5, ast_M6, ast_M7, iI_l, iI_add, iI_sub, iI_mul, iI_neg, dv_i, Int.reduceToNat, m_lay]
              rw [show (12 + 86 * (r : Int) + (14 + 6 * i)).toNat = 12 + 86 * r + (14 + 6 * i) by omega]
              have e3' : fX6_packsName c (hM h a (mset M1 1 (12 + 86 * r + (14 + 6 * i)) (pkI (itm m p x (zl Z))))) (some a) (iI r) (iI i) = some (hM h a M3, none) := by
                unfold fX6_packsName
                simp (maxSteps := 1000000) (disch := omega) only [cc_s, kI_i, kV_n, kR_r, ck_M, rdI_M3, rdI_M7, rdI_M9, rdI_M10, rdI_M11, rdI_M12, rdI_M14, rdR_M1, rdR_M2, rdR_M4, rdR_M5, rdR_M6, rdR_M8, rdR_M13, wr_M0, wr_M3, wr_M7, wr_M9, wr_M10, wr_M11, wr_M12, wr_M14, ald_M1, ald_M2, ald_M3, ald_M5, ald_M6, ald_M7, ast_M1, ast_M2, ast_M3, ast_M5, ast_M6, ast_M7, iI_l, iI_add, iI_sub, iI_mul, iI_neg, dv_i, Int.reduceToNat]
                exact e3
              rw [e3']
              simp (maxSteps := 1000000) (disch := omega) only [cc_s, kI_i, kV_n, kR_r, ck_M, rdI_M3, rdI_M7, rdI_M9, rdI_M10, rdI_M11, rdI_M12, rdI_M14, rdR_M1, rdR_M2, rdR_M4, rdR_M5, rdR_M6, rdR_M8, rdR_M13, wr_M0, wr_M3, wr_M7, wr_M9, wr_M10, wr_M11, wr_M12, wr_M14, ald_M1, ald_M2, ald_M3, ald_M5, ald_M6, ald_M7, ast_M1, ast_M2, ast_M3, ast_M5, ast_M6, ast_M7, iI_l, iI_add, iI_sub, iI_mul, iI_neg, dv_i, Int.reduceToNat]
              rw [e4]
              simp (maxSteps := 1000000) (disch := omega) only [cc_s, kI_i, kV_n, kR_r, ck_M, rdI_M3, rdI_M7, rdI_M9, rdI_M10, rdI_M11, rdI_M12, rdI_M14, rdR_M1, rdR_M2, rdR_M4, rdR_M5, rdR_M6, rdR_M8, rdR_M13, wr_M0, wr_M3, wr_M7, wr_M9, wr_M10, wr_M11, wr_M12, wr_M14, ald_M1, ald_M2, ald_M3, ald_M5, ald_M6, ald_M7, ast_M1, ast_M2, ast_M3, ast_M5, ast_M6, ast_M7, iI_l, iI_add, iI_sub, iI_mul, iI_neg, dv_i, Int.reduceToNat]
              rw [e5]
              simp (maxSteps := 1000000) (disch := omega) only [cc_s, kI_i, kV_n, kR_r, ck_M, rdI_M3, rdI_M7, rdI_M9, rdI_M10, rdI_M11, rdI_M12, rdI_M14, rdR_M1, rdR_M2, rdR_M4, rdR_M5, rdR_M6, rdR_M8, rdR_M13, wr_M0, wr_M3, wr_M7, wr_M9, wr_M10, wr_M11, wr_M12, wr_M14, ald_M1, ald_M2, ald_M3, ald_M5, ald_M6, ald_M7, ast_M1, ast_M2, ast_M3, ast_M5, ast_M6, ast_M7, iI_l, iI_add, iI_sub, iI_mul, iI_neg, dv_i, Int.reduceToNat]
          · simp only [if_pos h4]
            exact ⟨_, rfl, R0⟩
        · simp only [if_pos h3]
          exact ⟨_, rfl, R0⟩
      · simp only [if_pos h2]
        exact ⟨_, rfl, R0⟩
    · have nf : flI Z ≠ -6 := hf
      simp only [if_pos nf, if_neg hf]
      exact ⟨_, rfl, R0⟩
  · simp only [if_pos h1]
    exact ⟨_, rfl, R0⟩
end
