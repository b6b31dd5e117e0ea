/-! undo, save, restore -/
def rUnd (Z : Zt) : Int := if zn Z = 0 then -5 else zn Z - 1
def zUnd (Z : Zt) : Zt := if zn Z = 0 then Z else (zH Z (zn Z - 1), zn Z - 1, Z.2.2)
def rSav (D : Dt) (x : Int) : Int := if 0 ≤ x ∧ x ≤ 1 then gT D 4 else -2
def zSav (Z : Zt) (x : Int) : Zt := if 0 ≤ x ∧ x ≤ 1 then (Z.1, Z.2.1, Z.2.2.1, (fun i => if i = x.toNat then true else zh Z i), (fun i => if i = x.toNat then zD Z else zS Z i), Z.2.2.2.2.2) else Z
def rRes (Z : Zt) (x : Int) : Int := if 0 ≤ x ∧ x ≤ 1 then (if zh Z x.toNat = true then gT (zS Z x.toNat) 4 else -5) else -2
def zRes (Z : Zt) (x : Int) : Zt := if 0 ≤ x ∧ x ≤ 1 then (if zh Z x.toNat = true then zDo Z (zS Z x.toNat) else Z) else Z
section
variable {c : Nat → Option Nat} {h : Hp} {a : Nat} {M : Nat → Nat → Int} {Z : Zt}
theorem m_undo_l {n : Nat} (hn : n ≤ 5) (h3 : M 0 3 = n) : ∀ (m fu k : Nat) (g : Nat → Int), m < fu → k + m = 1818 → fX6_undo_27 c fu (hM h a (rset M 1 g)) (some a) (iI k) = some (hM h a (rset M 1 (fun j => if k ≤ j ∧ j < 1818 then M 2 (1818 * n + j) else g j)), some (.inl (iI n))) := by
  intro m
  induction m with
  | zero =>
    intro fu k g hf hk
    obtain ⟨f, rfl⟩ : ∃ f, fu = f + 1 := ⟨fu - 1, by omega⟩
    rw [fX6_undo_27]
    have e : (fun j => if k ≤ j ∧ j < 1818 then M 2 (1818 * n + j) else g j) = g := by
      funext j; rw [if_neg (by omega)]
    have e3 : rset M 1 g 0 3 = n := by rw [rset_ne (by decide)]; exact h3
    rw [e]
    simp (maxSteps := 1000000) (disch := omega) only [cc_s, kI_i, kV_n, kR_r, ck_M, rdI_M3, rdI_M7, rdI_M9, rdI_M10, rdI_M11, rdI_M12, rdI_M14, rdR_M1, rdR_M2, rdR_M4, rdR_M5, rdR_M6, rdR_M8, rdR_M13, wr_M0, wr_M3, wr_M7, wr_M9, wr_M10, wr_M11, wr_M12, wr_M14, ald_M1, ald_M2, ald_M3, ald_M5, ald_M6, ald_M7, ast_M1, ast_M2, ast_M3, ast_M5, ast_M6, ast_M7, iI_l, iI_add, iI_sub, iI_mul, iI_neg, dv_i, Int.reduceToNat, lt_i, e3]
    rw [if_neg (by omega)]
  | succ m ih =>
    intro fu k g hf hk
    obtain ⟨f, rfl⟩ : ∃ f, fu = f + 1 := ⟨fu - 1, by omega⟩
    rw [fX6_undo_27]
    have e3 : rset M 1 g 0 3 = n := by rw [rset_ne (by decide)]; exact h3
    have e2 : rset M 1 g 2 = M 2 := rset_ne (by decide)
    simp (maxSteps := 1000000) (disch := omega) only [cc_s, kI_i, kV_n, kR_r, ck_M, rdI_M3, rdI_M7, rdI_M9, rdI_M10, rdI_M11, rdI_M12, rdI_M14, rdR_M1, rdR_M2, rdR_M4, rdR_M5, rdR_M6, rdR_M8, rdR_M13, wr_M0, wr_M3, wr_M7, wr_M9, wr_M10, wr_M11, wr_M12, wr_M14, ald_M1, ald_M2, ald_M3, ald_M5, ald_M6, ald_M7, ast_M1, ast_M2, ast_M3, ast_M5, ast_M6, ast_M7, iI_l, iI_add, iI_sub, iI_mul, iI_neg, dv_i, Int.reduceToNat, lt_i, e3, e2, mset_r, iI_k1]
    rw [if_pos (by omega), Int.toNat_natCast, show (1818 * (n : Int) + k).toNat = 1818 * n + k by omega, ih _ (k + 1) _ (by omega) (by omega)]
    have e : (fun j => if k + 1 ≤ j ∧ j < 1818 then M 2 (1818 * n + j) else st g k (M 2 (1818 * n + k)) j) = (fun j => if k ≤ j ∧ j < 1818 then M 2 (1818 * n + j) else g j) := by
      funext j
      unfold st
      by_cases q : j = k
      · rw [if_neg (by omega), if_pos q, if_pos (by omega), q]
      · by_cases q2 : k ≤ j ∧ j < 1818
        · rw [if_pos (by omega), if_pos q2]
        · rw [if_neg (by omega), if_neg q, if_neg q2]
    rw [e]
theorem m_undo (R : MZ M Z) : ∃ M', fX6_undo c (hM h a M) (some a) = some (hM h a M', some (.inl (iI (rUnd Z)))) ∧ MZ M' (zUnd Z) := by
  have R0 := MZ_0 (v := 0) R
  obtain ⟨h1, h2, h3, h4, h5, h6, h7⟩ := R0
  unfold fX6_undo rUnd zUnd
  simp (maxSteps := 1000000) (disch := omega) only [cc_s, kI_i, kV_n, kR_r, ck_M, rdI_M3, rdI_M7, rdI_M9, rdI_M10, rdI_M11, rdI_M12, rdI_M14, rdR_M1, rdR_M2, rdR_M4, rdR_M5, rdR_M6, rdR_M8, rdR_M13, wr_M0, wr_M3, wr_M7, wr_M9, wr_M10, wr_M11, wr_M12, wr_M14, ald_M1, ald_M2, ald_M3, ald_M5, ald_M6, ald_M7, ast_M1, ast_M2, ast_M3, ast_M5, ast_M6, ast_M7, iI_l, iI_add, iI_sub, iI_mul, iI_neg, dv_i, Int.reduceToNat, h2.1, eq_i]
  by_cases e : zn Z = 0
  · have e' : (zn Z : Int) = 0 := by omega
    simp only [if_pos e, if_pos e']
    exact ⟨_, rfl, h1, h2, h3, h4, h5, h6, h7⟩
  · have e' : ¬ (zn Z : Int) = 0 := by omega
    simp only [if_neg e, if_neg e']
    obtain ⟨n, hn⟩ : ∃ n, zn Z = n + 1 := ⟨zn Z - 1, by omega⟩
    have z3 : (zn Z : Int) - 1 = n := by omega
    rw [z3]
    have key := m_undo_l (c := c) (h := h) (a := a) (M := mset (mset M 0 0 0) 0 3 n) (n := n) (by omega) (by rw [mset_at, if_pos rfl]) 1818 FU 0 (mset (mset M 0 0 0) 0 3 n 1) (by decide) (by decide)
    rw [rset_self, show ((0 : Nat) : Int) = 0 from rfl] at key
    refine ⟨_, key, ?_⟩
    rw [show zn Z - 1 = n by omega]
    generalize hg : (fun j => if 0 ≤ j ∧ j < 1818 then mset (mset M 0 0 0) 0 3 n 2 (1818 * n + j) else mset (mset M 0 0 0) 0 3 n 1 j) = g
    have q : ∀ p, p ≠ 1 → p ≠ 0 → rset (mset (mset M 0 0 0) 0 3 n) 1 g p = mset M 0 0 0 p := fun p a1 a0 => by rw [rset_ne a1, mset_ne a0]
    have q0 : ∀ j, rset (mset (mset M 0 0 0) 0 3 n) 1 g 0 j = if j = 3 then (n : Int) else mset M 0 0 0 0 j := fun j => by rw [rset_ne (by decide), mset_at]
    refine ⟨?_, ⟨q0 3, by show n ≤ 6; omega⟩, fun k hk => ?_, fun i hi => ?_, fun i hi e => ?_, ⟨?_, h6.2⟩, fun j hj => ?_⟩
    · rw [rset_eq]
      refine MS_congr (h3 n (by omega)) (fun j hj => ?_)
      rw [← hg]
      dsimp only
      rw [if_pos (by omega), mset_ne (by decide)]
    · rw [q 2 (by decide) (by decide)]
      have hk' : k < n := hk
      exact h3 k (by omega)
    · rw [q 4 (by decide) (by decide)]; exact h4 i hi
    · rw [q 3 (by decide) (by decide)]; exact h5 i hi e
    · rw [q0, if_neg (by decide)]; exact h6.1
    · rw [q 5 (by decide) (by decide)]; exact h7 j hj
theorem m_res_l {n : Nat} (hn : n ≤ 1) : ∀ (m fu k : Nat) (g : Nat → Int), m < fu → k + m = 1818 → fX6_restore_35 c fu (hM h a (rset M 1 g)) (some a) (iI n) (iI k) = some (hM h a (rset M 1 (fun j => if k ≤ j ∧ j < 1818 then M 3 (1818 * n + j) else g j)), some (.inl (iI (if k ≤ 4 then M 3 (1818 * n + 4) else g 4)))) := by
  intro m
  induction m with
  | zero =>
    intro fu k g hf hk
    obtain ⟨f, rfl⟩ : ∃ f, fu = f + 1 := ⟨fu - 1, by omega⟩
    rw [fX6_restore_35]
    have e : (fun j => if k ≤ j ∧ j < 1818 then M 3 (1818 * n + j) else g j) = g := by
      funext j; rw [if_neg (by omega)]
    rw [e]
    simp (maxSteps := 1000000) (disch := omega) only [cc_s, kI_i, kV_n, kR_r, ck_M, rdI_M3, rdI_M7, rdI_M9, rdI_M10, rdI_M11, rdI_M12, rdI_M14, rdR_M1, rdR_M2, rdR_M4, rdR_M5, rdR_M6, rdR_M8, rdR_M13, wr_M0, wr_M3, wr_M7, wr_M9, wr_M10, wr_M11, wr_M12, wr_M14, ald_M1, ald_M2, ald_M3, ald_M5, ald_M6, ald_M7, ast_M1, ast_M2, ast_M3, ast_M5, ast_M6, ast_M7, iI_l, iI_add, iI_sub, iI_mul, iI_neg, dv_i, Int.reduceToNat, lt_i, rset_eq]
    rw [if_neg (by omega), if_neg (by omega)]
  | succ m ih =>
    intro fu k g hf hk
    obtain ⟨f, rfl⟩ : ∃ f, fu = f + 1 := ⟨fu - 1, by omega⟩
    rw [fX6_restore_35]
    have e2 : rset M 1 g 3 = M 3 := rset_ne (by decide)
    simp (maxSteps := 1000000) (disch := omega) only [cc_s, kI_i, kV_n, kR_r, ck_M, rdI_M3, rdI_M7, rdI_M9, rdI_M10, rdI_M11, rdI_M12, rdI_M14, rdR_M1, rdR_M2, rdR_M4, rdR_M5, rdR_M6, rdR_M8, rdR_M13, wr_M0, wr_M3, wr_M7, wr_M9, wr_M10, wr_M11, wr_M12, wr_M14, ald_M1, ald_M2, ald_M3, ald_M5, ald_M6, ald_M7, ast_M1, ast_M2, ast_M3, ast_M5, ast_M6, ast_M7, iI_l, iI_add, iI_sub, iI_mul, iI_neg, dv_i, Int.reduceToNat, lt_i, e2, mset_r, iI_k1]
    rw [if_pos (by omega), Int.toNat_natCast, show (1818 * (n : Int) + k).toNat = 1818 * n + k by omega, ih _ (k + 1) _ (by omega) (by omega)]
    have e : (fun j => if k + 1 ≤ j ∧ j < 1818 then M 3 (1818 * n + j) else st g k (M 3 (1818 * n + k)) j) = (fun j => if k ≤ j ∧ j < 1818 then M 3 (1818 * n + j) else g j) := by
      funext j
      unfold st
      by_cases q : j = k
      · rw [if_neg (by omega), if_pos q, if_pos (by omega), q]
      · by_cases q2 : k ≤ j ∧ j < 1818
        · rw [if_pos (by omega), if_pos q2]
        · rw [if_neg (by omega), if_neg q, if_neg q2]
    rw [e]
    refine ret_c ?_
    unfold st
    by_cases q : k + 1 ≤ 4
    · rw [if_pos q, if_pos (by omega)]
    · by_cases q2 : k ≤ 4
      · rw [if_neg q, if_pos q2, if_pos (by omega), show k = 4 by omega]
      · rw [if_neg q, if_neg q2, if_neg (by omega)]
theorem m_restore {x : Int} (hx : ag x) (R : MZ M Z) : ∃ M', fX6_restore c (hM h a M) (some a) (iI x) = some (hM h a M', some (.inl (iI (rRes Z x)))) ∧ MZ M' (zRes Z x) := by
  unfold ag at hx
  have R0 := MZ_0 (v := 0) R
  unfold fX6_restore rRes zRes
  simp (maxSteps := 1000000) (disch := omega) only [cc_s, kI_i, kV_n, kR_r, ck_M, rdI_M3, rdI_M7, rdI_M9, rdI_M10, rdI_M11, rdI_M12, rdI_M14, rdR_M1, rdR_M2, rdR_M4, rdR_M5, rdR_M6, rdR_M8, rdR_M13, wr_M0, wr_M3, wr_M7, wr_M9, wr_M10, wr_M11, wr_M12, wr_M14, ald_M1, ald_M2, ald_M3, ald_M5, ald_M6, ald_M7, ast_M1, ast_M2, ast_M3, ast_M5, ast_M6, ast_M7, iI_l, iI_add, iI_sub, iI_mul, iI_neg, dv_i, Int.reduceToNat, m_in, bI_0]
  by_cases h1 : 0 ≤ x ∧ x ≤ 1
  · have n1 : ¬ ¬ (0 ≤ x ∧ x ≤ 1) := fun h => h h1
    simp only [if_neg n1, if_pos h1]
    obtain ⟨n, rfl⟩ := Int.eq_ofNat_of_zero_le h1.1
    rw [Int.toNat_natCast]
    have ld : ∀ f : Int32 → Rs, aldI (hM h a (mset M 0 0 0)) (some (a + 4)) [1, 2, 11] (iI (n : Int)) f = f (iI (mset M 0 0 0 4 n)) := fun f => ald_M (k := 4) (q := 2) (n := 2) (by decide) rfl rfl (by decide) (by omega) (by omega)
    rw [ld, R0.2.2.2.1 n (by omega)]
    by_cases e : zh Z n = true
    · simp only [if_pos e]
      obtain ⟨M1, e1, Z1, R1⟩ := m_rec2 (c := c) (h := h) (a := a) R
      have zz : zh (zRec Z) = zh Z ∧ zS (zRec Z) = zS Z := by unfold zRec; split <;> exact ⟨rfl, rfl⟩
      have r3 : MS (fun j => M1 3 (1818 * n + j)) (zS Z n) := by
        have := Z1.2.2.2.2.1 n (by omega) (by rw [zz.1]; exact e)
        rw [zz.2] at this; exact this
      have key := m_res_l (c := c) (h := h) (a := a) (M := M1) (n := n) (by omega) 1818 FU 0 (M1 1) (by decide) (by decide)
      rw [rset_self, show ((0 : Nat) : Int) = 0 from rfl, if_pos (by decide)] at key
      refine ⟨_, ?_, MZ_set Z1 (eqS.row M1 (fun j => if 0 ≤ j ∧ j < 1818 then M1 3 (1818 * n + j) else M1 1 j)) ?_⟩
      · rw [if_neg (show ¬ iI 1 = iI 0 by decide), e1]
        simp (maxSteps := 1000000) (disch := omega) only [cc_s, kI_i, kV_n, kR_r, ck_M, rdI_M3, rdI_M7, rdI_M9, rdI_M10, rdI_M11, rdI_M12, rdI_M14, rdR_M1, rdR_M2, rdR_M4, rdR_M5, rdR_M6, rdR_M8, rdR_M13, wr_M0, wr_M3, wr_M7, wr_M9, wr_M10, wr_M11, wr_M12, wr_M14, ald_M1, ald_M2, ald_M3, ald_M5, ald_M6, ald_M7, ast_M1, ast_M2, ast_M3, ast_M5, ast_M6, ast_M7, iI_l, iI_add, iI_sub, iI_mul, iI_neg, dv_i, Int.reduceToNat]
        rw [key]
        exact ret_c (r3.1 4 (by decide))
      · rw [rset_eq]
        refine MS_congr r3 (fun j hj => ?_)
        rw [if_pos (by omega)]
    · simp only [if_neg e]
      exact ⟨_, if_pos trivial, R0⟩
  · simp only [if_pos h1, if_neg h1]
    exact ⟨_, rfl, R0⟩
theorem m_sav_l {n : Nat} (hn : n ≤ 1) : ∀ (m fu k : Nat) (g : Nat → Int), m < fu → k + m = 1818 → fX6_save_19 c fu (hM h a (rset M 3 g)) (some a) (iI n) (iI k) = fX6_save_19 c (fu - m) (hM h a (rset M 3 (fun j => if 1818 * n + k ≤ j ∧ j < 1818 * n + 1818 then M 1 (j - 1818 * n) else g j))) (some a) (iI n) (iI 1818) := by
  intro m
  induction m with
  | zero =>
    intro fu k g hf hk
    have e : (fun j => if 1818 * n + k ≤ j ∧ j < 1818 * n + 1818 then M 1 (j - 1818 * n) else g j) = g := by
      funext j; rw [if_neg (by omega)]
    rw [e, show k = 1818 by omega]
    rfl
  | succ m ih =>
    intro fu k g hf hk
    obtain ⟨f, rfl⟩ : ∃ f, fu = f + 1 := ⟨fu - 1, by omega⟩
    rw [fX6_save_19]
    have e1 : rset M 3 g 1 = M 1 := rset_ne (by decide)
    simp (maxSteps := 1000000) (disch := omega) only [cc_s, kI_i, kV_n, kR_r, ck_M, rdI_M3, rdI_M7, rdI_M9, rdI_M10, rdI_M11, rdI_M12, rdI_M14, rdR_M1, rdR_M2, rdR_M4, rdR_M5, rdR_M6, rdR_M8, rdR_M13, wr_M0, wr_M3, wr_M7, wr_M9, wr_M10, wr_M11, wr_M12, wr_M14, ald_M1, ald_M2, ald_M3, ald_M5, ald_M6, ald_M7, ast_M1, ast_M2, ast_M3, ast_M5, ast_M6, ast_M7, iI_l, iI_add, iI_sub, iI_mul, iI_neg, dv_i, Int.reduceToNat, lt_i, e1, mset_r, iI_k1]
    rw [if_pos (by omega), Int.toNat_natCast, show (1818 * (n : Int) + k).toNat = 1818 * n + k by omega, ih _ (k + 1) _ (by omega) (by omega)]
    have e : (fun j => if 1818 * n + (k + 1) ≤ j ∧ j < 1818 * n + 1818 then M 1 (j - 1818 * n) else st g (1818 * n + k) (M 1 k) j) = (fun j => if 1818 * n + k ≤ j ∧ j < 1818 * n + 1818 then M 1 (j - 1818 * n) else g j) := by
      funext j
      unfold st
      by_cases q : j = 1818 * n + k
      · rw [if_neg (by omega), if_pos q, if_pos (by omega)]
        congr 1; omega
      · by_cases q2 : 1818 * n + k ≤ j ∧ j < 1818 * n + 1818
        · rw [if_pos (by omega), if_pos q2]
        · rw [if_neg (by omega), if_neg q, if_neg q2]
    rw [e, show f + 1 - (m + 1) = f - m by omega]
end
