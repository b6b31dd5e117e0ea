/-! save -/
section
variable {c : Nat → Option Nat} {h : Hp} {a : Nat} {M : Nat → Nat → Int} {Z : Zt}
theorem ast_M4 {n : Nat} {g : Hp → Rs} (hn : n < 2) : astI (hM h a M) (some (a + 4)) [1, 2] (iI (n : Int)) (iI 1) g = g (hM h a (mset M 4 n 1)) := by
  unfold astI
  rw [ar_M (k := 4) (by decide) (x := (2, 2, .inl (rowI M 4))) rfl]
  simp only []
  rw [if_pos (by rw [inB_ok (by omega) (by omega) (by decide)]; rfl), iI_nat (by unfold rg; omega)]
  rw [upH_M (k := 4) (M' := mset M 4 n 1) (by decide) ?_ (fun j hj hne => mC_ne hne (by decide))]
  show some _ = some (Sum.inl (2, 2, Sum.inl (rowI (mset M 4 n 1) 4)))
  rw [row_eq, show nar 2 (iI 1) = iI 1 by decide, Int.toNat_natCast]
theorem m_save {x : Int} (hx : ag x) (R : MZ M Z) : ∃ M', fX6_save c (hM h a M) (some a) (iI x) = some (hM h a M', some (.inl (iI (rSav (zD Z) x)))) ∧ MZ M' (zSav Z x) := by
  unfold ag at hx
  have R0 := MZ_0 (v := 0) R
  unfold fX6_save rSav zSav
  simp (maxSteps := 1000000) (disch := omega) only [cc_s, kI_i, kV_n, kR_r, ck_M, rdI_M3, rdI_M7, rdI_M9, rdI_M10, rdI_M11, rdI_M12, rdI_M14, rdR_M1, rdR_M2, rdR_M4, rdR_M5, rdR_M6, rdR_M8, rdR_M13, wr_M0, wr_M3, wr_M7, wr_M9, wr_M10, wr_M11, wr_M12, wr_M14, ald_M1, ald_M2, ald_M3, ald_M5, ald_M6, ald_M7, ast_M1, ast_M2, ast_M3, ast_M5, ast_M6, ast_M7, iI_l, iI_add, iI_sub, iI_mul, iI_neg, dv_i, Int.reduceToNat, m_in, bI_0]
  by_cases h1 : 0 ≤ x ∧ x ≤ 1
  · have n1 : ¬ ¬ (0 ≤ x ∧ x ≤ 1) := fun h => h h1
    simp only [if_neg n1, if_pos h1]
    obtain ⟨n, rfl⟩ := Int.eq_ofNat_of_zero_le h1.1
    rw [Int.toNat_natCast]
    have n2 : n < 2 := by omega
    have key := m_sav_l (c := c) (h := h) (a := a) (M := mset M 0 0 0) (n := n) (by omega) 1818 FU 0 (mset M 0 0 0 3) (by decide) (by decide)
    rw [rset_self, show FU - 1818 = 18181 + 1 from rfl, show ((0 : Nat) : Int) = 0 from rfl] at key
    generalize hg : (fun j => if 1818 * n + 0 ≤ j ∧ j < 1818 * n + 1818 then mset M 0 0 0 1 (j - 1818 * n) else mset M 0 0 0 3 j) = g at key
    obtain ⟨h1', h2, h3, h4, h5, h6, h7⟩ := R0
    have q : ∀ p, p ≠ 3 → p ≠ 4 → mset (rset (mset M 0 0 0) 3 g) 4 n 1 p = mset M 0 0 0 p := fun p a3 a4 => by rw [mset_ne a4, rset_ne a3]
    refine ⟨mset (rset (mset M 0 0 0) 3 g) 4 n 1, ?_, ?_⟩
    · rw [key, fX6_save_19]
      simp (maxSteps := 1000000) (disch := omega) only [cc_s, kI_i, kV_n, kR_r, ck_M, rdI_M3, rdI_M7, rdI_M9, rdI_M10, rdI_M11, rdI_M12, rdI_M14, rdR_M1, rdR_M2, rdR_M4, rdR_M5, rdR_M6, rdR_M8, rdR_M13, wr_M0, wr_M3, wr_M7, wr_M9, wr_M10, wr_M11, wr_M12, wr_M14, ald_M1, ald_M2, ald_M3, ald_M5, ald_M6, ald_M7, ast_M1, ast_M2, ast_M3, ast_M5, ast_M6, ast_M7, iI_l, iI_add, iI_sub, iI_mul, iI_neg, dv_i, Int.reduceToNat, lt_i]
      rw [if_neg (by decide), ast_M4 n2]
      simp (maxSteps := 1000000) (disch := omega) only [cc_s, kI_i, kV_n, kR_r, ck_M, rdI_M3, rdI_M7, rdI_M9, rdI_M10, rdI_M11, rdI_M12, rdI_M14, rdR_M1, rdR_M2, rdR_M4, rdR_M5, rdR_M6, rdR_M8, rdR_M13, wr_M0, wr_M3, wr_M7, wr_M9, wr_M10, wr_M11, wr_M12, wr_M14, ald_M1, ald_M2, ald_M3, ald_M5, ald_M6, ald_M7, ast_M1, ast_M2, ast_M3, ast_M5, ast_M6, ast_M7, iI_l, iI_add, iI_sub, iI_mul, iI_neg, dv_i, Int.reduceToNat]
      rw [q 1 (by decide) (by decide)]
      exact ret_c (h1'.1 4 (by decide))
    · refine ⟨by rw [q 1 (by decide) (by decide)]; exact h1', ⟨by rw [q 0 (by decide) (by decide)]; exact h2.1, h2.2⟩, fun k hk => by rw [q 2 (by decide) (by decide)]; exact h3 k hk, fun i hi => ?_, fun i hi e => ?_, ⟨by rw [q 0 (by decide) (by decide)]; exact h6.1, h6.2⟩, fun j hj => by rw [q 5 (by decide) (by decide)]; exact h7 j hj⟩
      · rw [mset_at, rset_ne (by decide)]
        show (if i = n then 1 else mset M 0 0 0 4 i) = if (if i = n then true else zh Z i) = true then 1 else 0
        by_cases e : i = n
        · rw [if_pos e, if_pos e, if_pos rfl]
        · rw [if_neg e, if_neg e]; exact h4 i hi
      · rw [mset_ne (by decide), rset_eq]
        show MS _ (if i = n then zD Z else zS Z i)
        have e' : (if i = n then true else zh Z i) = true := e
        by_cases ei : i = n
        · rw [if_pos ei]
          refine MS_congr h1' (fun j hj => ?_)
          rw [← hg]
          dsimp only
          rw [if_pos (by omega)]
          congr 1; omega
        · rw [if_neg ei] at e' ⊢
          refine MS_congr (h5 i hi e') (fun j hj => ?_)
          rw [← hg]
          dsimp only
          rw [if_neg (by omega)]
  · simp only [if_pos h1, if_neg h1]
    exact ⟨_, rfl, R0⟩
end
