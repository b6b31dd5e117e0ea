/-! put -/
/-- the k-th byte -/
def byP (u k : Nat) : Nat := u / 2 ^ (8 * k) % 256
/-- how many bytes ahead of the first that is 0, and whether all are signs -/
def pcL (u : Nat) : Nat → Nat → Bool → Nat × Bool
  | k, 0, ok => (k, ok)
  | k, m + 1, ok => if byP u k = 0 then (k, ok) else pcL u (k + 1) m (ok && decide (33 ≤ byP u k ∧ byP u k ≤ 126))
def pcI (u : Nat) : Nat × Bool := pcL u 0 8 true
def okPut (u : Nat) : Prop := (pcI u).1 ≠ 0 ∧ (pcI u).2 = true ∧ u / 2 ^ (8 * (pcI u).1) = 0
theorem pcL_le {u : Nat} : ∀ (m k : Nat) (ok : Bool), k ≤ (pcL u k m ok).1 ∧ (pcL u k m ok).1 ≤ k + m
  | 0, k, ok => ⟨Nat.le_refl k, Nat.le_refl k⟩
  | m + 1, k, ok => by
    rw [pcL]
    split
    · exact ⟨Nat.le_refl k, by show k ≤ k + (m + 1); omega⟩
    · have := pcL_le (u := u) m (k + 1) (ok && decide (33 ≤ byP u k ∧ byP u k ≤ 126))
      omega
section
variable {c : Nat → Option Nat} {h : Hp} {a : Nat} {M : Nat → Nat → Int} {Z : Zt}
theorem m_put_13 {u : Nat} (hu : u < 2 ^ 64) (H : Hp) : ∀ (m fu k : Nat) (ok : Bool), m < fu → k + m = 8 → fX6_put_13 c fu H (some a) (lL u) (iI k) (lL (u / 2 ^ (8 * k))) (iI (bI (ok = true))) = fX6_put_72 c H (some a) (lL u) (iI (pcL u k m ok).1) (lL (u / 2 ^ (8 * (pcL u k m ok).1))) (iI (bI ((pcL u k m ok).2 = true))) := by
  intro m
  induction m with
  | zero =>
    intro fu k ok hf hk
    obtain ⟨f, rfl⟩ : ∃ f, fu = f + 1 := ⟨fu - 1, by omega⟩
    rw [fX6_put_13]
    simp (maxSteps := 1000000) (disch := omega) only [cc_s, kI_i, kV_n, kR_r, ck_M, rdI_M3, rdI_M7, rdI_M9, rdI_M10, rdI_M11, rdI_M12, rdI_M14, rdR_M1, rdR_M2, rdR_M4, rdR_M5, rdR_M6, rdR_M8, rdR_M13, wr_M0, wr_M3, wr_M7, wr_M9, wr_M10, wr_M11, wr_M12, wr_M14, ald_M1, ald_M2, ald_M3, ald_M5, ald_M6, ald_M7, ast_M1, ast_M2, ast_M3, ast_M5, ast_M6, ast_M7, iI_l, iI_add, iI_sub, iI_mul, iI_neg, dv_i, Int.reduceToNat, lt_i]
    rw [if_neg (by omega)]
    rfl
  | succ m ih =>
    intro fu k ok hf hk
    obtain ⟨f, rfl⟩ : ∃ f, fu = f + 1 := ⟨fu - 1, by omega⟩
    have d : u / 2 ^ (8 * k) < 2 ^ 64 := Nat.lt_of_le_of_lt (Nat.div_le_self _ _) hu
    have b : byP u k < 256 := Nat.mod_lt _ (by decide)
    have e2 : u / 2 ^ (8 * k) / 2 ^ 8 = u / 2 ^ (8 * (k + 1)) := by
      rw [Nat.div_div_eq_div_mul, ← Nat.pow_add]; congr 2
    have sh : ushrL (lL (u / 2 ^ (8 * k))) (iI 8) = lL (u / 2 ^ (8 * (k + 1))) := by
      rw [← e2]; exact lL_shr d (k := 8) (by decide)
    have an : lL (u / 2 ^ (8 * k)) &&& 255 = lL (byP u k) := by rw [lL_255, lL_and]; rfl
    have cm : (lg_cmp (lL (byP u k)) 0 = iI 0) = (byP u k = 0) := by rw [lL_0]; exact lL_cmp (by omega)
    rw [fX6_put_13]
    unfold fX6_put_56 fX6_put_57
    simp (maxSteps := 1000000) (disch := omega) only [cc_s, kI_i, kV_n, kR_r, ck_M, rdI_M3, rdI_M7, rdI_M9, rdI_M10, rdI_M11, rdI_M12, rdI_M14, rdR_M1, rdR_M2, rdR_M4, rdR_M5, rdR_M6, rdR_M8, rdR_M13, wr_M0, wr_M3, wr_M7, wr_M9, wr_M10, wr_M11, wr_M12, wr_M14, ald_M1, ald_M2, ald_M3, ald_M5, ald_M6, ald_M7, ast_M1, ast_M2, ast_M3, ast_M5, ast_M6, ast_M7, iI_l, iI_add, iI_sub, iI_mul, iI_neg, dv_i, Int.reduceToNat, lt_i, an, cm, bI_0, lL_int b, m_in, sh, iI_k1]
    rw [if_pos (by omega), pcL]
    have i1 := ih f (k + 1) (ok && decide (33 ≤ byP u k ∧ byP u k ≤ 126)) (by omega) (by omega)
    by_cases e0 : byP u k = 0
    · rw [if_pos e0, if_pos e0]
    · rw [if_neg e0, if_neg e0]
      cases ok with
      | false =>
        rw [if_pos (by decide)]
        exact i1
      | true =>
        rw [if_neg (by decide)]
        by_cases e1 : (33 : Int) ≤ byP u k ∧ (byP u k : Int) ≤ 126
        · rw [if_neg (fun h => h e1)]
          have e3 : (true && decide (33 ≤ byP u k ∧ byP u k ≤ 126)) = true := by
            rw [Bool.true_and, decide_eq_true_eq]; omega
          rw [e3] at i1 ⊢
          exact i1
        · rw [if_pos e1]
          have e3 : (true && decide (33 ≤ byP u k ∧ byP u k ≤ 126)) = false := by
            rw [Bool.true_and, decide_eq_false_iff_not]; omega
          rw [e3] at i1 ⊢
          exact i1
end
