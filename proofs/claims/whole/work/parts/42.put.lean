/-! put -/
/-- the k-th byte -/
def byP (u k : Nat) : Nat := u / 2 ^ (8 * k) % 256
/-- how many bytes ahead of the first that is 0, and whether all are signs -/
def pcL (u : Nat) : Nat → Nat → Bool → Nat × Bool
  | k, 0, ok => (k, ok)
  | k, m + 1, ok => if byP u k = 0 then (k, ok) else pcL u (k + 1) m (ok && decide (33 ≤ byP u k ∧ byP u k ≤ 126))
def pcI (u : Nat) : Nat × Bool := pcL u 0 8 true
def noPut (u : Nat) : Prop := (pcI u).1 = 0 ∨ (pcI u).2 ≠ true ∨ u / 2 ^ (8 * (pcI u).1) ≠ 0
def rPut (Z : Zt) (u : Nat) : Int := if (pcI u).1 = 0 ∨ (pcI u).2 ≠ true ∨ u / 2 ^ (8 * (pcI u).1) ≠ 0 then -2 else if 80 < zl Z + (pcI u).1 then -4 else (zl Z : Int) + (pcI u).1
def putP (Z : Zt) (u n : Nat) : Nat → Int := fun j => if zl Z + 0 ≤ j ∧ j < zl Z + n then (byP u (n - 1 - (j - zl Z)) : Int) else zp Z j
def zPut (Z : Zt) (u : Nat) : Zt := if (pcI u).1 = 0 ∨ (pcI u).2 ≠ true ∨ u / 2 ^ (8 * (pcI u).1) ≠ 0 then Z else if 80 < zl Z + (pcI u).1 then Z else zPad Z (zl Z + (pcI u).1) (putP Z u (pcI u).1)
theorem pcL_le {u : Nat} : ∀ (m k : Nat) (ok : Bool), k ≤ (pcL u k m ok).1 ∧ (pcL u k m ok).1 ≤ k + m
  | 0, k, ok => ⟨Nat.le_refl k, Nat.le_refl k⟩
  | m + 1, k, ok => by
    rw [pcL]
    split
    · exact ⟨Nat.le_refl k, by show k ≤ k + (m + 1); omega⟩
    · have := pcL_le (u := u) m (k + 1) (ok && decide (33 ≤ byP u k ∧ byP u k ≤ 126))
      omega
section
variable {c : Nat → Option Nat} {h : Hp} {a : Nat} {M : Nat → Nat → Int} {Z : Zt}
theorem m_put_13 {u : Nat} (hu : u < 2 ^ 64) (H : Hp) : ∀ (m fu k : Nat) (ok : Bool), m < fu → k + m = 8 → fX6_put_13 c fu H (some a) (lL u) (iI k) (lL (u / 2 ^ (8 * k))) (iI (bI (ok = true))) = fX6_put_72 c H (some a) (lL u) (iI (pcL u k m ok).1) (lL (u / 2 ^ (8 * (pcL u k m ok).1))) (iI (bI ((pcL u k m ok).2 = true))) := by
  intro m
  induction m with
  | zero =>
    intro fu k ok hf hk
    obtain ⟨f, rfl⟩ : ∃ f, fu = f + 1 := ⟨fu - 1, by omega⟩
    rw [fX6_put_13]
    simp (maxSteps := 1000000) (disch := omega) only [cc_s, kI_i, kV_n, kR_r, ck_M, rdI_M3, rdI_M7, rdI_M9, rdI_M10, rdI_M11, rdI_M12, rdI_M14, rdR_M1, rdR_M2, rdR_M4, rdR_M5, rdR_M6, rdR_M8, rdR_M13, wr_M0, wr_M3, wr_M7, wr_M9, wr_M10, wr_M11, wr_M12, wr_M14, ald_M1, ald_M2, ald_M3, ald_M5, ald_M6, ald_M7, ast_M1, ast_M2, ast_M3, ast_M5, ast_M6, ast_M7, iI_l, iI_add, iI_sub, iI_mul, iI_neg, dv_i, Int.reduceToNat, lt_i]
    rw [if_neg (by omega)]
    rfl
  | succ m ih =>
    intro fu k ok hf hk
    obtain ⟨f, rfl⟩ : ∃ f, fu = f + 1 := ⟨fu - 1, by omega⟩
    have d : u / 2 ^ (8 * k) < 2 ^ 64 := Nat.lt_of_le_of_lt (Nat.div_le_self _ _) hu
    have b : byP u k < 256 := Nat.mod_lt _ (by decide)
    have e2 : u / 2 ^ (8 * k) / 2 ^ 8 = u / 2 ^ (8 * (k + 1)) := by
      rw [Nat.div_div_eq_div_mul, ← Nat.pow_add]; congr 2
    have sh : ushrL (lL (u / 2 ^ (8 * k))) (iI 8) = lL (u / 2 ^ (8 * (k + 1))) := by
      rw [← e2]; exact lL_shr d (k := 8) (by decide)
    have an : lL (u / 2 ^ (8 * k)) &&& 255 = lL (byP u k) := by rw [lL_255, lL_and]; rfl
    have cm : (lg_cmp (lL (byP u k)) 0 = iI 0) = (byP u k = 0) := by rw [lL_0]; exact lL_cmp (by omega)
    rw [fX6_put_13]
    unfold fX6_put_56 fX6_put_57
    simp (maxSteps := 1000000) (disch := omega) only [cc_s, kI_i, kV_n, kR_r, ck_M, rdI_M3, rdI_M7, rdI_M9, rdI_M10, rdI_M11, rdI_M12, rdI_M14, rdR_M1, rdR_M2, rdR_M4, rdR_M5, rdR_M6, rdR_M8, rdR_M13, wr_M0, wr_M3, wr_M7, wr_M9, wr_M10, wr_M11, wr_M12, wr_M14, ald_M1, ald_M2, ald_M3, ald_M5, ald_M6, ald_M7, ast_M1, ast_M2, ast_M3, ast_M5, ast_M6, ast_M7, iI_l, iI_add, iI_sub, iI_mul, iI_neg, dv_i, Int.reduceToNat, lt_i, an, cm, bI_0, lL_int b, m_in, sh, iI_k1]
    rw [if_pos (by omega), pcL]
    have i1 := ih f (k + 1) (ok && decide (33 ≤ byP u k ∧ byP u k ≤ 126)) (by omega) (by omega)
    by_cases e0 : byP u k = 0
    · rw [if_pos e0, if_pos e0]
    · rw [if_neg e0, if_neg e0]
      cases ok with
      | false =>
        rw [if_pos (by decide)]
        exact i1
      | true =>
        rw [if_neg (by decide)]
        by_cases e1 : (33 : Int) ≤ byP u k ∧ (byP u k : Int) ≤ 126
        · rw [if_neg (fun h => h e1)]
          have e3 : (true && decide (33 ≤ byP u k ∧ byP u k ≤ 126)) = true := by
            rw [Bool.true_and, decide_eq_true_eq]; omega
          rw [e3] at i1 ⊢
          exact i1
        · rw [if_pos e1]
          have e3 : (true && decide (33 ≤ byP u k ∧ byP u k ≤ 126)) = false := by
            rw [Bool.true_and, decide_eq_false_iff_not]; omega
          rw [e3] at i1 ⊢
          exact i1
theorem m_put_108 {u n : Nat} (hu : u < 2 ^ 64) (hn : n ≤ 8) {l : Nat} (h7 : M 0 7 = l) (hl : l + n ≤ 80) : ∀ (m fu k : Nat) (g : Nat → Int), m < fu → k + m = n → fX6_put_108 c fu (hM h a (rset M 5 g)) (some a) (lL u) (iI n) (iI k) = some (hM h a (mset (rset M 5 (fun j => if l + k ≤ j ∧ j < l + n then (byP u (n - 1 - (j - l)) : Int) else g j)) 0 7 (l + n)), some (.inl (iI (l + n)))) := by
  intro m
  induction m with
  | zero =>
    intro fu k g hf hk
    obtain ⟨f, rfl⟩ : ∃ f, fu = f + 1 := ⟨fu - 1, by omega⟩
    have e : (fun j => if l + k ≤ j ∧ j < l + n then (byP u (n - 1 - (j - l)) : Int) else g j) = g := by
      funext j; rw [if_neg (by omega)]
    have e7 : rset M 5 g 0 7 = l := by rw [rset_ne (by decide)]; exact h7
    rw [fX6_put_108, e]
    simp (maxSteps := 1000000) (disch := omega) only [cc_s, kI_i, kV_n, kR_r, ck_M, rdI_M3, rdI_M7, rdI_M9, rdI_M10, rdI_M11, rdI_M12, rdI_M14, rdR_M1, rdR_M2, rdR_M4, rdR_M5, rdR_M6, rdR_M8, rdR_M13, wr_M0, wr_M3, wr_M7, wr_M9, wr_M10, wr_M11, wr_M12, wr_M14, ald_M1, ald_M2, ald_M3, ald_M5, ald_M6, ald_M7, ast_M1, ast_M2, ast_M3, ast_M5, ast_M6, ast_M7, iI_l, iI_add, iI_sub, iI_mul, iI_neg, dv_i, Int.reduceToNat, lt_i, e7]
    rw [if_neg (by omega), mset_at, if_pos rfl]
  | succ m ih =>
    intro fu k g hf hk
    obtain ⟨f, rfl⟩ : ∃ f, fu = f + 1 := ⟨fu - 1, by omega⟩
    have e7 : rset M 5 g 0 7 = l := by rw [rset_ne (by decide)]; exact h7
    have b : byP u (n - 1 - k) < 256 := Nat.mod_lt _ (by decide)
    have sh : (ushrL (lL u) (iI (8 * ((n : Int) - 1 - k))) &&& 255).toInt32 = iI (byP u (n - 1 - k) : Nat) := by
      rw [show (8 * ((n : Int) - 1 - k)) = ((8 * (n - 1 - k) : Nat) : Int) by omega, lL_shr hu (by omega), lL_255, lL_and]
      exact lL_int b
    rw [fX6_put_108]
    simp (maxSteps := 1000000) (disch := omega) only [cc_s, kI_i, kV_n, kR_r, ck_M, rdI_M3, rdI_M7, rdI_M9, rdI_M10, rdI_M11, rdI_M12, rdI_M14, rdR_M1, rdR_M2, rdR_M4, rdR_M5, rdR_M6, rdR_M8, rdR_M13, wr_M0, wr_M3, wr_M7, wr_M9, wr_M10, wr_M11, wr_M12, wr_M14, ald_M1, ald_M2, ald_M3, ald_M5, ald_M6, ald_M7, ast_M1, ast_M2, ast_M3, ast_M5, ast_M6, ast_M7, iI_l, iI_add, iI_sub, iI_mul, iI_neg, dv_i, Int.reduceToNat, lt_i, e7, sh, mset_r, iI_k1]
    rw [if_pos (by omega), show ((l : Int) + k).toNat = l + k by omega, ih f (k + 1) _ (by omega) (by omega)]
    have e : (fun j => if l + (k + 1) ≤ j ∧ j < l + n then (byP u (n - 1 - (j - l)) : Int) else st g (l + k) (byP u (n - 1 - k) : Nat) j) = (fun j => if l + k ≤ j ∧ j < l + n then (byP u (n - 1 - (j - l)) : Int) else g j) := by
      funext j
      unfold st
      by_cases q : j = l + k
      · rw [if_neg (by omega), if_pos q, if_pos (by omega), show j - l = k by omega]
      · by_cases q2 : l + k ≤ j ∧ j < l + n
        · rw [if_pos (by omega), if_pos q2]
        · rw [if_neg (by omega), if_neg q, if_neg q2]
    rw [e]
theorem m_put {u : Nat} (hu : u < 2 ^ 64) (R : MZ M Z) : ∃ M', fX6_put c (hM h a M) (some a) (lL u) = some (hM h a M', some (.inl (iI (rPut Z u)))) ∧ MZ M' (zPut Z u) := by
  have R0 := MZ_0 (v := 0) R
  have k13 := m_put_13 (c := c) (a := a) hu (hM h a (mset M 0 0 0)) 8 FU 0 true (by decide) (by decide)
  rw [show ((0 : Nat) : Int) = 0 from rfl, show u / 2 ^ (8 * 0) = u by simp, show iI (bI (true = true)) = iI 1 from rfl] at k13
  have pl := pcL_le (u := u) 8 0 true
  have dd : u / 2 ^ (8 * (pcI u).1) < 2 ^ 64 := Nat.lt_of_le_of_lt (Nat.div_le_self _ _) hu
  change fX6_put_13 c FU (hM h a (mset M 0 0 0)) (some a) (lL u) (iI 0) (lL u) (iI 1) = fX6_put_72 c (hM h a (mset M 0 0 0)) (some a) (lL u) (iI (pcI u).1) (lL (u / 2 ^ (8 * (pcI u).1))) (iI (bI ((pcI u).2 = true))) at k13
  change 0 ≤ (pcI u).1 ∧ (pcI u).1 ≤ 0 + 8 at pl
  obtain ⟨h1, h2, h3, h4, h5, h6, h7⟩ := R0
  unfold fX6_put rPut zPut
  simp (maxSteps := 1000000) (disch := omega) only [cc_s, kI_i, kV_n, kR_r, ck_M, rdI_M3, rdI_M7, rdI_M9, rdI_M10, rdI_M11, rdI_M12, rdI_M14, rdR_M1, rdR_M2, rdR_M4, rdR_M5, rdR_M6, rdR_M8, rdR_M13, wr_M0, wr_M3, wr_M7, wr_M9, wr_M10, wr_M11, wr_M12, wr_M14, ald_M1, ald_M2, ald_M3, ald_M5, ald_M6, ald_M7, ast_M1, ast_M2, ast_M3, ast_M5, ast_M6, ast_M7, iI_l, iI_add, iI_sub, iI_mul, iI_neg, dv_i, Int.reduceToNat]
  rw [k13]
  generalize pcI u = p at *
  obtain ⟨n, ok⟩ := p
  have cm : (lg_cmp (lL (u / 2 ^ (8 * n))) 0 = iI 0) = (u / 2 ^ (8 * n) = 0) := by rw [lL_0]; exact lL_cmp dd
  unfold fX6_put_72 fX6_put_88
  dsimp only at pl ⊢
  simp (maxSteps := 1000000) (disch := omega) only [cc_s, kI_i, kV_n, kR_r, ck_M, rdI_M3, rdI_M7, rdI_M9, rdI_M10, rdI_M11, rdI_M12, rdI_M14, rdR_M1, rdR_M2, rdR_M4, rdR_M5, rdR_M6, rdR_M8, rdR_M13, wr_M0, wr_M3, wr_M7, wr_M9, wr_M10, wr_M11, wr_M12, wr_M14, ald_M1, ald_M2, ald_M3, ald_M5, ald_M6, ald_M7, ast_M1, ast_M2, ast_M3, ast_M5, ast_M6, ast_M7, iI_l, iI_add, iI_sub, iI_mul, iI_neg, dv_i, Int.reduceToNat, eq_i, bI_0, cm, h6.1, lt_i]
  have R0' : MZ (mset M 0 0 0) Z := ⟨h1, h2, h3, h4, h5, h6, h7⟩
  by_cases c1 : n = 0
  · rw [if_pos (by omega), if_pos (Or.inl c1), if_pos (Or.inl c1)]
    exact ⟨_, rfl, R0'⟩
  rw [if_neg (by omega)]
  by_cases c2 : ok = true
  · rw [if_neg (fun h => h c2)]
    by_cases c3 : u / 2 ^ (8 * n) = 0
    · have nn : ¬ (n = 0 ∨ ok ≠ true ∨ u / 2 ^ (8 * n) ≠ 0) := by
        rintro (h | h | h)
        · exact c1 h
        · exact h c2
        · exact h c3
      rw [if_pos c3, if_neg nn, if_neg nn]
      by_cases c4 : 80 < zl Z + n
      · rw [if_pos (by omega), if_pos c4, if_pos c4]
        exact ⟨_, rfl, R0'⟩
      · rw [if_neg (by omega), if_neg c4, if_neg c4]
        have key := m_put_108 (c := c) (h := h) (a := a) (M := mset M 0 0 0) (n := n) hu (by omega) h6.1 (by omega) n FU 0 (mset M 0 0 0 5) (by rw [show FU = 20000 from rfl]; omega) (by omega)
        rw [rset_self, show ((0 : Nat) : Int) = 0 from rfl] at key
        refine ⟨_, key, ?_⟩
        have q : ∀ p g, p ≠ 5 → p ≠ 0 → mset (rset (mset M 0 0 0) 5 g) 0 7 ((zl Z : Int) + n) p = mset M 0 0 0 p := fun p g a5 a0 => by rw [mset_ne a0, rset_ne a5]
        refine ⟨by rw [q 1 _ (by decide) (by decide)]; exact h1, ⟨by rw [mset_at, if_neg (by decide), rset_ne (by decide)]; exact h2.1, h2.2⟩, fun k hk => by rw [q 2 _ (by decide) (by decide)]; exact h3 k hk, fun i hi => by rw [q 4 _ (by decide) (by decide)]; exact h4 i hi, fun i hi e => by rw [q 3 _ (by decide) (by decide)]; exact h5 i hi e, ⟨by rw [mset_at, if_pos rfl]; rfl, by show zl Z + n ≤ 80; omega⟩, fun j hj => ?_⟩
        rw [mset_ne (by decide), rset_eq]
        show _ = putP Z u n j
        unfold putP
        by_cases q2 : zl Z + 0 ≤ j ∧ j < zl Z + n
        · rw [if_pos q2, if_pos q2]
        · rw [if_neg q2, if_neg q2]
          have hj' : j < zl Z + n := hj
          exact h7 j (by omega)
    · rw [if_neg c3, if_pos (Or.inr (Or.inr c3)), if_pos (Or.inr (Or.inr c3))]
      exact ⟨_, rfl, R0'⟩
  · rw [if_pos c2, if_pos (Or.inr (Or.inl c2)), if_pos (Or.inr (Or.inl c2))]
    exact ⟨_, rfl, R0'⟩
end
