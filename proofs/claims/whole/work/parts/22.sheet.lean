/-! THE SHEET: which line, which column, where what tells the same begins, the wanted line's signs -/
abbrev Ly : Type := Int × Int × Int × (Nat → Int)
def st (f : Nat → Int) (i : Nat) (v : Int) : Nat → Int := fun j => if j = i then v else f j
def lPut (w : Int) (L : Ly) (p s : Int) : Ly := (L.1, L.2.1, L.2.2.1, if L.1 = w then st L.2.2.2 p.toNat s else L.2.2.2)
def lSay (w : Int) (L : Ly) (s : Int) : Ly := (L.1, L.2.1 + 1, L.2.2.1, if L.1 = w then st L.2.2.2 L.2.1.toNat s else L.2.2.2)
def lNl (L : Ly) : Ly := (L.1 + 1, 0, L.2.2.1, L.2.2.2)
/-- the digits of n from the power 10 ^ j on, without noughts ahead -/
def lNum (w n : Int) : Nat → Ly → Ly
  | 0, L => lSay w L (48 + n % 10)
  | j + 1, L => lNum w n j (if 10 ^ (j + 1) ≤ n then lSay w L (48 + n / 10 ^ (j + 1) % 10) else L)
/-- all of them -/
def lNumD (w n : Int) : Nat → Ly → Ly
  | 0, L => lSay w L (48 + n % 10)
  | j + 1, L => lNumD w n j (lSay w L (48 + n / 10 ^ (j + 1) % 10))
def lSays (w : Int) (L : Ly) : List Int → Ly
  | [] => L
  | s :: r => lSays w (lSay w L s) r
/-- m signs of a word from k on -/
def lChars (w room : Int) (wd : Nat → Int) : Nat → Nat → Ly → Ly
  | _, 0, L => L
  | k, m + 1, L => lChars w room wd (k + 1) m (lSay w (if room ≤ L.2.1 then lNl L else L) (wd k))
def lGap (w room : Int) (m : Int) (L : Ly) : Ly := if 0 < L.2.1 ∧ L.2.1 + 1 + m ≤ room then lSay w L 32 else if 0 < L.2.1 then lNl L else L
def lWord (w room : Int) (wd : Nat → Int) (m : Nat) (L : Ly) : Ly := lChars w room wd 0 m (lGap w room m L)
/-- the memory as lines are laid: wm signs of the word wd -/
def mL (M : Nat → Nat → Int) (w : Int) (L : Ly) (wm : Int) (wd : Nat → Int) : Nat → Nat → Int := fun p j => if p = 0 then (if j = 9 then w else if j = 10 then L.1 else if j = 11 then L.2.1 else if j = 12 then L.2.2.1 else if j = 14 then wm else M 0 j) else if p = 6 then L.2.2.2 j else if p = 7 then wd j else M p j
section
variable (M : Nat → Nat → Int) (w v : Int) (L : Ly) (wm : Int) (wd : Nat → Int)
theorem mL_eta : mL M (M 0 9) (M 0 10, M 0 11, M 0 12, M 6) (M 0 14) (M 7) = M := by
  funext p j
  unfold mL
  by_cases h0 : p = 0
  · subst h0
    simp only [if_pos]
    by_cases h1 : j = 9
    · subst h1; rfl
    by_cases h2 : j = 10
    · subst h2; rfl
    by_cases h3 : j = 11
    · subst h3; rfl
    by_cases h4 : j = 12
    · subst h4; rfl
    by_cases h5 : j = 14
    · subst h5; rfl
    simp [h1, h2, h3, h4, h5]
  · by_cases h6 : p = 6
    · subst h6; rfl
    · by_cases h7 : p = 7
      · subst h7; rfl
      · simp [h0, h6, h7]
theorem mL_9 : mL M w L wm wd 0 9 = w := rfl
theorem mL_10 : mL M w L wm wd 0 10 = L.1 := rfl
theorem mL_11 : mL M w L wm wd 0 11 = L.2.1 := rfl
theorem mL_12 : mL M w L wm wd 0 12 = L.2.2.1 := rfl
theorem mL_14 : mL M w L wm wd 0 14 = wm := rfl
theorem mL_7 (j : Nat) : mL M w L wm wd 7 j = wd j := rfl
theorem mL_6 (j : Nat) : mL M w L wm wd 6 j = L.2.2.2 j := rfl
theorem mL_1 : mL M w L wm wd 1 = M 1 := rfl
theorem mL_5 : mL M w L wm wd 5 = M 5 := rfl
theorem ms_9 : mset (mL M w L wm wd) 0 9 v = mL M v L wm wd := by
  funext p j
  by_cases h0 : p = 0
  · subst h0
    by_cases h1 : j = 9
    · subst h1; rfl
    · simp [mset, mL, h1]
  · simp [mset, mL, h0]
theorem ms_10 : mset (mL M w L wm wd) 0 10 v = mL M w (v, L.2) wm wd := by
  funext p j
  by_cases h0 : p = 0
  · subst h0
    by_cases h1 : j = 10
    · subst h1; rfl
    · simp [mset, mL, h1]
  · simp [mset, mL, h0]
theorem ms_11 : mset (mL M w L wm wd) 0 11 v = mL M w (L.1, v, L.2.2) wm wd := by
  funext p j
  by_cases h0 : p = 0
  · subst h0
    by_cases h1 : j = 11
    · subst h1; rfl
    · simp [mset, mL, h1]
  · simp [mset, mL, h0]
theorem ms_12 : mset (mL M w L wm wd) 0 12 v = mL M w (L.1, L.2.1, v, L.2.2.2) wm wd := by
  funext p j
  by_cases h0 : p = 0
  · subst h0
    by_cases h1 : j = 12
    · subst h1; rfl
    · simp [mset, mL, h1]
  · simp [mset, mL, h0]
theorem ms_14 : mset (mL M w L wm wd) 0 14 v = mL M w L v wd := by
  funext p j
  by_cases h0 : p = 0
  · subst h0
    by_cases h1 : j = 14
    · subst h1; rfl
    · simp [mset, mL, h1]
  · simp [mset, mL, h0]
theorem ms_6 (i : Nat) : mset (mL M w L wm wd) 6 i v = mL M w (L.1, L.2.1, L.2.2.1, st L.2.2.2 i v) wm wd := by
  funext p j
  by_cases h0 : p = 6
  · subst h0
    simp [mset, mL, st]
  · simp [mset, mL, h0]
theorem ms_7 (i : Nat) : mset (mL M w L wm wd) 7 i v = mL M w L wm (st wd i v) := by
  funext p j
  by_cases h0 : p = 7
  · subst h0
    simp [mset, mL, st]
  · simp [mset, mL, h0]
end
section
variable {c : Nat → Option Nat} {h : Hp} {a : Nat} {M : Nat → Nat → Int} {D : Dt} {r i k : Nat} {w : Int} {L : Ly} {wm : Int} {wd : Nat → Int}
theorem m_puts {p s : Int} (h0 : 0 ≤ p) (h1 : p < 40) (a0 : 0 ≤ L.1) (a1 : L.1 < 1000000) (w0 : -2147483648 ≤ w) (w1 : w < 2147483648) : fX6_puts c (hM h a (mL M w L wm wd)) (some a) (iI p) (iI s) = some (hM h a (mL M w (lPut w L p s) wm wd), none) := by
  unfold fX6_puts fX6_puts_18 lPut
  simp (maxSteps := 1000000) (disch := omega) only [cc_s, kI_i, kV_n, kR_r, ck_M, rdI_M3, rdI_M7, rdI_M9, rdI_M10, rdI_M11, rdI_M12, rdI_M14, rdR_M1, rdR_M2, rdR_M4, rdR_M5, rdR_M6, rdR_M8, rdR_M13, wr_M0, wr_M3, wr_M7, wr_M9, wr_M10, wr_M11, wr_M12, wr_M14, ald_M1, ald_M2, ald_M3, ald_M5, ald_M6, ald_M7, ast_M1, ast_M2, ast_M3, ast_M5, ast_M6, ast_M7, iI_l, iI_add, iI_sub, iI_mul, iI_neg, dv_i, Int.reduceToNat, mL_10, mL_9, eq_i, ms_6]
  by_cases e : L.1 = w
  · rw [if_pos e, if_pos e]
  · rw [if_neg e, if_neg e]
theorem m_lays {s : Int} (h0 : 0 ≤ L.2.1) (h1 : L.2.1 < 40) (a0 : 0 ≤ L.1) (a1 : L.1 < 1000000) (w0 : -2147483648 ≤ w) (w1 : w < 2147483648) : fX6_lays c (hM h a (mL M w L wm wd)) (some a) (iI s) = some (hM h a (mL M w (lSay w L s) wm wd), none) := by
  unfold fX6_lays
  simp (maxSteps := 1000000) (disch := omega) only [cc_s, kI_i, kV_n, kR_r, ck_M, rdI_M3, rdI_M7, rdI_M9, rdI_M10, rdI_M11, rdI_M12, rdI_M14, rdR_M1, rdR_M2, rdR_M4, rdR_M5, rdR_M6, rdR_M8, rdR_M13, wr_M0, wr_M3, wr_M7, wr_M9, wr_M10, wr_M11, wr_M12, wr_M14, ald_M1, ald_M2, ald_M3, ald_M5, ald_M6, ald_M7, ast_M1, ast_M2, ast_M3, ast_M5, ast_M6, ast_M7, iI_l, iI_add, iI_sub, iI_mul, iI_neg, dv_i, Int.reduceToNat, mL_11, m_puts, ms_11]
  rfl
theorem m_nextLine : fX6_nextLine c (hM h a (mL M w L wm wd)) (some a) = some (hM h a (mL M w (lNl L) wm wd), none) := by
  unfold fX6_nextLine
  simp (maxSteps := 1000000) (disch := omega) only [cc_s, kI_i, kV_n, kR_r, ck_M, rdI_M3, rdI_M7, rdI_M9, rdI_M10, rdI_M11, rdI_M12, rdI_M14, rdR_M1, rdR_M2, rdR_M4, rdR_M5, rdR_M6, rdR_M8, rdR_M13, wr_M0, wr_M3, wr_M7, wr_M9, wr_M10, wr_M11, wr_M12, wr_M14, ald_M1, ald_M2, ald_M3, ald_M5, ald_M6, ald_M7, ast_M1, ast_M2, ast_M3, ast_M5, ast_M6, ast_M7, iI_l, iI_add, iI_sub, iI_mul, iI_neg, dv_i, Int.reduceToNat, mL_10, ms_10, ms_11]
  rfl
theorem lNum_skip {n : Int} {m : Nat} : ∀ (j : Nat) (L : Ly), n < 10 ^ (m + 1) → lNum w n (m + j) L = lNum w n m L
  | 0, _, _ => rfl
  | j + 1, L, h => by
    show lNum w n (m + j) (if 10 ^ (m + j + 1) ≤ n then _ else L) = _
    have h1 : (10 : Int) ^ (m + 1) ≤ 10 ^ (m + j + 1) := by
      have : (10 : Int) ^ (m + j + 1) = 10 ^ (m + 1) * 10 ^ j := by rw [← Int.pow_add]; congr 1; omega
      rw [this]
      have h2 : (1 : Int) ≤ 10 ^ j := Int.pow_pos (n := 10) (m := j) (by decide)
      have h3 : (0 : Int) < 10 ^ (m + 1) := Int.pow_pos (by decide)
      calc (10 : Int) ^ (m + 1) = 10 ^ (m + 1) * 1 := by rw [Int.mul_one]
        _ ≤ 10 ^ (m + 1) * 10 ^ j := Int.mul_le_mul_of_nonneg_left h2 (Int.le_of_lt h3)
    rw [if_neg (by omega)]
    exact lNum_skip j L h
theorem lNum_all {n : Int} : ∀ (j : Nat) (L : Ly), (j = 0 ∨ 10 ^ j ≤ n) → lNum w n j L = lNumD w n j L
  | 0, _, _ => rfl
  | j + 1, L, h => by
    have h1 : (10 : Int) ^ (j + 1) ≤ n := by
      rcases h with h | h
      · omega
      · exact h
    show lNum w n j (if 10 ^ (j + 1) ≤ n then _ else L) = lNumD w n j _
    rw [if_pos h1]
    refine lNum_all j _ (Or.inr ?_)
    have h2 : (10 : Int) ^ (j + 1) = 10 ^ j * 10 := Int.pow_succ 10 j
    have h3 : (0 : Int) < 10 ^ j := Int.pow_pos (by decide)
    omega
end
section
variable {c : Nat → Option Nat} {h : Hp} {a : Nat} {M : Nat → Nat → Int} {D : Dt} {r i k : Nat} {w : Int} {wm : Int} {wd : Nat → Int}
theorem p10 (j : Nat) : (0 : Int) < 10 ^ j := Int.pow_pos (by decide)
theorem p10_s (j : Nat) : (10 : Int) ^ (j + 1) = 10 * 10 ^ j := by rw [Int.pow_succ, Int.mul_comm]
theorem p10_le {i j : Nat} (h : i ≤ j) : (10 : Int) ^ i ≤ 10 ^ j := by
  induction j with
  | zero => rw [show i = 0 by omega]; exact Int.le_refl _
  | succ j ih =>
    by_cases e : i = j + 1
    · rw [e]; exact Int.le_refl _
    · have := ih (by omega)
      have := p10_s j
      have := p10 j
      omega
theorem p10_9 {j : Nat} (h : j ≤ 9) : (10 : Int) ^ j ≤ 1000000000 := p10_le h
theorem lNumD_st (n : Int) : ∀ (j : Nat) (L : Ly), (lNumD w n j L).1 = L.1 ∧ (lNumD w n j L).2.1 = L.2.1 + j + 1 ∧ (lNumD w n j L).2.2.1 = L.2.2.1
  | 0, L => ⟨rfl, by show L.2.1 + 1 = L.2.1 + ((0 : Nat) : Int) + 1; omega, rfl⟩
  | j + 1, L => by
    have h := lNumD_st n j (lSay w L (48 + n / 10 ^ (j + 1) % 10))
    refine ⟨h.1, h.2.1.trans ?_, h.2.2⟩
    show L.2.1 + 1 + j + 1 = L.2.1 + ((j + 1 : Nat) : Int) + 1
    omega
theorem m_number_18 {n : Int} (n0 : 0 ≤ n) (n1 : n < 2147483648) (w0 : -2147483648 ≤ w) (w1 : w < 2147483648) : ∀ (j fu : Nat) (L : Ly), j + 1 < fu → j ≤ 9 → 0 ≤ L.2.1 → L.2.1 + j < 40 → 0 ≤ L.1 → L.1 < 1000000 → fX6_number_18 c fu (hM h a (mL M w L wm wd)) (some a) (iI n) (iI (10 ^ j)) = some (hM h a (mL M w (lNumD w n j L) wm wd), none) := by
  intro j
  induction j with
  | zero =>
    intro fu L hf _ c0 c1 a0 a1
    obtain ⟨f, rfl⟩ : ∃ f, fu = f + 1 := ⟨fu - 1, by omega⟩
    rw [fX6_number_18]
    rw [show (10 : Int) ^ 0 = 1 from rfl]
    simp (maxSteps := 1000000) (disch := omega) only [cc_s, kI_i, kV_n, kR_r, ck_M, rdI_M3, rdI_M7, rdI_M9, rdI_M10, rdI_M11, rdI_M12, rdI_M14, rdR_M1, rdR_M2, rdR_M4, rdR_M5, rdR_M6, rdR_M8, rdR_M13, wr_M0, wr_M3, wr_M7, wr_M9, wr_M10, wr_M11, wr_M12, wr_M14, ald_M1, ald_M2, ald_M3, ald_M5, ald_M6, ald_M7, ast_M1, ast_M2, ast_M3, ast_M5, ast_M6, ast_M7, iI_l, iI_add, iI_sub, iI_mul, iI_neg, dv_i, Int.reduceToNat, lt_i, div_i, Int.ediv_one, m_lays]
    rw [if_pos (by decide)]
    obtain ⟨f', rfl⟩ : ∃ f', f = f' + 1 := ⟨f - 1, by omega⟩
    rw [fX6_number_18]
    rw [show (1 : Int) / 10 = 0 from rfl]
    simp (maxSteps := 1000000) (disch := omega) only [cc_s, kI_i, kV_n, kR_r, ck_M, rdI_M3, rdI_M7, rdI_M9, rdI_M10, rdI_M11, rdI_M12, rdI_M14, rdR_M1, rdR_M2, rdR_M4, rdR_M5, rdR_M6, rdR_M8, rdR_M13, wr_M0, wr_M3, wr_M7, wr_M9, wr_M10, wr_M11, wr_M12, wr_M14, ald_M1, ald_M2, ald_M3, ald_M5, ald_M6, ald_M7, ast_M1, ast_M2, ast_M3, ast_M5, ast_M6, ast_M7, iI_l, iI_add, iI_sub, iI_mul, iI_neg, dv_i, Int.reduceToNat, lt_i]
    rw [if_neg (by decide)]
    rw [show n - n / 10 * 10 = n % 10 by omega]
    rfl
  | succ j ih =>
    intro fu L hf hj c0 c1 a0 a1
    obtain ⟨f, rfl⟩ : ∃ f, fu = f + 1 := ⟨fu - 1, by omega⟩
    have e1 := p10_s j
    have e2 := p10 j
    have e3 := p10_9 hj
    have q0 : 0 ≤ n / 10 ^ (j + 1) := Int.ediv_nonneg n0 (by omega)
    have q1 : n / 10 ^ (j + 1) ≤ n := Int.ediv_le_self _ n0
    rw [fX6_number_18]
    simp (maxSteps := 1000000) (disch := omega) only [cc_s, kI_i, kV_n, kR_r, ck_M, rdI_M3, rdI_M7, rdI_M9, rdI_M10, rdI_M11, rdI_M12, rdI_M14, rdR_M1, rdR_M2, rdR_M4, rdR_M5, rdR_M6, rdR_M8, rdR_M13, wr_M0, wr_M3, wr_M7, wr_M9, wr_M10, wr_M11, wr_M12, wr_M14, ald_M1, ald_M2, ald_M3, ald_M5, ald_M6, ald_M7, ast_M1, ast_M2, ast_M3, ast_M5, ast_M6, ast_M7, iI_l, iI_add, iI_sub, iI_mul, iI_neg, dv_i, Int.reduceToNat, lt_i, div_i, m_lays]
    rw [if_pos (by omega)]
    rw [show (10 : Int) ^ (j + 1) / 10 = 10 ^ j by omega]
    rw [show n / 10 ^ (j + 1) - n / 10 ^ (j + 1) / 10 * 10 = n / 10 ^ (j + 1) % 10 by omega]
    exact ih f (lSay w L (48 + n / 10 ^ (j + 1) % 10)) (by omega) (by omega) (by show 0 ≤ L.2.1 + 1; omega) (by show L.2.1 + 1 + j < 40; omega) a0 a1
theorem m_number_2 {n : Int} {m : Nat} {L : Ly} (n0 : 0 ≤ n) (n1 : n < 2147483648) (w0 : -2147483648 ≤ w) (w1 : w < 2147483648) (hm : m ≤ 6) (hn1 : n < 10 ^ (m + 1)) (hn2 : m = 0 ∨ 10 ^ m ≤ n) (c0 : 0 ≤ L.2.1) (c1 : L.2.1 + m < 40) (a0 : 0 ≤ L.1) (a1 : L.1 < 1000000) : ∀ (q fu i : Nat), q < fu → i + q = m → fX6_number_2 c fu (hM h a (mL M w L wm wd)) (some a) (iI n) (iI (10 ^ i)) = some (hM h a (mL M w (lNumD w n m L) wm wd), none) := by
  intro q
  induction q with
  | zero =>
    intro fu i hf hi
    obtain ⟨f, rfl⟩ : ∃ f, fu = f + 1 := ⟨fu - 1, by omega⟩
    rw [show i = m by omega]
    have e1 := p10_s m
    have e2 := p10 m
    have e3 := p10_9 (j := m) (by omega)
    have e4 : n / 10 ^ m < 10 := Int.ediv_lt_of_lt_mul e2 (by omega)
    have e5 : 0 ≤ n / 10 ^ m := Int.ediv_nonneg n0 (by omega)
    rw [fX6_number_2]
    simp (maxSteps := 1000000) (disch := omega) only [cc_s, kI_i, kV_n, kR_r, ck_M, rdI_M3, rdI_M7, rdI_M9, rdI_M10, rdI_M11, rdI_M12, rdI_M14, rdR_M1, rdR_M2, rdR_M4, rdR_M5, rdR_M6, rdR_M8, rdR_M13, wr_M0, wr_M3, wr_M7, wr_M9, wr_M10, wr_M11, wr_M12, wr_M14, ald_M1, ald_M2, ald_M3, ald_M5, ald_M6, ald_M7, ast_M1, ast_M2, ast_M3, ast_M5, ast_M6, ast_M7, iI_l, iI_add, iI_sub, iI_mul, iI_neg, dv_i, Int.reduceToNat, lt_i, div_i]
    rw [if_neg (by omega)]
    exact m_number_18 n0 n1 w0 w1 m FU L (by show m + 1 < 20000; omega) (by omega) c0 c1 a0 a1
  | succ q ih =>
    intro fu i hf hi
    obtain ⟨f, rfl⟩ : ∃ f, fu = f + 1 := ⟨fu - 1, by omega⟩
    have e1 := p10_s i
    have e2 := p10 i
    have e3 := p10_9 (j := i) (by omega)
    have e6 := p10_le (show i + 1 ≤ m by omega)
    have e4 : 10 ≤ n / 10 ^ i := (Int.le_ediv_iff_mul_le e2).mpr (by rcases hn2 with h | h <;> omega)
    have e5 : n / 10 ^ i ≤ n := Int.ediv_le_self _ n0
    rw [fX6_number_2]
    simp (maxSteps := 1000000) (disch := omega) only [cc_s, kI_i, kV_n, kR_r, ck_M, rdI_M3, rdI_M7, rdI_M9, rdI_M10, rdI_M11, rdI_M12, rdI_M14, rdR_M1, rdR_M2, rdR_M4, rdR_M5, rdR_M6, rdR_M8, rdR_M13, wr_M0, wr_M3, wr_M7, wr_M9, wr_M10, wr_M11, wr_M12, wr_M14, ald_M1, ald_M2, ald_M3, ald_M5, ald_M6, ald_M7, ast_M1, ast_M2, ast_M3, ast_M5, ast_M6, ast_M7, iI_l, iI_add, iI_sub, iI_mul, iI_neg, dv_i, Int.reduceToNat, lt_i, div_i]
    rw [if_pos (by omega)]
    rw [show (10 : Int) ^ i * 10 = 10 ^ (i + 1) by omega]
    exact ih f (i + 1) (by omega) (by omega)
theorem dig_m {n : Int} (n0 : 0 ≤ n) (n1 : n < 10000000) : ∃ m, m ≤ 6 ∧ n < 10 ^ (m + 1) ∧ (m = 0 ∨ 10 ^ m ≤ n) := by
  by_cases h1 : n < 10
  · exact ⟨0, by decide, h1, Or.inl rfl⟩
  by_cases h2 : n < 100
  · exact ⟨1, by decide, h2, Or.inr (by omega)⟩
  by_cases h3 : n < 1000
  · exact ⟨2, by decide, h3, Or.inr (by omega)⟩
  by_cases h4 : n < 10000
  · exact ⟨3, by decide, h4, Or.inr (by omega)⟩
  by_cases h5 : n < 100000
  · exact ⟨4, by decide, h5, Or.inr (by omega)⟩
  by_cases h6 : n < 1000000
  · exact ⟨5, by decide, h6, Or.inr (by omega)⟩
  · exact ⟨6, by decide, n1, Or.inr (by omega)⟩
theorem lNum_D {n : Int} {m : Nat} (hm : m ≤ 6) (hn1 : n < 10 ^ (m + 1)) (hn2 : m = 0 ∨ 10 ^ m ≤ n) (L : Ly) : lNum w n 9 L = lNumD w n m L := by
  rw [show 9 = m + (9 - m) by omega, lNum_skip (9 - m) L hn1, lNum_all m L hn2]
theorem lNum_st {n : Int} (n0 : 0 ≤ n) (n1 : n < 10000000) (L : Ly) : (lNum w n 9 L).1 = L.1 ∧ (lNum w n 9 L).2.2.1 = L.2.2.1 ∧ L.2.1 + 1 ≤ (lNum w n 9 L).2.1 ∧ (lNum w n 9 L).2.1 ≤ L.2.1 + 7 := by
  obtain ⟨m, h1, h2, h3⟩ := dig_m n0 n1
  rw [lNum_D h1 h2 h3]
  have := lNumD_st (w := w) n m L
  omega
theorem m_number {n : Int} {L : Ly} (n0 : 0 ≤ n) (n1 : n < 10000000) (w0 : -2147483648 ≤ w) (w1 : w < 2147483648) (c0 : 0 ≤ L.2.1) (c1 : L.2.1 < 34) (a0 : 0 ≤ L.1) (a1 : L.1 < 1000000) : fX6_number c (hM h a (mL M w L wm wd)) (some a) (iI n) = some (hM h a (mL M w (lNum w n 9 L) wm wd), none) := by
  obtain ⟨m, h1, h2, h3⟩ := dig_m n0 n1
  rw [lNum_D h1 h2 h3]
  unfold fX6_number
  simp (maxSteps := 1000000) (disch := omega) only [cc_s, kI_i, kV_n, kR_r, ck_M, rdI_M3, rdI_M7, rdI_M9, rdI_M10, rdI_M11, rdI_M12, rdI_M14, rdR_M1, rdR_M2, rdR_M4, rdR_M5, rdR_M6, rdR_M8, rdR_M13, wr_M0, wr_M3, wr_M7, wr_M9, wr_M10, wr_M11, wr_M12, wr_M14, ald_M1, ald_M2, ald_M3, ald_M5, ald_M6, ald_M7, ast_M1, ast_M2, ast_M3, ast_M5, ast_M6, ast_M7, iI_l, iI_add, iI_sub, iI_mul, iI_neg, dv_i, Int.reduceToNat]
  exact m_number_2 n0 (by omega) w0 w1 h1 h2 h3 c0 (by omega) a0 a1 m FU 0 (by show m < 20000; omega) (by omega)
/-! words -/
theorem m_addsToWord {v : Int} {L : Ly} (h0 : 0 ≤ wm) (h1 : wm < 30) : fX6_addsToWord c (hM h a (mL M w L wm wd)) (some a) (iI v) = some (hM h a (mL M w L (wm + 1) (st wd wm.toNat v)), none) := by
  unfold fX6_addsToWord
  simp (maxSteps := 1000000) (disch := omega) only [cc_s, kI_i, kV_n, kR_r, ck_M, rdI_M3, rdI_M7, rdI_M9, rdI_M10, rdI_M11, rdI_M12, rdI_M14, rdR_M1, rdR_M2, rdR_M4, rdR_M5, rdR_M6, rdR_M8, rdR_M13, wr_M0, wr_M3, wr_M7, wr_M9, wr_M10, wr_M11, wr_M12, wr_M14, ald_M1, ald_M2, ald_M3, ald_M5, ald_M6, ald_M7, ast_M1, ast_M2, ast_M3, ast_M5, ast_M6, ast_M7, iI_l, iI_add, iI_sub, iI_mul, iI_neg, dv_i, Int.reduceToNat, mL_14, ms_7, ms_14]
theorem lSay_st (L : Ly) (s : Int) : (lSay w L s).1 = L.1 ∧ (lSay w L s).2.1 = L.2.1 + 1 ∧ (lSay w L s).2.2.1 = L.2.2.1 := ⟨rfl, rfl, rfl⟩
theorem lNl_st (L : Ly) : (lNl L).1 = L.1 + 1 ∧ (lNl L).2.1 = 0 ∧ (lNl L).2.2.1 = L.2.2.1 := ⟨rfl, rfl, rfl⟩
theorem m_chars {room : Int} (r0 : 1 ≤ room) (r1 : room < 40) (w0 : -2147483648 ≤ w) (w1 : w < 2147483648) : ∀ (m fu k : Nat) (L : Ly), m < fu → k + m = wm → wm ≤ 30 → 0 ≤ L.2.1 → L.2.1 ≤ room → 0 ≤ L.1 → L.1 + m < 1000000 → fX6_layWord_66 c fu (hM h a (mL M w L wm wd)) (some a) (iI room) (iI k) = some (hM h a (mL M w (lChars w room wd k m L) 0 wd), none) := by
  intro m
  induction m with
  | zero =>
    intro fu k L hf hk hw c0 c1 a0 a1
    obtain ⟨f, rfl⟩ : ∃ f, fu = f + 1 := ⟨fu - 1, by omega⟩
    rw [fX6_layWord_66]
    simp (maxSteps := 1000000) (disch := omega) only [cc_s, kI_i, kV_n, kR_r, ck_M, rdI_M3, rdI_M7, rdI_M9, rdI_M10, rdI_M11, rdI_M12, rdI_M14, rdR_M1, rdR_M2, rdR_M4, rdR_M5, rdR_M6, rdR_M8, rdR_M13, wr_M0, wr_M3, wr_M7, wr_M9, wr_M10, wr_M11, wr_M12, wr_M14, ald_M1, ald_M2, ald_M3, ald_M5, ald_M6, ald_M7, ast_M1, ast_M2, ast_M3, ast_M5, ast_M6, ast_M7, iI_l, iI_add, iI_sub, iI_mul, iI_neg, dv_i, Int.reduceToNat, mL_14, lt_i, ms_14]
    rw [if_neg (by omega)]
    rfl
  | succ m ih =>
    intro fu k L hf hk hw c0 c1 a0 a1
    obtain ⟨f, rfl⟩ : ∃ f, fu = f + 1 := ⟨fu - 1, by omega⟩
    rw [fX6_layWord_66]
    unfold fX6_layWord_86
    simp (maxSteps := 1000000) (disch := omega) only [cc_s, kI_i, kV_n, kR_r, ck_M, rdI_M3, rdI_M7, rdI_M9, rdI_M10, rdI_M11, rdI_M12, rdI_M14, rdR_M1, rdR_M2, rdR_M4, rdR_M5, rdR_M6, rdR_M8, rdR_M13, wr_M0, wr_M3, wr_M7, wr_M9, wr_M10, wr_M11, wr_M12, wr_M14, ald_M1, ald_M2, ald_M3, ald_M5, ald_M6, ald_M7, ast_M1, ast_M2, ast_M3, ast_M5, ast_M6, ast_M7, iI_l, iI_add, iI_sub, iI_mul, iI_neg, dv_i, Int.reduceToNat, mL_14, lt_i, mL_11, eq_i, m_nextLine, mL_7, m_lays, iI_k1]
    rw [if_pos (by omega)]
    by_cases e : L.2.1 = room
    · rw [if_pos e]
      have s := lNl_st L
      simp (maxSteps := 1000000) (disch := omega) only [cc_s, kI_i, kV_n, kR_r, ck_M, rdI_M3, rdI_M7, rdI_M9, rdI_M10, rdI_M11, rdI_M12, rdI_M14, rdR_M1, rdR_M2, rdR_M4, rdR_M5, rdR_M6, rdR_M8, rdR_M13, wr_M0, wr_M3, wr_M7, wr_M9, wr_M10, wr_M11, wr_M12, wr_M14, ald_M1, ald_M2, ald_M3, ald_M5, ald_M6, ald_M7, ast_M1, ast_M2, ast_M3, ast_M5, ast_M6, ast_M7, iI_l, iI_add, iI_sub, iI_mul, iI_neg, dv_i, Int.reduceToNat, mL_14, lt_i, mL_11, eq_i, m_nextLine, mL_7, m_lays, iI_k1]
      rw [Int.toNat_natCast]
      have s2 := lSay_st (w := w) (lNl L) (wd k)
      rw [ih f (k + 1) _ (by omega) (by omega) hw (by omega) (by omega) (by omega) (by omega)]
      rw [lChars, if_pos (by omega)]
    · rw [if_neg e]
      rw [Int.toNat_natCast]
      have s2 := lSay_st (w := w) L (wd k)
      rw [ih f (k + 1) _ (by omega) (by omega) hw (by omega) (by omega) (by omega) (by omega)]
      rw [lChars, if_neg (by omega)]
theorem lChars_st {room : Int} (r0 : 1 ≤ room) : ∀ (m k : Nat) (L : Ly), 0 ≤ L.2.1 → L.2.1 ≤ room → L.1 ≤ (lChars w room wd k m L).1 ∧ (lChars w room wd k m L).1 ≤ L.1 + m ∧ 0 ≤ (lChars w room wd k m L).2.1 ∧ (lChars w room wd k m L).2.1 ≤ room ∧ (lChars w room wd k m L).2.2.1 = L.2.2.1
  | 0, _, L, c0, c1 => ⟨Int.le_refl _, by show L.1 ≤ L.1 + ((0 : Nat) : Int); omega, c0, c1, rfl⟩
  | m + 1, k, L, c0, c1 => by
    rw [lChars]
    by_cases e : room ≤ L.2.1
    · rw [if_pos e]
      have s := lNl_st L
      have s2 := lSay_st (w := w) (lNl L) (wd k)
      have h := lChars_st r0 m (k + 1) (lSay w (lNl L) (wd k)) (by omega) (by omega)
      omega
    · rw [if_neg e]
      have s2 := lSay_st (w := w) L (wd k)
      have h := lChars_st r0 m (k + 1) (lSay w L (wd k)) (by omega) (by omega)
      omega
theorem lGap_st {room m : Int} (r0 : 1 ≤ room) (m0 : 0 ≤ m) {L : Ly} (c0 : 0 ≤ L.2.1) (c1 : L.2.1 ≤ room) : L.1 ≤ (lGap w room m L).1 ∧ (lGap w room m L).1 ≤ L.1 + 1 ∧ 0 ≤ (lGap w room m L).2.1 ∧ (lGap w room m L).2.1 ≤ room ∧ (lGap w room m L).2.2.1 = L.2.2.1 := by
  unfold lGap
  have s := lNl_st L
  have s2 := lSay_st (w := w) L 32
  split
  · omega
  · split <;> omega
theorem lWord_st {room : Int} (r0 : 1 ≤ room) (m : Nat) {L : Ly} (c0 : 0 ≤ L.2.1) (c1 : L.2.1 ≤ room) : L.1 ≤ (lWord w room wd m L).1 ∧ (lWord w room wd m L).1 ≤ L.1 + m + 1 ∧ 0 ≤ (lWord w room wd m L).2.1 ∧ (lWord w room wd m L).2.1 ≤ room ∧ (lWord w room wd m L).2.2.1 = L.2.2.1 := by
  have h1 := lGap_st (w := w) r0 (Int.natCast_nonneg m) c0 c1
  have h2 := lChars_st (w := w) (wd := wd) r0 m 0 (lGap w room m L) (by omega) (by omega)
  unfold lWord
  omega
theorem m_layWord {room : Int} {m : Nat} {L : Ly} (hm : wm = m) (m1 : m ≤ 30) (r0 : 1 ≤ room) (r1 : room < 40) (w0 : -2147483648 ≤ w) (w1 : w < 2147483648) (c0 : 0 ≤ L.2.1) (c1 : L.2.1 ≤ room) (a0 : 0 ≤ L.1) (a1 : L.1 + m + 1 < 1000000) : fX6_layWord c (hM h a (mL M w L wm wd)) (some a) (iI room) = some (hM h a (mL M w (lWord w room wd m L) 0 wd), none) := by
  subst hm
  have g := lGap_st (w := w) r0 (Int.natCast_nonneg m) c0 c1
  have fin := m_chars (c := c) (h := h) (a := a) (M := M) (wd := wd) (wm := m) r0 r1 w0 w1 m FU 0 (lGap w room m L) (by show m < 20000; omega) (by omega) (by omega) (by omega) (by omega) (by omega) (by omega)
  unfold lWord
  unfold fX6_layWord fX6_layWord_51 fX6_layWord_64
  simp (maxSteps := 1000000) (disch := omega) only [cc_s, kI_i, kV_n, kR_r, ck_M, rdI_M3, rdI_M7, rdI_M9, rdI_M10, rdI_M11, rdI_M12, rdI_M14, rdR_M1, rdR_M2, rdR_M4, rdR_M5, rdR_M6, rdR_M8, rdR_M13, wr_M0, wr_M3, wr_M7, wr_M9, wr_M10, wr_M11, wr_M12, wr_M14, ald_M1, ald_M2, ald_M3, ald_M5, ald_M6, ald_M7, ast_M1, ast_M2, ast_M3, ast_M5, ast_M6, ast_M7, iI_l, iI_add, iI_sub, iI_mul, iI_neg, dv_i, Int.reduceToNat, mL_14, mL_11, lt_i, m_nextLine]
  by_cases h1 : room < m
  · rw [if_pos h1]
    by_cases h2 : 0 < L.2.1
    · rw [if_pos h2]
      rw [show lGap w room m L = lNl L from by unfold lGap; rw [if_neg (by omega), if_pos h2]] at fin ⊢
      exact fin
    · rw [if_neg h2]
      rw [show lGap w room m L = L from by unfold lGap; rw [if_neg (by omega), if_neg h2]] at fin ⊢
      exact fin
  · rw [if_neg h1]
    by_cases h2 : 0 < L.2.1
    · rw [if_pos h2]
      by_cases h3 : room < L.2.1 + 1 + m
      · rw [if_pos h3]
        rw [show lGap w room m L = lNl L from by unfold lGap; rw [if_neg (by omega), if_pos h2]] at fin ⊢
        exact fin
      · rw [if_neg h3]
        rw [show lGap w room m L = lSay w L 32 from by unfold lGap; rw [if_pos (by omega)]] at fin ⊢
        simp (maxSteps := 1000000) (disch := omega) only [cc_s, kI_i, kV_n, kR_r, ck_M, rdI_M3, rdI_M7, rdI_M9, rdI_M10, rdI_M11, rdI_M12, rdI_M14, rdR_M1, rdR_M2, rdR_M4, rdR_M5, rdR_M6, rdR_M8, rdR_M13, wr_M0, wr_M3, wr_M7, wr_M9, wr_M10, wr_M11, wr_M12, wr_M14, ald_M1, ald_M2, ald_M3, ald_M5, ald_M6, ald_M7, ast_M1, ast_M2, ast_M3, ast_M5, ast_M6, ast_M7, iI_l, iI_add, iI_sub, iI_mul, iI_neg, dv_i, Int.reduceToNat, m_lays]
        rw [if_pos h2]
        exact fin
    · rw [if_neg h2]
      rw [show lGap w room m L = L from by unfold lGap; rw [if_neg (by omega), if_neg h2]] at fin ⊢
      rw [if_neg h2]
      exact fin
theorem lChars_congr {room : Int} {wd' : Nat → Int} : ∀ (m k : Nat) (L : Ly), (∀ j, k ≤ j → j < k + m → wd j = wd' j) → lChars w room wd k m L = lChars w room wd' k m L
  | 0, _, _, _ => rfl
  | m + 1, k, L, h => by
    rw [lChars, lChars, h k (Nat.le_refl k) (by omega)]
    exact lChars_congr m (k + 1) _ (fun j h1 h2 => h j (by omega) (by omega))
theorem lWord_congr {room : Int} {wd' : Nat → Int} {m : Nat} {L : Ly} (h : ∀ j, j < m → wd j = wd' j) : lWord w room wd m L = lWord w room wd' m L := lChars_congr m 0 _ (fun j _ h2 => h j (by omega))
end
