/-! THE SHEET: which line, which column, where what tells the same begins, the wanted line's signs -/
abbrev Ly : Type := Int × Int × Int × (Nat → Int)
def st (f : Nat → Int) (i : Nat) (v : Int) : Nat → Int := fun j => if j = i then v else f j
def lPut (w : Int) (L : Ly) (p s : Int) : Ly := (L.1, L.2.1, L.2.2.1, if L.1 = w then st L.2.2.2 p.toNat s else L.2.2.2)
def lSay (w : Int) (L : Ly) (s : Int) : Ly := (L.1, L.2.1 + 1, L.2.2.1, if L.1 = w then st L.2.2.2 L.2.1.toNat s else L.2.2.2)
def lNl (L : Ly) : Ly := (L.1 + 1, 0, L.2.2.1, L.2.2.2)
/-- the digits of n from the power 10 ^ j on, without noughts ahead -/
def lNum (w n : Int) : Nat → Ly → Ly
  | 0, L => lSay w L (48 + n % 10)
  | j + 1, L => lNum w n j (if 10 ^ (j + 1) ≤ n then lSay w L (48 + n / 10 ^ (j + 1) % 10) else L)
/-- all of them -/
def lNumD (w n : Int) : Nat → Ly → Ly
  | 0, L => lSay w L (48 + n % 10)
  | j + 1, L => lNumD w n j (lSay w L (48 + n / 10 ^ (j + 1) % 10))
def lSays (w : Int) (L : Ly) : List Int → Ly
  | [] => L
  | s :: r => lSays w (lSay w L s) r
/-- m signs of a word from k on -/
def lChars (w room : Int) (wd : Nat → Int) : Nat → Nat → Ly → Ly
  | _, 0, L => L
  | k, m + 1, L => lChars w room wd (k + 1) m (lSay w (if room ≤ L.2.1 then lNl L else L) (wd k))
def lGap (w room : Int) (m : Int) (L : Ly) : Ly := if 0 < L.2.1 ∧ L.2.1 + 1 + m ≤ room then lSay w L 32 else if 0 < L.2.1 then lNl L else L
def lWord (w room : Int) (wd : Nat → Int) (m : Nat) (L : Ly) : Ly := lChars w room wd 0 m (lGap w room m L)
/-- the memory as lines are laid: wm signs of the word wd -/
def mL (M : Nat → Nat → Int) (w : Int) (L : Ly) (wm : Int) (wd : Nat → Int) : Nat → Nat → Int := fun p j => if p = 0 then (if j = 9 then w else if j = 10 then L.1 else if j = 11 then L.2.1 else if j = 12 then L.2.2.1 else if j = 14 then wm else M 0 j) else if p = 6 then L.2.2.2 j else if p = 7 then wd j else M p j
section
variable (M : Nat → Nat → Int) (w v : Int) (L : Ly) (wm : Int) (wd : Nat → Int)
theorem mL_eta : mL M (M 0 9) (M 0 10, M 0 11, M 0 12, M 6) (M 0 14) (M 7) = M := by
  funext p j
  unfold mL
  by_cases h0 : p = 0
  · subst h0
    simp only [if_pos]
    by_cases h1 : j = 9
    · subst h1; rfl
    by_cases h2 : j = 10
    · subst h2; rfl
    by_cases h3 : j = 11
    · subst h3; rfl
    by_cases h4 : j = 12
    · subst h4; rfl
    by_cases h5 : j = 14
    · subst h5; rfl
    simp [h1, h2, h3, h4, h5]
  · by_cases h6 : p = 6
    · subst h6; rfl
    · by_cases h7 : p = 7
      · subst h7; rfl
      · simp [h0, h6, h7]
theorem mL_9 : mL M w L wm wd 0 9 = w := rfl
theorem mL_10 : mL M w L wm wd 0 10 = L.1 := rfl
theorem mL_11 : mL M w L wm wd 0 11 = L.2.1 := rfl
theorem mL_12 : mL M w L wm wd 0 12 = L.2.2.1 := rfl
theorem mL_14 : mL M w L wm wd 0 14 = wm := rfl
theorem mL_7 (j : Nat) : mL M w L wm wd 7 j = wd j := rfl
theorem mL_6 (j : Nat) : mL M w L wm wd 6 j = L.2.2.2 j := rfl
theorem mL_1 : mL M w L wm wd 1 = M 1 := rfl
theorem mL_5 : mL M w L wm wd 5 = M 5 := rfl
theorem ms_9 : mset (mL M w L wm wd) 0 9 v = mL M v L wm wd := by
  funext p j
  by_cases h0 : p = 0
  · subst h0
    by_cases h1 : j = 9
    · subst h1; rfl
    · simp [mset, mL, h1]
  · simp [mset, mL, h0]
theorem ms_10 : mset (mL M w L wm wd) 0 10 v = mL M w (v, L.2) wm wd := by
  funext p j
  by_cases h0 : p = 0
  · subst h0
    by_cases h1 : j = 10
    · subst h1; rfl
    · simp [mset, mL, h1]
  · simp [mset, mL, h0]
theorem ms_11 : mset (mL M w L wm wd) 0 11 v = mL M w (L.1, v, L.2.2) wm wd := by
  funext p j
  by_cases h0 : p = 0
  · subst h0
    by_cases h1 : j = 11
    · subst h1; rfl
    · simp [mset, mL, h1]
  · simp [mset, mL, h0]
theorem ms_12 : mset (mL M w L wm wd) 0 12 v = mL M w (L.1, L.2.1, v, L.2.2.2) wm wd := by
  funext p j
  by_cases h0 : p = 0
  · subst h0
    by_cases h1 : j = 12
    · subst h1; rfl
    · simp [mset, mL, h1]
  · simp [mset, mL, h0]
theorem ms_14 : mset (mL M w L wm wd) 0 14 v = mL M w L v wd := by
  funext p j
  by_cases h0 : p = 0
  · subst h0
    by_cases h1 : j = 14
    · subst h1; rfl
    · simp [mset, mL, h1]
  · simp [mset, mL, h0]
theorem ms_6 (i : Nat) : mset (mL M w L wm wd) 6 i v = mL M w (L.1, L.2.1, L.2.2.1, st L.2.2.2 i v) wm wd := by
  funext p j
  by_cases h0 : p = 6
  · subst h0
    simp [mset, mL, st]
  · simp [mset, mL, h0]
theorem ms_7 (i : Nat) : mset (mL M w L wm wd) 7 i v = mL M w L wm (st wd i v) := by
  funext p j
  by_cases h0 : p = 7
  · subst h0
    simp [mset, mL, st]
  · simp [mset, mL, h0]
end
section
variable {c : Nat → Option Nat} {h : Hp} {a : Nat} {M : Nat → Nat → Int} {D : Dt} {r i k : Nat} {w : Int} {L : Ly} {wm : Int} {wd : Nat → Int}
theorem lNum_skip {n : Int} {m : Nat} : ∀ (j : Nat) (L : Ly), n < 10 ^ (m + 1) → lNum w n (m + j) L = lNum w n m L
  | 0, _, _ => rfl
  | j + 1, L, h => by
    show lNum w n (m + j) (if 10 ^ (m + j + 1) ≤ n then _ else L) = _
    have h1 : (10 : Int) ^ (m + 1) ≤ 10 ^ (m + j + 1) := by
      have : (10 : Int) ^ (m + j + 1) = 10 ^ (m + 1) * 10 ^ j := by rw [← Int.pow_add]; congr 1; omega
      rw [this]
      have h2 : (1 : Int) ≤ 10 ^ j := Int.pow_pos (n := 10) (m := j) (by decide)
      have h3 : (0 : Int) < 10 ^ (m + 1) := Int.pow_pos (by decide)
      calc (10 : Int) ^ (m + 1) = 10 ^ (m + 1) * 1 := by rw [Int.mul_one]
        _ ≤ 10 ^ (m + 1) * 10 ^ j := Int.mul_le_mul_of_nonneg_left h2 (Int.le_of_lt h3)
    rw [if_neg (by omega)]
    exact lNum_skip j L h
theorem lNum_all {n : Int} : ∀ (j : Nat) (L : Ly), (j = 0 ∨ 10 ^ j ≤ n) → lNum w n j L = lNumD w n j L
  | 0, _, _ => rfl
  | j + 1, L, h => by
    have h1 : (10 : Int) ^ (j + 1) ≤ n := by
      rcases h with h | h
      · omega
      · exact h
    show lNum w n j (if 10 ^ (j + 1) ≤ n then _ else L) = lNumD w n j _
    rw [if_pos h1]
    refine lNum_all j _ (Or.inr ?_)
    have h2 : (10 : Int) ^ (j + 1) = 10 ^ j * 10 := Int.pow_succ 10 j
    have h3 : (0 : Int) < 10 ^ j := Int.pow_pos (by decide)
    omega
end
section
variable {c : Nat → Option Nat} {h : Hp} {a : Nat} {M : Nat → Nat → Int} {D : Dt} {r i k : Nat} {w : Int} {wm : Int} {wd : Nat → Int}
theorem p10 (j : Nat) : (0 : Int) < 10 ^ j := Int.pow_pos (by decide)
theorem p10_s (j : Nat) : (10 : Int) ^ (j + 1) = 10 * 10 ^ j := by rw [Int.pow_succ, Int.mul_comm]
theorem p10_le {i j : Nat} (h : i ≤ j) : (10 : Int) ^ i ≤ 10 ^ j := by
  induction j with
  | zero => rw [show i = 0 by omega]; exact Int.le_refl _
  | succ j ih =>
    by_cases e : i = j + 1
    · rw [e]; exact Int.le_refl _
    · have := ih (by omega)
      have := p10_s j
      have := p10 j
      omega
theorem p10_9 {j : Nat} (h : j ≤ 9) : (10 : Int) ^ j ≤ 1000000000 := p10_le h
theorem lNumD_st (n : Int) : ∀ (j : Nat) (L : Ly), (lNumD w n j L).1 = L.1 ∧ (lNumD w n j L).2.1 = L.2.1 + j + 1 ∧ (lNumD w n j L).2.2.1 = L.2.2.1
  | 0, L => ⟨rfl, by show L.2.1 + 1 = L.2.1 + ((0 : Nat) : Int) + 1; omega, rfl⟩
  | j + 1, L => by
    have h := lNumD_st n j (lSay w L (48 + n / 10 ^ (j + 1) % 10))
    refine ⟨h.1, h.2.1.trans ?_, h.2.2⟩
    show L.2.1 + 1 + j + 1 = L.2.1 + ((j + 1 : Nat) : Int) + 1
    omega
theorem dig_m {n : Int} (n0 : 0 ≤ n) (n1 : n < 10000000) : ∃ m, m ≤ 6 ∧ n < 10 ^ (m + 1) ∧ (m = 0 ∨ 10 ^ m ≤ n) := by
  by_cases h1 : n < 10
  · exact ⟨0, by decide, h1, Or.inl rfl⟩
  by_cases h2 : n < 100
  · exact ⟨1, by decide, h2, Or.inr (by omega)⟩
  by_cases h3 : n < 1000
  · exact ⟨2, by decide, h3, Or.inr (by omega)⟩
  by_cases h4 : n < 10000
  · exact ⟨3, by decide, h4, Or.inr (by omega)⟩
  by_cases h5 : n < 100000
  · exact ⟨4, by decide, h5, Or.inr (by omega)⟩
  by_cases h6 : n < 1000000
  · exact ⟨5, by decide, h6, Or.inr (by omega)⟩
  · exact ⟨6, by decide, n1, Or.inr (by omega)⟩
theorem lNum_D {n : Int} {m : Nat} (hm : m ≤ 6) (hn1 : n < 10 ^ (m + 1)) (hn2 : m = 0 ∨ 10 ^ m ≤ n) (L : Ly) : lNum w n 9 L = lNumD w n m L := by
  rw [show 9 = m + (9 - m) by omega, lNum_skip (9 - m) L hn1, lNum_all m L hn2]
theorem lNum_st {n : Int} (n0 : 0 ≤ n) (n1 : n < 10000000) (L : Ly) : (lNum w n 9 L).1 = L.1 ∧ (lNum w n 9 L).2.2.1 = L.2.2.1 ∧ L.2.1 + 1 ≤ (lNum w n 9 L).2.1 ∧ (lNum w n 9 L).2.1 ≤ L.2.1 + 7 := by
  obtain ⟨m, h1, h2, h3⟩ := dig_m n0 n1
  rw [lNum_D h1 h2 h3]
  have := lNumD_st (w := w) n m L
  omega
/-! words -/
theorem lSay_st (L : Ly) (s : Int) : (lSay w L s).1 = L.1 ∧ (lSay w L s).2.1 = L.2.1 + 1 ∧ (lSay w L s).2.2.1 = L.2.2.1 := ⟨rfl, rfl, rfl⟩
theorem lNl_st (L : Ly) : (lNl L).1 = L.1 + 1 ∧ (lNl L).2.1 = 0 ∧ (lNl L).2.2.1 = L.2.2.1 := ⟨rfl, rfl, rfl⟩
theorem lChars_st {room : Int} (r0 : 1 ≤ room) : ∀ (m k : Nat) (L : Ly), 0 ≤ L.2.1 → L.2.1 ≤ room → L.1 ≤ (lChars w room wd k m L).1 ∧ (lChars w room wd k m L).1 ≤ L.1 + m ∧ 0 ≤ (lChars w room wd k m L).2.1 ∧ (lChars w room wd k m L).2.1 ≤ room ∧ (lChars w room wd k m L).2.2.1 = L.2.2.1
  | 0, _, L, c0, c1 => ⟨Int.le_refl _, by show L.1 ≤ L.1 + ((0 : Nat) : Int); omega, c0, c1, rfl⟩
  | m + 1, k, L, c0, c1 => by
    rw [lChars]
    by_cases e : room ≤ L.2.1
    · rw [if_pos e]
      have s := lNl_st L
      have s2 := lSay_st (w := w) (lNl L) (wd k)
      have h := lChars_st r0 m (k + 1) (lSay w (lNl L) (wd k)) (by omega) (by omega)
      omega
    · rw [if_neg e]
      have s2 := lSay_st (w := w) L (wd k)
      have h := lChars_st r0 m (k + 1) (lSay w L (wd k)) (by omega) (by omega)
      omega
theorem lGap_st {room m : Int} (r0 : 1 ≤ room) (m0 : 0 ≤ m) {L : Ly} (c0 : 0 ≤ L.2.1) (c1 : L.2.1 ≤ room) : L.1 ≤ (lGap w room m L).1 ∧ (lGap w room m L).1 ≤ L.1 + 1 ∧ 0 ≤ (lGap w room m L).2.1 ∧ (lGap w room m L).2.1 ≤ room ∧ (lGap w room m L).2.2.1 = L.2.2.1 := by
  unfold lGap
  have s := lNl_st L
  have s2 := lSay_st (w := w) L 32
  split
  · omega
  · split <;> omega
theorem lWord_st {room : Int} (r0 : 1 ≤ room) (m : Nat) {L : Ly} (c0 : 0 ≤ L.2.1) (c1 : L.2.1 ≤ room) : L.1 ≤ (lWord w room wd m L).1 ∧ (lWord w room wd m L).1 ≤ L.1 + m + 1 ∧ 0 ≤ (lWord w room wd m L).2.1 ∧ (lWord w room wd m L).2.1 ≤ room ∧ (lWord w room wd m L).2.2.1 = L.2.2.1 := by
  have h1 := lGap_st (w := w) r0 (Int.natCast_nonneg m) c0 c1
  have h2 := lChars_st (w := w) (wd := wd) r0 m 0 (lGap w room m L) (by omega) (by omega)
  unfold lWord
  omega
theorem lChars_congr {room : Int} {wd' : Nat → Int} : ∀ (m k : Nat) (L : Ly), (∀ j, k ≤ j → j < k + m → wd j = wd' j) → lChars w room wd k m L = lChars w room wd' k m L
  | 0, _, _, _ => rfl
  | m + 1, k, L, h => by
    rw [lChars, lChars, h k (Nat.le_refl k) (by omega)]
    exact lChars_congr m (k + 1) _ (fun j h1 h2 => h j (by omega) (by omega))
theorem lWord_congr {room : Int} {wd' : Nat → Int} {m : Nat} {L : Ly} (h : ∀ j, j < m → wd j = wd' j) : lWord w room wd m L = lWord w room wd' m L := lChars_congr m 0 _ (fun j _ h2 => h j (by omega))
end
