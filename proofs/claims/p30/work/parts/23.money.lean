/-! MONEY at the right of a line -/
def dgN (n : Int) : Nat → Int
  | 0 => 1
  | j + 1 => dgN n j + (if 10 ^ (j + 1) ≤ n then 1 else 0)
def aI (v : Int) : Int := if v < 0 then -v else v
def lMon0 (w width v : Int) (L : Ly) : Ly := (L.1, width - dgN (aI v / 100) 9 - (if v < 0 then 4 else 3), L.2.2.1, L.2.2.2)
def lMon1 (w v : Int) (L : Ly) : Ly := if v < 0 then lSay w L 45 else L
def lMoney (w width v : Int) (L : Ly) : Ly := lSay w (lSay w (lSay w (lNum w (aI v / 100) 9 (lMon1 w v (lMon0 w width v L))) 46) (48 + aI v % 100 / 10)) (48 + aI v % 100 % 10)
/-- the i-th sign from the right, m + 1 digits ahead of the point -/
def mch (A : Int) (m i : Nat) : Int := if i = 2 then 46 else if i < 2 then 48 + A / 10 ^ i % 10 else if i ≤ m + 3 then 48 + A / 10 ^ (i - 1) % 10 else 45
/-- the signs from lo on up to width are money's -/
def mrw (row : Nat → Int) (A : Int) (m : Nat) (lo width : Int) : Nat → Int := fun j => if lo ≤ j ∧ (j : Int) < width then mch A m (width - 1 - j).toNat else row j
def mRow (w : Int) (L : Ly) (A : Int) (m : Nat) (lo width : Int) : Ly := (L.1, L.2.1, L.2.2.1, if L.1 = w then mrw L.2.2.2 A m lo width else L.2.2.2)
theorem dgN_m {n : Int} {m : Nat} (h1 : n < 10 ^ (m + 1)) (h2 : m = 0 ∨ 10 ^ m ≤ n) : ∀ j, m ≤ j → dgN n j = m + 1
  | 0, h => by rw [show m = 0 by omega]; rfl
  | j + 1, h => by
    rw [dgN]
    by_cases e : m = j + 1
    · have : ∀ i, i ≤ j → dgN n i = i + 1 := by
        intro i
        induction i with
        | zero => intro _; rfl
        | succ i ih =>
          intro hi
          rw [dgN, ih (by omega), if_pos (Int.le_trans (p10_le (show i + 1 ≤ m by omega)) (by rcases h2 with h | h <;> omega))]
          omega
      rw [this j (Nat.le_refl j), ← e, if_pos (by rcases h2 with h | h <;> omega), e]
      omega
    · have := p10_le (show m + 1 ≤ j + 1 by omega)
      rw [dgN_m h1 h2 j (by omega), if_neg (by omega)]
      omega
theorem mrw_step {row : Nat → Int} {A lo width s : Int} {m : Nat} (h0 : 0 ≤ lo) (h1 : lo < width) (hs : s = mch A m (width - 1 - lo).toNat) : st (mrw row A m (lo + 1) width) lo.toNat s = mrw row A m lo width := by
  funext j
  unfold st mrw
  by_cases e : j = lo.toNat
  · rw [if_pos e, if_pos (by omega), hs]
    congr 2
    omega
  · rw [if_neg e]
    by_cases e2 : lo ≤ j ∧ (j : Int) < width
    · rw [if_pos (by omega), if_pos e2]
    · rw [if_neg (by omega), if_neg e2]
theorem mRow_put {w : Int} {L : Ly} {A lo width s : Int} {m : Nat} (h0 : 0 ≤ lo) (h1 : lo < width) (hs : s = mch A m (width - 1 - lo).toNat) : lPut w (mRow w L A m (lo + 1) width) lo s = mRow w L A m lo width := by
  unfold lPut mRow
  by_cases e : L.1 = w
  · simp only [if_pos e, mrw_step h0 h1 hs]
  · simp only [if_neg e]
theorem mRow_0 {w : Int} {L : Ly} {A width : Int} {m : Nat} : mRow w L A m width width = L := by
  unfold mRow
  have : mrw L.2.2.2 A m width width = L.2.2.2 := by
    funext j; unfold mrw; rw [if_neg (by omega)]
  rw [this]; simp
section
variable {c : Nat → Option Nat} {h : Hp} {a : Nat} {M : Nat → Nat → Int} {D : Dt} {r i k : Nat} {w : Int} {wm : Int} {wd : Nat → Int}
theorem mch_d {A : Int} {m k : Nat} (hk : k ≠ 2) (h : k < m + 3) : 48 + A / 10 ^ k % 10 = mch A m (if k < 2 then k else k + 1) := by
  by_cases e : k < 2
  · rw [if_pos e, mch, if_neg hk, if_pos e]
  · rw [if_neg e, mch, if_neg (by omega), if_neg (by omega), if_pos (by omega)]
    rfl
theorem mch_2 {A : Int} {m : Nat} : 48 + A / 10 ^ 2 % 10 = mch A m 3 := by
  rw [mch, if_neg (by decide), if_neg (by decide), if_pos (by omega)]
/-- where the k-th digit from the right goes -/
def plc (width : Int) (k : Nat) : Int := width - 1 - k - (if k < 3 then 0 else 1)
end
/-- money's signs from lo up to p -/
def mRl (w : Int) (L : Ly) (A : Int) (m : Nat) (lo p width : Int) : Ly := (L.1, p, L.2.2.1, if L.1 = w then (fun j => if lo ≤ j ∧ (j : Int) < p then mch A m (width - 1 - j).toNat else L.2.2.2 j) else L.2.2.2)
theorem mRl_say {w : Int} {L : Ly} {A lo p width s : Int} {m : Nat} (h0 : 0 ≤ lo) (h1 : lo ≤ p) (hs : s = mch A m (width - 1 - p).toNat) : lSay w (mRl w L A m lo p width) s = mRl w L A m lo (p + 1) width := by
  unfold lSay mRl
  by_cases e : L.1 = w
  · simp only [if_pos e]
    congr 3
    funext j
    unfold st
    by_cases e2 : j = p.toNat
    · rw [if_pos e2, if_pos (by omega), hs]
      congr 2
      omega
    · rw [if_neg e2]
      dsimp only
      by_cases e3 : lo ≤ j ∧ (j : Int) < p
      · rw [if_pos e3, if_pos (by omega)]
      · rw [if_neg e3, if_neg (by omega)]
  · simp only [if_neg e]
theorem mRl_num {w : Int} {L : Ly} {A lo width : Int} {m : Nat} (A0 : 0 ≤ A) (h0 : 0 ≤ lo) : ∀ (j : Nat) (p : Int), j ≤ m → lo ≤ p → p + j + 4 = width → lNumD w (A / 100) j (mRl w L A m lo p width) = mRl w L A m lo (p + j + 1) width
  | 0, p, hj, h1, h2 => by
    rw [lNumD, mRl_say h0 h1 (by
      rw [show (width - 1 - p).toNat = 3 by omega, mch, if_neg (by decide), if_neg (by decide), if_pos (by omega)]
      rfl)]
    congr 1
    omega
  | j + 1, p, hj, h1, h2 => by
    rw [lNumD, mRl_say h0 h1 (by
      rw [show (width - 1 - p).toNat = j + 4 by omega, mch, if_neg (by omega), if_neg (by omega), if_pos (by omega)]
      rw [show j + 4 - 1 = 2 + (j + 1) by omega, Int.pow_add 10 2 (j + 1), ← Int.ediv_ediv_of_nonneg (show (0 : Int) ≤ 10 ^ 2 by decide)]
      rfl)]
    rw [mRl_num A0 h0 j (p + 1) (by omega) (by omega) (by omega)]
    congr 1
    omega
theorem lMoney_eq {w width v : Int} {m : Nat} {L : Ly} (A1 : aI v < 12000000) (hm : m ≤ 5) (hm1 : aI v / 100 < 10 ^ (m + 1)) (hm2 : m = 0 ∨ 10 ^ m ≤ aI v / 100) (wd0 : 16 ≤ width) (wd1 : width ≤ 40) : lMoney w width v L = mRl w L (aI v) m (width - (m + 4) - (if v < 0 then 1 else 0)) width width := by
  have A0 : 0 ≤ aI v := by unfold aI; split <;> omega
  have ed := dgN_m hm1 hm2 9 (by omega)
  have e0 : lMon0 w width v L = mRl w L (aI v) m (width - (m + 4) - (if v < 0 then 1 else 0)) (width - (m + 4) - (if v < 0 then 1 else 0)) width := by
    unfold lMon0 mRl
    rw [ed]
    have : (fun j : Nat => if width - (m + 4) - (if v < 0 then 1 else 0) ≤ (j : Int) ∧ (j : Int) < width - (m + 4) - (if v < 0 then 1 else 0) then mch (aI v) m (width - 1 - j).toNat else L.2.2.2 j) = L.2.2.2 := by
      funext j; rw [if_neg (by omega)]
    rw [this]
    have e : width - (m + 1 : Int) - (if v < 0 then 4 else 3) = width - (m + 4) - (if v < 0 then 1 else 0) := by split <;> omega
    rw [e]; simp
  have b0 : 0 ≤ width - (m + 4) - (if v < 0 then 1 else 0) := by split <;> omega
  have e1 : lMon1 w v (lMon0 w width v L) = mRl w L (aI v) m (width - (m + 4) - (if v < 0 then 1 else 0)) (width - (m + 4)) width := by
    rw [e0]
    unfold lMon1
    by_cases hv : v < 0
    · rw [if_pos hv, mRl_say b0 (Int.le_refl _) (by
        rw [if_pos hv, show (width - 1 - (width - (m + 4) - 1)).toNat = m + 4 by omega, mch, if_neg (by omega), if_neg (by omega), if_neg (by omega)])]
      congr 1
      rw [if_pos hv]; omega
    · rw [if_neg hv]
      congr 1
      rw [if_neg hv]; omega
  have b1 : width - (m + 4) - (if v < 0 then 1 else 0) ≤ width - (m + 4) := by split <;> omega
  unfold lMoney
  rw [e1, lNum_D (by omega) hm1 hm2, mRl_num A0 b0 m _ (Nat.le_refl m) b1 (by omega)]
  rw [show width - (m + 4) + m + 1 = width - 3 by omega]
  rw [mRl_say b0 (by omega) (by rw [show (width - 1 - (width - 3)).toNat = 2 by omega]; rfl)]
  rw [show width - 3 + 1 = width - 2 by omega]
  rw [mRl_say b0 (by omega) (by
    rw [show (width - 1 - (width - 2)).toNat = 1 by omega, mch, if_neg (by decide), if_pos (by decide), Int.pow_one]; omega)]
  rw [show width - 2 + 1 = width - 1 by omega]
  rw [mRl_say b0 (by omega) (by
    rw [show (width - 1 - (width - 1)).toNat = 0 by omega, mch, if_neg (by decide), if_pos (by decide), Int.pow_zero, Int.ediv_one]; omega)]
  rw [show width - 1 + 1 = width by omega]
theorem lMoney_nl {w width v : Int} {m : Nat} {L : Ly} (A1 : aI v < 12000000) (hm : m ≤ 5) (hm1 : aI v / 100 < 10 ^ (m + 1)) (hm2 : m = 0 ∨ 10 ^ m ≤ aI v / 100) (wd0 : 16 ≤ width) (wd1 : width ≤ 40) : lNl (lMoney w width v L) = lNl (mRow w L (aI v) m (width - (m + 4) - (if v < 0 then 1 else 0)) width) := by
  rw [lMoney_eq A1 hm hm1 hm2 wd0 wd1]
  rfl
/-- what money does to a line, in one -/
def lMn (w width v : Int) (L : Ly) : Ly := (L.1, L.2.1, L.2.2.1, (lMoney w width v L).2.2.2)
theorem mon_m {v : Int} (A1 : aI v < 12000000) : ∃ m, m ≤ 5 ∧ aI v / 100 < 10 ^ (m + 1) ∧ (m = 0 ∨ 10 ^ m ≤ aI v / 100) := by
  have A0 : 0 ≤ aI v := by unfold aI; split <;> omega
  obtain ⟨m, h1, h2, h3⟩ := dig_m (n := aI v / 100) (by omega) (by omega)
  refine ⟨m, ?_, h2, h3⟩
  by_cases e : m = 6
  · subst e
    rcases h3 with h | h
    · omega
    · have : (1000000 : Int) ≤ aI v / 100 := h
      omega
  · omega
theorem lMn_eq {w width v : Int} {m : Nat} {L : Ly} (A1 : aI v < 12000000) (hm : m ≤ 5) (hm1 : aI v / 100 < 10 ^ (m + 1)) (hm2 : m = 0 ∨ 10 ^ m ≤ aI v / 100) (wd0 : 16 ≤ width) (wd1 : width ≤ 40) : lMn w width v L = mRow w L (aI v) m (width - (m + 4) - (if v < 0 then 1 else 0)) width := by
  unfold lMn
  rw [lMoney_eq A1 hm hm1 hm2 wd0 wd1]
  rfl
theorem lMn_beg {w width v b : Int} {L : Ly} (A1 : aI v < 12000000) (wd0 : 16 ≤ width) (wd1 : width ≤ 40) : lMn w width v (L.1, L.2.1, b, L.2.2.2) = ((lMn w width v L).1, (lMn w width v L).2.1, b, (lMn w width v L).2.2.2) := by
  obtain ⟨m, h1, h2, h3⟩ := mon_m A1
  rw [lMn_eq A1 h1 h2 h3 wd0 wd1, lMn_eq A1 h1 h2 h3 wd0 wd1]
  rfl
theorem lMoney_st {w width v : Int} {L : Ly} (A1 : aI v < 12000000) (wd0 : 16 ≤ width) (wd1 : width ≤ 40) : (lMoney w width v L).1 = L.1 ∧ (lMoney w width v L).2.2.1 = L.2.2.1 := by
  obtain ⟨m, h1, h2, h3⟩ := mon_m A1
  rw [lMoney_eq A1 h1 h2 h3 wd0 wd1]
  exact ⟨rfl, rfl⟩
theorem lNl_mn {w width v : Int} {L : Ly} (A1 : aI v < 12000000) (wd0 : 16 ≤ width) (wd1 : width ≤ 40) : lNl (lMn w width v L) = lNl (lMoney w width v L) := by
  obtain ⟨m, h1, h2, h3⟩ := mon_m A1
  rw [lMoney_nl A1 h1 h2 h3 wd0 wd1, lMn_eq A1 h1 h2 h3 wd0 wd1]
section
variable {c : Nat → Option Nat} {h : Hp} {a : Nat} {M : Nat → Nat → Int} {D : Dt} {r i k : Nat} {w : Int} {wm : Int} {wd : Nat → Int}
end
