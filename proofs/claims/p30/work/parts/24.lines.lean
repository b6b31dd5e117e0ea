/-! ITEMS, AND ALL LINES -/
def chr (n : Int) : Int := if n = 27 then 95 else 96 + n
def lName (w room : Int) (N : Nat → Int) : Nat → Nat → Nat → Ly → Ly
  | fr, k, 0, L => lWord w room (fun j => chr (N (fr + j))) (k - fr) L
  | fr, k, m + 1, L => if N k = 27 then lName w room N (k + 1) (k + 1) m (lWord w room (fun j => chr (N (fr + j))) (k - fr) L) else lName w room N fr (k + 1) m L
/-- the lines since fr tell the same as the wanted one -/
def lBeg (w fr : Int) (L : Ly) : Ly := (L.1, L.2.1, if fr ≤ w ∧ w ≤ L.1 then fr else L.2.2.1, L.2.2.2)
def lMany (w n : Int) (L : Ly) : Ly := if 1 < n then lSay w (lNum w n 9 L) 120 else L
def lWords (w width : Int) (P N : Nat → Int) (L : Ly) : Ly := lName w (width - 8) N 0 0 (P 4).toNat (lMany w (P 0) L)
def lItem (w width : Int) (P N : Nat → Int) (L : Ly) : Ly := lNl (lMoney w width (P 0 * P 1) (lBeg w L.1 (lWords w width P N L)))
/-- what, a number, money -/
def lTold (w width : Int) (s : List Int) (n v : Int) (L : Ly) : Ly := lNl (lMoney w width v (lNum w n 9 (lSays w L s)))
theorem lName_st {w room : Int} {N : Nat → Int} (r0 : 1 ≤ room) : ∀ (m fr k : Nat) (L : Ly), fr ≤ k → 0 ≤ L.2.1 → L.2.1 ≤ room → L.1 ≤ (lName w room N fr k m L).1 ∧ (lName w room N fr k m L).1 ≤ L.1 + (k - fr) + 2 * m + 1 ∧ 0 ≤ (lName w room N fr k m L).2.1 ∧ (lName w room N fr k m L).2.1 ≤ room ∧ (lName w room N fr k m L).2.2.1 = L.2.2.1
  | 0, fr, k, L, hf, c0, c1 => by
    have h := lWord_st (w := w) (wd := fun j => chr (N (fr + j))) r0 (k - fr) c0 c1
    rw [lName]
    omega
  | m + 1, fr, k, L, hf, c0, c1 => by
    rw [lName]
    by_cases e : N k = 27
    · rw [if_pos e]
      have h := lWord_st (w := w) (wd := fun j => chr (N (fr + j))) r0 (k - fr) c0 c1
      have h2 := lName_st (w := w) (N := N) r0 m (k + 1) (k + 1) (lWord w room (fun j => chr (N (fr + j))) (k - fr) L) (Nat.le_refl _) (by omega) (by omega)
      omega
    · rw [if_neg e]
      have h2 := lName_st (w := w) (N := N) r0 m fr (k + 1) L (by omega) c0 c1
      omega
theorem lMany_st {w n : Int} {L : Ly} (n0 : 0 ≤ n) (n1 : n < 100) (c0 : L.2.1 = 0) : (lMany w n L).1 = L.1 ∧ 0 ≤ (lMany w n L).2.1 ∧ (lMany w n L).2.1 ≤ 8 ∧ (lMany w n L).2.2.1 = L.2.2.1 := by
  unfold lMany
  have h := lNum_st (w := w) n0 (by omega) L
  have h2 := lSay_st (w := w) (lNum w n 9 L) 120
  split <;> omega
theorem lWords_st {w width : Int} {P N : Nat → Int} {L : Ly} (wd0 : 16 ≤ width) (hp : pRg P) (c0 : L.2.1 = 0) : L.1 ≤ (lWords w width P N L).1 ∧ (lWords w width P N L).1 ≤ L.1 + 61 ∧ (lWords w width P N L).2.2.1 = L.2.2.1 := by
  unfold pRg at hp
  have h := lMany_st (w := w) (n := P 0) (L := L) (by omega) (by omega) c0
  have h2 := lName_st (w := w) (room := width - 8) (N := N) (by omega) (P 4).toNat 0 0 (lMany w (P 0) L) (Nat.le_refl _) (by omega) (by omega)
  unfold lWords
  omega
theorem sum_bd {P : Nat → Int} (hp : pRg P) : 0 ≤ P 0 * P 1 ∧ P 0 * P 1 ≤ 989901 := by
  unfold pRg at hp
  have h1 : 0 ≤ P 0 * P 1 := Int.mul_nonneg hp.1 hp.2.2.1
  have h2 : P 0 * P 1 ≤ 99 * 9999 := Int.mul_le_mul hp.2.1 hp.2.2.2.1 hp.2.2.1 (by decide)
  omega
theorem aI_p {v : Int} (h : 0 ≤ v) : aI v = v := by unfold aI; rw [if_neg (by omega)]
theorem aI_n {v : Int} (h : 0 ≤ v) : aI (-v) = v := by unfold aI; split <;> omega
theorem lItem_st {w width : Int} {P N : Nat → Int} {L : Ly} (wd0 : 16 ≤ width) (wd1 : width ≤ 40) (hp : pRg P) (c0 : L.2.1 = 0) : L.1 + 1 ≤ (lItem w width P N L).1 ∧ (lItem w width P N L).1 ≤ L.1 + 62 ∧ (lItem w width P N L).2.1 = 0 := by
  have h := lWords_st (w := w) (N := N) wd0 hp c0
  have b := sum_bd hp
  have h2 := lMoney_st (w := w) (v := P 0 * P 1) (L := lBeg w L.1 (lWords w width P N L)) (by rw [aI_p b.1]; omega) wd0 wd1
  have h3 := lNl_st (lMoney w width (P 0 * P 1) (lBeg w L.1 (lWords w width P N L)))
  have h4 : (lBeg w L.1 (lWords w width P N L)).1 = (lWords w width P N L).1 := rfl
  unfold lItem
  omega
theorem lSays_st {w : Int} : ∀ (s : List Int) (L : Ly), (lSays w L s).1 = L.1 ∧ (lSays w L s).2.1 = L.2.1 + s.length ∧ (lSays w L s).2.2.1 = L.2.2.1
  | [], L => ⟨rfl, by show L.2.1 = L.2.1 + ((0 : Nat) : Int); omega, rfl⟩
  | x :: s, L => by
    have h := lSays_st (w := w) s (lSay w L x)
    have h2 := lSay_st (w := w) L x
    rw [lSays, List.length_cons]
    omega
theorem lTold_st {w width n v : Int} {s : List Int} {L : Ly} (n0 : 0 ≤ n) (n1 : n < 10000000) (A1 : aI v < 12000000) (wd0 : 16 ≤ width) (wd1 : width ≤ 40) : (lTold w width s n v L).1 = L.1 + 1 ∧ (lTold w width s n v L).2.1 = 0 ∧ (lTold w width s n v L).2.2.1 = L.2.2.1 := by
  have h1 := lSays_st (w := w) s L
  have h2 := lNum_st (w := w) n0 n1 (lSays w L s)
  have h3 := lMoney_st (w := w) (L := lNum w n 9 (lSays w L s)) A1 wd0 wd1
  have h4 := lNl_st (lMoney w width v (lNum w n 9 (lSays w L s)))
  unfold lTold
  omega
section
variable {c : Nat → Option Nat} {h : Hp} {a : Nat} {M : Nat → Nat → Int} {D : Dt} {r i k : Nat} {w : Int} {wm : Int} {wd : Nat → Int}
theorem lWord_0 {room : Int} {m : Nat} {L : Ly} (c0 : L.2.1 = 0) : lWord w room wd m L = lChars w room wd 0 m L := by
  unfold lWord lGap
  rw [if_neg (by omega), if_neg (by omega)]
theorem lMany_1 {room n : Int} {L : Ly} (r0 : 8 ≤ room) (n0 : 1 < n) (n1 : n ≤ 9) (c0 : L.2.1 = 0) (h0 : wd 0 = 48 + n) (h1 : wd 1 = 120) : lWord w room wd 2 L = lMany w n L := by
  rw [lWord_0 c0]
  unfold lMany
  rw [if_pos n0, lNum_D (m := 0) (by decide) (by show n < 10; omega) (Or.inl rfl), lNumD, lChars, if_neg (by omega), lChars, if_neg (by show ¬ room ≤ L.2.1 + 1; omega), lChars, h0, h1, Int.emod_eq_of_lt (by omega) (by omega)]
theorem lMany_2 {room n : Int} {L : Ly} (r0 : 8 ≤ room) (n0 : 9 < n) (n1 : n ≤ 99) (c0 : L.2.1 = 0) (h0 : wd 0 = 48 + n / 10) (h1 : wd 1 = 48 + n % 10) (h2 : wd 2 = 120) : lWord w room wd 3 L = lMany w n L := by
  rw [lWord_0 c0]
  unfold lMany
  rw [if_pos (by omega), lNum_D (m := 1) (by decide) (by show n < 100; omega) (Or.inr (by show 10 ≤ n; omega)), lNumD, lNumD, lChars, if_neg (by omega), lChars, if_neg (by show ¬ room ≤ L.2.1 + 1; omega), lChars, if_neg (by show ¬ room ≤ L.2.1 + 1 + 1; omega), lChars, h0, h1, h2, show (10 : Int) ^ (0 + 1) = 10 from rfl, Int.emod_eq_of_lt (show 0 ≤ n / 10 by omega) (by omega)]
end
