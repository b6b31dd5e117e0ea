/-! THE REFERENCE'S CHANGES OF A RECEIPT -/
theorem or_add {s t hi lo v : Nat} (hl : lo < 2 ^ s) (hv : v < 2 ^ t) : (2 ^ (s + t) * hi + lo) ||| (v * 2 ^ s) = 2 ^ (s + t) * hi + lo + v * 2 ^ s := by
  have e1 : 2 ^ s * v + lo < 2 ^ (s + t) := by
    have : 2 ^ s * v + 2 ^ s ≤ 2 ^ s * 2 ^ t := by
      have := Nat.mul_le_mul_left (2 ^ s) (show v + 1 ≤ 2 ^ t from hv)
      rw [Nat.mul_add, Nat.mul_one] at this
      exact this
    rw [Nat.pow_add]
    omega
  have e2 : lo < 2 ^ (s + t) := by omega
  rw [Nat.two_pow_add_eq_or_of_lt e2, Nat.or_assoc, Nat.or_comm lo, Nat.mul_comm v, ← Nat.two_pow_add_eq_or_of_lt hl, ← Nat.two_pow_add_eq_or_of_lt e1, ← Nat.two_pow_add_eq_or_of_lt e2]
  omega
theorem or_i {s t : Nat} {hi lo v : Int} (h0 : 0 ≤ hi) (l0 : 0 ≤ lo) (v0 : 0 ≤ v) (hl : lo < 2 ^ s) (hv : v < 2 ^ t) (hb : 2 ^ (s + t) * hi + lo < 4294967296) (hb2 : v * 2 ^ s < 4294967296) : iI (2 ^ (s + t) * hi + lo) ||| iI (v * 2 ^ s) = iI (2 ^ (s + t) * hi + lo + v * 2 ^ s) := by
  obtain ⟨h, rfl⟩ := Int.eq_ofNat_of_zero_le h0
  obtain ⟨l, rfl⟩ := Int.eq_ofNat_of_zero_le l0
  obtain ⟨w, rfl⟩ := Int.eq_ofNat_of_zero_le v0
  have c1 : ((2 : Int) ^ (s + t) * h + l) = ((2 ^ (s + t) * h + l : Nat) : Int) := by simp
  have c2 : ((w : Int) * 2 ^ s) = ((w * 2 ^ s : Nat) : Int) := by simp
  have k1 : (l : Int) < ((2 ^ s : Nat) : Int) := by simpa using hl
  have k2 : (w : Int) < ((2 ^ t : Nat) : Int) := by simpa using hv
  have k3 : ((2 ^ (s + t) * h + l : Nat) : Int) < 4294967296 := by rw [← c1]; exact hb
  have k4 : ((w * 2 ^ s : Nat) : Int) < 4294967296 := by rw [← c2]; exact hb2
  rw [c1, c2, or_iI (by omega) (by omega), or_add (by omega) (by omega)]
  simp
theorem or_six {e : Nat → Int} {w m : Nat} {v : Int} (he : ∀ k, 0 ≤ e k ∧ e k < 32) (hm : m < 6) (h0 : e (6 * w + m) = 0) (v0 : 0 ≤ v) (v1 : v < 32) : iI (six e w) ||| iI (v * 2 ^ (5 * m)) = iI (six (st e (6 * w + m) v) w) := by
  have h0' := he (6 * w); have h1 := he (6 * w + 1); have h2 := he (6 * w + 2); have h3 := he (6 * w + 3); have h4 := he (6 * w + 4); have h5 := he (6 * w + 5)
  have n : ∀ j, j ≠ m → st e (6 * w + m) v (6 * w + j) = e (6 * w + j) := fun j hj => by unfold st; rw [if_neg (by omega)]
  have n0 : m ≠ 0 → st e (6 * w + m) v (6 * w) = e (6 * w) := fun hj => n 0 (fun h => hj h.symm)
  have y : st e (6 * w + m) v (6 * w + m) = v := by unfold st; rw [if_pos rfl]
  unfold six
  match m, hm with
  | 0, _ =>
    have h0 : e (6 * w) = 0 := h0
    have y : st e (6 * w + 0) v (6 * w) = v := y
    have := or_i (s := 0) (t := 5) (hi := e (6 * w + 1) + 32 * e (6 * w + 2) + 1024 * e (6 * w + 3) + 32768 * e (6 * w + 4) + 1048576 * e (6 * w + 5)) (lo := 0) (v := v) (by omega) (by decide) v0 (by decide) v1 (by omega) (by omega)
    rw [y, n 1 (by decide), n 2 (by decide), n 3 (by decide), n 4 (by decide), n 5 (by decide), h0]
    refine Eq.trans (congr (congrArg HOr.hOr (congrArg iI ?_)) (congrArg iI ?_)) (this.trans (congrArg iI ?_)) <;> omega
  | 1, _ =>
    have := or_i (s := 5) (t := 5) (hi := e (6 * w + 2) + 32 * e (6 * w + 3) + 1024 * e (6 * w + 4) + 32768 * e (6 * w + 5)) (lo := e (6 * w)) (v := v) (by omega) (by omega) v0 (by omega) v1 (by omega) (by omega)
    rw [y, n0 (by decide), n 2 (by decide), n 3 (by decide), n 4 (by decide), n 5 (by decide), h0]
    refine Eq.trans (congr (congrArg HOr.hOr (congrArg iI ?_)) (congrArg iI ?_)) (this.trans (congrArg iI ?_)) <;> omega
  | 2, _ =>
    have := or_i (s := 10) (t := 5) (hi := e (6 * w + 3) + 32 * e (6 * w + 4) + 1024 * e (6 * w + 5)) (lo := e (6 * w) + 32 * e (6 * w + 1)) (v := v) (by omega) (by omega) v0 (by omega) v1 (by omega) (by omega)
    rw [y, n0 (by decide), n 1 (by decide), n 3 (by decide), n 4 (by decide), n 5 (by decide), h0]
    refine Eq.trans (congr (congrArg HOr.hOr (congrArg iI ?_)) (congrArg iI ?_)) (this.trans (congrArg iI ?_)) <;> omega
  | 3, _ =>
    have := or_i (s := 15) (t := 5) (hi := e (6 * w + 4) + 32 * e (6 * w + 5)) (lo := e (6 * w) + 32 * e (6 * w + 1) + 1024 * e (6 * w + 2)) (v := v) (by omega) (by omega) v0 (by omega) v1 (by omega) (by omega)
    rw [y, n0 (by decide), n 1 (by decide), n 2 (by decide), n 4 (by decide), n 5 (by decide), h0]
    refine Eq.trans (congr (congrArg HOr.hOr (congrArg iI ?_)) (congrArg iI ?_)) (this.trans (congrArg iI ?_)) <;> omega
  | 4, _ =>
    have := or_i (s := 20) (t := 5) (hi := e (6 * w + 5)) (lo := e (6 * w) + 32 * e (6 * w + 1) + 1024 * e (6 * w + 2) + 32768 * e (6 * w + 3)) (v := v) (by omega) (by omega) v0 (by omega) v1 (by omega) (by omega)
    rw [y, n0 (by decide), n 1 (by decide), n 2 (by decide), n 3 (by decide), n 5 (by decide), h0]
    refine Eq.trans (congr (congrArg HOr.hOr (congrArg iI ?_)) (congrArg iI ?_)) (this.trans (congrArg iI ?_)) <;> omega
  | 5, _ =>
    have := or_i (s := 25) (t := 5) (hi := 0) (lo := e (6 * w) + 32 * e (6 * w + 1) + 1024 * e (6 * w + 2) + 32768 * e (6 * w + 3) + 1048576 * e (6 * w + 4)) (v := v) (by decide) (by omega) v0 (by omega) v1 (by omega) (by omega)
    rw [y, n0 (by decide), n 1 (by decide), n 2 (by decide), n 3 (by decide), n 4 (by decide), h0]
    refine Eq.trans (congr (congrArg HOr.hOr (congrArg iI ?_)) (congrArg iI ?_)) (this.trans (congrArg iI ?_)) <;> omega
theorem six_st {e : Nat → Int} {w m w' : Nat} {v : Int} (hm : m < 6) (h : w' ≠ w) : six (st e (6 * w + m) v) w' = six e w' := by
  unfold six st
  rw [if_neg (by omega), if_neg (by omega), if_neg (by omega), if_neg (by omega), if_neg (by omega), if_neg (by omega)]
def hapD (D : Dt) (r : Nat) (v : Int) : Dt := sFl (sE D r (st (gE D r) (gF D r 9).toNat v)) r 9 (gF D r 9 + 1)
section
variable {c : Nat → Option Nat} {h : Hp} {a : Nat} {M : Nat → Nat → Int} {D : Dt} {r i k : Nat}
theorem eqS.row (M : Nat → Nat → Int) (g : Nat → Int) : eqS M (rset M 1 g) := ⟨fun p h1 _ _ _ => rset_ne h1, by rw [rset_ne (by decide)], by rw [rset_ne (by decide)]⟩
def freeI (D : Dt) : Int := fF (fun r => decide (gF D r 0 ≤ 0)) 3 18
/-- of those that are done the one that was so first -/
def olL (D : Dt) : Nat → Nat → Int → Int
  | _, 0, o => o
  | k, m + 1, o => olL D (k + 1) m (if hwP D 2 k = true ∧ (o = -6 ∨ gF D k 7 < gF D o.toNat 7) then (k : Int) else o)
def olI (D : Dt) : Int := olL D 3 18 (-6)
def fgD (D : Dt) : Dt := if 8 < manyI D 2 then emD D (olI D).toNat else D
def endD (D : Dt) (r : Nat) : Dt := fgD (sFl (sFl (sFl (sT D 5 (gT D 5 + 1)) r 3 2) r 6 (gT D 3)) r 7 (gT D 5 + 1))
theorem manyI_bd (D : Dt) (w : Int) : 0 ≤ manyI D w ∧ manyI D w ≤ 18 := by
  have := sF_bd (f := fun r => bI (hwP D w r = true)) (b := 1) 18 3 (fun i _ _ => by rcases bI_c (p := hwP D w i = true) with h | h <;> simp only [h] <;> decide)
  unfold manyI; omega
theorem olL_some {D : Dt} : ∀ (m k : Nat) (o : Int), 3 ≤ k → k + m = 21 → (o ≠ -6 → 3 ≤ o ∧ o < 21) → (olL D k m o ≠ -6 → 3 ≤ olL D k m o ∧ olL D k m o < 21) ∧ (0 < sF (fun r => bI (hwP D 2 r = true)) k m ∨ o ≠ -6 → olL D k m o ≠ -6)
  | 0, k, o, _, _, ho => ⟨ho, fun h => by rcases h with h | h; simp [sF] at h; exact h⟩
  | m + 1, k, o, h3, hk, ho => by
    rw [olL, sF]
    by_cases e : hwP D 2 k = true ∧ (o = -6 ∨ gF D k 7 < gF D o.toNat 7)
    · rw [if_pos e]
      have := olL_some (D := D) m (k + 1) k (by omega) (by omega) (fun _ => by omega)
      exact ⟨this.1, fun _ => this.2 (Or.inr (by omega))⟩
    · rw [if_neg e]
      have := olL_some (D := D) m (k + 1) o (by omega) (by omega) ho
      refine ⟨this.1, fun h => ?_⟩
      by_cases e1 : hwP D 2 k = true
      · exact this.2 (Or.inr (fun h6 => e ⟨e1, Or.inl h6⟩))
      · rw [bI_f e1] at h
        exact this.2 (by omega)
end
