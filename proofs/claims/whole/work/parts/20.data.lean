/-! WHAT BOTH SIDES TELL OF: totals, receipts' fields, items, names, events -/
abbrev Dt : Type := (Nat → Int) × (Nat → Nat → Int) × (Nat → Nat → Nat → Int) × (Nat → Nat → Nat → Int) × (Nat → Nat → Int)
/-- 0 width 1 roll 2 speed 3 ticks 4 closed 5 done 6 struck 7 left 8 lines 9 spoilt 10 rolls 11 thrown -/
def gT (D : Dt) : Nat → Int := D.1
/-- 0 number 1 till 2 priority 3 how 4 width 5 printed 6 tick 7 done as 8 items 9 events -/
def gF (D : Dt) : Nat → Nat → Int := D.2.1
/-- 0 many 1 price 2 tax 3 struck 4 length of the name -/
def gP (D : Dt) : Nat → Nat → Nat → Int := D.2.2.1
/-- 1 to 26 a letter, 27 what parts words -/
def gN' (D : Dt) : Nat → Nat → Nat → Int := D.2.2.2.1
/-- the item, and 16 more if it was struck -/
def gE (D : Dt) : Nat → Nat → Int := D.2.2.2.2
def pkI (p : Nat → Int) : Int := p 0 + 128 * p 1 + 2097152 * p 2 + 8388608 * p 3 + 16777216 * p 4
def six (n : Nat → Int) (w : Nat) : Int := n (6 * w) + 32 * n (6 * w + 1) + 1024 * n (6 * w + 2) + 32768 * n (6 * w + 3) + 1048576 * n (6 * w + 4) + 33554432 * n (6 * w + 5)
/-- the reference's ints for it -/
def MS (s : Nat → Int) (D : Dt) : Prop := (∀ k, k < 12 → s k = gT D k) ∧ ∀ r, r < 21 → (∀ k, k < 10 → s (12 + 86 * r + k) = gF D r k) ∧ (∀ w, w < 4 → s (12 + 86 * r + 10 + w) = six (gE D r) w) ∧ ∀ i, i < 12 → s (12 + 86 * r + 14 + 6 * i) = pkI (gP D r i) ∧ ∀ w, w < 5 → s (12 + 86 * r + 15 + 6 * i + w) = six (gN' D r i) w
def pRg (p : Nat → Int) : Prop := 0 ≤ p 0 ∧ p 0 ≤ 99 ∧ 0 ≤ p 1 ∧ p 1 ≤ 9999 ∧ 0 ≤ p 2 ∧ p 2 ≤ 2 ∧ 0 ≤ p 3 ∧ p 3 ≤ 1 ∧ 0 ≤ p 4 ∧ p 4 ≤ 30
/-- ranges of what a receipt holds -/
def Rg1 (D : Dt) (r : Nat) : Prop := (0 ≤ gF D r 8 ∧ gF D r 8 ≤ 12 ∧ 0 ≤ gF D r 9 ∧ gF D r 9 ≤ 24) ∧ (∀ i, pRg (gP D r i)) ∧ (∀ i k, 0 ≤ gN' D r i k ∧ gN' D r i k ≤ 27) ∧ ∀ k, 0 ≤ gE D r k ∧ gE D r k < 32
def RgI (D : Dt) : Prop := ∀ r, r < 21 → Rg1 D r
theorem six_dec {n : Nat → Int} {w m : Nat} (hn : ∀ k, 0 ≤ n k ∧ n k < 32) (hm : m < 6) : six n w / 2 ^ (5 * m) % 32 = n (6 * w + m) := by
  have h0 := hn (6 * w); have h1 := hn (6 * w + 1); have h2 := hn (6 * w + 2); have h3 := hn (6 * w + 3); have h4 := hn (6 * w + 4); have h5 := hn (6 * w + 5)
  unfold six
  match m, hm with
  | 0, _ =>
    show (n (6 * w) + 32 * n (6 * w + 1) + 1024 * n (6 * w + 2) + 32768 * n (6 * w + 3) + 1048576 * n (6 * w + 4) + 33554432 * n (6 * w + 5)) / 1 % 32 = n (6 * w)
    rw [Int.ediv_one]; omega
  | 1, _ => show _ / 32 % 32 = _; omega
  | 2, _ => show _ / 1024 % 32 = _; omega
  | 3, _ => show _ / 32768 % 32 = _; omega
  | 4, _ => show _ / 1048576 % 32 = _; omega
  | 5, _ => show _ / 33554432 % 32 = _; omega
theorem six_rg {n : Nat → Int} {w : Nat} (hn : ∀ k, 0 ≤ n k ∧ n k < 32) : 0 ≤ six n w ∧ six n w < 1073741824 := by
  have h0 := hn (6 * w); have h1 := hn (6 * w + 1); have h2 := hn (6 * w + 2); have h3 := hn (6 * w + 3); have h4 := hn (6 * w + 4); have h5 := hn (6 * w + 5)
  unfold six
  omega
theorem shr_i {z k : Int} (h1 : -2147483648 ≤ z) (h2 : z < 2147483648) (hk0 : 0 ≤ k) (hk : k < 32) : shrI (iI z) (iI k) = iI (z / 2 ^ k.toNat) := by
  obtain ⟨n, rfl⟩ := Int.eq_ofNat_of_zero_le hk0
  exact shr_iI ⟨h1, h2⟩ (by omega)
theorem shl_i {z k : Int} (hk0 : 0 ≤ k) (hk : k < 32) : shlI (iI z) (iI k) = iI (z * 2 ^ k.toNat) := by
  obtain ⟨n, rfl⟩ := Int.eq_ofNat_of_zero_le hk0
  exact shl_iI (by omega)
theorem and_31 {z : Int} (h : 0 ≤ z) : iI z &&& iI 31 = iI (z % 32) := mask_iI h 5
theorem and_1 {z : Int} (h : 0 ≤ z) : iI z &&& iI 1 = iI (z % 2) := mask_iI h 1
theorem and_3 {z : Int} (h : 0 ≤ z) : iI z &&& iI 3 = iI (z % 4) := mask_iI h 2
theorem and_127 {z : Int} (h : 0 ≤ z) : iI z &&& iI 127 = iI (z % 128) := mask_iI h 7
theorem and_16383 {z : Int} (h : 0 ≤ z) : iI z &&& iI 16383 = iI (z % 16384) := mask_iI h 14
theorem pk_rg {p : Nat → Int} (h : pRg p) : 0 ≤ pkI p ∧ pkI p < 536870912 := by
  unfold pRg at h; unfold pkI; omega
theorem pk_0 {p : Nat → Int} (h : pRg p) : pkI p % 128 = p 0 := by
  unfold pRg at h; unfold pkI; omega
theorem pk_1 {p : Nat → Int} (h : pRg p) : pkI p / 128 % 16384 = p 1 := by
  unfold pRg at h; unfold pkI; omega
theorem pk_2 {p : Nat → Int} (h : pRg p) : pkI p / 2097152 % 4 = p 2 := by
  unfold pRg at h; unfold pkI; omega
theorem pk_3 {p : Nat → Int} (h : pRg p) : pkI p / 8388608 % 2 = p 3 := by
  unfold pRg at h; unfold pkI; omega
theorem pk_4 {p : Nat → Int} (h : pRg p) : pkI p / 16777216 % 32 = p 4 := by
  unfold pRg at h; unfold pkI; omega
theorem ret_c {h : Hp} {x y : Int} (e : x = y) : (some (h, some (.inl (iI x))) : Rs) = some (h, some (.inl (iI y))) := by rw [e]
/-! the reference's readers -/
section
variable {c : Nat → Option Nat} {h : Hp} {a : Nat} {M : Nat → Nat → Int} {D : Dt} {r i k : Nat}
theorem m_F (R : MS (M 1) D) (hr : r < 21) {w : Int} (h0 : 0 ≤ w) (h1 : w < 10) : fX6_of c (hM h a M) (some a) (iI r) (iI w) = some (hM h a M, some (.inl (iI (gF D r w.toNat)))) := by
  rw [m_of (by omega) (by omega), ← (R.2 r hr).1 w.toNat (by omega)]
  rw [show (12 + 86 * (r : Int) + w).toNat = 12 + 86 * r + w.toNat by omega]
theorem m_packed (R : MS (M 1) D) (hr : r < 21) (hi : i < 12) : fX6_packed c (hM h a M) (some a) (iI r) (iI i) = some (hM h a M, some (.inl (iI (pkI (gP D r i))))) := by
  unfold fX6_packed
  simp (maxSteps := 1000000) (disch := omega) only [cc_s, kI_i, kV_n, kR_r, ck_M, rdI_M3, rdI_M7, rdI_M9, rdI_M10, rdI_M11, rdI_M12, rdI_M14, rdR_M1, rdR_M2, rdR_M4, rdR_M5, rdR_M6, rdR_M8, rdR_M13, wr_M0, wr_M3, wr_M7, wr_M9, wr_M10, wr_M11, wr_M12, wr_M14, ald_M1, ald_M2, ald_M3, ald_M5, ald_M6, ald_M7, ast_M1, ast_M2, ast_M3, ast_M5, ast_M6, ast_M7, iI_l, iI_add, iI_sub, iI_mul, iI_neg, dv_i, Int.reduceToNat, m_of]
  rw [← ((R.2 r hr).2.2 i hi).1]
  rw [show (12 + 86 * (r : Int) + (14 + 6 * i)).toNat = 12 + 86 * r + 14 + 6 * i by omega]
theorem m_howMany (R : MS (M 1) D) (G : Rg1 D r) (hr : r < 21) (hi : i < 12) : fX6_howMany c (hM h a M) (some a) (iI r) (iI i) = some (hM h a M, some (.inl (iI (gP D r i 0)))) := by
  have p := G.2.1 i
  have q := pk_rg p
  unfold fX6_howMany
  simp (maxSteps := 1000000) (disch := omega) only [cc_s, kI_i, kV_n, kR_r, ck_M, rdI_M3, rdI_M7, rdI_M9, rdI_M10, rdI_M11, rdI_M12, rdI_M14, rdR_M1, rdR_M2, rdR_M4, rdR_M5, rdR_M6, rdR_M8, rdR_M13, wr_M0, wr_M3, wr_M7, wr_M9, wr_M10, wr_M11, wr_M12, wr_M14, ald_M1, ald_M2, ald_M3, ald_M5, ald_M6, ald_M7, ast_M1, ast_M2, ast_M3, ast_M5, ast_M6, ast_M7, iI_l, iI_add, iI_sub, iI_mul, iI_neg, dv_i, Int.reduceToNat, m_packed R hr hi, and_127, pk_0 p]
theorem m_price (R : MS (M 1) D) (G : Rg1 D r) (hr : r < 21) (hi : i < 12) : fX6_price c (hM h a M) (some a) (iI r) (iI i) = some (hM h a M, some (.inl (iI (gP D r i 1)))) := by
  have p := G.2.1 i
  have q := pk_rg p
  unfold fX6_price
  simp (maxSteps := 1000000) (disch := omega) only [cc_s, kI_i, kV_n, kR_r, ck_M, rdI_M3, rdI_M7, rdI_M9, rdI_M10, rdI_M11, rdI_M12, rdI_M14, rdR_M1, rdR_M2, rdR_M4, rdR_M5, rdR_M6, rdR_M8, rdR_M13, wr_M0, wr_M3, wr_M7, wr_M9, wr_M10, wr_M11, wr_M12, wr_M14, ald_M1, ald_M2, ald_M3, ald_M5, ald_M6, ald_M7, ast_M1, ast_M2, ast_M3, ast_M5, ast_M6, ast_M7, iI_l, iI_add, iI_sub, iI_mul, iI_neg, dv_i, Int.reduceToNat, m_packed R hr hi, shr_i]
  rw [and_16383 (Int.ediv_nonneg q.1 (by decide))]
  exact ret_c (pk_1 p)
theorem m_tax (R : MS (M 1) D) (G : Rg1 D r) (hr : r < 21) (hi : i < 12) : fX6_tax c (hM h a M) (some a) (iI r) (iI i) = some (hM h a M, some (.inl (iI (gP D r i 2)))) := by
  have p := G.2.1 i
  have q := pk_rg p
  unfold fX6_tax
  simp (maxSteps := 1000000) (disch := omega) only [cc_s, kI_i, kV_n, kR_r, ck_M, rdI_M3, rdI_M7, rdI_M9, rdI_M10, rdI_M11, rdI_M12, rdI_M14, rdR_M1, rdR_M2, rdR_M4, rdR_M5, rdR_M6, rdR_M8, rdR_M13, wr_M0, wr_M3, wr_M7, wr_M9, wr_M10, wr_M11, wr_M12, wr_M14, ald_M1, ald_M2, ald_M3, ald_M5, ald_M6, ald_M7, ast_M1, ast_M2, ast_M3, ast_M5, ast_M6, ast_M7, iI_l, iI_add, iI_sub, iI_mul, iI_neg, dv_i, Int.reduceToNat, m_packed R hr hi, shr_i]
  rw [and_3 (Int.ediv_nonneg q.1 (by decide))]
  exact ret_c (pk_2 p)
theorem m_isStruck (R : MS (M 1) D) (G : Rg1 D r) (hr : r < 21) (hi : i < 12) : fX6_isStruck c (hM h a M) (some a) (iI r) (iI i) = some (hM h a M, some (.inl (iI (bI (gP D r i 3 = 1))))) := by
  have p := G.2.1 i
  have q := pk_rg p
  unfold fX6_isStruck fX6_isStruck_20
  simp (maxSteps := 1000000) (disch := omega) only [cc_s, kI_i, kV_n, kR_r, ck_M, rdI_M3, rdI_M7, rdI_M9, rdI_M10, rdI_M11, rdI_M12, rdI_M14, rdR_M1, rdR_M2, rdR_M4, rdR_M5, rdR_M6, rdR_M8, rdR_M13, wr_M0, wr_M3, wr_M7, wr_M9, wr_M10, wr_M11, wr_M12, wr_M14, ald_M1, ald_M2, ald_M3, ald_M5, ald_M6, ald_M7, ast_M1, ast_M2, ast_M3, ast_M5, ast_M6, ast_M7, iI_l, iI_add, iI_sub, iI_mul, iI_neg, dv_i, Int.reduceToNat, m_packed R hr hi, shr_i]
  rw [and_1 (Int.ediv_nonneg q.1 (by decide)), show pkI (gP D r i) / 2 ^ 23 % 2 = gP D r i 3 from pk_3 p]
  unfold pRg at p
  simp (disch := omega) only [eq_i, rt_0, rt_1]
  split
  · next e => rw [bI_t e]
  · next e => rw [bI_f e]
theorem m_nameLength (R : MS (M 1) D) (G : Rg1 D r) (hr : r < 21) (hi : i < 12) : fX6_nameLength c (hM h a M) (some a) (iI r) (iI i) = some (hM h a M, some (.inl (iI (gP D r i 4)))) := by
  have p := G.2.1 i
  have q := pk_rg p
  unfold fX6_nameLength
  simp (maxSteps := 1000000) (disch := omega) only [cc_s, kI_i, kV_n, kR_r, ck_M, rdI_M3, rdI_M7, rdI_M9, rdI_M10, rdI_M11, rdI_M12, rdI_M14, rdR_M1, rdR_M2, rdR_M4, rdR_M5, rdR_M6, rdR_M8, rdR_M13, wr_M0, wr_M3, wr_M7, wr_M9, wr_M10, wr_M11, wr_M12, wr_M14, ald_M1, ald_M2, ald_M3, ald_M5, ald_M6, ald_M7, ast_M1, ast_M2, ast_M3, ast_M5, ast_M6, ast_M7, iI_l, iI_add, iI_sub, iI_mul, iI_neg, dv_i, Int.reduceToNat, m_packed R hr hi, shr_i]
  rw [and_31 (Int.ediv_nonneg q.1 (by decide))]
  exact ret_c (pk_4 p)
theorem m_sum (R : MS (M 1) D) (G : Rg1 D r) (hr : r < 21) (hi : i < 12) : fX6_sum c (hM h a M) (some a) (iI r) (iI i) = some (hM h a M, some (.inl (iI (gP D r i 0 * gP D r i 1)))) := by
  unfold fX6_sum
  simp (maxSteps := 1000000) (disch := omega) only [cc_s, kI_i, kV_n, kR_r, ck_M, rdI_M3, rdI_M7, rdI_M9, rdI_M10, rdI_M11, rdI_M12, rdI_M14, rdR_M1, rdR_M2, rdR_M4, rdR_M5, rdR_M6, rdR_M8, rdR_M13, wr_M0, wr_M3, wr_M7, wr_M9, wr_M10, wr_M11, wr_M12, wr_M14, ald_M1, ald_M2, ald_M3, ald_M5, ald_M6, ald_M7, ast_M1, ast_M2, ast_M3, ast_M5, ast_M6, ast_M7, iI_l, iI_add, iI_sub, iI_mul, iI_neg, dv_i, Int.reduceToNat, m_howMany R G hr hi, m_price R G hr hi]
theorem m_nameSign (R : MS (M 1) D) (G : Rg1 D r) (hr : r < 21) (hi : i < 12) (hk : k < 30) : fX6_nameSign c (hM h a M) (some a) (iI r) (iI i) (iI k) = some (hM h a M, some (.inl (iI (gN' D r i k)))) := by
  have q := six_rg (n := gN' D r i) (w := k / 6) (fun k => by have := G.2.2.1 i k; omega)
  have e := ((R.2 r hr).2.2 i hi).2 (k / 6) (by omega)
  have e2 := six_dec (n := gN' D r i) (w := k / 6) (m := k % 6) (fun k => by have := G.2.2.1 i k; omega) (by omega)
  unfold fX6_nameSign
  simp (maxSteps := 1000000) (disch := omega) only [cc_s, kI_i, kV_n, kR_r, ck_M, rdI_M3, rdI_M7, rdI_M9, rdI_M10, rdI_M11, rdI_M12, rdI_M14, rdR_M1, rdR_M2, rdR_M4, rdR_M5, rdR_M6, rdR_M8, rdR_M13, wr_M0, wr_M3, wr_M7, wr_M9, wr_M10, wr_M11, wr_M12, wr_M14, ald_M1, ald_M2, ald_M3, ald_M5, ald_M6, ald_M7, ast_M1, ast_M2, ast_M3, ast_M5, ast_M6, ast_M7, iI_l, iI_add, iI_sub, iI_mul, iI_neg, dv_i, Int.reduceToNat, m_of, div_i]
  rw [show (12 + 86 * (r : Int) + (14 + 6 * i + 1 + k / 6)).toNat = 12 + 86 * r + 15 + 6 * i + k / 6 by omega, e]
  rw [shr_i (by omega) (by omega) (by omega) (by omega), and_31 (Int.ediv_nonneg q.1 (Int.le_of_lt (Int.pow_pos (by decide))))]
  rw [show (5 * ((k : Int) - k / 6 * 6)).toNat = 5 * (k % 6) by omega, e2, Nat.div_add_mod]
theorem m_event (R : MS (M 1) D) (G : Rg1 D r) (hr : r < 21) (hk : k < 24) : fX6_event c (hM h a M) (some a) (iI r) (iI k) = some (hM h a M, some (.inl (iI (gE D r k)))) := by
  have q := six_rg (n := gE D r) (w := k / 6) G.2.2.2
  have e := (R.2 r hr).2.1 (k / 6) (by omega)
  have e2 := six_dec (n := gE D r) (w := k / 6) (m := k % 6) G.2.2.2 (by omega)
  unfold fX6_event
  simp (maxSteps := 1000000) (disch := omega) only [cc_s, kI_i, kV_n, kR_r, ck_M, rdI_M3, rdI_M7, rdI_M9, rdI_M10, rdI_M11, rdI_M12, rdI_M14, rdR_M1, rdR_M2, rdR_M4, rdR_M5, rdR_M6, rdR_M8, rdR_M13, wr_M0, wr_M3, wr_M7, wr_M9, wr_M10, wr_M11, wr_M12, wr_M14, ald_M1, ald_M2, ald_M3, ald_M5, ald_M6, ald_M7, ast_M1, ast_M2, ast_M3, ast_M5, ast_M6, ast_M7, iI_l, iI_add, iI_sub, iI_mul, iI_neg, dv_i, Int.reduceToNat, m_of, div_i]
  rw [show (12 + 86 * (r : Int) + (10 + k / 6)).toNat = 12 + 86 * r + 10 + k / 6 by omega, e]
  rw [shr_i (by omega) (by omega) (by omega) (by omega), and_31 (Int.ediv_nonneg q.1 (Int.le_of_lt (Int.pow_pos (by decide))))]
  rw [show (5 * ((k : Int) - k / 6 * 6)).toNat = 5 * (k % 6) by omega, e2, Nat.div_add_mod]
theorem m_in {h : Hp} {z l m : Int} (h1 : -2147483648 ≤ z) (h2 : z < 2147483648) (h3 : -2147483648 ≤ l) (h4 : l < 2147483648) (h5 : -2147483648 ≤ m) (h6 : m < 2147483648) : fX6_in c h (iI z) (iI l) (iI m) = some (h, some (.inl (iI (bI (l ≤ z ∧ z ≤ m))))) := by
  unfold fX6_in fX6_in_14 fX6_in_15
  simp (maxSteps := 1000000) (disch := omega) only [cc_s, kI_i, kV_n, kR_r, ck_M, rdI_M3, rdI_M7, rdI_M9, rdI_M10, rdI_M11, rdI_M12, rdI_M14, rdR_M1, rdR_M2, rdR_M4, rdR_M5, rdR_M6, rdR_M8, rdR_M13, wr_M0, wr_M3, wr_M7, wr_M9, wr_M10, wr_M11, wr_M12, wr_M14, ald_M1, ald_M2, ald_M3, ald_M5, ald_M6, ald_M7, ast_M1, ast_M2, ast_M3, ast_M5, ast_M6, ast_M7, iI_l, iI_add, iI_sub, iI_mul, iI_neg, dv_i, Int.reduceToNat, lt_i, rt_0, rt_1]
  by_cases h7 : z < l
  · rw [if_pos h7, bI_f (by omega)]
  · rw [if_neg h7]
    by_cases h8 : m < z
    · rw [if_pos h8, bI_f (by omega)]
    · rw [if_neg h8, bI_t (by omega)]
theorem m_isTill {h : Hp} {z : Int} (h1 : -2147483648 ≤ z) (h2 : z < 2147483648) : fX6_isTill c h (iI z) = some (h, some (.inl (iI (bI (0 ≤ z ∧ z ≤ 2))))) := by
  unfold fX6_isTill
  simp (maxSteps := 1000000) (disch := omega) only [cc_s, kI_i, kV_n, kR_r, ck_M, rdI_M3, rdI_M7, rdI_M9, rdI_M10, rdI_M11, rdI_M12, rdI_M14, rdR_M1, rdR_M2, rdR_M4, rdR_M5, rdR_M6, rdR_M8, rdR_M13, wr_M0, wr_M3, wr_M7, wr_M9, wr_M10, wr_M11, wr_M12, wr_M14, ald_M1, ald_M2, ald_M3, ald_M5, ald_M6, ald_M7, ast_M1, ast_M2, ast_M3, ast_M5, ast_M6, ast_M7, iI_l, iI_add, iI_sub, iI_mul, iI_neg, dv_i, Int.reduceToNat, m_in, rt_b]
theorem m_isItem (R : MS (M 1) D) (G : RgI D) {t z : Int} (h1 : -2147483648 ≤ z) (h2 : z < 2147483648) (h3 : -2147483648 ≤ t) (h4 : t < 2147483648) : fX6_isItem c (hM h a M) (some a) (iI t) (iI z) = some (hM h a M, some (.inl (iI (bI (0 ≤ t ∧ t ≤ 2 ∧ 0 ≤ z ∧ z < gF D t.toNat 8))))) := by
  unfold fX6_isItem fX6_isItem_28 fX6_isItem_29
  simp (maxSteps := 1000000) (disch := omega) only [cc_s, kI_i, kV_n, kR_r, ck_M, rdI_M3, rdI_M7, rdI_M9, rdI_M10, rdI_M11, rdI_M12, rdI_M14, rdR_M1, rdR_M2, rdR_M4, rdR_M5, rdR_M6, rdR_M8, rdR_M13, wr_M0, wr_M3, wr_M7, wr_M9, wr_M10, wr_M11, wr_M12, wr_M14, ald_M1, ald_M2, ald_M3, ald_M5, ald_M6, ald_M7, ast_M1, ast_M2, ast_M3, ast_M5, ast_M6, ast_M7, iI_l, iI_add, iI_sub, iI_mul, iI_neg, dv_i, Int.reduceToNat, m_isTill, bI_0, rt_0, rt_1]
  by_cases ht : 0 ≤ t ∧ t ≤ 2
  · obtain ⟨r, rfl⟩ := Int.eq_ofNat_of_zero_le ht.1
    have g := (G r (by omega)).1
    simp (maxSteps := 1000000) (disch := omega) only [cc_s, kI_i, kV_n, kR_r, ck_M, rdI_M3, rdI_M7, rdI_M9, rdI_M10, rdI_M11, rdI_M12, rdI_M14, rdR_M1, rdR_M2, rdR_M4, rdR_M5, rdR_M6, rdR_M8, rdR_M13, wr_M0, wr_M3, wr_M7, wr_M9, wr_M10, wr_M11, wr_M12, wr_M14, ald_M1, ald_M2, ald_M3, ald_M5, ald_M6, ald_M7, ast_M1, ast_M2, ast_M3, ast_M5, ast_M6, ast_M7, iI_l, iI_add, iI_sub, iI_mul, iI_neg, dv_i, Int.reduceToNat, m_F R (r := r), m_in, bI_0, Int.toNat_natCast]
    rw [if_neg (fun h => h ht)]
    by_cases hz : 0 ≤ z ∧ z ≤ gF D r 8 - 1
    · rw [if_neg (fun h => h hz), bI_t (by omega)]
    · rw [if_pos hz, bI_f (by omega)]
  · rw [if_pos ht, bI_f (by omega)]
end
