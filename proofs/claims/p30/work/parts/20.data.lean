/-! WHAT BOTH SIDES TELL OF: totals, receipts' fields, items, names, events -/
abbrev Dt : Type := (Nat → Int) × (Nat → Nat → Int) × (Nat → Nat → Nat → Int) × (Nat → Nat → Nat → Int) × (Nat → Nat → Int)
/-- 0 width 1 roll 2 speed 3 ticks 4 closed 5 done 6 struck 7 left 8 lines 9 spoilt 10 rolls 11 thrown -/
def gT (D : Dt) : Nat → Int := D.1
/-- 0 number 1 till 2 priority 3 how 4 width 5 printed 6 tick 7 done as 8 items 9 events -/
def gF (D : Dt) : Nat → Nat → Int := D.2.1
/-- 0 many 1 price 2 tax 3 struck 4 length of the name -/
def gP (D : Dt) : Nat → Nat → Nat → Int := D.2.2.1
/-- 1 to 26 a letter, 27 what parts words -/
def gN' (D : Dt) : Nat → Nat → Nat → Int := D.2.2.2.1
/-- the item, and 16 more if it was struck -/
def gE (D : Dt) : Nat → Nat → Int := D.2.2.2.2
def pkI (p : Nat → Int) : Int := p 0 + 128 * p 1 + 2097152 * p 2 + 8388608 * p 3 + 16777216 * p 4
def six (n : Nat → Int) (w : Nat) : Int := n (6 * w) + 32 * n (6 * w + 1) + 1024 * n (6 * w + 2) + 32768 * n (6 * w + 3) + 1048576 * n (6 * w + 4) + 33554432 * n (6 * w + 5)
/-- the reference's ints for it -/
def MS (s : Nat → Int) (D : Dt) : Prop := (∀ k, k < 12 → s k = gT D k) ∧ ∀ r, r < 21 → (∀ k, k < 10 → s (12 + 86 * r + k) = gF D r k) ∧ (∀ w, w < 4 → s (12 + 86 * r + 10 + w) = six (gE D r) w) ∧ ∀ i, i < 12 → s (12 + 86 * r + 14 + 6 * i) = pkI (gP D r i) ∧ ∀ w, w < 5 → s (12 + 86 * r + 15 + 6 * i + w) = six (gN' D r i) w
def pRg (p : Nat → Int) : Prop := 0 ≤ p 0 ∧ p 0 ≤ 99 ∧ 0 ≤ p 1 ∧ p 1 ≤ 9999 ∧ 0 ≤ p 2 ∧ p 2 ≤ 2 ∧ 0 ≤ p 3 ∧ p 3 ≤ 1 ∧ 0 ≤ p 4 ∧ p 4 ≤ 30
/-- ranges of what a receipt holds -/
def Rg1 (D : Dt) (r : Nat) : Prop := (0 ≤ gF D r 8 ∧ gF D r 8 ≤ 12 ∧ 0 ≤ gF D r 9 ∧ gF D r 9 ≤ 24) ∧ (∀ i, pRg (gP D r i)) ∧ (∀ i k, 0 ≤ gN' D r i k ∧ gN' D r i k ≤ 27) ∧ ∀ k, 0 ≤ gE D r k ∧ gE D r k < 32
def RgI (D : Dt) : Prop := ∀ r, r < 21 → Rg1 D r
theorem six_dec {n : Nat → Int} {w m : Nat} (hn : ∀ k, 0 ≤ n k ∧ n k < 32) (hm : m < 6) : six n w / 2 ^ (5 * m) % 32 = n (6 * w + m) := by
  have h0 := hn (6 * w); have h1 := hn (6 * w + 1); have h2 := hn (6 * w + 2); have h3 := hn (6 * w + 3); have h4 := hn (6 * w + 4); have h5 := hn (6 * w + 5)
  unfold six
  match m, hm with
  | 0, _ =>
    show (n (6 * w) + 32 * n (6 * w + 1) + 1024 * n (6 * w + 2) + 32768 * n (6 * w + 3) + 1048576 * n (6 * w + 4) + 33554432 * n (6 * w + 5)) / 1 % 32 = n (6 * w)
    rw [Int.ediv_one]; omega
  | 1, _ => show _ / 32 % 32 = _; omega
  | 2, _ => show _ / 1024 % 32 = _; omega
  | 3, _ => show _ / 32768 % 32 = _; omega
  | 4, _ => show _ / 1048576 % 32 = _; omega
  | 5, _ => show _ / 33554432 % 32 = _; omega
theorem six_rg {n : Nat → Int} {w : Nat} (hn : ∀ k, 0 ≤ n k ∧ n k < 32) : 0 ≤ six n w ∧ six n w < 1073741824 := by
  have h0 := hn (6 * w); have h1 := hn (6 * w + 1); have h2 := hn (6 * w + 2); have h3 := hn (6 * w + 3); have h4 := hn (6 * w + 4); have h5 := hn (6 * w + 5)
  unfold six
  omega
theorem shr_i {z k : Int} (h1 : -2147483648 ≤ z) (h2 : z < 2147483648) (hk0 : 0 ≤ k) (hk : k < 32) : shrI (iI z) (iI k) = iI (z / 2 ^ k.toNat) := by
  obtain ⟨n, rfl⟩ := Int.eq_ofNat_of_zero_le hk0
  exact shr_iI ⟨h1, h2⟩ (by omega)
theorem shl_i {z k : Int} (hk0 : 0 ≤ k) (hk : k < 32) : shlI (iI z) (iI k) = iI (z * 2 ^ k.toNat) := by
  obtain ⟨n, rfl⟩ := Int.eq_ofNat_of_zero_le hk0
  exact shl_iI (by omega)
theorem and_31 {z : Int} (h : 0 ≤ z) : iI z &&& iI 31 = iI (z % 32) := mask_iI h 5
theorem and_1 {z : Int} (h : 0 ≤ z) : iI z &&& iI 1 = iI (z % 2) := mask_iI h 1
theorem and_3 {z : Int} (h : 0 ≤ z) : iI z &&& iI 3 = iI (z % 4) := mask_iI h 2
theorem and_127 {z : Int} (h : 0 ≤ z) : iI z &&& iI 127 = iI (z % 128) := mask_iI h 7
theorem and_16383 {z : Int} (h : 0 ≤ z) : iI z &&& iI 16383 = iI (z % 16384) := mask_iI h 14
theorem pk_rg {p : Nat → Int} (h : pRg p) : 0 ≤ pkI p ∧ pkI p < 536870912 := by
  unfold pRg at h; unfold pkI; omega
theorem pk_0 {p : Nat → Int} (h : pRg p) : pkI p % 128 = p 0 := by
  unfold pRg at h; unfold pkI; omega
theorem pk_1 {p : Nat → Int} (h : pRg p) : pkI p / 128 % 16384 = p 1 := by
  unfold pRg at h; unfold pkI; omega
theorem pk_2 {p : Nat → Int} (h : pRg p) : pkI p / 2097152 % 4 = p 2 := by
  unfold pRg at h; unfold pkI; omega
theorem pk_3 {p : Nat → Int} (h : pRg p) : pkI p / 8388608 % 2 = p 3 := by
  unfold pRg at h; unfold pkI; omega
theorem pk_4 {p : Nat → Int} (h : pRg p) : pkI p / 16777216 % 32 = p 4 := by
  unfold pRg at h; unfold pkI; omega
theorem ret_c {h : Hp} {x y : Int} (e : x = y) : (some (h, some (.inl (iI x))) : Rs) = some (h, some (.inl (iI y))) := by rw [e]
/-! the reference's readers -/
section
variable {c : Nat → Option Nat} {h : Hp} {a : Nat} {M : Nat → Nat → Int} {D : Dt} {r i k : Nat}
end
