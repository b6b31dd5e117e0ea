/-! NUMBERS: ints as whole numbers -/
def iI (z : Int) : Int32 := Int32.ofInt z
theorem iI_add (a b : Int) : iI a + iI b = iI (a + b) := (Int32.ofInt_add a b).symm
theorem iI_sub (a b : Int) : iI a - iI b = iI (a - b) := (Int32.ofInt_sub a b).symm
theorem iI_mul (a b : Int) : iI a * iI b = iI (a * b) := (Int32.ofInt_mul a b).symm
theorem iI_neg (a : Int) : -iI a = iI (-a) := (Int32.ofInt_neg a).symm
theorem iI_0 : (0 : Int32) = iI 0 := rfl
theorem iI_1 : (1 : Int32) = iI 1 := rfl
/-- in the range of an int -/
def rg (z : Int) : Prop := -2147483648 ≤ z ∧ z < 2147483648
theorem toInt_iI {z : Int} (h : rg z) : (iI z).toInt = z := Int32.toInt_ofInt_of_le h.1 h.2
theorem iI_toInt (x : Int32) : iI x.toInt = x := Int32.ofInt_toInt x
theorem rg_toInt (x : Int32) : rg x.toInt := ⟨Int32.le_toInt x, Int32.toInt_lt x⟩
theorem iI_inj {a b : Int} (ha : rg a) (hb : rg b) : iI a = iI b ↔ a = b := ⟨fun h => by rw [← toInt_iI ha, ← toInt_iI hb, h], fun h => by rw [h]⟩
theorem iI_lt {a b : Int} (ha : rg a) (hb : rg b) : iI a < iI b ↔ a < b := by
  rw [Int32.lt_iff_toInt_lt, toInt_iI ha, toInt_iI hb]
theorem iI_le {a b : Int} (ha : rg a) (hb : rg b) : iI a ≤ iI b ↔ a ≤ b := by
  rw [Int32.le_iff_toInt_le, toInt_iI ha, toInt_iI hb]
theorem iI_nat {z : Int} (h : rg z) : (iI z).toNatClampNeg = z.toNat := by
  show (iI z).toInt.toNat = z.toNat
  rw [toInt_iI h]
theorem iI_div {a b : Int} (ha : rg a) (hb : rg b) : iI a / iI b = iI (a.tdiv b) :=
  (Int32.ofInt_tdiv ha.1 (by have := ha.2; show a ≤ 2147483647; omega) hb.1 (by have := hb.2; show b ≤ 2147483647; omega)).symm
theorem iI_inB {z : Int} {n : Nat} (h : rg z) : inB (iI z) n = (decide (0 ≤ z) && decide (z.toNat < n)) := by
  unfold inB
  rw [iI_nat h, iI_0, Bool.eq_iff_iff]
  simp only [Bool.and_eq_true, Bool.not_eq_true', decide_eq_false_iff_not, decide_eq_true_eq, iI_lt h (show rg 0 by unfold rg; omega)]
  constructor
  · rintro ⟨h1, h2⟩; exact ⟨by omega, Nat.le_of_ble_eq_true h2⟩
  · rintro ⟨h1, h2⟩; exact ⟨by omega, Nat.ble_eq_true_of_le h2⟩
theorem inB_ok {z : Int} {n : Nat} (h0 : 0 ≤ z) (h1 : z < n) (h2 : (n : Int) < 2147483648) : inB (iI z) n = true := by
  rw [iI_inB (by unfold rg; omega), Bool.and_eq_true, decide_eq_true_eq, decide_eq_true_eq]
  omega
theorem inB_no {z : Int} {n : Nat} (hr : rg z) (h : ¬ (0 ≤ z ∧ z < n)) : inB (iI z) n = false := by
  rw [iI_inB hr, Bool.and_eq_false_iff, decide_eq_false_iff_not, decide_eq_false_iff_not]
  omega
theorem iI_l (n : Nat) : @OfNat.ofNat Int32 n Int32.instOfNat = iI (@OfNat.ofNat Int n _root_.instOfNat) := Int32.ofInt_eq_ofNat.symm
theorem sh_am : ∀ k : Fin 32, ((iI (k.val : Int) &&& 31).toBitVec.smod 32).toNat = k.val := by decide +kernel
theorem shr_iI {z : Int} (h : rg z) {k : Nat} (hk : k < 32) : shrI (iI z) (iI (k : Int)) = iI (z / 2 ^ k) := by
  rw [← iI_toInt (shrI (iI z) (iI (k : Int)))]
  congr 1
  rw [← Int32.toInt_toBitVec]
  unfold shrI
  rw [Int32.toBitVec_shiftRight, BitVec.sshiftRight', sh_am ⟨k, hk⟩, BitVec.toInt_sshiftRight, Int32.toInt_toBitVec, toInt_iI h, Int.shiftRight_eq_div_pow]
  simp
theorem shl_iI {z : Int} {k : Nat} (hk : k < 32) : shlI (iI z) (iI (k : Int)) = iI (z * 2 ^ k) := by
  rw [← Int32.toBitVec_inj]
  unfold shlI
  rw [Int32.toBitVec_shiftLeft]
  show (iI z).toBitVec <<< ((iI (k : Int) &&& 31).toBitVec.smod 32).toNat = _
  rw [sh_am ⟨k, hk⟩, BitVec.shiftLeft_eq_mul_twoPow]
  show BitVec.ofInt 32 z * _ = BitVec.ofInt 32 _
  rw [BitVec.ofInt_mul]
  congr 1
  rw [← BitVec.toNat_inj, BitVec.toNat_twoPow, show ((2 : Int) ^ k) = ((2 ^ k : Nat) : Int) by simp, BitVec.ofInt_natCast, BitVec.toNat_ofNat]
theorem iI_bv (n : Nat) : (iI (n : Int)).toBitVec = BitVec.ofNat 32 n := by
  show BitVec.ofInt 32 (n : Int) = _
  rw [BitVec.ofInt_natCast]
theorem or_iI {a b : Nat} (ha : a < 4294967296) (hb : b < 4294967296) : iI (a : Int) ||| iI (b : Int) = iI ((a ||| b : Nat) : Int) := by
  rw [← Int32.toBitVec_inj, Int32.toBitVec_or, iI_bv, iI_bv, iI_bv, BitVec.ofNat_or]
theorem and_iI {a b : Nat} : iI (a : Int) &&& iI (b : Int) = iI ((a &&& b : Nat) : Int) := by
  rw [← Int32.toBitVec_inj, Int32.toBitVec_and, iI_bv, iI_bv, iI_bv, BitVec.ofNat_and]
theorem xor_iI {a b : Nat} : iI (a : Int) ^^^ iI (b : Int) = iI ((a ^^^ b : Nat) : Int) := by
  rw [← Int32.toBitVec_inj, Int32.toBitVec_xor, iI_bv, iI_bv, iI_bv, BitVec.ofNat_xor]
/-- a mask of k ones -/
theorem mask_iI {z : Int} (h : 0 ≤ z) (k : Nat) {m : Int} (hm : m = 2 ^ k - 1 := by decide) : iI z &&& iI m = iI (z % 2 ^ k) := by
  subst hm
  obtain ⟨n, rfl⟩ := Int.eq_ofNat_of_zero_le h
  have e : ((2 : Int) ^ k - 1) = ((2 ^ k - 1 : Nat) : Int) := by
    rw [Int.ofNat_sub (Nat.two_pow_pos k)]; simp
  rw [e, and_iI, Nat.and_two_pow_sub_one_eq_mod]
  simp
/-- one or nothing -/
def bI (p : Prop) [Decidable p] : Int := if p then 1 else 0
theorem bI_t {p : Prop} [Decidable p] (h : p) : bI p = 1 := if_pos h
theorem bI_f {p : Prop} [Decidable p] (h : ¬ p) : bI p = 0 := if_neg h
theorem bI_c {p : Prop} [Decidable p] : bI p = 0 ∨ bI p = 1 := by
  by_cases h : p
  · exact Or.inr (bI_t h)
  · exact Or.inl (bI_f h)
theorem lt_i {a b : Int} (h1 : -2147483648 ≤ a) (h2 : a < 2147483648) (h3 : -2147483648 ≤ b) (h4 : b < 2147483648) : (iI a < iI b) = (a < b) := propext (iI_lt ⟨h1, h2⟩ ⟨h3, h4⟩)
theorem le_i {a b : Int} (h1 : -2147483648 ≤ a) (h2 : a < 2147483648) (h3 : -2147483648 ≤ b) (h4 : b < 2147483648) : (iI a ≤ iI b) = (a ≤ b) := propext (iI_le ⟨h1, h2⟩ ⟨h3, h4⟩)
theorem eq_i {a b : Int} (h1 : -2147483648 ≤ a) (h2 : a < 2147483648) (h3 : -2147483648 ≤ b) (h4 : b < 2147483648) : (iI a = iI b) = (a = b) := propext (iI_inj ⟨h1, h2⟩ ⟨h3, h4⟩)
theorem div_i {a b : Int} (h1 : 0 ≤ a) (h2 : a < 2147483648) (h3 : 0 < b) (h4 : b < 2147483648) : iI a / iI b = iI (a / b) := by
  rw [iI_div ⟨by omega, h2⟩ ⟨by omega, h4⟩, Int.tdiv_eq_ediv_of_nonneg h1]
theorem dv_i {b : Int} {o : Rs} (h3 : 0 < b) (h4 : b < 2147483648) : dv (iI b) o = o := by
  unfold dv
  rw [if_neg]
  rw [iI_0, iI_inj (by unfold rg; omega) (by unfold rg; omega)]
  omega
theorem bI_0 {p : Prop} [Decidable p] : (iI (bI p) = iI 0) = ¬ p := by
  rw [eq_i (by rcases bI_c (p := p) with h | h <;> omega) (by rcases bI_c (p := p) with h | h <;> omega) (by decide) (by decide)]
  by_cases h : p
  · rw [bI_t h]; simp [h]
  · rw [bI_f h]; simp [h]
theorem rt_b (h : Hp) (p : Prop) [Decidable p] : rtI .boolean h (iI (bI p)) = some (h, some (.inl (iI (bI p)))) := by
  unfold rtI
  rw [if_pos]
  rcases bI_c (p := p) with e | e <;> rw [e] <;> decide
theorem rt_0 (h : Hp) : rtI .boolean h (iI 0) = some (h, some (.inl (iI 0))) := by
  unfold rtI; rw [if_pos (by decide)]
theorem rt_1 (h : Hp) : rtI .boolean h (iI 1) = some (h, some (.inl (iI 1))) := by
  unfold rtI; rw [if_pos (by decide)]
theorem kR_r (f : Hp → Option Nat → Rs) (h : Hp) (x : Option Nat) : kR f h (some (.inr (.inr x))) = f h x := rfl
/-! SUMS AND FIRSTS: how loops answer -/
/-- f k + .. , m of them -/
def sF (f : Nat → Int) : Nat → Nat → Int
  | _, 0 => 0
  | k, m + 1 => f k + sF f (k + 1) m
/-- the first of m from k on, or -6 -/
def fF (p : Nat → Bool) : Nat → Nat → Int
  | _, 0 => -6
  | k, m + 1 => if p k then (k : Int) else fF p (k + 1) m
theorem sF_congr {f g : Nat → Int} : ∀ (m k : Nat), (∀ i, k ≤ i → i < k + m → f i = g i) → sF f k m = sF g k m
  | 0, _, _ => rfl
  | m + 1, k, h => by
    show f k + sF f (k + 1) m = g k + sF g (k + 1) m
    rw [h k (Nat.le_refl k) (by omega), sF_congr m (k + 1) (fun i h1 h2 => h i (by omega) (by omega))]
theorem fF_congr {f g : Nat → Bool} : ∀ (m k : Nat), (∀ i, k ≤ i → i < k + m → f i = g i) → fF f k m = fF g k m
  | 0, _, _ => rfl
  | m + 1, k, h => by
    show (if f k then (k : Int) else fF f (k + 1) m) = if g k then (k : Int) else fF g (k + 1) m
    rw [h k (Nat.le_refl k) (by omega), fF_congr m (k + 1) (fun i h1 h2 => h i (by omega) (by omega))]
theorem fF_some {p : Nat → Bool} : ∀ (m k : Nat), fF p k m ≠ -6 → ∃ i : Nat, fF p k m = i ∧ k ≤ i ∧ i < k + m ∧ p i = true
  | 0, k, h => absurd rfl h
  | m + 1, k, h => by
    by_cases hp : p k = true
    · exact ⟨k, by simp [fF, hp], Nat.le_refl k, by omega, hp⟩
    · have e : fF p k (m + 1) = fF p (k + 1) m := by simp [fF, hp]
      rw [e] at h ⊢
      obtain ⟨i, h1, h2, h3, h4⟩ := fF_some m (k + 1) h
      exact ⟨i, h1, by omega, by omega, h4⟩
theorem fF_none {p : Nat → Bool} : ∀ (m k : Nat), fF p k m = -6 → ∀ i, k ≤ i → i < k + m → p i = false
  | 0, k, _, i, h1, h2 => by omega
  | m + 1, k, h, i, h1, h2 => by
    by_cases hp : p k = true
    · simp only [fF, hp, if_true] at h; omega
    · have e : fF p k (m + 1) = fF p (k + 1) m := by simp [fF, hp]
      rw [e] at h
      by_cases hi : i = k
      · rw [hi]; simpa using hp
      · exact fF_none m (k + 1) h i (by omega) (by omega)
theorem sF_bd {f : Nat → Int} {b : Int} : ∀ (m k : Nat), (∀ i, k ≤ i → i < k + m → 0 ≤ f i ∧ f i ≤ b) → 0 ≤ sF f k m ∧ sF f k m ≤ m * b
  | 0, _, _ => by simp [sF]
  | m + 1, k, h => by
    have h1 := h k (Nat.le_refl k) (by omega)
    have h2 := sF_bd m (k + 1) (fun i h1 h2 => h i (by omega) (by omega))
    have e : sF f k (m + 1) = f k + sF f (k + 1) m := rfl
    rw [e]
    have e2 : ((m + 1 : Nat) : Int) * b = m * b + b := by rw [Int.natCast_add, Int.add_mul]; simp
    omega
theorem bI_iff {p q : Prop} [Decidable p] [Decidable q] (h : p ↔ q) : bI p = bI q := by
  by_cases hp : p
  · rw [bI_t hp, bI_t (h.mp hp)]
  · rw [bI_f hp, bI_f (fun hq => hp (h.mpr hq))]
