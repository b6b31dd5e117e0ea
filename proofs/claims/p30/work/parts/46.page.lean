/-! THE SHEET of the class -/
def fT (t : Nat) (W w : Int) (L : Ly) : List AV := [.inl (iI W), .inl (iI L.1), .inl (iI L.2.2.1), .inl (iI w), .inl (iI L.2.1), .inr (.inr (some (t + 1)))]
def tC (t : Nat) (W w : Int) (L : Ly) (k : Nat) : Option Cl := if k = 0 then some (.inr (5, fT t W w L)) else some (.inl (3, 40, .inl (fun j => iI (L.2.2.2 j))))
def hT (h : Hp) (t : Nat) (W w : Int) (L : Ly) : Hp := ovl h t 2 (tC t W w L)
section
variable {h : Hp} {t : Nat} {W w v z : Int} {L : Ly} {f : Int32 → Rs} {g : Option Nat → Rs} {k : Hp → Rs} {o : Rs}
theorem hT_0 : (hT h t W w L).1 t = some (.inr (5, fT t W w L)) := ovl_at (k := 0) (by decide)
theorem hT_1 : (hT h t W w L).1 (t + 1) = some (.inl (3, 40, .inl (fun j => iI (L.2.2.2 j)))) := ovl_at (k := 1) (by decide)
theorem ck_T : ck (hT h t W w L) (some t) 5 o = o := ck_e hT_0 rfl
theorem rdI_T0 : rdI (hT h t W w L) (some t) 5 0 f = f (iI W) := rdI_e hT_0 rfl rfl
theorem rdI_T1 : rdI (hT h t W w L) (some t) 5 1 f = f (iI L.1) := rdI_e hT_0 rfl rfl
theorem rdI_T2 : rdI (hT h t W w L) (some t) 5 2 f = f (iI L.2.2.1) := rdI_e hT_0 rfl rfl
theorem rdI_T3 : rdI (hT h t W w L) (some t) 5 3 f = f (iI w) := rdI_e hT_0 rfl rfl
theorem rdI_T4 : rdI (hT h t W w L) (some t) 5 4 f = f (iI L.2.1) := rdI_e hT_0 rfl rfl
theorem rdR_T5 : rdR (hT h t W w L) (some t) 5 5 g = g (some (t + 1)) := rdR_e hT_0 rfl rfl
theorem len_T : lenA (hT h t W w L) (some (t + 1)) f = f (iI 40) := lenA_e hT_1
theorem wr_Tx {j : Nat} {W' w' : Int} {L' : Ly} (hk : j < 6) (ht : vfit (tyC 5 j) (.inl (iI v)) = true) (e : (fT t W w L).set j (.inl (iI v)) = fT t W' w' L') (hr : L'.2.2.2 = L.2.2.2) : wr (hT h t W w L) (some t) 5 j (.inl (iI v)) k = k (hT h t W' w' L') := by
  rw [wr_e hT_0 (by decide) hk ht, e]
  congr 1
  refine upH_ovl (k := 0) (by decide) rfl (fun i hi hne => ?_)
  unfold tC
  rw [if_neg hne, if_neg hne, hr]
theorem wr_T0 : wr (hT h t W w L) (some t) 5 0 (.inl (iI v)) k = k (hT h t v w L) := wr_Tx (by decide) rfl rfl rfl
theorem wr_T1 : wr (hT h t W w L) (some t) 5 1 (.inl (iI v)) k = k (hT h t W w (v, L.2)) := wr_Tx (by decide) rfl rfl rfl
theorem wr_T2 : wr (hT h t W w L) (some t) 5 2 (.inl (iI v)) k = k (hT h t W w (L.1, L.2.1, v, L.2.2.2)) := wr_Tx (by decide) rfl rfl rfl
theorem wr_T3 : wr (hT h t W w L) (some t) 5 3 (.inl (iI v)) k = k (hT h t W v L) := wr_Tx (by decide) rfl rfl rfl
theorem wr_T4 : wr (hT h t W w L) (some t) 5 4 (.inl (iI v)) k = k (hT h t W w (L.1, v, L.2.2)) := wr_Tx (by decide) rfl rfl rfl
theorem ast_T (h0 : 0 ≤ z) (h1 : z < 40) (v0 : 0 ≤ v) (v1 : v < 128) : astI (hT h t W w L) (some (t + 1)) [3] (iI z) (iI v) k = k (hT h t W w (L.1, L.2.1, L.2.2.1, st L.2.2.2 z.toNat v)) := by
  rw [astI_e hT_1 rfl (by decide) h0 h1 (by decide), (ch_i v0 v1).2.1, upd_row]
  congr 1
  refine upH_ovl (k := 1) (by decide) rfl (fun i hi hne => ?_)
  rw [show i = 0 by omega]
  rfl
theorem ald_T (h0 : 0 ≤ z) (h1 : z < 40) : aldI (hT h t W w L) (some (t + 1)) [3] (iI z) f = f (iI (L.2.2.2 z.toNat)) := aldI_e hT_1 rfl h0 h1 (by decide)
end
section
variable {c : Nat → Option Nat} {h : Hp} {t : Nat} {W w : Int} {L : Ly}
theorem t_say {s : Int} (s0 : 0 ≤ s) (s1 : s < 128) (h0 : 0 ≤ L.2.1) (h1 : L.2.1 < 40) (a0 : 0 ≤ L.1) (a1 : L.1 < 1000000) (w0 : -2147483648 ≤ w) (w1 : w < 2147483648) : fX3_addSign c (hT h t W w L) (some t) (iI s) = some (hT h t W w (lSay w L s), none) := by
  unfold fX3_addSign fX3_addSign_40 lSay
  simp (maxSteps := 1000000) (disch := omega) only [cc_s, kI_i, kV_n, kR_r, ck_T, rdI_T0, rdI_T1, rdI_T2, rdI_T3, rdI_T4, rdR_T5, wr_T0, wr_T1, wr_T2, wr_T3, wr_T4, len_T, iI_l, iI_add, iI_sub, iI_mul, iI_neg, ast_T, lt_i, eq_i]
  by_cases e : L.1 = w
  · rw [if_pos e, if_neg (show ¬ L.2.1 < 0 by omega), if_pos h1, if_pos e]
  · rw [if_neg e, if_neg e]
theorem t_nl : fX3_endLine c (hT h t W w L) (some t) = some (hT h t W w (lNl L), none) := by
  unfold fX3_endLine lNl
  simp (maxSteps := 1000000) (disch := omega) only [cc_s, kI_i, kV_n, kR_r, ck_T, rdI_T0, rdI_T1, rdI_T2, rdI_T3, rdI_T4, rdR_T5, wr_T0, wr_T1, wr_T2, wr_T3, wr_T4, len_T, iI_l, iI_add, iI_sub, iI_mul, iI_neg]
/-- m signs from the k-th on -/
def lSy (w : Int) (ch : Nat → Int) : Nat → Nat → Ly → Ly
  | _, 0, L => L
  | k, m + 1, L => lSy w ch (k + 1) m (lSay w L (ch k))
theorem t_text_l {fz : Nat → Option Cl} {s n : Nat} {ch : Nat → Int} (H : ∀ L, FZ (hT h t W w L) fz) (S : Sg fz s n ch) (w0 : -2147483648 ≤ w) (w1 : w < 2147483648) : ∀ (m fu k : Nat) (L : Ly), m < fu → k + m = n → 0 ≤ L.2.1 → L.2.1 + m ≤ 40 → 0 ≤ L.1 → L.1 < 1000000 → fX3_addText_2 c fu (hT h t W w L) (some t) (some s) (iI k) = some (hT h t W w (lSy w ch k m L), none) := by
  have hn : n < 1000 := by obtain ⟨_, _, _, _, _, _, _, _, _, hn, _⟩ := S; exact hn
  have hc : ∀ i, i < n → 0 ≤ ch i ∧ ch i < 128 := by obtain ⟨_, _, _, _, _, _, _, _, _, _, hr⟩ := S; exact fun i hi => (hr i hi).2
  intro m
  induction m with
  | zero =>
    intro fu k L hf hk c0 c1 a0 a1
    obtain ⟨f, rfl⟩ : ∃ f, fu = f + 1 := ⟨fu - 1, by omega⟩
    unfold fX3_addText_2
    rw [ck_g (H L) S, g_len (H L) S]
    simp (maxSteps := 1000000) (disch := omega) only [cc_s, kI_i, kV_n, kR_r, ck_T, rdI_T0, rdI_T1, rdI_T2, rdI_T3, rdI_T4, rdR_T5, wr_T0, wr_T1, wr_T2, wr_T3, wr_T4, len_T, iI_l, iI_add, iI_sub, iI_mul, iI_neg, lt_i]
    rw [if_neg (show ¬ (k : Int) < n by omega)]
    rfl
  | succ m ih =>
    intro fu k L hf hk c0 c1 a0 a1
    obtain ⟨f, rfl⟩ : ∃ f, fu = f + 1 := ⟨fu - 1, by omega⟩
    have hq := hc k (by omega)
    unfold fX3_addText_2
    rw [ck_g (H L) S, g_len (H L) S]
    simp (maxSteps := 1000000) (disch := omega) only [cc_s, kI_i, kV_n, kR_r, ck_T, rdI_T0, rdI_T1, rdI_T2, rdI_T3, rdI_T4, rdR_T5, wr_T0, wr_T1, wr_T2, wr_T3, wr_T4, len_T, iI_l, iI_add, iI_sub, iI_mul, iI_neg, lt_i]
    rw [if_pos (show (k : Int) < n by omega), ck_g (H L) S, g_chr (H L) S (by omega) (by omega), Int.toNat_natCast]
    simp (maxSteps := 1000000) (disch := omega) only [cc_s, kI_i, kV_n, kR_r, ck_T, rdI_T0, rdI_T1, rdI_T2, rdI_T3, rdI_T4, rdR_T5, wr_T0, wr_T1, wr_T2, wr_T3, wr_T4, len_T, iI_l, iI_add, iI_sub, iI_mul, iI_neg]
    rw [t_say hq.1 hq.2 c0 (by omega) a0 a1 w0 w1]
    simp (maxSteps := 1000000) (disch := omega) only [cc_s, kI_i, kV_n, kR_r, ck_T, rdI_T0, rdI_T1, rdI_T2, rdI_T3, rdI_T4, rdR_T5, wr_T0, wr_T1, wr_T2, wr_T3, wr_T4, len_T, iI_l, iI_add, iI_sub, iI_mul, iI_neg]
    rw [iI_k1, ih f (k + 1) (lSay w L (ch k)) (by omega) (by omega) (by show 0 ≤ L.2.1 + 1; omega) (by show L.2.1 + 1 + m ≤ 40; omega) a0 a1, lSy]
theorem t_text {fz : Nat → Option Cl} {s n : Nat} {ch : Nat → Int} (H : ∀ L, FZ (hT h t W w L) fz) (S : Sg fz s n ch) (w0 : -2147483648 ≤ w) (w1 : w < 2147483648) (c0 : 0 ≤ L.2.1) (c1 : L.2.1 + n ≤ 40) (a0 : 0 ≤ L.1) (a1 : L.1 < 1000000) : fX3_addText c (hT h t W w L) (some t) (some s) = some (hT h t W w (lSy w ch 0 n L), none) := by
  have hn : n < 1000 := by obtain ⟨_, _, _, _, _, _, _, _, _, hn, _⟩ := S; exact hn
  unfold fX3_addText
  simp only [iI_l]
  have key := t_text_l (c := c) H S w0 w1 n FU 0 L (by unfold FU; omega) (by omega) c0 c1 a0 a1
  rw [show ((0 : Nat) : Int) = 0 from rfl] at key
  rw [key]
theorem t_number_l {n : Int} (n0 : 0 ≤ n) (n1 : n < 10000000) (w0 : -2147483648 ≤ w) (w1 : w < 2147483648) : ∀ (j fu : Nat) (L : Ly), j + 1 < fu → j ≤ 9 → 0 ≤ L.2.1 → (if 7 ≤ j then L.2.1 + 7 ≤ 40 else L.2.1 + j + 1 ≤ 40) → 0 ≤ L.1 → L.1 < 1000000 → fX3_addNumber_3 c fu (hT h t W w L) (some t) (iI n) (iI (10 ^ j)) = some (hT h t W w (lNum w n j L), none) := by
  intro j
  induction j with
  | zero =>
    intro fu L hf hj c0 c1 a0 a1
    obtain ⟨f, rfl⟩ : ∃ f, fu = f + 1 + 1 := ⟨fu - 2, by omega⟩
    rw [if_neg (by decide)] at c1
    have hm := Int.emod_nonneg n (show (10 : Int) ≠ 0 by decide)
    have hm2 := Int.emod_lt_of_pos n (show (0 : Int) < 10 by decide)
    have hd : 48 + (n - n / 10 * 10) = 48 + n % 10 := by omega
    unfold fX3_addNumber_3
    unfold fX3_addNumber_17 fX3_addNumber_31
    simp only [Int.pow_zero]
    simp (maxSteps := 1000000) (disch := omega) only [cc_s, kI_i, kV_n, kR_r, ck_T, rdI_T0, rdI_T1, rdI_T2, rdI_T3, rdI_T4, rdR_T5, wr_T0, wr_T1, wr_T2, wr_T3, wr_T4, len_T, iI_l, iI_add, iI_sub, iI_mul, iI_neg, lt_i, dv_i, div_i, Int.ediv_one, Int.lt_irrefl, if_true, if_false, (ch_i (show 0 ≤ 48 + (n - n / 10 * 10) by omega) (by omega)).1, t_say (show 0 ≤ 48 + (n - n / 10 * 10) by omega) (by omega) c0 (by omega) a0 a1 w0 w1, Int.reduceLT]
    unfold fX3_addNumber_3
    simp (maxSteps := 1000000) (disch := omega) only [cc_s, kI_i, kV_n, kR_r, ck_T, rdI_T0, rdI_T1, rdI_T2, rdI_T3, rdI_T4, rdR_T5, wr_T0, wr_T1, wr_T2, wr_T3, wr_T4, len_T, iI_l, iI_add, iI_sub, iI_mul, iI_neg, lt_i, Int.lt_irrefl, if_false, Int.reduceDiv, lNum, hd, ite_self]
  | succ j ih =>
    intro fu L hf hj c0 c1 a0 a1
    obtain ⟨f, rfl⟩ : ∃ f, fu = f + 1 := ⟨fu - 1, by omega⟩
    have hp := p10 (j + 1)
    have hp1 := p10_9 hj
    have hp2 := p10_s j
    have hp3 := p10 j
    have hdv : (10 : Int) ^ (j + 1) / 10 = 10 ^ j := by rw [hp2]; exact Int.mul_ediv_cancel_left _ (by decide)
    have q0 := Int.ediv_nonneg n0 (Int.le_of_lt hp)
    have q1 : n / 10 ^ (j + 1) ≤ n := Int.ediv_le_self _ n0
    have hm := Int.emod_nonneg (n / 10 ^ (j + 1)) (show (10 : Int) ≠ 0 by decide)
    have hm2 := Int.emod_lt_of_pos (n / 10 ^ (j + 1)) (show (0 : Int) < 10 by decide)
    have hd : 48 + (n / 10 ^ (j + 1) - n / 10 ^ (j + 1) / 10 * 10) = 48 + n / 10 ^ (j + 1) % 10 := by omega
    have g1 : (10 : Int) ≤ 10 ^ (j + 1) := by rw [hp2]; omega
    unfold fX3_addNumber_3
    unfold fX3_addNumber_17 fX3_addNumber_31
    by_cases e : (10 : Int) ^ (j + 1) ≤ n
    · have c2 : L.2.1 + 1 ≤ 40 ∧ ¬ 7 ≤ j + 1 := by
        refine ⟨by split at c1 <;> omega, fun h7 => ?_⟩
        have := p10_le (i := 7) (j := j + 1) h7
        omega
      rw [if_neg c2.2] at c1
      simp (maxSteps := 1000000) (disch := omega) only [cc_s, kI_i, kV_n, kR_r, ck_T, rdI_T0, rdI_T1, rdI_T2, rdI_T3, rdI_T4, rdR_T5, wr_T0, wr_T1, wr_T2, wr_T3, wr_T4, len_T, iI_l, iI_add, iI_sub, iI_mul, iI_neg, lt_i, dv_i, div_i]
      rw [if_pos hp, if_neg (show ¬ n < 10 ^ (j + 1) by omega), hdv, (ch_i (show 0 ≤ 48 + (n / 10 ^ (j + 1) - n / 10 ^ (j + 1) / 10 * 10) by omega) (by omega)).1, t_say (show 0 ≤ 48 + (n / 10 ^ (j + 1) - n / 10 ^ (j + 1) / 10 * 10) by omega) (by omega) c0 (by omega) a0 a1 w0 w1]
      simp (maxSteps := 1000000) (disch := omega) only [cc_s, kI_i, kV_n, kR_r, ck_T, rdI_T0, rdI_T1, rdI_T2, rdI_T3, rdI_T4, rdR_T5, wr_T0, wr_T1, wr_T2, wr_T3, wr_T4, len_T, iI_l, iI_add, iI_sub, iI_mul, iI_neg]
      rw [ih f (lSay w L (48 + (n / 10 ^ (j + 1) - n / 10 ^ (j + 1) / 10 * 10))) (by omega) (by omega) (by show 0 ≤ L.2.1 + 1; omega) (by rw [if_neg (by omega)]; show L.2.1 + 1 + j + 1 ≤ 40; omega) a0 a1, hd, lNum, if_pos e]
    · simp (maxSteps := 1000000) (disch := omega) only [cc_s, kI_i, kV_n, kR_r, ck_T, rdI_T0, rdI_T1, rdI_T2, rdI_T3, rdI_T4, rdR_T5, wr_T0, wr_T1, wr_T2, wr_T3, wr_T4, len_T, iI_l, iI_add, iI_sub, iI_mul, iI_neg, lt_i, dv_i, div_i, eq_i]
      rw [if_pos hp, if_pos (show n < 10 ^ (j + 1) by omega), if_neg (show ¬ (10 : Int) ^ (j + 1) = 1 by omega), hdv, ih f _ (by omega) (by omega) c0 (by split at c1 <;> split <;> omega) a0 a1, lNum, if_neg e]
theorem t_number {n : Int} (n0 : 0 ≤ n) (n1 : n < 10000000) (w0 : -2147483648 ≤ w) (w1 : w < 2147483648) (c0 : 0 ≤ L.2.1) (c1 : L.2.1 + 7 ≤ 40) (a0 : 0 ≤ L.1) (a1 : L.1 < 1000000) : fX3_addNumber c (hT h t W w L) (some t) (iI n) = some (hT h t W w (lNum w n 9 L), none) := by
  unfold fX3_addNumber
  simp only [iI_l]
  have key := t_number_l (c := c) (h := h) (t := t) (W := W) n0 n1 w0 w1 9 FU L (by decide) (by decide) c0 (by rw [if_pos (by decide)]; exact c1) a0 a1
  rw [show (10 : Int) ^ 9 = 1000000000 from rfl] at key
  rw [key]
theorem t_digits_l {H : Hp} {n : Int} (n0 : 0 ≤ n) (n1 : n < 10000000) : ∀ (j fu : Nat) (acc : Int), j < fu → j ≤ 9 → fX3_digitsOf_5 c fu H (iI n) (iI acc) (iI (10 ^ j)) = some (H, some (.inl (iI (acc + dgN n j - 1)))) := by
  intro j
  induction j with
  | zero =>
    intro fu acc hf hj
    obtain ⟨f, rfl⟩ : ∃ f, fu = f + 1 := ⟨fu - 1, by omega⟩
    unfold fX3_digitsOf_5
    simp only [Int.pow_zero, iI_l]
    rw [if_neg (show ¬ iI 1 < iI 1 by decide), dgN, Int.add_sub_cancel]
  | succ j ih =>
    intro fu acc hf hj
    obtain ⟨f, rfl⟩ : ∃ f, fu = f + 1 := ⟨fu - 1, by omega⟩
    have hp := p10 (j + 1)
    have hp1 := p10_9 hj
    have hp2 := p10_s j
    have hp3 := p10 j
    have hdv : (10 : Int) ^ (j + 1) / 10 = 10 ^ j := by rw [hp2]; exact Int.mul_ediv_cancel_left _ (by decide)
    have g1 : (10 : Int) ≤ 10 ^ (j + 1) := by rw [hp2]; omega
    unfold fX3_digitsOf_5 fX3_digitsOf_18
    simp (maxSteps := 1000000) (disch := omega) only [cc_s, kI_i, kV_n, kR_r, ck_T, rdI_T0, rdI_T1, rdI_T2, rdI_T3, rdI_T4, rdR_T5, wr_T0, wr_T1, wr_T2, wr_T3, wr_T4, len_T, iI_l, iI_add, iI_sub, iI_mul, iI_neg, lt_i, dv_i, div_i]
    rw [if_pos (show (1 : Int) < 10 ^ (j + 1) by omega), hdv]
    by_cases e : (10 : Int) ^ (j + 1) ≤ n
    · rw [if_neg (show ¬ n < 10 ^ (j + 1) by omega), ih f _ (by omega) (by omega), dgN, if_pos e]
      exact ret_c (by omega)
    · rw [if_pos (show n < 10 ^ (j + 1) by omega), ih f _ (by omega) (by omega), dgN, if_neg e]
      exact ret_c (by omega)
theorem t_digits {H : Hp} {n : Int} (n0 : 0 ≤ n) (n1 : n < 10000000) : fX3_digitsOf c H (iI n) = some (H, some (.inl (iI (dgN n 9)))) := by
  unfold fX3_digitsOf
  simp only [iI_l]
  have key := t_digits_l (c := c) (H := H) n0 n1 9 FU 1 (by decide) (by decide)
  rw [show (10 : Int) ^ 9 = 1000000000 from rfl] at key
  rw [key]
  exact ret_c (by omega)
theorem ab_i {v : Int} (v0 : -2147483647 ≤ v) (v1 : v < 2147483648) : abI (iI v) = iI (aI v) := by
  unfold abI aI
  simp only [iI_l]
  by_cases e : v < 0
  · rw [if_neg (by rw [le_i (by omega) (by omega) (by omega) (by omega)]; omega), if_pos e, iI_sub, Int.zero_sub]
  · rw [if_pos (by rw [le_i (by omega) (by omega) (by omega) (by omega)]; omega), if_neg e]
theorem t_money {v : Int} (A1 : aI v < 12000000) (wd0 : 16 ≤ W) (wd1 : W ≤ 40) (w0 : -2147483648 ≤ w) (w1 : w < 2147483648) (a0 : 0 ≤ L.1) (a1 : L.1 < 1000000) : fX3_addMoney c (hT h t W w L) (some t) (iI v) = some (hT h t W w (lMoney w W v L), none) := by
  have hv : -12000000 < v ∧ v < 12000000 := by unfold aI at A1; split at A1 <;> omega
  have hA : 0 ≤ aI v := by unfold aI; split <;> omega
  obtain ⟨m, m1, m2, m3⟩ := dig_m (n := aI v / 100) (by omega) (by omega)
  have hm : m ≤ 5 := by
    rcases m3 with rfl | m3
    · decide
    · have : ¬ 6 ≤ m := fun h6 => by have := p10_le h6; omega
      omega
  have hdg := dgN_m m2 m3 9 (by omega)
  have hl := lNum_D (w := w) m1 m2 m3
  have hls := lNumD_st (w := w) (aI v / 100) m
  have hr : aI v - aI v / 100 * 100 = aI v % 100 := by omega
  have hr2 : aI v % 100 - aI v % 100 / 10 * 10 = aI v % 100 % 10 := by omega
  have hM : ∀ X : Ly, X.1 = L.1 → 0 ≤ X.2.1 → X.2.1 = W - (m + 1) - 3 → fX3_addMoney_49 c (hT h t W w X) (some t) (iI (aI v / 100)) (iI (aI v % 100)) = some (hT h t W w (lSay w (lSay w (lSay w (lNum w (aI v / 100) 9 X) 46) (48 + aI v % 100 / 10)) (48 + aI v % 100 % 10)), none) := by
    intro X x1 x2 x3
    have hx := hls X
    have key := t_number_l (c := c) (h := h) (t := t) (W := W) (w := w) (n := aI v / 100) (by omega) (by omega) w0 w1 9 FU X (by decide) (by decide) x2
    unfold fX3_addMoney_49
    have k2 : fX3_addNumber c (hT h t W w X) (some t) (iI (aI v / 100)) = some (hT h t W w (lNum w (aI v / 100) 9 X), none) := by
      have k3 : ∀ (j fu : Nat), m + j + 1 < fu → m + j ≤ 9 → fX3_addNumber_3 c fu (hT h t W w X) (some t) (iI (aI v / 100)) (iI (10 ^ (m + j))) = some (hT h t W w (lNum w (aI v / 100) (m + j) X), none) := by
        intro j
        induction j with
        | zero => intro fu f1 f2; exact t_number_l (by omega) (by omega) w0 w1 m fu X (by omega) (by omega) x2 (by rw [if_neg (by omega)]; omega) (by omega) (by omega)
        | succ j ih =>
          intro fu f1 f2
          obtain ⟨f, rfl⟩ : ∃ f, fu = f + 1 := ⟨fu - 1, by omega⟩
          have hp := p10 (m + j + 1)
          have hp1 := p10_9 (j := m + j + 1) (by omega)
          have hp2 := p10_s (m + j)
          have hp3 := p10 (m + j)
          have hp4 := p10_le (i := m + 1) (j := m + j + 1) (by omega)
          have hdv : (10 : Int) ^ (m + j + 1) / 10 = 10 ^ (m + j) := by rw [hp2]; exact Int.mul_ediv_cancel_left _ (by decide)
          rw [show m + (j + 1) = m + j + 1 from rfl]
          unfold fX3_addNumber_3 fX3_addNumber_31
          simp (maxSteps := 1000000) (disch := omega) only [cc_s, kI_i, kV_n, kR_r, ck_T, rdI_T0, rdI_T1, rdI_T2, rdI_T3, rdI_T4, rdR_T5, wr_T0, wr_T1, wr_T2, wr_T3, wr_T4, len_T, iI_l, iI_add, iI_sub, iI_mul, iI_neg, lt_i, dv_i, div_i, eq_i]
          rw [if_pos hp, if_pos (show aI v / 100 < 10 ^ (m + j + 1) by omega), if_neg (show ¬ (10 : Int) ^ (m + j + 1) = 1 by omega), hdv, ih f (by omega) (by omega), lNum, if_neg (by omega)]
      have := k3 (9 - m) FU (by unfold FU; omega) (by omega)
      rw [show m + (9 - m) = 9 by omega, show (10 : Int) ^ 9 = 1000000000 from rfl] at this
      unfold fX3_addNumber
      simp only [iI_l]
      rw [this]
    rw [hl X] at k2 ⊢
    simp (maxSteps := 1000000) (disch := omega) only [cc_s, kI_i, kV_n, kR_r, ck_T, rdI_T0, rdI_T1, rdI_T2, rdI_T3, rdI_T4, rdR_T5, wr_T0, wr_T1, wr_T2, wr_T3, wr_T4, len_T, iI_l, iI_add, iI_sub, iI_mul, iI_neg, k2, div_i, dv_i]
    rw [t_say (by decide) (by decide) (by omega) (by omega) (by omega) (by omega) w0 w1]
    simp (maxSteps := 1000000) (disch := omega) only [cc_s, kI_i, kV_n, kR_r, ck_T, rdI_T0, rdI_T1, rdI_T2, rdI_T3, rdI_T4, rdR_T5, wr_T0, wr_T1, wr_T2, wr_T3, wr_T4, len_T, iI_l, iI_add, iI_sub, iI_mul, iI_neg]
    rw [(ch_i (show 0 ≤ 48 + aI v % 100 / 10 by omega) (by omega)).1, t_say (by omega) (by omega) (by show 0 ≤ (lNumD w (aI v / 100) m X).2.1 + 1; omega) (by show (lNumD w (aI v / 100) m X).2.1 + 1 < 40; omega) (by show 0 ≤ (lNumD w (aI v / 100) m X).1; omega) (by show (lNumD w (aI v / 100) m X).1 < 1000000; omega) w0 w1]
    simp (maxSteps := 1000000) (disch := omega) only [cc_s, kI_i, kV_n, kR_r, ck_T, rdI_T0, rdI_T1, rdI_T2, rdI_T3, rdI_T4, rdR_T5, wr_T0, wr_T1, wr_T2, wr_T3, wr_T4, len_T, iI_l, iI_add, iI_sub, iI_mul, iI_neg]
    rw [hr2, (ch_i (show 0 ≤ 48 + aI v % 100 % 10 by omega) (by omega)).1, t_say (by omega) (by omega) (by show 0 ≤ (lNumD w (aI v / 100) m X).2.1 + 1 + 1; omega) (by show (lNumD w (aI v / 100) m X).2.1 + 1 + 1 < 40; omega) (by show 0 ≤ (lNumD w (aI v / 100) m X).1; omega) (by show (lNumD w (aI v / 100) m X).1 < 1000000; omega) w0 w1]
    simp (maxSteps := 1000000) (disch := omega) only [cc_s, kI_i, kV_n, kR_r, ck_T, rdI_T0, rdI_T1, rdI_T2, rdI_T3, rdI_T4, rdR_T5, wr_T0, wr_T1, wr_T2, wr_T3, wr_T4, len_T, iI_l, iI_add, iI_sub, iI_mul, iI_neg]
  unfold fX3_addMoney fX3_addMoney_35
  simp only [iI_l]
  rw [dv_i (by decide) (by decide), dv_i (by decide) (by decide), rdI_T0, ab_i (by omega) (by omega), div_i hA (by omega) (by decide) (by decide)]
  rw [t_digits (by omega) (by omega), hdg]
  simp (maxSteps := 1000000) (disch := omega) only [cc_s, kI_i, kV_n, kR_r, ck_T, rdI_T0, rdI_T1, rdI_T2, rdI_T3, rdI_T4, rdR_T5, wr_T0, wr_T1, wr_T2, wr_T3, wr_T4, len_T, iI_l, iI_add, iI_sub, iI_mul, iI_neg, lt_i]
  rw [hr]
  unfold lMoney lMon1 lMon0
  rw [hdg]
  by_cases e : v < 0
  · simp only [if_pos e]
    rw [t_say (s := 45) (L := (L.1, W - ((m : Int) + 1) - 4, L.2.2)) (by decide) (by decide) (by show 0 ≤ W - (m + 1) - 4; omega) (by show W - (m + 1) - 4 < 40; omega) a0 a1 w0 w1]
    simp (maxSteps := 1000000) (disch := omega) only [cc_s, kI_i, kV_n, kR_r, ck_T, rdI_T0, rdI_T1, rdI_T2, rdI_T3, rdI_T4, rdR_T5, wr_T0, wr_T1, wr_T2, wr_T3, wr_T4, len_T, iI_l, iI_add, iI_sub, iI_mul, iI_neg]
    exact hM _ rfl (by show 0 ≤ W - (m + 1) - 4 + 1; omega) (by show W - (m + 1) - 4 + 1 = W - (m + 1) - 3; omega)
  · simp only [if_neg e]
    exact hM _ rfl (by show 0 ≤ W - (m + 1) - 3; omega) rfl
end
