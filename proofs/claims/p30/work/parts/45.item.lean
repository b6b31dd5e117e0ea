/-! STRINGS, ITEMS, RECEIPTS of the class: what never changes (fz), and what is read -/
def FZ (h : Hp) (fz : Nat → Option Cl) : Prop := ∀ q e, fz q = some e → h.1 q = some e
theorem ch_all : ∀ k : Fin 128, chI (iI (k.val : Int)) = iI (k.val : Int) ∧ nar 3 (iI (k.val : Int)) = iI (k.val : Int) ∧ byI (iI (k.val : Int)) = iI (k.val : Int) ∧ nar 1 (iI (k.val : Int)) = iI (k.val : Int) ∧ vp_nar .char (iI (k.val : Int)) = iI (k.val : Int) ∧ iI (k.val : Int) &&& iI 255 = iI (k.val : Int) := by decide +kernel
theorem ch_i {z : Int} (h0 : 0 ≤ z) (h1 : z < 128) : chI (iI z) = iI z ∧ nar 3 (iI z) = iI z ∧ byI (iI z) = iI z ∧ nar 1 (iI z) = iI z ∧ vp_nar .char (iI z) = iI z ∧ iI z &&& iI 255 = iI z := by
  have := ch_all ⟨z.toNat, by omega⟩
  rw [show ((⟨z.toNat, by omega⟩ : Fin 128).val : Int) = z by simp; omega] at this
  exact this
theorem rt_c {h : Hp} {z : Int} (h0 : 0 ≤ z) (h1 : z < 128) : rtI .char h (iI z) = some (h, some (.inl (iI z))) := by
  unfold rtI; rw [if_pos (ch_i h0 h1).2.2.2.2.1]
theorem rt_y0 {h : Hp} : rtI .byte h (iI 0) = some (h, some (.inl (iI 0))) := by
  unfold rtI; exact if_pos (by decide)
theorem shr_0 : ∀ z : Int, 0 ≤ z → z < 100000 → shrI (iI z) (iI 0) = iI z := fun z h0 h1 => by
  rw [shr_i (by omega) (by omega) (by decide) (by decide)]; simp
/-- a text: n signs -/
def Sg (fz : Nat → Option Cl) (s n : Nat) (ch : Nat → Int) : Prop := ∃ tg ba kk row rest, (tg = 0 ∨ tg = 10) ∧ fz s = some (.inr (tg, .inr (.inr (some ba)) :: .inl (iI 0) :: rest)) ∧ fz ba = some (.inl (kk, n, .inl row)) ∧ (kk = 1 ∨ kk = 11) ∧ n < 1000 ∧ ∀ i, i < n → row i = iI (ch i) ∧ 0 ≤ ch i ∧ ch i < 128
section
variable {c : Nat → Option Nat} {h : Hp} {fz : Nat → Option Cl} {s n : Nat} {ch : Nat → Int}
theorem tg_0 {tg : Nat} (h : tg = 0 ∨ tg = 10) : tgo tg 0 = true := by rcases h with rfl | rfl <;> rfl
theorem ck_g (H : FZ h fz) (S : Sg fz s n ch) {o : Rs} : ck h (some s) 0 o = o := by
  obtain ⟨tg, ba, kk, row, rest, t, e, _⟩ := S
  exact ck_e (H _ _ e) (tg_0 t)
theorem g_len (H : FZ h fz) (S : Sg fz s n ch) : fJ0_length_8abf5 c h (some s) = some (h, some (.inl (iI (n : Int)))) := by
  have C := @ck_g h fz s n ch H S
  obtain ⟨tg, ba, kk, row, rest, t, e, e2, k, hn, hr⟩ := S
  unfold fJ0_length_8abf5 fJ0_coder_7d493 fJ0_coder_7d493_14
  simp only [iI_l]
  rw [rdR_e (H _ _ e) (tg_0 t) rfl, lenA_e (H _ _ e2), C, if_neg (by decide), rdI_e (H _ _ e) (tg_0 t) rfl, rt_y0]
  simp only [cc_s, kI_i]
  rw [shr_0 _ (by omega) (by omega)]
theorem g_chr (H : FZ h fz) (S : Sg fz s n ch) {z : Int} (z0 : 0 ≤ z) (z1 : z < n) : fJ0_charAt_5068e c h (some s) (iI z) = some (h, some (.inl (iI (ch z.toNat)))) := by
  have C := @ck_g h fz s n ch H S
  obtain ⟨tg, ba, kk, row, rest, t, e, e2, k, hn, hr⟩ := S
  obtain ⟨r1, r2, r3⟩ := hr z.toNat (by omega)
  unfold fJ0_charAt_5068e fJ0_isLatin1_aae02 fJ0_isLatin1_aae02_18 fJ1_charAt_3b067 fJ0_checkIndex_df160 fJ3_checkIndex_8e157
  simp only [iI_l]
  rw [C, if_neg (show ¬ iI 1 = iI 0 by decide), rdI_e (H _ _ e) (tg_0 t) rfl, if_pos rfl, rt_1]
  simp only [cc_s, kI_i]
  rw [if_neg (show ¬ iI 1 = iI 0 by decide), rdR_e (H _ _ e) (tg_0 t) rfl, lenA_e (H _ _ e2), if_neg (by rw [lt_i (by omega) (by omega) (by omega) (by omega)]; omega), if_pos (by rw [lt_i (by omega) (by omega) (by omega) (by omega)]; omega)]
  simp only [cc_s, kI_i, kV_n]
  rw [aldI_e (H _ _ e2) (by rcases k with rfl | rfl <;> rfl) z0 z1 (by omega), r1, (ch_i r2 r3).2.2.2.2.2, (ch_i r2 r3).1, rt_c r2 r3]
  simp only [cc_s, kI_i]
  rw [rt_c r2 r3]
end
/-- an item of the class -/
def ItF (fz : Nat → Option Cl) (q : Nat) (P N : Nat → Int) : Prop := ∃ s, fz q = some (.inr (3, [.inr (.inr (some s)), .inl (iI (P 0)), .inl (iI (P 1)), .inl (iI (P 2))])) ∧ Sg fz s (P 4).toNat (fun j => chr (N j))
/-- a receipt's cells -/
def Rc (h : Hp) (p : Nat) (R : Nat → Int) (G : Nat → Option Nat) (E : Nat → Int) : Prop := h.1 p = some (.inr (4, fR p R)) ∧ h.1 (p + 1) = some (.inl (4, 12, .inr (.inr (.inr (.inr G))))) ∧ h.1 (p + 2) = some (.inl (0, 24, .inl (fun j => iI (E j))))
theorem hS_Rc {h : Hp} {b r : Nat} {C : Ct} (hr : r < 21) : Rc (hS h b C) (b + 4 + 3 * r) (cR C r) (cG C r) (cE C r) := ⟨hS_o hr, hS_g hr, hS_e hr⟩
def mskI (D : Dt) (r : Nat) : Int := sF (fun i => gP D r i 3 * 2 ^ i) 0 12
def evC (e : Int) : Int := if e < 16 then e else e - 4
/-- what a receipt's cells tell -/
def RcD (fz : Nat → Option Cl) (R : Nat → Int) (G : Nat → Option Nat) (E : Nat → Int) (D : Dt) (r : Nat) : Prop := (R 9 = gF D r 8 ∧ R 10 = gF D r 9 ∧ R 11 = mskI D r) ∧ (∀ i, i < nIt D r → ∃ q, G i = some q ∧ ItF fz q (gP D r i) (gN' D r i)) ∧ ∀ k, k < nEt D r → E k = evC (gE D r k)
theorem msk_x {p : Nat → Int} (hp : ∀ i, 0 ≤ p i ∧ p i ≤ 1) : (0 ≤ sF (fun i => p i * 2 ^ i) 0 12 ∧ sF (fun i => p i * 2 ^ i) 0 12 < 4096) ∧ ∀ i, i < 12 → sF (fun i => p i * 2 ^ i) 0 12 / 2 ^ i % 2 = p i := by
  have h0 := hp 0; have h1 := hp 1; have h2 := hp 2; have h3 := hp 3; have h4 := hp 4; have h5 := hp 5; have h6 := hp 6; have h7 := hp 7; have h8 := hp 8; have h9 := hp 9; have h10 := hp 10; have h11 := hp 11
  simp only [sF, Nat.zero_add, Nat.reduceAdd]
  refine ⟨⟨by omega, by omega⟩, fun i hi => ?_⟩
  obtain rfl | rfl | rfl | rfl | rfl | rfl | rfl | rfl | rfl | rfl | rfl | rfl : i = 0 ∨ i = 1 ∨ i = 2 ∨ i = 3 ∨ i = 4 ∨ i = 5 ∨ i = 6 ∨ i = 7 ∨ i = 8 ∨ i = 9 ∨ i = 10 ∨ i = 11 := by omega
  all_goals simp only [Int.reducePow, Int.pow_zero]
  all_goals omega
theorem msk_rg {D : Dt} {r : Nat} (G : Rg1 D r) : 0 ≤ mskI D r ∧ mskI D r < 4096 := (msk_x fun i => by have := G.2.1 i; unfold pRg at this; omega).1
theorem msk_bit {D : Dt} {r i : Nat} (G : Rg1 D r) (hi : i < 12) : mskI D r / 2 ^ i % 2 = gP D r i 3 := (msk_x fun i => by have := G.2.1 i; unfold pRg at this; omega).2 i hi
/-- a bit of a mask -/
theorem bit_i {z : Int} (h0 : 0 ≤ z) (h1 : z < 4096) {i : Nat} (hi : i < 12) : shrI (iI z) (iI (i : Int)) &&& iI 1 = iI (z / 2 ^ i % 2) := by
  rw [shr_i (by omega) (by omega) (by omega) (by omega), and_1 (Int.ediv_nonneg h0 (Int.pow_nonneg (by decide)))]
  simp
section
variable {c : Nat → Option Nat} {h : Hp} {fz : Nat → Option Cl} {p : Nat} {R : Nat → Int} {G : Nat → Option Nat} {E : Nat → Int} {D : Dt} {r : Nat}
theorem ck_c (K : Rc h p R G E) {o : Rs} : ck h (some p) 4 o = o := ck_e K.1 rfl
theorem rdI_c (K : Rc h p R G E) {k : Nat} {f : Int32 → Rs} (hk : k < 12) : rdI h (some p) 4 k f = f (iI (R k)) := rdI_e K.1 rfl (fR_k hk)
theorem rdR_c12 (K : Rc h p R G E) {f : Option Nat → Rs} : rdR h (some p) 4 12 f = f (some (p + 1)) := rdR_e K.1 rfl rfl
theorem rdR_c13 (K : Rc h p R G E) {f : Option Nat → Rs} : rdR h (some p) 4 13 f = f (some (p + 2)) := rdR_e K.1 rfl rfl
theorem c_itemAt (K : Rc h p R G E) (Q : RcD fz R G E D r) (G1 : Rg1 D r) {z : Int} (z0 : -2147483648 ≤ z) (z1 : z < 2147483648) : fX2_itemAt c h (some p) (iI z) = some (h, some (.inr (.inr (if 0 ≤ z ∧ z < gF D r 8 then G z.toNat else none)))) := by
  have g8 := G1.1
  unfold fX2_itemAt fX2_itemAt_30 fX2_itemAt_31
  simp only [iI_l]
  by_cases h0 : z < 0
  · rw [if_pos (show iI z < iI 0 by rw [lt_i (by omega) (by omega) (by omega) (by omega)]; exact h0), if_neg (show ¬ (0 ≤ z ∧ z < gF D r 8) by omega)]
  rw [if_neg (show ¬ iI z < iI 0 by rw [lt_i (by omega) (by omega) (by omega) (by omega)]; exact h0), rdI_c K (by decide), Q.1.1]
  by_cases h1 : z < gF D r 8
  · rw [if_pos (show iI z < iI (gF D r 8) from (by rw [lt_i (by omega) (by omega) (by omega) (by omega)]; omega)), rdR_c12 K, lenA_e K.2.1, if_pos (show iI z < iI ((12 : Nat) : Int) from (by rw [lt_i (by omega) (by omega) (by omega) (by omega)]; omega)), rdR_c12 K, aldR_e K.2.1 (by decide) (by decide) (by omega) (by omega) (by decide), if_pos (show 0 ≤ z ∧ z < gF D r 8 by omega)]
  · rw [if_neg (show ¬ iI z < iI (gF D r 8) from (by rw [lt_i (by omega) (by omega) (by omega) (by omega)]; omega)), if_neg (show ¬ (0 ≤ z ∧ z < gF D r 8) by omega)]
theorem c_isStruck (K : Rc h p R G E) (Q : RcD fz R G E D r) (G1 : Rg1 D r) {i : Nat} (hi : i < 12) : fX2_isStruck c h (some p) (iI (i : Int)) = some (h, some (.inl (iI (bI (gP D r i 3 = 1))))) := by
  have m := msk_rg G1
  have q := G1.2.1 i
  unfold pRg at q
  unfold fX2_isStruck fX2_isStruck_17
  simp only [iI_l]
  rw [rdI_c K (by decide), Q.1.2.2, bit_i m.1 m.2 hi, msk_bit G1 hi]
  by_cases e : gP D r i 3 = 1
  · rw [e, if_pos rfl, bI_t rfl, rt_1]
  · rw [if_neg (by rw [eq_i (by omega) (by omega) (by omega) (by omega)]; exact e), bI_f e, rt_0]
theorem it_ck {q : Nat} {P N : Nat → Int} (H : FZ h fz) (I : ItF fz q P N) {o : Rs} : ck h (some q) 3 o = o := by
  obtain ⟨s, e, _⟩ := I
  exact ck_e (H _ _ e) rfl
theorem it_sum {q : Nat} {P N : Nat → Int} (H : FZ h fz) (I : ItF fz q P N) : fX1_sum c h (some q) = some (h, some (.inl (iI (P 0 * P 1)))) := by
  obtain ⟨s, e, _⟩ := I
  unfold fX1_sum
  rw [rdI_e (H _ _ e) rfl rfl, rdI_e (H _ _ e) rfl rfl, iI_mul]
theorem it_rd {q : Nat} {P N : Nat → Int} (H : FZ h fz) (I : ItF fz q P N) {k : Nat} (h1 : 1 ≤ k) (h2 : k < 4) {f : Int32 → Rs} : rdI h (some q) 3 k f = f (iI (P (k - 1))) := by
  obtain ⟨s, e, _⟩ := I
  obtain rfl | rfl | rfl : k = 1 ∨ k = 2 ∨ k = 3 := by omega
  all_goals exact rdI_e (H _ _ e) rfl rfl
/-- the sum of the items whose bits aren't set -/
def woI (D : Dt) (r : Nat) (z : Int) : Int := sF (fun i => if z / 2 ^ i % 2 = 0 then gP D r i 0 * gP D r i 1 else 0) 0 (nIt D r)
theorem c_without_l (H : FZ h fz) (K : Rc h p R G E) (Q : RcD fz R G E D r) (G1 : Rg1 D r) {z : Int} (z0 : 0 ≤ z) (z1 : z < 4096) : ∀ (m fu k : Nat) (acc : Int), m < fu → k + m = nIt D r → fX2_totalWithout_4 c fu h (some p) (iI z) (iI acc) (iI k) = some (h, some (.inl (iI (acc + sF (fun i => if z / 2 ^ i % 2 = 0 then gP D r i 0 * gP D r i 1 else 0) k m)))) := by
  have n8 := nIt_le G1
  intro m
  induction m with
  | zero =>
    intro fu k acc hf hk
    obtain ⟨f, rfl⟩ : ∃ f, fu = f + 1 := ⟨fu - 1, by omega⟩
    unfold fX2_totalWithout_4
    rw [rdI_c K (by decide), Q.1.1, if_neg (by rw [lt_i (by omega) (by omega) (by omega) (by omega)]; omega)]
    simp only [sF, Int.add_zero]
  | succ m ih =>
    intro fu k acc hf hk
    obtain ⟨f, rfl⟩ : ∃ f, fu = f + 1 := ⟨fu - 1, by omega⟩
    unfold fX2_totalWithout_4 fX2_totalWithout_40
    rw [rdI_c K (by decide), Q.1.1, if_pos (by rw [lt_i (by omega) (by omega) (by omega) (by omega)]; omega), ck_c K, c_itemAt K Q G1 (by omega) (by omega), if_pos (by omega)]
    obtain ⟨q, e1, e2⟩ := Q.2.1 k (by omega)
    simp only [cc_s, kR_r, Int.toNat_natCast, e1, ifN, iI_l]
    rw [bit_i z0 z1 (show k < 12 by omega)]
    have := Int.emod_nonneg (z / 2 ^ k) (show (2 : Int) ≠ 0 by decide)
    have := Int.emod_lt_of_pos (z / 2 ^ k) (show (0 : Int) < 2 by decide)
    by_cases e : z / 2 ^ k % 2 = 0
    · rw [if_pos (by rw [e]), it_ck H e2, it_sum H e2]
      simp only [cc_s, kI_i, iI_add]
      rw [iI_k1, ih f (k + 1) _ (by omega) (by omega)]
      simp only [sF]
      rw [if_pos e, Int.add_assoc]
    · rw [if_neg (by rw [eq_i (by omega) (by omega) (by omega) (by omega)]; exact e)]
      simp only [iI_add]
      rw [iI_k1, ih f (k + 1) _ (by omega) (by omega)]
      simp only [sF]
      rw [if_neg e, Int.zero_add]
theorem c_without (H : FZ h fz) (K : Rc h p R G E) (Q : RcD fz R G E D r) (G1 : Rg1 D r) {z : Int} (z0 : 0 ≤ z) (z1 : z < 4096) : fX2_totalWithout c h (some p) (iI z) = some (h, some (.inl (iI (woI D r z)))) := by
  have n8 := nIt_le G1
  unfold fX2_totalWithout
  simp only [iI_l]
  have := c_without_l (c := c) H K Q G1 z0 z1 (nIt D r) FU 0 0 (by unfold FU; omega) (by omega)
  rw [show ((0 : Nat) : Int) = 0 from rfl, Int.zero_add] at this
  rw [this, woI]
theorem wo_tot {D : Dt} {r : Nat} (G1 : Rg1 D r) : woI D r (mskI D r) = totI D r := by
  have n8 := nIt_le G1
  refine sF_congr _ _ fun i h1 h2 => ?_
  have q := G1.2.1 i
  unfold pRg at q
  show (if _ then _ else _) = vl D r i
  rw [msk_bit G1 (by omega)]
  unfold vl
  by_cases e : gP D r i 3 = 1
  · rw [if_neg (by omega), if_pos e]
  · rw [if_pos (by omega), if_neg e]
theorem c_total (H : FZ h fz) (K : Rc h p R G E) (Q : RcD fz R G E D r) (G1 : Rg1 D r) : fX2_total c h (some p) = some (h, some (.inl (iI (totI D r)))) := by
  have m := msk_rg G1
  unfold fX2_total
  rw [rdI_c K (by decide), Q.1.2.2, ck_c K, c_without H K Q G1 m.1 m.2]
  simp only [cc_s, kI_i]
  rw [wo_tot G1]
theorem c_sumTaxed_l (H : FZ h fz) (K : Rc h p R G E) (Q : RcD fz R G E D r) (G1 : Rg1 D r) {t : Int} (t0 : 0 ≤ t) (t1 : t < 3) : ∀ (m fu k : Nat) (acc : Int), m < fu → k + m = nIt D r → fX2_sumTaxed_4 c fu h (some p) (iI t) (iI acc) (iI k) = some (h, some (.inl (iI (acc + sF (tv D r t) k m)))) := by
  have n8 := nIt_le G1
  intro m
  induction m with
  | zero =>
    intro fu k acc hf hk
    obtain ⟨f, rfl⟩ : ∃ f, fu = f + 1 := ⟨fu - 1, by omega⟩
    unfold fX2_sumTaxed_4
    rw [rdI_c K (by decide), Q.1.1, if_neg (by rw [lt_i (by omega) (by omega) (by omega) (by omega)]; omega)]
    simp only [sF, Int.add_zero]
  | succ m ih =>
    intro fu k acc hf hk
    obtain ⟨f, rfl⟩ : ∃ f, fu = f + 1 := ⟨fu - 1, by omega⟩
    have q := G1.2.1 k
    unfold pRg at q
    unfold fX2_sumTaxed_4 fX2_sumTaxed_49
    rw [rdI_c K (by decide), Q.1.1, if_pos (by rw [lt_i (by omega) (by omega) (by omega) (by omega)]; omega), ck_c K, c_itemAt K Q G1 (by omega) (by omega), if_pos (by omega)]
    obtain ⟨q, e1, e2⟩ := Q.2.1 k (by omega)
    simp only [cc_s, kR_r, Int.toNat_natCast, e1, ifN, iI_l]
    rw [show rdI h (some q) 3 3 _ = _ from it_rd H e2 (by decide) (by decide), show (3 - 1 : Nat) = 2 from rfl]
    by_cases e : gP D r k 2 = t
    · rw [if_pos (by rw [e]), ck_c K, c_isStruck K Q G1 (show k < 12 by omega)]
      simp only [cc_s, kI_i]
      by_cases e3 : gP D r k 3 = 1
      · rw [bI_t e3, if_neg (show ¬ iI 1 = iI 0 by decide)]
        simp only [iI_add]
        rw [iI_k1, ih f (k + 1) _ (by omega) (by omega)]
        simp only [sF, tv]
        rw [if_pos e3, Int.zero_add]
      · rw [bI_f e3, if_pos rfl, it_ck H e2, it_sum H e2]
        simp only [cc_s, kI_i, iI_add]
        rw [iI_k1, ih f (k + 1) _ (by omega) (by omega)]
        simp only [sF, tv]
        rw [if_neg e3, if_pos e, Int.add_assoc]
    · rw [if_neg (by rw [eq_i (by omega) (by omega) (by omega) (by omega)]; exact e)]
      simp only [iI_add]
      rw [iI_k1, ih f (k + 1) _ (by omega) (by omega)]
      simp only [sF, tv]
      rw [if_neg e, ite_self, Int.zero_add]
theorem c_sumTaxed (H : FZ h fz) (K : Rc h p R G E) (Q : RcD fz R G E D r) (G1 : Rg1 D r) {t : Int} (t0 : 0 ≤ t) (t1 : t < 3) : fX2_sumTaxed c h (some p) (iI t) = some (h, some (.inl (iI (sumT D r t)))) := by
  have n8 := nIt_le G1
  unfold fX2_sumTaxed
  simp only [iI_l]
  have := c_sumTaxed_l (c := c) H K Q G1 t0 t1 (nIt D r) FU 0 0 (by unfold FU; omega) (by omega)
  rw [show ((0 : Nat) : Int) = 0 from rfl, Int.zero_add] at this
  rw [this, sumT]
/-- the constants of the class -/
def Kon (c : Nat → Option Nat) (fz : Nat → Option Cl) : Prop :=
  (∃ t f, c 0 = some t ∧ fz t = some (.inl (10, 3, .inl f)) ∧ ∀ i : Nat, i < 3 → f i = iI (lstI i)) ∧
  (∃ t f, c 1 = some t ∧ fz t = some (.inl (10, 3, .inl f)) ∧ ∀ i : Nat, i < 3 → f i = iI (mstI i)) ∧
  (∃ t f, c 2 = some t ∧ fz t = some (.inl (10, 3, .inl f)) ∧ ∀ i : Nat, i < 3 → f i = iI (rateI i)) ∧
  (∃ a, c 4 = some a ∧ Sg fz a 1 (fun j => [35].getD j 0)) ∧ (∃ a, c 5 = some a ∧ Sg fz a 5 (fun j => [118, 111, 105, 100, 32].getD j 0)) ∧
  (∃ a, c 6 = some a ∧ Sg fz a 3 (fun j => [115, 117, 109].getD j 0)) ∧ (∃ a, c 7 = some a ∧ Sg fz a 4 (fun j => [116, 97, 120, 32].getD j 0))
theorem c_taxOf (H : FZ h fz) (Ko : Kon c fz) (K : Rc h p R G E) (Q : RcD fz R G E D r) (G1 : Rg1 D r) {t : Int} (t0 : 0 ≤ t) (t1 : t < 3) : fX2_taxOf c h (some p) (iI t) = some (h, some (.inl (iI (taxI D r t)))) := by
  obtain ⟨-, -, ⟨a, f, e1, e2, e3⟩, -⟩ := Ko
  have e4 := e3 t.toNat (by omega)
  rw [show ((t.toNat : Nat) : Int) = t by omega] at e4
  have hq := rateI_c t
  have hs := sumT_bd (t := t) G1
  unfold fX2_taxOf fX2_taxOf_12 fX2_taxOf_51
  simp only [iI_l]
  rw [if_neg (by rw [lt_i (by omega) (by omega) (by omega) (by omega)]; omega), e1, lenA_e (H _ _ e2), if_pos (by rw [lt_i (by omega) (by omega) (by omega) (by omega)]; omega), aldI_e (H _ _ e2) rfl t0 (by omega) (by decide), e4]
  simp only [iI_add, iI_mul]
  rw [if_pos (by rw [lt_i (by omega) (by omega) (by omega) (by omega)]; omega), ck_c K, c_sumTaxed H K Q G1 t0 t1]
  simp only [cc_s, kI_i, iI_add, iI_mul]
  rw [dv_i (by omega) (by omega)]
  have : 2 * sumT D r t * rateI t + 100 + rateI t ≥ 0 ∧ 2 * sumT D r t * rateI t + 100 + rateI t < 2147483648 := by
    rcases hq with e | e | e <;> rw [e] <;> omega
  rw [div_i this.1 this.2 (by omega) (by omega)]
  rfl
end
def pop12 (k : Nat) : Nat := k % 2 + k / 2 % 2 + k / 4 % 2 + k / 8 % 2 + k / 16 % 2 + k / 32 % 2 + k / 64 % 2 + k / 128 % 2 + k / 256 % 2 + k / 512 % 2 + k / 1024 % 2 + k / 2048 % 2
theorem bc_64 : ∀ a b : Fin 64, fJ6_bitCount_0f7a4 (fun _ => none) ((fun _ => none), 0, 0) (iI ((64 * a.val + b.val : Nat) : Int)) = some (((fun _ => none), 0, 0), some (.inl (iI (pop12 (64 * a.val + b.val) : Int)))) := by
  intro a b
  unfold fJ6_bitCount_0f7a4
  congr 3
  revert a b
  decide +kernel
theorem bc_all (c : Nat → Option Nat) (h : Hp) : ∀ k : Fin 4096, fJ6_bitCount_0f7a4 c h (iI (k.val : Int)) = some (h, some (.inl (iI (pop12 k.val : Int)))) := by
  intro k
  have e := bc_64 ⟨k.val / 64, by omega⟩ ⟨k.val % 64, by omega⟩
  rw [show 64 * (⟨k.val / 64, by omega⟩ : Fin 64).val + (⟨k.val % 64, by omega⟩ : Fin 64).val = k.val by show 64 * (k.val / 64) + k.val % 64 = k.val; omega] at e
  unfold fJ6_bitCount_0f7a4 at e ⊢
  simp only [Option.some.injEq, Prod.mk.injEq, true_and] at e ⊢
  exact e
theorem c_struck {c : Nat → Option Nat} {h : Hp} {fz : Nat → Option Cl} {p : Nat} {R : Nat → Int} {G : Nat → Option Nat} {E : Nat → Int} {D : Dt} {r : Nat} (K : Rc h p R G E) (Q : RcD fz R G E D r) (G1 : Rg1 D r) (Z : ∀ i, nIt D r ≤ i → gP D r i 3 = 0) : fX2_itemsStruck c h (some p) = some (h, some (.inl (iI (struckI D r)))) := by
  have m := msk_rg G1
  have n8 := nIt_le G1
  unfold fX2_itemsStruck
  rw [rdI_c K (by decide), Q.1.2.2]
  have := bc_all c h ⟨(mskI D r).toNat, by omega⟩
  rw [show ((⟨(mskI D r).toNat, by omega⟩ : Fin 4096).val : Int) = mskI D r by simp; omega] at this
  rw [this]
  simp only [cc_s, kI_i]
  refine ret_c ?_
  have e : struckI D r = sF (fun i => gP D r i 3) 0 12 := by
    unfold struckI
    have : ∀ (m k : Nat), nIt D r ≤ k → sF (fun i => gP D r i 3) k m = 0 := by
      intro m
      induction m with
      | zero => intros; rfl
      | succ m ih => intro k hk; simp only [sF]; rw [Z k hk, ih (k + 1) (by omega)]; rfl
    have ad : ∀ (m k n : Nat), k + m = nIt D r → sF (fun i => gP D r i 3) k (m + n) = sF (fun i => gP D r i 3) k m := by
      intro m
      induction m with
      | zero => intro k n hk; rw [Nat.zero_add, this n k (by omega)]; rfl
      | succ m ih => intro k n hk; rw [show m + 1 + n = m + n + 1 by omega]; simp only [sF]; rw [ih (k + 1) n (by omega)]
    have := ad (nIt D r) 0 (12 - nIt D r) (by omega)
    rw [show nIt D r + (12 - nIt D r) = 12 by omega] at this
    exact this.symm
  rw [e]
  have b := fun i hi => msk_bit (i := i) G1 hi
  simp only [sF, Nat.zero_add, Nat.reduceAdd, Int.add_zero]
  rw [← b 0 (by decide), ← b 1 (by decide), ← b 2 (by decide), ← b 3 (by decide), ← b 4 (by decide), ← b 5 (by decide), ← b 6 (by decide), ← b 7 (by decide), ← b 8 (by decide), ← b 9 (by decide), ← b 10 (by decide), ← b 11 (by decide)]
  simp only [Int.reducePow, Int.pow_zero, Int.ediv_one]
  show ((pop12 (mskI D r).toNat : Nat) : Int) = _
  obtain ⟨n, hn⟩ : ∃ n : Nat, mskI D r = n := ⟨(mskI D r).toNat, by omega⟩
  rw [hn, Int.toNat_natCast]
  unfold pop12
  simp only [Int.natCast_add, Int.natCast_emod, Int.natCast_ediv, Int.add_assoc]
  rfl
