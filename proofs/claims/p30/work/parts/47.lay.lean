/-! THE SHEET of the class: words, items, all lines -/
section
variable {c : Nat → Option Nat} {h : Hp} {t : Nat} {W w : Int} {L : Ly} {fz : Nat → Option Cl}
theorem mx_i {a b : Int} (a0 : -2147483648 ≤ a) (a1 : a < 2147483648) (b0 : -2147483648 ≤ b) (b1 : b < 2147483648) : mxI (iI a) (iI b) = iI (if a < b then b else a) := by
  unfold mxI
  by_cases e : a < b
  · rw [if_pos (by rw [lt_i (by omega) (by omega) (by omega) (by omega)]; omega), if_pos e]
  · rw [if_neg (by rw [lt_i (by omega) (by omega) (by omega) (by omega)]; omega), if_neg e]
theorem t_chars {s n : Nat} {ch : Nat → Int} (H : ∀ L, FZ (hT h t W w L) fz) (S : Sg fz s n ch) {fr to : Nat} (hto : to ≤ n) {room : Int} (r0 : 1 ≤ room) (r1 : room < 40) (w0 : -2147483648 ≤ w) (w1 : w < 2147483648) : ∀ (m fu k : Nat) (L : Ly), m < fu → fr + k + m = to → 0 ≤ L.2.1 → L.2.1 ≤ room → 0 ≤ L.1 → L.1 + m < 1000000 → fX3_layWord_70 c fu (hT h t W w L) (some t) (some s) (iI (to : Int)) (iI room) (iI ((fr + k : Nat) : Int)) = some (hT h t W w (lChars w room (fun j => ch (fr + j)) k m L), none) := by
  have hn : n < 1000 := by obtain ⟨_, _, _, _, _, _, _, _, _, hn, _⟩ := S; exact hn
  have hc : ∀ i, i < n → 0 ≤ ch i ∧ ch i < 128 := by obtain ⟨_, _, _, _, _, _, _, _, _, _, hr⟩ := S; exact fun i hi => (hr i hi).2
  intro m
  induction m with
  | zero =>
    intro fu k L hf hk c0 c1 a0 a1
    obtain ⟨f, rfl⟩ : ∃ f, fu = f + 1 := ⟨fu - 1, by omega⟩
    unfold fX3_layWord_70 fX3_layWord_114
    rw [if_neg (show ¬ iI ((fr + k : Nat) : Int) < iI (to : Int) from (by rw [lt_i (by omega) (by omega) (by omega) (by omega)]; omega))]
    rfl
  | succ m ih =>
    intro fu k L hf hk c0 c1 a0 a1
    obtain ⟨f, rfl⟩ : ∃ f, fu = f + 1 := ⟨fu - 1, by omega⟩
    have hq := hc (fr + k) (by omega)
    have e2 : iI (((fr + k : Nat) : Int) + 1) = iI ((fr + (k + 1) : Nat) : Int) := rfl
    unfold fX3_layWord_70 fX3_layWord_98
    rw [if_pos (show iI ((fr + k : Nat) : Int) < iI (to : Int) from (by rw [lt_i (by omega) (by omega) (by omega) (by omega)]; omega)), ck_g (H L) S, g_len (H L) S]
    simp only [cc_s, kI_i]
    rw [if_pos (show iI ((fr + k : Nat) : Int) < iI (n : Int) from (by rw [lt_i (by omega) (by omega) (by omega) (by omega)]; omega)), rdI_T4]
    rw [lChars]
    by_cases e : room ≤ L.2.1
    · rw [if_neg (show ¬ iI L.2.1 < iI room from (by rw [lt_i (by omega) (by omega) (by omega) (by omega)]; omega)), ck_T, t_nl, if_pos e]
      have s1 := lNl_st L
      simp only [cc_s, kV_n]
      rw [ck_g (H (lNl L)) S, g_chr (H (lNl L)) S (by omega) (by omega), Int.toNat_natCast]
      simp (maxSteps := 1000000) (disch := omega) only [cc_s, kI_i, kV_n, kR_r, ck_T, rdI_T0, rdI_T1, rdI_T2, rdI_T3, rdI_T4, rdR_T5, wr_T0, wr_T1, wr_T2, wr_T3, wr_T4, len_T, iI_l, iI_add, iI_sub, iI_mul, iI_neg]
      rw [t_say hq.1 hq.2 (by omega) (by omega) (by omega) (by omega) w0 w1]
      simp (maxSteps := 1000000) (disch := omega) only [cc_s, kI_i, kV_n, kR_r, ck_T, rdI_T0, rdI_T1, rdI_T2, rdI_T3, rdI_T4, rdR_T5, wr_T0, wr_T1, wr_T2, wr_T3, wr_T4, len_T, iI_l, iI_add, iI_sub, iI_mul, iI_neg]
      have s2 := lSay_st (w := w) (lNl L) (ch (fr + k))
      rw [e2, ih f (k + 1) (lSay w (lNl L) (ch (fr + k))) (by omega) (by omega) (by omega) (by omega) (by omega) (by omega)]
    · rw [if_pos (show iI L.2.1 < iI room from (by rw [lt_i (by omega) (by omega) (by omega) (by omega)]; omega)), ck_g (H L) S, g_chr (H L) S (by omega) (by omega), Int.toNat_natCast, if_neg e]
      simp (maxSteps := 1000000) (disch := omega) only [cc_s, kI_i, kV_n, kR_r, ck_T, rdI_T0, rdI_T1, rdI_T2, rdI_T3, rdI_T4, rdR_T5, wr_T0, wr_T1, wr_T2, wr_T3, wr_T4, len_T, iI_l, iI_add, iI_sub, iI_mul, iI_neg]
      rw [t_say hq.1 hq.2 (by omega) (by omega) (by omega) (by omega) w0 w1]
      simp (maxSteps := 1000000) (disch := omega) only [cc_s, kI_i, kV_n, kR_r, ck_T, rdI_T0, rdI_T1, rdI_T2, rdI_T3, rdI_T4, rdR_T5, wr_T0, wr_T1, wr_T2, wr_T3, wr_T4, len_T, iI_l, iI_add, iI_sub, iI_mul, iI_neg]
      have s2 := lSay_st (w := w) L (ch (fr + k))
      rw [e2, ih f (k + 1) (lSay w L (ch (fr + k))) (by omega) (by omega) (by omega) (by omega) (by omega) (by omega)]
theorem t_word {s n : Nat} {ch : Nat → Int} (H : ∀ L, FZ (hT h t W w L) fz) (S : Sg fz s n ch) {fr to : Nat} (hfr : fr ≤ to) (hto : to ≤ n) (hn : n ≤ 40) (wd0 : 16 ≤ W) (wd1 : W ≤ 40) (w0 : -2147483648 ≤ w) (w1 : w < 2147483648) (c0 : 0 ≤ L.2.1) (c1 : L.2.1 ≤ W - 8) (a0 : 0 ≤ L.1) (a1 : L.1 < 900000) : fX3_layWord c (hT h t W w L) (some t) (some s) (iI (fr : Int)) (iI (to : Int)) = some (hT h t W w (lWord w (W - 8) (fun j => ch (fr + j)) (to - fr) L), none) := by
  have X : ∀ L' : Ly, 0 ≤ L'.2.1 → L'.2.1 ≤ W - 8 → 0 ≤ L'.1 → L'.1 ≤ L.1 + 1 → fX3_layWord_63 c (hT h t W w L') (some t) (some s) (iI (fr : Int)) (iI (to : Int)) (iI (W - 8)) = some (hT h t W w (lChars w (W - 8) (fun j => ch (fr + j)) 0 (to - fr) L'), none) := by
    intro L' x0 x1 x2 x3
    unfold fX3_layWord_63
    simp only [iI_l]
    rw [mx_i (by omega) (by omega) (by omega) (by omega), if_neg (show ¬ (fr : Int) < 0 by omega)]
    exact t_chars H S hto (show 1 ≤ W - 8 by omega) (by omega) w0 w1 (to - fr) FU 0 L' (by unfold FU; omega) (by omega) x0 x1 x2 (by omega)
  unfold fX3_layWord fX3_layWord_29 fX3_layWord_52 lWord lGap
  simp only [iI_l]
  rw [rdI_T0, rdI_T4]
  simp only [iI_add, iI_sub]
  rw [show (L.2.1 + 1 + (to : Int) - fr) = L.2.1 + 1 + ((to - fr : Nat) : Int) by omega]
  by_cases e1 : L.2.1 + 1 + ((to - fr : Nat) : Int) ≤ W - 8
  · rw [if_neg (show ¬ iI (W - 8) < iI (L.2.1 + 1 + ((to - fr : Nat) : Int)) from (by rw [lt_i (by omega) (by omega) (by omega) (by omega)]; omega))]
    simp only [rdI_T4]
    by_cases e2 : 0 < L.2.1
    · rw [if_pos (show iI 0 < iI L.2.1 from (by rw [lt_i (by omega) (by omega) (by omega) (by omega)]; omega)), if_neg (show ¬ iI 1 = iI 0 by decide), ck_T, t_say (by decide) (by decide) c0 (by omega) a0 (by omega) w0 w1, if_pos ⟨e2, e1⟩]
      simp only [cc_s, kV_n]
      have s2 := lSay_st (w := w) L 32
      exact X _ (by omega) (by omega) (by omega) (by omega)
    · rw [if_neg (show ¬ iI 0 < iI L.2.1 from (by rw [lt_i (by omega) (by omega) (by omega) (by omega)]; omega)), if_neg (show ¬ iI 0 < iI L.2.1 from (by rw [lt_i (by omega) (by omega) (by omega) (by omega)]; omega)), if_neg (show ¬ (0 < L.2.1 ∧ L.2.1 + 1 + ((to - fr : Nat) : Int) ≤ W - 8) by omega), if_neg e2]
      exact X _ c0 c1 a0 (by omega)
  · rw [if_pos (show iI (W - 8) < iI (L.2.1 + 1 + ((to - fr : Nat) : Int)) from (by rw [lt_i (by omega) (by omega) (by omega) (by omega)]; omega))]
    simp only [rdI_T4]
    rw [if_neg (show ¬ (0 < L.2.1 ∧ L.2.1 + 1 + ((to - fr : Nat) : Int) ≤ W - 8) by omega)]
    by_cases e2 : 0 < L.2.1
    · rw [if_pos (show iI 0 < iI L.2.1 from (by rw [lt_i (by omega) (by omega) (by omega) (by omega)]; omega)), if_pos trivial, if_pos (show iI 0 < iI L.2.1 from (by rw [lt_i (by omega) (by omega) (by omega) (by omega)]; omega)), ck_T, t_nl, if_pos e2]
      simp only [cc_s, kV_n]
      have s1 := lNl_st L
      exact X _ (by omega) (by omega) (by omega) (by omega)
    · rw [if_neg (show ¬ iI 0 < iI L.2.1 from (by rw [lt_i (by omega) (by omega) (by omega) (by omega)]; omega)), if_neg (show ¬ iI 0 < iI L.2.1 from (by rw [lt_i (by omega) (by omega) (by omega) (by omega)]; omega)), if_neg e2]
      exact X _ c0 c1 a0 (by omega)
theorem chr_c {z : Int} (h0 : 0 ≤ z) (h1 : z ≤ 27) : 0 ≤ chr z ∧ chr z < 128 ∧ (chr z = 95 ↔ z = 27) := by
  unfold chr; split <;> omega
theorem t_name {q first : Nat} {P N : Nat → Int} (H : ∀ L, FZ (hT h t W w L) fz) (I : ItF fz q P N) (hp : pRg P) (hN : ∀ k, 0 ≤ N k ∧ N k ≤ 27) (wd0 : 16 ≤ W) (wd1 : W ≤ 40) (w0 : -2147483648 ≤ w) (w1 : w < 2147483648) (hf0 : first < 800000) : ∀ (m fu k fr : Nat) (L : Ly), m + 1 < fu → k + m = (P 4).toNat → fr ≤ k → 0 ≤ L.2.1 → L.2.1 ≤ W - 8 → 0 ≤ L.1 → L.1 + (k - fr) + 2 * m + 1 < 900000 → fX3_layItem_32 c fu (hT h t W w L) (some t) (some q) (iI (first : Int)) (iI (fr : Int)) (iI (k : Int)) = some (hT h t W w (lNl (lMoney w W (P 0 * P 1) (lBeg w first (lName w (W - 8) N fr k m L)))), none) := by
  unfold pRg at hp
  have hI := I
  obtain ⟨s, e, S⟩ := I
  have rq : ∀ (L : Ly) (f : Option Nat → Rs), rdR (hT h t W w L) (some q) 3 0 f = f (some s) := fun L f => rdR_e (H L _ _ e) rfl rfl
  have hsb := sum_bd (P := P) hp
  intro m
  induction m with
  | zero =>
    intro fu k fr L hf hk hfr c0 c1 a0 a1
    obtain ⟨f, rfl⟩ : ∃ f, fu = f + 1 + 1 := ⟨fu - 2, by omega⟩
    have s3 := lWord_st (w := w) (wd := fun j => chr (N (fr + j))) (show 1 ≤ W - 8 by omega) (k - fr) c0 c1
    unfold fX3_layItem_32 fX3_layItem_70 fX3_layItem_86
    rw [rq, ck_g (H L) S, g_len (H L) S]
    simp only [cc_s, kI_i]
    rw [if_neg (show ¬ iI (((P 4).toNat : Nat) : Int) < iI (k : Int) from (by rw [lt_i (by omega) (by omega) (by omega) (by omega)]; omega)), rq, ck_g (H L) S, g_len (H L) S]
    simp only [cc_s, kI_i]
    rw [if_pos (show iI (k : Int) = iI (((P 4).toNat : Nat) : Int) from (by rw [eq_i (by omega) (by omega) (by omega) (by omega)]; omega)), rq, ck_T, t_word H S hfr (by omega) (by omega) wd0 wd1 w0 w1 c0 c1 a0 (by omega)]
    simp only [cc_s, kV_n, iI_l, iI_add]
    rw [lName]
    generalize lWord w (W - 8) (fun j => chr (N (fr + j))) (k - fr) L = L2 at s3
    unfold fX3_layItem_32 fX3_layItem_116
    rw [rq, ck_g (H L2) S, g_len (H L2) S]
    simp only [cc_s, kI_i]
    rw [if_pos (show iI (((P 4).toNat : Nat) : Int) < iI ((k : Int) + 1) from (by rw [lt_i (by omega) (by omega) (by omega) (by omega)]; omega)), rdI_T3]
    have Y : ∀ L3 : Ly, L3.1 = L2.1 → ck (hT h t W w L3) (some q) 3 (cc (fX1_sum c (hT h t W w L3) (some q)) (kI fun h3 x4 => ck h3 (some t) 5 (cc (fX3_addMoney c h3 (some t) x4) (kV fun h5 => ck h5 (some t) 5 (cc (fX3_endLine c h5 (some t)) (kV fun h6 => some (h6, none))))))) = some (hT h t W w (lNl (lMoney w W (P 0 * P 1) L3)), none) := by
      intro L3 hL
      rw [it_ck (H L3) hI, it_sum (H L3) hI]
      simp only [cc_s, kI_i]
      rw [ck_T, t_money (by rw [aI_p hsb.1]; omega) wd0 wd1 w0 w1 (by omega) (by omega)]
      simp (maxSteps := 1000000) (disch := omega) only [cc_s, kI_i, kV_n, kR_r, ck_T, rdI_T0, rdI_T1, rdI_T2, rdI_T3, rdI_T4, rdR_T5, wr_T0, wr_T1, wr_T2, wr_T3, wr_T4, len_T, iI_l, iI_add, iI_sub, iI_mul, iI_neg, t_nl]
    unfold lBeg
    by_cases e1 : (first : Int) ≤ w
    · rw [if_neg (show ¬ iI w < iI (first : Int) from (by rw [lt_i (by omega) (by omega) (by omega) (by omega)]; omega))]
      simp only [rdI_T3, rdI_T1]
      by_cases e2 : w ≤ L2.1
      · rw [if_neg (show ¬ iI L2.1 < iI w from (by rw [lt_i (by omega) (by omega) (by omega) (by omega)]; omega)), wr_T2, if_pos ⟨e1, e2⟩]
        exact Y _ rfl
      · rw [if_pos (show iI L2.1 < iI w from (by rw [lt_i (by omega) (by omega) (by omega) (by omega)]; omega)), if_neg (show ¬ ((first : Int) ≤ w ∧ w ≤ L2.1) by omega)]
        exact Y _ rfl
    · rw [if_pos (show iI w < iI (first : Int) from (by rw [lt_i (by omega) (by omega) (by omega) (by omega)]; omega)), if_neg (show ¬ ((first : Int) ≤ w ∧ w ≤ L2.1) by omega)]
      exact Y _ rfl
  | succ m ih =>
    intro fu k fr L hf hk hfr c0 c1 a0 a1
    obtain ⟨f, rfl⟩ : ∃ f, fu = f + 1 := ⟨fu - 1, by omega⟩
    have hq := chr_c (hN k).1 (hN k).2
    have s3 := lWord_st (w := w) (wd := fun j => chr (N (fr + j))) (show 1 ≤ W - 8 by omega) (k - fr) c0 c1
    unfold fX3_layItem_32 fX3_layItem_70 fX3_layItem_86
    rw [rq, ck_g (H L) S, g_len (H L) S]
    simp only [cc_s, kI_i]
    rw [if_neg (show ¬ iI (((P 4).toNat : Nat) : Int) < iI (k : Int) from (by rw [lt_i (by omega) (by omega) (by omega) (by omega)]; omega)), rq, ck_g (H L) S, g_len (H L) S]
    simp only [cc_s, kI_i]
    rw [if_neg (show ¬ iI (k : Int) = iI (((P 4).toNat : Nat) : Int) from (by rw [eq_i (by omega) (by omega) (by omega) (by omega)]; omega)), rq, ck_g (H L) S, g_chr (H L) S (by omega) (by omega), Int.toNat_natCast]
    simp only [cc_s, kI_i, iI_l, iI_add]
    rw [lName]
    by_cases e1 : N k = 27
    · rw [if_pos (show iI (chr (N k)) = iI 95 by rw [hq.2.2.mpr e1]), if_pos e1, rq, ck_T, t_word H S hfr (by omega) (by omega) wd0 wd1 w0 w1 c0 c1 a0 (by omega)]
      simp only [cc_s, kV_n]
      rw [iI_k1, ih f (k + 1) (k + 1) (lWord w (W - 8) (fun j => chr (N (fr + j))) (k - fr) L) (by omega) (by omega) (by omega) (by omega) (by omega) (by omega) (by omega)]
    · rw [if_neg (show ¬ iI (chr (N k)) = iI 95 by rw [eq_i (by omega) (by omega) (by omega) (by omega)]; exact fun h => e1 (hq.2.2.mp h)), if_neg e1]
      rw [iI_k1, ih f (k + 1) fr L (by omega) (by omega) (by omega) c0 c1 a0 (by omega)]
theorem t_item {q : Nat} {P N : Nat → Int} (H : ∀ L, FZ (hT h t W w L) fz) (I : ItF fz q P N) (hp : pRg P) (hN : ∀ k, 0 ≤ N k ∧ N k ≤ 27) (wd0 : 16 ≤ W) (wd1 : W ≤ 40) (w0 : -2147483648 ≤ w) (w1 : w < 2147483648) (c0 : L.2.1 = 0) (a0 : 0 ≤ L.1) (a1 : L.1 < 800000) : fX3_layItem c (hT h t W w L) (some t) (some q) = some (hT h t W w (lItem w W P N L), none) := by
  have hI := I
  have hp' := hp
  unfold pRg at hp'
  have sm := lMany_st (w := w) (n := P 0) (by omega) (by omega) c0
  have rI : ∀ (L : Ly) (f : Int32 → Rs), rdI (hT h t W w L) (some q) 3 1 f = f (iI (P 0)) := fun L f => it_rd (k := 1) (H L) hI (by decide) (by decide)
  have Y : ∀ L2 : Ly, L2.1 = L.1 → 0 ≤ L2.2.1 → L2.2.1 ≤ 8 → fX3_layItem_27 c (hT h t W w L2) (some t) (some q) (iI L.1) = some (hT h t W w (lNl (lMoney w W (P 0 * P 1) (lBeg w L.1 (lName w (W - 8) N 0 0 (P 4).toNat L2)))), none) := by
    intro L2 x1 x2 x3
    unfold fX3_layItem_27
    have key := t_name (c := c) (first := L.1.toNat) H hI hp hN wd0 wd1 w0 w1 (by omega) (P 4).toNat FU 0 0 L2 (by unfold FU; omega) (by omega) (by omega) x2 (by omega) (by omega) (by omega)
    rw [show ((L.1.toNat : Nat) : Int) = L.1 by omega, show ((0 : Nat) : Int) = 0 from rfl] at key
    simp only [iI_l]
    rw [key]
  unfold fX3_layItem lItem lWords
  simp only [rdI_T1, rI, iI_l]
  unfold lMany at sm ⊢
  by_cases e : 1 < P 0
  · rw [if_pos e] at sm ⊢
    have sn := lNum_st (w := w) (n := P 0) (by omega) (by omega) L
    rw [if_pos (show iI 1 < iI (P 0) from (by rw [lt_i (by omega) (by omega) (by omega) (by omega)]; omega)), ck_T, t_number (by omega) (by omega) w0 w1 (by omega) (by omega) a0 (by omega)]
    simp only [cc_s, kV_n]
    rw [ck_T, t_say (by decide) (by decide) (by omega) (by omega) (by omega) (by omega) w0 w1]
    simp only [cc_s, kV_n]
    exact Y _ sm.1 sm.2.1 sm.2.2.1
  · rw [if_neg e]
    rw [if_neg (show ¬ iI 1 < iI (P 0) from (by rw [lt_i (by omega) (by omega) (by omega) (by omega)]; omega))]
    exact Y _ rfl (by omega) (by omega)
theorem t_told {s n : Nat} {ch : Nat → Int} {k v : Int} (H : ∀ L, FZ (hT h t W w L) fz) (S : Sg fz s n ch) (hn : n ≤ 10) (k0 : 0 ≤ k) (k1 : k < 1000) (A1 : aI v < 12000000) (wd0 : 16 ≤ W) (wd1 : W ≤ 40) (w0 : -2147483648 ≤ w) (w1 : w < 2147483648) (c0 : L.2.1 = 0) (a0 : 0 ≤ L.1) (a1 : L.1 < 800000) (hs : (lSy w ch 0 n L).1 = L.1 ∧ (lSy w ch 0 n L).2.1 = n) : fX3_layTold c (hT h t W w L) (some t) (some s) (iI k) (iI v) = some (hT h t W w (lNl (lMoney w W v (lNum w k 9 (lSy w ch 0 n L)))), none) := by
  unfold fX3_layTold
  rw [ck_T, t_text H S w0 w1 (by omega) (by omega) a0 (by omega)]
  simp only [cc_s, kV_n]
  have sn := lNum_st (w := w) (n := k) k0 (by omega) (lSy w ch 0 n L)
  rw [ck_T, t_number k0 (by omega) w0 w1 (by omega) (by omega) (by omega) (by omega)]
  simp only [cc_s, kV_n]
  rw [ck_T, t_money A1 wd0 wd1 w0 w1 (by omega) (by omega)]
  simp (maxSteps := 1000000) (disch := omega) only [cc_s, kI_i, kV_n, kR_r, ck_T, rdI_T0, rdI_T1, rdI_T2, rdI_T3, rdI_T4, rdR_T5, wr_T0, wr_T1, wr_T2, wr_T3, wr_T4, len_T, iI_l, iI_add, iI_sub, iI_mul, iI_neg, t_nl]
end
