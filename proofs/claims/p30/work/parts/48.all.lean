/-! THE SHEET of the class: a receipt -/
section
variable {c : Nat → Option Nat} {h : Hp} {t : Nat} {W w : Int} {fz : Nat → Option Cl} {p : Nat} {R : Nat → Int} {G : Nat → Option Nat} {E : Nat → Int} {D : Dt} {r : Nat}
theorem t_told_s {s n : Nat} {ch : Nat → Int} {k v : Int} {L : Ly} {l : List Int} (H : ∀ L, FZ (hT h t W w L) fz) (S : Sg fz s n ch) (hl : ∀ L, lSy w ch 0 n L = lSays w L l) (hn : n = l.length) (hn2 : n ≤ 10) (k0 : 0 ≤ k) (k1 : k < 1000) (A1 : aI v < 12000000) (wd0 : 16 ≤ W) (wd1 : W ≤ 40) (w0 : -2147483648 ≤ w) (w1 : w < 2147483648) (c0 : L.2.1 = 0) (a0 : 0 ≤ L.1) (a1 : L.1 < 800000) : fX3_layTold c (hT h t W w L) (some t) (some s) (iI k) (iI v) = some (hT h t W w (lTold w W l k v L), none) := by
  have s1 := lSays_st (w := w) l L
  rw [t_told H S hn2 k0 k1 A1 wd0 wd1 w0 w1 c0 a0 a1 (by rw [hl]; exact ⟨s1.1, by rw [s1.2.1, c0, hn]; omega⟩), hl]
  rfl
theorem lS_void (w : Int) (L : Ly) : lSy w (fun j => [118, 111, 105, 100, 32].getD j 0) 0 5 L = lSays w L [118, 111, 105, 100, 32] := rfl
theorem lS_sum (w : Int) (L : Ly) : lSy w (fun j => [115, 117, 109].getD j 0) 0 3 L = lSays w L [115, 117, 109] := rfl
theorem lS_tax (w : Int) (L : Ly) : lSy w (fun j => [116, 97, 120, 32].getD j 0) 0 4 L = lSays w L [116, 97, 120, 32] := rfl
theorem t_tax (H : ∀ L, FZ (hT h t W w L) fz) (Ko : Kon c fz) (K : ∀ L, Rc (hT h t W w L) p R G E) (Q : RcD fz R G E D r) (G1 : Rg1 D r) (wd0 : 16 ≤ W) (wd1 : W ≤ 40) (w0 : -2147483648 ≤ w) (w1 : w < 2147483648) {k : Int} (k0 : 1 ≤ k) (k1 : k < 3) {L : Ly} (c0 : L.2.1 = 0) (a0 : 0 ≤ L.1) (a1 : L.1 < 800000) (f : Nat) : fX3_lay_134 c (f + 1) (hT h t W w L) (some t) (some p) (iI k) = fX3_lay_134 c f (hT h t W w (lTax D r w W k L)) (some t) (some p) (iI (k + 1)) := by
  have Ko' := Ko
  obtain ⟨-, -, ⟨a, g, e1, e2, e3⟩, -, -, -, ⟨b, e4, S⟩⟩ := Ko
  have e5 := e3 k.toNat (by omega)
  rw [show ((k.toNat : Nat) : Int) = k by omega] at e5
  have hs := sumT_bd (t := k) G1
  have ht := taxI_bd (t := k) G1
  have hr := rateI_c k
  rw [fX3_lay_134]
  unfold fX3_lay_170
  rw [e1, lenA_e (H L _ _ e2), if_pos (show iI k < iI ((3 : Nat) : Int) from (by rw [lt_i (by omega) (by omega) (by omega) (by omega)]; omega)), ck_c (K L), c_sumTaxed (H L) (K L) Q G1 (by omega) k1]
  simp only [cc_s, kI_i, iI_l]
  unfold lTax
  by_cases e : 0 < sumT D r k
  · rw [if_pos (show iI 0 < iI (sumT D r k) from (by rw [lt_i (by omega) (by omega) (by omega) (by omega)]; omega)), aldI_e (H L _ _ e2) rfl (by omega) (by omega) (by decide), e5, ck_c (K L), c_taxOf (H L) Ko' (K L) Q G1 (by omega) k1]
    simp only [cc_s, kI_i]
    rw [ck_T, e4, t_told_s H S (lS_tax w) rfl (by decide) (by omega) (by omega) (by rw [aI_p ht.1]; omega) wd0 wd1 w0 w1 c0 a0 a1, if_pos e]
    simp only [cc_s, kV_n, iI_add]
  · rw [if_neg (show ¬ iI 0 < iI (sumT D r k) from (by rw [lt_i (by omega) (by omega) (by omega) (by omega)]; omega)), if_neg e, iI_add]
theorem t_tail (H : ∀ L, FZ (hT h t W w L) fz) (Ko : Kon c fz) (K : ∀ L, Rc (hT h t W w L) p R G E) (Q : RcD fz R G E D r) (G1 : Rg1 D r) (wd0 : 16 ≤ W) (wd1 : W ≤ 40) (w0 : -2147483648 ≤ w) (w1 : w < 2147483648) {L : Ly} (c0 : L.2.1 = 0) (a0 : 0 ≤ L.1) (a1 : L.1 < 700000) : fX3_lay_113 c (hT h t W w L) (some t) (some p) = some (hT h t W w (lTail D r w W L), some (.inl (iI (lTail D r w W L).1))) := by
  have Ko' := Ko
  obtain ⟨-, -, ⟨a, g, e1, e2, e3⟩, -, -, ⟨b, e4, S⟩, -⟩ := Ko
  have ht := totI_bd G1
  have s1 := lSays_st (w := w) [115, 117, 109] L
  have sS := lSum_st (w := w) (width := W) (v := totI D r) (L := L) (by rw [aI_p ht.1]; omega) wd0 wd1
  have sT1 := lTax_st (D := D) (r := r) (w := w) (width := W) (t := 1) (L := lSum w W (totI D r) L) G1 wd0 wd1 sS.2
  have sT2 := lTax_st (D := D) (r := r) (w := w) (width := W) (t := 2) (L := lTax D r w W 1 (lSum w W (totI D r) L)) G1 wd0 wd1 sT1.2.2
  unfold fX3_lay_113
  rw [ck_T, e4, t_text H S w0 w1 (by omega) (by omega) a0 (by omega), lS_sum]
  simp only [cc_s, kV_n]
  rw [ck_c (K _), c_total (H _) (K _) Q G1]
  simp only [cc_s, kI_i]
  rw [ck_T, t_money (by rw [aI_p ht.1]; omega) wd0 wd1 w0 w1 (by rw [s1.1]; exact a0) (by rw [s1.1]; omega)]
  simp only [cc_s, kV_n]
  rw [ck_T, t_nl]
  simp only [cc_s, kV_n, iI_l]
  show fX3_lay_134 c FU (hT h t W w (lSum w W (totI D r) L)) (some t) (some p) (iI 1) = _
  rw [show FU = 19997 + 1 + 1 + 1 from rfl, t_tax H Ko' K Q G1 wd0 wd1 w0 w1 (by decide) (by decide) sS.2 (by omega) (by omega), show (1 : Int) + 1 = 2 from rfl, t_tax H Ko' K Q G1 wd0 wd1 w0 w1 (by decide) (by decide) sT1.2.2 (by omega) (by omega), show (2 : Int) + 1 = 3 from rfl]
  rw [fX3_lay_134]
  rw [e1, lenA_e (H _ _ _ e2), if_neg (show ¬ iI 3 < iI ((3 : Nat) : Int) by decide), rdI_T1]
  rfl
theorem rem12 {z : Int} (h0 : 0 ≤ z) (h1 : z < 1000) : iI z - iI z / iI 12 * iI 12 = iI (z % 12) := by
  rw [div_i h0 (by omega) (by decide) (by decide), iI_mul, iI_sub]
  congr 1
  omega
theorem t_events (H : ∀ L, FZ (hT h t W w L) fz) (Ko : Kon c fz) (K : ∀ L, Rc (hT h t W w L) p R G E) (Q : RcD fz R G E D r) (G1 : Rg1 D r) (he : EvOk D r) (wd0 : 16 ≤ W) (wd1 : W ≤ 40) (w0 : -2147483648 ≤ w) (w1 : w < 2147483648) : ∀ (m fu k : Nat) (L : Ly), m < fu → k + m = nEt D r → L.2.1 = 0 → 0 ≤ L.1 → L.1 + 62 * m < 600000 → fX3_lay_25 c fu (hT h t W w L) (some t) (some p) (iI (k : Int)) = some (hT h t W w (lTail D r w W (lEv D r w W k m L)), some (.inl (iI (lTail D r w W (lEv D r w W k m L)).1))) := by
  have g := G1.1
  have n9 : ((nEt D r : Nat) : Int) = gF D r 9 := by unfold nEt; omega
  have n8 := nIt_le G1
  intro m
  induction m with
  | zero =>
    intro fu k L hf hk c0 a0 a1
    obtain ⟨f, rfl⟩ : ∃ f, fu = f + 1 := ⟨fu - 1, by omega⟩
    unfold fX3_lay_25
    rw [rdI_c (K L) (by decide), Q.1.2.1, if_neg (show ¬ iI (k : Int) < iI (gF D r 9) from (by rw [lt_i (by omega) (by omega) (by omega) (by omega)]; omega)), t_tail H Ko K Q G1 wd0 wd1 w0 w1 c0 a0 (by omega)]
    rfl
  | succ m ih =>
    intro fu k L hf hk c0 a0 a1
    obtain ⟨f, rfl⟩ : ∃ f, fu = f + 1 := ⟨fu - 1, by omega⟩
    have gEk := G1.2.2.2 k
    have hev := he k (by omega)
    have s1 := lEv1_st (D := D) (r := r) (k := k) (w := w) (width := W) (L := L) G1 wd0 wd1 c0
    have hx := Q.2.2 k (by omega)
    have step : ∀ X : Rs, X = some (hT h t W w (lTail D r w W (lEv D r w W (k + 1) m (lEv1 D r w W k L))), some (.inl (iI (lTail D r w W (lEv D r w W (k + 1) m (lEv1 D r w W k L))).1))) → X = some (hT h t W w (lTail D r w W (lEv D r w W k (m + 1) L)), some (.inl (iI (lTail D r w W (lEv D r w W k (m + 1) L)).1))) := fun X hX => hX
    apply step
    have ihk := ih f (k + 1) (lEv1 D r w W k L) (by omega) (by omega) s1.2.2 (by omega) (by omega)
    have hv0 : 0 ≤ evC (gE D r k) ∧ evC (gE D r k) < 28 := by unfold evC; split <;> omega
    unfold fX3_lay_25 fX3_lay_107
    rw [rdI_c (K L) (by decide), Q.1.2.1, if_pos (show iI (k : Int) < iI (gF D r 9) from (by rw [lt_i (by omega) (by omega) (by omega) (by omega)]; omega)), rdR_c13 (K L), lenA_e (K L).2.2, if_pos (show iI (k : Int) < iI ((24 : Nat) : Int) from (by rw [lt_i (by omega) (by omega) (by omega) (by omega)]; omega)), rdR_c13 (K L), aldI_e (K L).2.2 rfl (by omega) (by omega) (by decide), Int.toNat_natCast, hx]
    simp only [iI_l]
    rw [dv_i (by decide) (by decide), ck_c (K L), rem12 hv0.1 (by omega), c_itemAt (K L) Q G1 (by omega) (by omega)]
    simp only [cc_s, kR_r]
    by_cases e : gE D r k < 16
    · have e1 := hev.1 e
      have e2 : evC (gE D r k) = gE D r k := by unfold evC; rw [if_pos e]
      have e3 : evC (gE D r k) % 12 = gE D r k := by rw [e2]; omega
      obtain ⟨q, q1, q2⟩ := Q.2.1 (gE D r k).toNat (by omega)
      rw [e3, if_pos (show 0 ≤ gE D r k ∧ gE D r k < gF D r 8 by omega), q1]
      simp only [ifN]
      rw [e2, if_pos (show iI (gE D r k) < iI 12 from (by rw [lt_i (by omega) (by omega) (by omega) (by omega)]; omega)), ck_T, t_item H q2 (G1.2.1 _) (G1.2.2.1 _) wd0 wd1 w0 w1 c0 a0 (by omega)]
      simp only [cc_s, kV_n, iI_add]
      have e4 : lItem w W (gP D r (gE D r k).toNat) (gN' D r (gE D r k).toNat) L = lEv1 D r w W k L := by unfold lEv1; rw [if_pos e]
      rw [e4, iI_k1, ihk]
    · have e1 := hev.2 (by omega)
      have e2 : evC (gE D r k) = gE D r k - 4 := by unfold evC; rw [if_neg e]
      have e3 : evC (gE D r k) % 12 = gE D r k - 16 := by rw [e2]; omega
      obtain ⟨q, q1, q2⟩ := Q.2.1 (gE D r k - 16).toNat (by omega)
      have hsb := sum_bd (P := gP D r (gE D r k - 16).toNat) (G1.2.1 _)
      obtain ⟨-, -, -, -, ⟨b, e4, S⟩, -⟩ := Ko
      rw [e3, if_pos (show 0 ≤ gE D r k - 16 ∧ gE D r k - 16 < gF D r 8 by omega), q1]
      unfold fX3_lay_85 fX3_lay_107
      simp only [ifN, iI_l]
      rw [if_neg (show ¬ iI (evC (gE D r k)) < iI 12 by rw [e2, lt_i (by omega) (by omega) (by omega) (by omega)]; omega), dv_i (by decide) (by decide), it_ck (H L) q2, it_sum (H L) q2]
      simp only [cc_s, kI_i]
      rw [ck_T, e4, rem12 hv0.1 (by omega), e3, iI_neg, t_told_s H S (lS_void w) rfl (by decide) (by omega) (by omega) (by rw [aI_n hsb.1]; omega) wd0 wd1 w0 w1 c0 a0 (by omega)]
      simp only [cc_s, kV_n, iI_add]
      have e5 : lTold w W [118, 111, 105, 100, 32] (gE D r k - 16) (-(gP D r (gE D r k - 16).toNat 0 * gP D r (gE D r k - 16).toNat 1)) L = lEv1 D r w W k L := by unfold lEv1; rw [if_neg e]
      rw [e5, iI_k1, ihk]
/-- blanks from k on -/
theorem t_begin_l : ∀ (m fu k : Nat) (L : Ly), m < fu → k + m = 40 → fX3_begin_27 c fu (hT h t W w L) (some t) (iI (k : Int)) = some (hT h t W w (L.1, L.2.1, L.2.2.1, row32 L.2.2.2 k), none) := by
  intro m
  induction m with
  | zero =>
    intro fu k L hf hk
    obtain ⟨f, rfl⟩ : ∃ f, fu = f + 1 := ⟨fu - 1, by omega⟩
    unfold fX3_begin_27
    simp (maxSteps := 1000000) (disch := omega) only [cc_s, kI_i, kV_n, kR_r, ck_T, rdI_T0, rdI_T1, rdI_T2, rdI_T3, rdI_T4, rdR_T5, wr_T0, wr_T1, wr_T2, wr_T3, wr_T4, len_T, iI_l, iI_add, iI_sub, iI_mul, iI_neg]
    rw [if_neg (show ¬ iI (k : Int) < iI 40 from (by rw [lt_i (by omega) (by omega) (by omega) (by omega)]; omega))]
    rw [show row32 L.2.2.2 k = L.2.2.2 from funext fun j => by unfold row32; rw [if_neg (by omega)]]
  | succ m ih =>
    intro fu k L hf hk
    obtain ⟨f, rfl⟩ : ∃ f, fu = f + 1 := ⟨fu - 1, by omega⟩
    unfold fX3_begin_27
    simp (maxSteps := 1000000) (disch := omega) only [cc_s, kI_i, kV_n, kR_r, ck_T, rdI_T0, rdI_T1, rdI_T2, rdI_T3, rdI_T4, rdR_T5, wr_T0, wr_T1, wr_T2, wr_T3, wr_T4, len_T, iI_l, iI_add, iI_sub, iI_mul, iI_neg]
    rw [if_pos (show iI (k : Int) < iI 40 from (by rw [lt_i (by omega) (by omega) (by omega) (by omega)]; omega))]
    simp (maxSteps := 1000000) (disch := omega) only [cc_s, kI_i, kV_n, kR_r, ck_T, rdI_T0, rdI_T1, rdI_T2, rdI_T3, rdI_T4, rdR_T5, wr_T0, wr_T1, wr_T2, wr_T3, wr_T4, len_T, iI_l, iI_add, iI_sub, iI_mul, iI_neg, ast_T]
    rw [iI_k1, ih f (k + 1) _ (by omega) (by omega), Int.toNat_natCast]
    have e : row32 (st L.2.2.2 k 32) (k + 1) = row32 L.2.2.2 k := by
      funext j
      unfold row32 st
      by_cases h1 : k + 1 ≤ j ∧ j < 40
      · rw [if_pos h1, if_pos (by omega)]
      · rw [if_neg h1]
        by_cases h2 : j = k
        · rw [if_pos h2, if_pos (by omega)]
        · rw [if_neg h2, if_neg (by omega)]
    rw [e]
theorem t_begin (L : Ly) (v x : Int) : fX3_begin c (hT h t W w L) (some t) (iI v) (iI x) = some (hT h t v x (0, 0, x, row32 L.2.2.2 0), none) := by
  unfold fX3_begin
  simp (maxSteps := 1000000) (disch := omega) only [cc_s, kI_i, kV_n, kR_r, ck_T, rdI_T0, rdI_T1, rdI_T2, rdI_T3, rdI_T4, rdR_T5, wr_T0, wr_T1, wr_T2, wr_T3, wr_T4, len_T, iI_l, iI_add, iI_sub, iI_mul, iI_neg]
  have key := t_begin_l (c := c) (h := h) (t := t) (W := v) (w := x) 40 FU 0 (0, 0, x, L.2.2.2) (by decide) (by decide)
  rw [show ((0 : Nat) : Int) = 0 from rfl] at key
  rw [key]
theorem t_layR {v x n : Int} (L : Ly) (H : ∀ L, FZ (hT h t v x L) fz) (Ko : Kon c fz) (K : ∀ L, Rc (hT h t v x L) p R G E) (Q : RcD fz R G E D r) (G1 : Rg1 D r) (he : EvOk D r) (wd0 : 16 ≤ v) (wd1 : v ≤ 40) (w0 : -2147483648 ≤ x) (w1 : x < 2147483648) (n0 : 0 ≤ n) (n1 : n < 10000000) : fX3_lay c (hT h t W w L) (some t) (some p) (iI n) (iI v) (iI x) = some (hT h t v x (lAll D r n x v (row32 L.2.2.2 0)), some (.inl (iI (lAll D r n x v (row32 L.2.2.2 0)).1))) := by
  have Ko' := Ko
  obtain ⟨-, -, -, ⟨b, e4, S⟩, -⟩ := Ko
  have g := G1.1
  have n9 : ((nEt D r : Nat) : Int) = gF D r 9 := by unfold nEt; omega
  have sn := lNum_st (w := x) n0 n1 (lSay x (0, 0, x, row32 L.2.2.2 0) 35)
  have sh := lHead_st (w := x) (L := (0, 0, x, row32 L.2.2.2 0)) n0 n1
  unfold fX3_lay
  rw [ck_T, t_begin]
  simp only [cc_s, kV_n]
  rw [ck_T, e4, t_text H S w0 w1 (show (0 : Int) ≤ 0 by decide) (show (0 : Int) + ((1 : Nat) : Int) ≤ 40 by decide) (show (0 : Int) ≤ 0 by decide) (show (0 : Int) < 1000000 by decide)]
  simp only [cc_s, kV_n]
  show ck (hT h t v x (lSay x (0, 0, x, row32 L.2.2.2 0) 35)) _ _ _ = _
  rw [ck_T, t_number n0 n1 w0 w1 (by show (0 : Int) ≤ 0 + 1; decide) (by show (0 : Int) + 1 + 7 ≤ 40; decide) (show (0 : Int) ≤ 0 by decide) (show (0 : Int) < 1000000 by decide)]
  simp only [cc_s, kV_n]
  rw [ck_T, t_nl]
  simp only [cc_s, kV_n, iI_l]
  have key := t_events (c := c) H Ko' K Q G1 he wd0 wd1 w0 w1 (nEt D r) FU 0 (lHead x n (0, 0, x, row32 L.2.2.2 0)) (by unfold FU; omega) (by omega) sh.2 (by rw [sh.1]; show (0 : Int) ≤ 0 + 1; decide) (by rw [sh.1]; show (0 : Int) + 1 + 62 * _ < _; omega)
  rw [show ((0 : Nat) : Int) = 0 from rfl] at key
  exact key
/-- what the sheet tells of all lines -/
theorem t_lay2 {v x n : Int} (L : Ly) (H : ∀ L, FZ (hT h t v x L) fz) (Ko : Kon c fz) (K : ∀ L, Rc (hT h t v x L) p R G E) (Q : RcD fz R G E D r) (G1 : Rg1 D r) (he : EvOk D r) (wd0 : 16 ≤ v) (wd1 : v ≤ 40) (w0 : -2147483648 ≤ x) (w1 : x < 2147483648) (n0 : 0 ≤ n) (n1 : n < 10000000) : ∃ L' : Ly, fX3_lay c (hT h t W w L) (some t) (some p) (iI n) (iI v) (iI x) = some (hT h t v x L', some (.inl (iI (cntI D r n v)))) ∧ L'.1 = cntI D r n v ∧ L'.2.2.1 = begI D r n x v ∧ ∀ q, q < 40 → L'.2.2.2 q = sgnI D r n x v q := by
  refine ⟨lAll D r n x v (row32 L.2.2.2 0), ?_, cnt_any D r n x v _, beg_any D r n x v rfl, fun q hq => sgn_any D r n x v ?_⟩
  · rw [t_layR L H Ko K Q G1 he wd0 wd1 w0 w1 n0 n1, cnt_any]
  · unfold row32; exact if_pos ⟨Nat.zero_le q, hq⟩
theorem t_signAt {L : Ly} {z : Int} (z0 : 0 ≤ z) (z1 : z < 40) : fX3_signAt c (hT h t W w L) (some t) (iI z) = some (hT h t W w L, some (.inl (iI (L.2.2.2 z.toNat)))) := by
  unfold fX3_signAt fX3_signAt_22 fX3_signAt_24
  simp only [iI_l]
  rw [if_neg (show ¬ iI z < iI 0 from (by rw [lt_i (by omega) (by omega) (by omega) (by omega)]; omega)), rdR_T5, len_T, if_pos (show iI z < iI 40 from (by rw [lt_i (by omega) (by omega) (by omega) (by omega)]; omega)), rdR_T5, ald_T z0 z1]
end
