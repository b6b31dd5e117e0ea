/-! THE CLASS'S CALLS: lines -/
section
variable {c : Nat → Option Nat} {fz : Nat → Option Cl} {x : Nat} {h h' : Hp} {Z : Zt} {C : Ct} {k s : Nat} {CH : Nat → Ct} {sl : Nat → Option Nat} {CS : Nat → Ct} {pq cap : Nat} {fl : Int32} {len : Nat} {row : Nat → Int32} {W w : Int} {L : Ly} {M : Nat → Nat → Int} {n : Int}
theorem w_lay (K : Kon c fz) (H : HL fz x h C k s CH sl CS pq cap fl len row W w L M) {D : Dt} (Q : CD fz C D) (I : Iv n D) {r : Nat} (isr : isR D r) {v : Int} (hv : ag v) : ∃ L' : Ly, fX5_layLines c h (some x) (some (x + 1 + 4 + 3 * r)) (iI v) = some (hT h (x + 475) (wdI D r) v L', some (.inl (iI (lnI D r)))) ∧ L'.1 = lnI D r ∧ L'.2.2.1 = begI D r (numI D r) v (wdI D r) ∧ ∀ q, q < 40 → L'.2.2.2 q = sgnI D r (numI D r) v (wdI D r) q := by
  have hr := isr.1
  have O := I.ok
  have hv' := hv
  unfold ag at hv'
  have wd := wdI_rg O isr
  have nm := numI_rg O hr
  have g := O.2.2.1 r hr 0 (by decide)
  obtain ⟨L', e1, e2, e3, e4⟩ := t_lay2 (c := c) (h := h) (t := x + 475) (W := W) (w := w) (v := wdI D r) (x := v) (n := numI D r) L (fun L => (HL_sheet H (wdI D r) v L).1.1) K (fun L => (HL_sheet H (wdI D r) v L).rc hr) (Q.2.2.2.1 r isr) (O.1 r hr) (O.2.2.2.2.1 r hr) wd.1 wd.2 hv'.1 hv'.2 nm.1 nm.2
  rw [H.t] at e1
  refine ⟨L', ?_, e2, e3, e4⟩
  have ckt : ∀ o, ck h (some (x + 475)) 5 o = o := fun o => by
    have := ck_T (h := h) (t := x + 475) (W := W) (w := w) (L := L) (o := o); rw [H.t] at this; exact this
  unfold fX5_layLines
  simp only [iI_l]
  rw [H.rR hr (by decide), Q.2.2.1 r hr]
  by_cases h3 : r < 3
  · have z := ((I.rw hr).2.2.2.1 h3).1
    have c6 : cF C 6 = gT D 4 := CD_F Q 6 (by decide)
    have t0 := H.setting (c := c) Q (j := 0) (by decide)
    rw [show ((0 : Nat) : Int) = 0 from rfl] at t0
    have en : numI D r = gT D 4 + 1 := if_pos h3
    have ew : wdI D r = gT D 0 := if_pos h3
    rw [if_neg (show ¬ iI 0 < iI (gF D r 0) by rw [z]; decide), H.r4, H.r0, H.rS (by decide), c6, H.r0, H.ckS, t0]
    simp only [cc_s, kI_i, iI_add]
    rw [ckt, ← en, ← ew, e1]
    simp only [cc_s, kI_i]
    rfl
  · have nz : 0 < gF D r 0 := by rcases isr.2 with h | h; omega; exact h
    have q := (Q.2.2.2.2 r (by omega) hr nz).1
    have en : numI D r = gF D r 0 := if_neg h3
    have ew : wdI D r = gF D r 4 := if_neg h3
    rw [if_pos (show iI 0 < iI (gF D r 0) from (by rw [lt_i (by omega) (by omega) (by omega) (by omega)]; omega)), H.r4, H.rR hr (by decide), H.rR hr (by decide), Q.2.2.1 r hr, q.2.2.2.1, ckt, ← en, ← ew, e1]
    simp only [cc_s, kI_i]
    rfl
/-- only the sheet is another -/
theorem Rz_sheet (K : Kon c fz) (H : HL fz x h C k s CH sl CS pq cap fl len row W w L M) (R : RZ fz Z C k s CH sl CS cap len row) {W' w' : Int} {L' : Ly} {o : Rs} {r : Int} (e : o = some (hT h (x + 475) W' w' L', some (.inl (iI r)))) : Rz c fz x M h o r Z := ⟨_, fz, e, ⟨C, k, s, CH, sl, CS, pq, cap, fl, len, row, W', w', L', HL_sheet H W' w' L', R⟩, ⟨K, fun _ _ e => e⟩, Nat.le_refl _, by show h.2.1 ≤ _; omega, by show h.2.2 ≤ _; omega⟩
theorem x_sign (K : Kon c fz) (X : WX fz x Z M h) (I : ZI n Z) {y l q : Int} (hy : ag y) (hl : ag l) (hq : ag q) : Rz c fz x M h (fX5_sign c h (some x) (iI y) (iI l) (iI q)) (rSgn (zD Z) y l q) Z := by
  have X' := X
  obtain ⟨C, k, s, CH, sl, CS, pq, cap, fl, len, row, W, w, L, H, R⟩ := X
  have O := I.1.1.ok
  have GF := O.2.2.1
  have hy' := hy
  have hl' := hl
  unfold ag at hy' hl' hq
  have none_c : fX5_sign_24 c h (some x) (iI l) (iI q) none = some (h, some (.inl (iI (-1)))) := by
    unfold fX5_sign_24
    simp only [ifN, iI_l, iI_neg]
  have some_c : ∀ r : Nat, isR (zD Z) r → Rz c fz x M h (fX5_sign_24 c h (some x) (iI l) (iI q) (some (x + 1 + 4 + 3 * r))) (if l < 0 then -1 else if l < lnI (zD Z) r then (if 0 ≤ q ∧ q ≤ wdI (zD Z) r - 1 then sgnI (zD Z) r (numI (zD Z) r) l (wdI (zD Z) r) q.toNat else -2) else -1) Z := by
    intro r isr
    obtain ⟨L', e1, e2, e3, e4⟩ := w_lay K H R.1 I.1.1 isr hl
    have lb := lnI_rg O isr
    have wd := wdI_rg O isr
    have H1 := HL_sheet H (wdI (zD Z) r) l L'
    refine Rz_sheet (W' := wdI (zD Z) r) (w' := l) (L' := L') K H R ?_
    unfold fX5_sign_24 fX5_sign_52 fX5_sign_69
    simp only [ifN, iI_l, iI_neg]
    rw [H.ck, e1]
    simp only [cc_s, kI_i]
    by_cases c0 : l < 0
    · rw [if_pos (show iI l < iI 0 from (by rw [lt_i (by omega) (by omega) (by omega) (by omega)]; omega)), if_pos c0]
    rw [if_neg (show ¬ iI l < iI 0 from (by rw [lt_i (by omega) (by omega) (by omega) (by omega)]; omega)), if_neg c0]
    by_cases c1 : l < lnI (zD Z) r
    · rw [if_pos (show iI l < iI (lnI (zD Z) r) from (by rw [lt_i (by omega) (by omega) (by omega) (by omega)]; omega)), if_pos c1]
      by_cases c2 : q < 0
      · rw [if_pos (show iI q < iI 0 from (by rw [lt_i (by omega) (by omega) (by omega) (by omega)]; omega)), if_neg (by omega)]
      rw [if_neg (show ¬ iI q < iI 0 from (by rw [lt_i (by omega) (by omega) (by omega) (by omega)]; omega)), H1.r4, rdI_T0]
      by_cases c3 : q < wdI (zD Z) r
      · rw [if_pos (show iI q < iI (wdI (zD Z) r) from (by rw [lt_i (by omega) (by omega) (by omega) (by omega)]; omega)), if_pos (by omega), H1.r4, ck_T, t_signAt (by omega) (by omega)]
        simp only [cc_s, kI_i]
        rw [e4 q.toNat (by omega)]
      · rw [if_neg (show ¬ iI q < iI (wdI (zD Z) r) from (by rw [lt_i (by omega) (by omega) (by omega) (by omega)]; omega)), if_neg (by omega)]
    · rw [if_neg (show ¬ iI l < iI (lnI (zD Z) r) from (by rw [lt_i (by omega) (by omega) (by omega) (by omega)]; omega)), if_neg c1]
  unfold fX5_sign rSgn sgR
  simp only [iI_l]
  by_cases y0 : 0 < y
  · rw [if_pos (show iI 0 < iI y from (by rw [lt_i (by omega) (by omega) (by omega) (by omega)]; omega)), H.r0, H.ckS, H.known R.1 GF hy]
    simp only [cc_s, kR_r]
    rw [if_neg (show ¬ (-2 ≤ y ∧ y ≤ 0) by omega)]
    rcases recI_c (zD Z) y with e | ⟨r, e, h3, hr, z0, hx⟩
    · rw [e, if_pos rfl, rf_no, none_c]
      exact Rz_same K X' rfl
    · rw [e, if_neg (show ¬ (r : Int) = -6 by omega), rf_s, Int.toNat_natCast]
      exact some_c r ⟨hr, Or.inr (by omega)⟩
  · have on := H.openAt (c := c) (z := (-y).bmod 4294967296)
    rw [if_neg (show ¬ iI 0 < iI y from (by rw [lt_i (by omega) (by omega) (by omega) (by omega)]; omega)), H.r0, H.ckS, iI_neg]
    by_cases y2 : -2 ≤ y
    · rw [H.openAt (show ag (-y) from ⟨by omega, by omega⟩)]
      simp only [cc_s, kR_r]
      rw [if_pos (show 0 ≤ -y ∧ -y ≤ 2 by omega), if_pos (show -2 ≤ y ∧ y ≤ 0 by omega), if_neg (show ¬ -y = -6 by omega)]
      exact some_c (-y).toNat ⟨by omega, Or.inl (by omega)⟩
    · have e : fX4_openAt c h (some (x + 1)) (iI (-y)) = some (h, some (.inr (.inr none))) := by
        by_cases ym : y = -2147483648
        · subst ym
          have := H.openAt (c := c) (z := -2147483648) ⟨by decide, by decide⟩
          rw [if_neg (by decide)] at this
          exact this
        · rw [H.openAt (show ag (-y) from ⟨by omega, by omega⟩), if_neg (by omega)]
      rw [e]
      simp only [cc_s, kR_r]
      rw [none_c, if_neg (show ¬ (-2 ≤ y ∧ y ≤ 0) by omega), rec_neg (by omega), if_pos rfl]
      exact Rz_same K X' rfl
theorem x_ofTill (K : Kon c fz) (X : WX fz x Z M h) (I : ZI n Z) {t z : Int} (ht : ag t) (hz : ag z) : Rz c fz x M h (fX5_ofTill c h (some x) (iI t) (iI z)) (rTil (zD Z) t z) Z := by
  have X' := X
  obtain ⟨C, k, s, CH, sl, CS, pq, cap, fl, len, row, W, w, L, H, R⟩ := X
  have O := I.1.1.ok
  have GF := O.2.2.1
  unfold fX5_ofTill rTil
  simp only [iI_l, iI_neg]
  rw [H.r0, H.ckS, H.openAt ht]
  simp only [cc_s, kR_r]
  unfold ag at hz
  by_cases e : 0 ≤ t ∧ t ≤ 2
  · have hr : t.toNat < 21 := by omega
    have isr : isR (zD Z) t.toNat := ⟨hr, Or.inl (by omega)⟩
    have rcd := R.1.2.2.2.1 _ isr
    have G1 := O.1 _ hr
    rw [if_pos e, if_pos e]
    generalize t.toNat = r at *
    simp only [ifN]
    by_cases e0 : z = 0
    · subst e0
      refine Rz_same K X' ?_
      simp (decide := true) only [swf, if_true, if_false]
      rw [H.rR hr (by decide), rcd.1.1]
      rfl
    by_cases e1 : z = 1
    · subst e1
      refine Rz_same K X' ?_
      simp (decide := true) only [swf, if_true, if_false]
      rw [H.ckR hr, c_struck (H.rc hr) rcd G1 (zero_c I.1.1 hr)]
      rfl
    by_cases e2 : z = 2
    · subst e2
      refine Rz_same K X' ?_
      simp (decide := true) only [swf, if_true, if_false]
      rw [H.ckR hr, c_total H.1.1 (H.rc hr) rcd G1]
      rfl
    by_cases e3 : z = 3
    · subst e3
      obtain ⟨L', l1, l2, l3, l4⟩ := w_lay K H R.1 I.1.1 isr (v := -1) ⟨by decide, by decide⟩
      refine Rz_sheet (W' := wdI (zD Z) r) (w' := -1) (L' := L') K H R ?_
      simp (decide := true) only [swf, if_true, if_false]
      rw [H.ck, l1]
      rfl
    by_cases e4 : z = 4
    · subst e4
      refine Rz_same K X' ?_
      simp (decide := true) only [swf, if_true, if_false]
      rw [H.ckR hr, c_taxOf H.1.1 K (H.rc hr) rcd G1 (by decide) (by decide)]
      rfl
    by_cases e5 : z = 5
    · subst e5
      refine Rz_same K X' ?_
      simp (decide := true) only [swf, if_true, if_false]
      rw [H.ckR hr, c_taxOf H.1.1 K (H.rc hr) rcd G1 (by decide) (by decide)]
      rfl
    rw [swf, if_neg (show ¬ iI z = iI 0 from (by rw [eq_i (by omega) (by omega) (by omega) (by omega)]; omega)), swf, if_neg (show ¬ iI z = iI 1 from (by rw [eq_i (by omega) (by omega) (by omega) (by omega)]; omega)), swf, if_neg (show ¬ iI z = iI 2 from (by rw [eq_i (by omega) (by omega) (by omega) (by omega)]; omega)), swf, if_neg (show ¬ iI z = iI 3 from (by rw [eq_i (by omega) (by omega) (by omega) (by omega)]; omega)), swf, if_neg (show ¬ iI z = iI 4 from (by rw [eq_i (by omega) (by omega) (by omega) (by omega)]; omega)), swf, if_neg (show ¬ iI z = iI 5 from (by rw [eq_i (by omega) (by omega) (by omega) (by omega)]; omega)), swf]
    refine Rz_same K X' ?_
    unfold wTil
    rw [if_neg e0, if_neg e1, if_neg e2, if_neg e3, if_neg e4, if_neg e5]
  · rw [if_neg e, if_neg e]
    simp only [ifN]
    exact Rz_same K X' rfl
theorem x_item (K : Kon c fz) (X : WX fz x Z M h) (I : ZI n Z) {t i z : Int} (ht : ag t) (hi : ag i) (hz : ag z) : Rz c fz x M h (fX5_item c h (some x) (iI t) (iI i) (iI z)) (rItm (zD Z) t i z) Z := by
  have X' := X
  obtain ⟨C, k, s, CH, sl, CS, pq, cap, fl, len, row, W, w, L, H, R⟩ := X
  have O := I.1.1.ok
  have T := I.1.1.2.1
  unfold RgT at T
  unfold fX5_item fX5_item_25 fX5_item_37 rItm
  simp only [iI_l, iI_neg]
  rw [H.r0, H.ckS, H.openAt ht]
  simp only [cc_s, kR_r]
  unfold ag at hz
  by_cases e : 0 ≤ t ∧ t ≤ 2
  · have hr : t.toNat < 21 := by omega
    have isr : isR (zD Z) t.toNat := ⟨hr, Or.inl (by omega)⟩
    have rcd := R.1.2.2.2.1 _ isr
    have G1 := O.1 _ hr
    have n8 := nIt_le G1
    rw [if_pos e]
    simp only [ifN]
    rw [H.ckR hr, c_itemAt (H.rc hr) rcd G1 hi.1 hi.2]
    simp only [cc_s, kR_r]
    by_cases eI : 0 ≤ i ∧ i < gF (zD Z) t.toNat 8
    · obtain ⟨q, q1, q2⟩ := rcd.2.1 i.toNat (by omega)
      have hi12 : i.toNat < 12 := by omega
      have ei : iI i = iI ((i.toNat : Nat) : Int) := by rw [show ((i.toNat : Nat) : Int) = i by omega]
      rw [if_pos eI, q1, if_pos (show 0 ≤ t ∧ t ≤ 2 ∧ 0 ≤ i ∧ i < gF (zD Z) t.toNat 8 by omega), ei]
      clear ei eI
      generalize t.toNat = r at *
      generalize i.toNat = j at *
      have I1 := fun f => it_rd (h := h) (k := 1) (f := f) H.1.1 q2 (by decide) (by decide)
      have I2 := fun f => it_rd (h := h) (k := 2) (f := f) H.1.1 q2 (by decide) (by decide)
      have I3 := fun f => it_rd (h := h) (k := 3) (f := f) H.1.1 q2 (by decide) (by decide)
      simp only [ifN]
      by_cases e0 : z = 0
      · subst e0
        refine Rz_same K X' ?_
        simp (decide := true) only [swf, if_true, if_false]
        rw [I1]
        rfl
      by_cases e1 : z = 1
      · subst e1
        refine Rz_same K X' ?_
        simp (decide := true) only [swf, if_true, if_false]
        rw [I2]
        rfl
      by_cases e2 : z = 2
      · subst e2
        refine Rz_same K X' ?_
        simp (decide := true) only [swf, if_true, if_false]
        rw [I3]
        rfl
      by_cases e3 : z = 3
      · subst e3
        refine Rz_same K X' ?_
        simp (decide := true) only [swf, if_true, if_false]
        rw [it_ck H.1.1 q2, it_sum H.1.1 q2]
        rfl
      by_cases e4 : z = 4
      · subst e4
        refine Rz_same K X' ?_
        simp (decide := true) only [swf, if_true, if_false]
        rw [H.ckR hr, c_isStruck (H.rc hr) rcd G1 hi12]
        simp only [cc_s, kI_i]
        unfold fX5_item_122
        show _ = (some (h, some (.inl (iI (bI (gP (zD Z) r j 3 = 1))))) : Rs)
        by_cases eb : gP (zD Z) r j 3 = 1
        · rw [bI_t eb, if_neg (show ¬ iI 1 = iI 0 by decide)]
        · rw [bI_f eb, if_pos rfl]
      by_cases e5 : z = 5
      · subst e5
        obtain ⟨L', l1⟩ := t_itemLines (c := c) (h := h) (t := x + 475) (W := W) (w := w) (D := zD Z) (r := r) (q := q) (i := j) (L := L) (fun L => (HL_sheet H (gT (zD Z) 0) (-1) L).1.1) q2 G1 (by omega) (by omega)
        rw [H.t] at l1
        have ckt : ∀ o, ck h (some (x + 475)) 5 o = o := fun o => by
          have := ck_T (h := h) (t := x + 475) (W := W) (w := w) (L := L) (o := o); rw [H.t] at this; exact this
        have t0 := H.setting (c := c) R.1 (j := 0) (by decide)
        rw [show ((0 : Nat) : Int) = 0 from rfl] at t0
        refine Rz_sheet (W' := gT (zD Z) 0) (w' := -1) (L' := L') K H R ?_
        simp (decide := true) only [swf, if_true, if_false]
        rw [H.r4, H.r0, H.ckS, t0]
        simp only [cc_s, kI_i]
        rw [ckt, l1]
        rfl
      by_cases e6 : z = 6
      · subst e6
        refine Rz_same K X' ?_
        simp (decide := true) only [swf, if_true, if_false]
        obtain ⟨sq, s1, s2⟩ := q2
        have hp := G1.2.1 j
        unfold pRg at hp
        rw [rdR_e (x := some sq) (H.1.1 _ _ s1) rfl rfl, ck_g H.1.1 s2, g_len H.1.1 s2]
        simp only [cc_s, kI_i]
        show (some (h, some (.inl (iI (((gP (zD Z) r j 4).toNat : Nat) : Int)))) : Rs) = some (h, some (.inl (iI (gP (zD Z) r j 4))))
        rw [show (((gP (zD Z) r j 4).toNat : Nat) : Int) = gP (zD Z) r j 4 by omega]
      rw [swf, if_neg (show ¬ iI z = iI 0 from (by rw [eq_i (by omega) (by omega) (by omega) (by omega)]; omega)), swf, if_neg (show ¬ iI z = iI 1 from (by rw [eq_i (by omega) (by omega) (by omega) (by omega)]; omega)), swf, if_neg (show ¬ iI z = iI 2 from (by rw [eq_i (by omega) (by omega) (by omega) (by omega)]; omega)), swf, if_neg (show ¬ iI z = iI 3 from (by rw [eq_i (by omega) (by omega) (by omega) (by omega)]; omega)), swf, if_neg (show ¬ iI z = iI 4 from (by rw [eq_i (by omega) (by omega) (by omega) (by omega)]; omega)), swf, if_neg (show ¬ iI z = iI 5 from (by rw [eq_i (by omega) (by omega) (by omega) (by omega)]; omega)), swf, if_neg (show ¬ iI z = iI 6 from (by rw [eq_i (by omega) (by omega) (by omega) (by omega)]; omega)), swf]
      refine Rz_same K X' ?_
      unfold wItem
      rw [if_neg e0, if_neg e1, if_neg e2, if_neg e3, if_neg e4, if_neg e5, if_neg e6]
    · rw [if_neg eI, if_neg (show ¬ (0 ≤ t ∧ t ≤ 2 ∧ 0 ≤ i ∧ i < gF (zD Z) t.toNat 8) by omega)]
      simp only [ifN]
      exact Rz_same K X' rfl
  · rw [if_neg e, if_neg (show ¬ (0 ≤ t ∧ t ≤ 2 ∧ 0 ≤ i ∧ i < gF (zD Z) t.toNat 8) by omega)]
    simp only [ifN]
    exact Rz_same K X' rfl
theorem x_bw_l (K : Kon c fz) {D : Dt} (I : Iv n D) {r : Nat} (ht : r < 3) {z : Int} (z0 : 0 ≤ z) (z1 : z ≤ 1) (R : RZ fz Z C k s CH sl CS cap len row) (Q : CD fz C D) : ∀ (m fu q : Nat) (best few : Int) (h : Hp) (W w : Int) (L : Ly), HL fz x h C k s CH sl CS pq cap fl len row W w L M → m < fu → q + m = 41 → 16 ≤ q → 0 ≤ few → few < 2147483648 → ∃ W' w' L', fX5_bestWidth_57 c fu h (some x) (iI z) (some (x + 1 + 4 + 3 * r)) (iI best) (iI few) (iI (q : Int)) = some (hT h (x + 475) W' w' L', some (.inl (iI (if z = 0 then (bwL D r q m best few).1 else (bwL D r q m best few).2)))) := by
  have O := I.ok
  have hr : r < 21 := by omega
  have isr : isR D r := ⟨hr, Or.inl ht⟩
  have nm := numI_rg O hr
  have en : numI D r = gT D 4 + 1 := if_pos ht
  have c6 : cF C 6 = gT D 4 := CD_F Q 6 (by decide)
  intro m
  induction m with
  | zero =>
    intro fu q best few h W w L H hf hk q16 f0 f1
    obtain ⟨f, rfl⟩ : ∃ f, fu = f + 1 := ⟨fu - 1, by omega⟩
    refine ⟨W, w, L, ?_⟩
    unfold fX5_bestWidth_57 fX5_bestWidth_118
    simp only [iI_l]
    rw [if_pos (show iI 40 < iI (q : Int) from (by rw [lt_i (by omega) (by omega) (by omega) (by omega)]; omega)), H.t, bwL]
    by_cases e : z = 0
    · rw [if_pos (show iI z = iI 0 by rw [e]), if_pos e]
    · rw [if_neg (show ¬ iI z = iI 0 from (by rw [eq_i (by omega) (by omega) (by omega) (by omega)]; omega)), if_neg e]
  | succ m ih =>
    intro fu q best few h W w L H hf hk q16 f0 f1
    obtain ⟨f, rfl⟩ : ∃ f, fu = f + 1 := ⟨fu - 1, by omega⟩
    have cr := cntI_rg (width := (q : Int)) O hr (by omega) (by omega)
    obtain ⟨L', e1, e2, e3, e4⟩ := t_lay2 (c := c) (h := h) (t := x + 475) (W := W) (w := w) (v := (q : Int)) (x := -1) (n := numI D r) L (fun L => (HL_sheet H q (-1) L).1.1) K (fun L => (HL_sheet H q (-1) L).rc hr) (Q.2.2.2.1 r isr) (O.1 r hr) (O.2.2.2.2.1 r hr) (by omega) (by omega) (by decide) (by decide) nm.1 nm.2
    rw [H.t] at e1
    have ckt : ∀ o, ck h (some (x + 475)) 5 o = o := fun o => by
      have := ck_T (h := h) (t := x + 475) (W := W) (w := w) (L := L) (o := o); rw [H.t] at this; exact this
    have H1 := HL_sheet H q (-1) L'
    have tt : ∀ W' w' L'', hT (hT h (x + 475) q (-1) L') (x + 475) W' w' L'' = hT h (x + 475) W' w' L'' := fun W' w' L'' => ovl_ovl
    unfold fX5_bestWidth_57 fX5_bestWidth_101
    simp only [iI_l, iI_neg]
    rw [if_neg (show ¬ iI 40 < iI (q : Int) from (by rw [lt_i (by omega) (by omega) (by omega) (by omega)]; omega)), H.r4, H.r0, H.rS (by decide), c6, ckt, iI_add, ← en, e1]
    simp only [cc_s, kI_i, iI_add]
    rw [bwL]
    by_cases e : cntI D r (numI D r) q < few
    · obtain ⟨W2, w2, L2, e5⟩ := ih f (q + 1) q (cntI D r (numI D r) q) (hT h (x + 475) q (-1) L') q (-1) L' H1 (by omega) (by omega) (by omega) (by omega) (by omega)
      rw [tt] at e5
      refine ⟨W2, w2, L2, ?_⟩
      rw [if_pos (show iI (cntI D r (numI D r) q) < iI few from (by rw [lt_i (by omega) (by omega) (by omega) (by omega)]; omega)), if_pos e, if_pos e, iI_k1, e5]
    · obtain ⟨W2, w2, L2, e5⟩ := ih f (q + 1) best few (hT h (x + 475) q (-1) L') q (-1) L' H1 (by omega) (by omega) (by omega) f0 f1
      rw [tt] at e5
      refine ⟨W2, w2, L2, ?_⟩
      rw [if_neg (show ¬ iI (cntI D r (numI D r) q) < iI few from (by rw [lt_i (by omega) (by omega) (by omega) (by omega)]; omega)), if_neg e, if_neg e, iI_k1, e5]
theorem x_bestWidth (K : Kon c fz) (X : WX fz x Z M h) (I : ZI n Z) {t z : Int} (ht : ag t) (hz : ag z) : Rz c fz x M h (fX5_bestWidth c h (some x) (iI t) (iI z)) (rBw (zD Z) t z) Z := by
  have X' := X
  obtain ⟨C, k, s, CH, sl, CS, pq, cap, fl, len, row, W, w, L, H, R⟩ := X
  have O := I.1.1.ok
  unfold fX5_bestWidth rBw
  simp only [iI_l, iI_neg]
  rw [H.r0, H.ckS, H.openAt ht]
  simp only [cc_s, kR_r]
  unfold ag at hz
  by_cases e : 0 ≤ t ∧ t ≤ 2
  · rw [if_pos e, if_neg (show ¬ ¬ (0 ≤ t ∧ t ≤ 2) from fun h => h e)]
    simp only [ifN]
    have main : 0 ≤ z → z ≤ 1 → Rz c fz x M h (fX5_bestWidth_27 c h (some x) (iI z) (some (x + 1 + 4 + 3 * t.toNat))) (if z = 0 then (bwI (zD Z) t.toNat).1 else (bwI (zD Z) t.toNat).2) Z := by
      intro z0 z1
      have hr : t.toNat < 21 := by omega
      have isr : isR (zD Z) t.toNat := ⟨hr, Or.inl (by omega)⟩
      have nm := numI_rg O hr
      have en : numI (zD Z) t.toNat = gT (zD Z) 4 + 1 := if_pos (by omega)
      have c6 : cF C 6 = gT (zD Z) 4 := CD_F R.1 6 (by decide)
      have cr := cntI_rg (r := t.toNat) (width := (16 : Int)) O hr (by decide) (by decide)
      obtain ⟨L', e1, e2, e3, e4⟩ := t_lay2 (c := c) (h := h) (t := x + 475) (W := W) (w := w) (v := (16 : Int)) (x := -1) (n := numI (zD Z) t.toNat) L (fun L => (HL_sheet H 16 (-1) L).1.1) K (fun L => (HL_sheet H 16 (-1) L).rc hr) (R.1.2.2.2.1 _ isr) (O.1 _ hr) (O.2.2.2.2.1 _ hr) (by decide) (by decide) (by decide) (by decide) nm.1 nm.2
      rw [H.t] at e1
      have ckt : ∀ o, ck h (some (x + 475)) 5 o = o := fun o => by
        have := ck_T (h := h) (t := x + 475) (W := W) (w := w) (L := L) (o := o); rw [H.t] at this; exact this
      have H1 := HL_sheet H 16 (-1) L'
      have tt : ∀ W' w' L'', hT (hT h (x + 475) 16 (-1) L') (x + 475) W' w' L'' = hT h (x + 475) W' w' L'' := fun W' w' L'' => ovl_ovl
      obtain ⟨W2, w2, L2, e5⟩ := x_bw_l K I.1.1 (r := t.toNat) (by omega) z0 z1 R R.1 24 FU 17 16 (cntI (zD Z) t.toNat (numI (zD Z) t.toNat) 16) (hT h (x + 475) 16 (-1) L') 16 (-1) L' H1 (by decide) (by decide) (by decide) (by omega) (by omega)
      rw [tt, show ((17 : Nat) : Int) = 17 from rfl] at e5
      refine Rz_sheet (W' := W2) (w' := w2) (L' := L2) K H R ?_
      unfold fX5_bestWidth_27
      simp only [iI_l, iI_neg]
      rw [H.r4, H.r0, H.rS (by decide), c6, ckt, iI_add, ← en, e1]
      simp only [cc_s, kI_i]
      rw [e5]
      rfl
    by_cases e0 : z = 0
    · rw [if_pos (show iI z = iI 0 by rw [e0]), if_neg (show ¬ ¬ (0 ≤ z ∧ z ≤ 1) by omega)]
      exact main (by omega) (by omega)
    · rw [if_neg (show ¬ iI z = iI 0 from (by rw [eq_i (by omega) (by omega) (by omega) (by omega)]; omega))]
      by_cases e1 : z = 1
      · rw [if_pos (show iI z = iI 1 by rw [e1]), if_neg (show ¬ ¬ (0 ≤ z ∧ z ≤ 1) by omega)]
        exact main (by omega) (by omega)
      · rw [if_neg (show ¬ iI z = iI 1 from (by rw [eq_i (by omega) (by omega) (by omega) (by omega)]; omega)), if_pos (show ¬ (0 ≤ z ∧ z ≤ 1) by omega)]
        exact Rz_same K X' rfl
  · rw [if_neg e, if_pos e]
    simp only [ifN]
    exact Rz_same K X' rfl
end
