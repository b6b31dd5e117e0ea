/-! THE CLASS'S CALLS: lines -/
section
variable {c : Nat → Option Nat} {fz : Nat → Option Cl} {x : Nat} {h h' : Hp} {Z : Zt} {C : Ct} {k s : Nat} {CH : Nat → Ct} {sl : Nat → Option Nat} {CS : Nat → Ct} {pq cap : Nat} {fl : Int32} {len : Nat} {row : Nat → Int32} {W w : Int} {L : Ly} {M : Nat → Nat → Int} {n : Int}
theorem w_lay (K : Kon c fz) (H : HL fz x h C k s CH sl CS pq cap fl len row W w L M) {D : Dt} (Q : CD fz C D) (I : Iv n D) {r : Nat} (isr : isR D r) {v : Int} (hv : ag v) : ∃ L' : Ly, fX5_layLines c h (some x) (some (x + 1 + 4 + 3 * r)) (iI v) = some (hT h (x + 475) (wdI D r) v L', some (.inl (iI (lnI D r)))) ∧ L'.1 = lnI D r ∧ L'.2.2.1 = begI D r (numI D r) v (wdI D r) ∧ ∀ q, q < 40 → L'.2.2.2 q = sgnI D r (numI D r) v (wdI D r) q := by
  have hr := isr.1
  have O := I.ok
  have hv' := hv
  unfold ag at hv'
  have wd := wdI_rg O isr
  have nm := numI_rg O hr
  have g := O.2.2.1 r hr 0 (by decide)
  obtain ⟨L', e1, e2, e3, e4⟩ := t_lay2 (c := c) (h := h) (t := x + 475) (W := W) (w := w) (v := wdI D r) (x := v) (n := numI D r) L (fun L => (HL_sheet H (wdI D r) v L).1.1) K (fun L => (HL_sheet H (wdI D r) v L).rc hr) (Q.2.2.2.1 r isr) (O.1 r hr) (O.2.2.2.2.1 r hr) wd.1 wd.2 hv'.1 hv'.2 nm.1 nm.2
  rw [H.t] at e1
  refine ⟨L', ?_, e2, e3, e4⟩
  have ckt : ∀ o, ck h (some (x + 475)) 5 o = o := fun o => by
    have := ck_T (h := h) (t := x + 475) (W := W) (w := w) (L := L) (o := o); rw [H.t] at this; exact this
  unfold fX5_layLines
  simp only [iI_l]
  rw [H.rR hr (by decide), Q.2.2.1 r hr]
  by_cases h3 : r < 3
  · have z := ((I.rw hr).2.2.2.1 h3).1
    have c6 : cF C 6 = gT D 4 := CD_F Q 6 (by decide)
    have t0 := H.setting (c := c) Q (j := 0) (by decide)
    rw [show ((0 : Nat) : Int) = 0 from rfl] at t0
    have en : numI D r = gT D 4 + 1 := if_pos h3
    have ew : wdI D r = gT D 0 := if_pos h3
    rw [if_neg (show ¬ iI 0 < iI (gF D r 0) by rw [z]; decide), H.r4, H.r0, H.rS (by decide), c6, H.r0, H.ckS, t0]
    simp only [cc_s, kI_i, iI_add]
    rw [ckt, ← en, ← ew, e1]
    simp only [cc_s, kI_i]
    rfl
  · have nz : 0 < gF D r 0 := by rcases isr.2 with h | h; omega; exact h
    have q := (Q.2.2.2.2 r (by omega) hr nz).1
    have en : numI D r = gF D r 0 := if_neg h3
    have ew : wdI D r = gF D r 4 := if_neg h3
    rw [if_pos (show iI 0 < iI (gF D r 0) from (by rw [lt_i (by omega) (by omega) (by omega) (by omega)]; omega)), H.r4, H.rR hr (by decide), H.rR hr (by decide), Q.2.2.1 r hr, q.2.2.2.1, ckt, ← en, ← ew, e1]
    simp only [cc_s, kI_i]
    rfl
/-- only the sheet is another -/
theorem Rz_sheet (K : Kon c fz) (H : HL fz x h C k s CH sl CS pq cap fl len row W w L M) (R : RZ fz Z C k s CH sl CS cap len row) {W' w' : Int} {L' : Ly} {o : Rs} {r : Int} (e : o = some (hT h (x + 475) W' w' L', some (.inl (iI r)))) : Rz c fz x M h o r Z := ⟨_, fz, e, ⟨C, k, s, CH, sl, CS, pq, cap, fl, len, row, W', w', L', HL_sheet H W' w' L', R⟩, ⟨K, fun _ _ e => e⟩, Nat.le_refl _, by show h.2.1 ≤ _; omega, by show h.2.2 ≤ _; omega⟩
theorem Rq_sheet (_ : Kon c fz) (H : HL fz x h C k s CH sl CS pq cap fl len row W w L M) (R : RZ fz Z C k s CH sl CS cap len row) {W' w' : Int} {L' : Ly} {o : Rs} {r : Int} (e : o = some (hT h (x + 475) W' w' L', some (.inl (iI r)))) : Rq fz x M h o r Z := ⟨_, e, ⟨C, k, s, CH, sl, CS, pq, cap, fl, len, row, W', w', L', HL_sheet H W' w' L', R⟩, rfl⟩
theorem x_sign (K : Kon c fz) (X : WX fz x Z M h) (I : ZI n Z) {y l q : Int} (hy : ag y) (hl : ag l) (hq : ag q) : Rq fz x M h (fX5_sign c h (some x) (iI y) (iI l) (iI q)) (rSgn (zD Z) y l q) Z := by
  have X' := X
  obtain ⟨C, k, s, CH, sl, CS, pq, cap, fl, len, row, W, w, L, H, R⟩ := X
  have O := I.1.1.ok
  have GF := O.2.2.1
  have hy' := hy
  have hl' := hl
  unfold ag at hy' hl' hq
  have none_c : fX5_sign_24 c h (some x) (iI l) (iI q) none = some (h, some (.inl (iI (-1)))) := by
    unfold fX5_sign_24
    simp only [ifN, iI_l, iI_neg]
  have some_c : ∀ r : Nat, isR (zD Z) r → Rq fz x M h (fX5_sign_24 c h (some x) (iI l) (iI q) (some (x + 1 + 4 + 3 * r))) (if l < 0 then -1 else if l < lnI (zD Z) r then (if 0 ≤ q ∧ q ≤ wdI (zD Z) r - 1 then sgnI (zD Z) r (numI (zD Z) r) l (wdI (zD Z) r) q.toNat else -2) else -1) Z := by
    intro r isr
    obtain ⟨L', e1, e2, e3, e4⟩ := w_lay K H R.1 I.1.1 isr hl
    have lb := lnI_rg O isr
    have wd := wdI_rg O isr
    have H1 := HL_sheet H (wdI (zD Z) r) l L'
    refine Rq_sheet (W' := wdI (zD Z) r) (w' := l) (L' := L') K H R ?_
    unfold fX5_sign_24 fX5_sign_52 fX5_sign_69
    simp only [ifN, iI_l, iI_neg]
    rw [H.ck, e1]
    simp only [cc_s, kI_i]
    by_cases c0 : l < 0
    · rw [if_pos (show iI l < iI 0 from (by rw [lt_i (by omega) (by omega) (by omega) (by omega)]; omega)), if_pos c0]
    rw [if_neg (show ¬ iI l < iI 0 from (by rw [lt_i (by omega) (by omega) (by omega) (by omega)]; omega)), if_neg c0]
    by_cases c1 : l < lnI (zD Z) r
    · rw [if_pos (show iI l < iI (lnI (zD Z) r) from (by rw [lt_i (by omega) (by omega) (by omega) (by omega)]; omega)), if_pos c1]
      by_cases c2 : q < 0
      · rw [if_pos (show iI q < iI 0 from (by rw [lt_i (by omega) (by omega) (by omega) (by omega)]; omega)), if_neg (by omega)]
      rw [if_neg (show ¬ iI q < iI 0 from (by rw [lt_i (by omega) (by omega) (by omega) (by omega)]; omega)), H1.r4, rdI_T0]
      by_cases c3 : q < wdI (zD Z) r
      · rw [if_pos (show iI q < iI (wdI (zD Z) r) from (by rw [lt_i (by omega) (by omega) (by omega) (by omega)]; omega)), if_pos (by omega), H1.r4, ck_T, t_signAt (by omega) (by omega)]
        simp only [cc_s, kI_i]
        rw [e4 q.toNat (by omega)]
      · rw [if_neg (show ¬ iI q < iI (wdI (zD Z) r) from (by rw [lt_i (by omega) (by omega) (by omega) (by omega)]; omega)), if_neg (by omega)]
    · rw [if_neg (show ¬ iI l < iI (lnI (zD Z) r) from (by rw [lt_i (by omega) (by omega) (by omega) (by omega)]; omega)), if_neg c1]
  unfold fX5_sign rSgn sgR
  simp only [iI_l]
  by_cases y0 : 0 < y
  · rw [if_pos (show iI 0 < iI y from (by rw [lt_i (by omega) (by omega) (by omega) (by omega)]; omega)), H.r0, H.ckS, H.known R.1 GF hy]
    simp only [cc_s, kR_r]
    rw [if_neg (show ¬ (-2 ≤ y ∧ y ≤ 0) by omega)]
    rcases recI_c (zD Z) y with e | ⟨r, e, h3, hr, z0, hx⟩
    · rw [e, if_pos rfl, rf_no, none_c]
      exact Rq_same K X' rfl
    · rw [e, if_neg (show ¬ (r : Int) = -6 by omega), rf_s, Int.toNat_natCast]
      exact some_c r ⟨hr, Or.inr (by omega)⟩
  · have on := H.openAt (c := c) (z := (-y).bmod 4294967296)
    rw [if_neg (show ¬ iI 0 < iI y from (by rw [lt_i (by omega) (by omega) (by omega) (by omega)]; omega)), H.r0, H.ckS, iI_neg]
    by_cases y2 : -2 ≤ y
    · rw [H.openAt (show ag (-y) from ⟨by omega, by omega⟩)]
      simp only [cc_s, kR_r]
      rw [if_pos (show 0 ≤ -y ∧ -y ≤ 2 by omega), if_pos (show -2 ≤ y ∧ y ≤ 0 by omega), if_neg (show ¬ -y = -6 by omega)]
      exact some_c (-y).toNat ⟨by omega, Or.inl (by omega)⟩
    · have e : fX4_openAt c h (some (x + 1)) (iI (-y)) = some (h, some (.inr (.inr none))) := by
        by_cases ym : y = -2147483648
        · subst ym
          have := H.openAt (c := c) (z := -2147483648) ⟨by decide, by decide⟩
          rw [if_neg (by decide)] at this
          exact this
        · rw [H.openAt (show ag (-y) from ⟨by omega, by omega⟩), if_neg (by omega)]
      rw [e]
      simp only [cc_s, kR_r]
      rw [none_c, if_neg (show ¬ (-2 ≤ y ∧ y ≤ 0) by omega), rec_neg (by omega), if_pos rfl]
      exact Rq_same K X' rfl
theorem x_ofTill (K : Kon c fz) (X : WX fz x Z M h) (I : ZI n Z) {t z : Int} (ht : ag t) (hz : ag z) : Rq fz x M h (fX5_ofTill c h (some x) (iI t) (iI z)) (rTil (zD Z) t z) Z := by
  have X' := X
  obtain ⟨C, k, s, CH, sl, CS, pq, cap, fl, len, row, W, w, L, H, R⟩ := X
  have O := I.1.1.ok
  have GF := O.2.2.1
  unfold fX5_ofTill rTil
  simp only [iI_l, iI_neg]
  rw [H.r0, H.ckS, H.openAt ht]
  simp only [cc_s, kR_r]
  unfold ag at hz
  by_cases e : 0 ≤ t ∧ t ≤ 2
  · have hr : t.toNat < 21 := by omega
    have isr : isR (zD Z) t.toNat := ⟨hr, Or.inl (by omega)⟩
    have rcd := R.1.2.2.2.1 _ isr
    have G1 := O.1 _ hr
    rw [if_pos e, if_pos e]
    generalize t.toNat = r at *
    simp only [ifN]
    by_cases e0 : z = 0
    · subst e0
      refine Rq_same K X' ?_
      simp (decide := true) only [swf, if_true, if_false]
      rw [H.rR hr (by decide), rcd.1.1]
      rfl
    by_cases e1 : z = 1
    · subst e1
      refine Rq_same K X' ?_
      simp (decide := true) only [swf, if_true, if_false]
      rw [H.ckR hr, c_struck (H.rc hr) rcd G1 (zero_c I.1.1 hr)]
      rfl
    by_cases e2 : z = 2
    · subst e2
      refine Rq_same K X' ?_
      simp (decide := true) only [swf, if_true, if_false]
      rw [H.ckR hr, c_total H.1.1 (H.rc hr) rcd G1]
      rfl
    by_cases e3 : z = 3
    · subst e3
      obtain ⟨L', l1, l2, l3, l4⟩ := w_lay K H R.1 I.1.1 isr (v := -1) ⟨by decide, by decide⟩
      refine Rq_sheet (W' := wdI (zD Z) r) (w' := -1) (L' := L') K H R ?_
      simp (decide := true) only [swf, if_true, if_false]
      rw [H.ck, l1]
      rfl
    by_cases e4 : z = 4
    · subst e4
      refine Rq_same K X' ?_
      simp (decide := true) only [swf, if_true, if_false]
      rw [H.ckR hr, c_taxOf H.1.1 K (H.rc hr) rcd G1 (by decide) (by decide)]
      rfl
    by_cases e5 : z = 5
    · subst e5
      refine Rq_same K X' ?_
      simp (decide := true) only [swf, if_true, if_false]
      rw [H.ckR hr, c_taxOf H.1.1 K (H.rc hr) rcd G1 (by decide) (by decide)]
      rfl
    rw [swf, if_neg (show ¬ iI z = iI 0 from (by rw [eq_i (by omega) (by omega) (by omega) (by omega)]; omega)), swf, if_neg (show ¬ iI z = iI 1 from (by rw [eq_i (by omega) (by omega) (by omega) (by omega)]; omega)), swf, if_neg (show ¬ iI z = iI 2 from (by rw [eq_i (by omega) (by omega) (by omega) (by omega)]; omega)), swf, if_neg (show ¬ iI z = iI 3 from (by rw [eq_i (by omega) (by omega) (by omega) (by omega)]; omega)), swf, if_neg (show ¬ iI z = iI 4 from (by rw [eq_i (by omega) (by omega) (by omega) (by omega)]; omega)), swf, if_neg (show ¬ iI z = iI 5 from (by rw [eq_i (by omega) (by omega) (by omega) (by omega)]; omega)), swf]
    refine Rq_same K X' ?_
    unfold wTil
    rw [if_neg e0, if_neg e1, if_neg e2, if_neg e3, if_neg e4, if_neg e5]
  · rw [if_neg e, if_neg e]
    simp only [ifN]
    exact Rq_same K X' rfl
end
