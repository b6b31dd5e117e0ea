/-! THE CLASS'S CALLS: what there is -/
/-- a call gives r, and what is then is Z' -/
def Rz (c : Nat → Option Nat) (fz : Nat → Option Cl) (x : Nat) (M : Nat → Nat → Int) (h : Hp) (o : Rs) (r : Int) (Z' : Zt) : Prop := ∃ h' fz', o = some (h', some (.inl (iI r))) ∧ WX fz' x Z' M h' ∧ (Kon c fz' ∧ ∀ q e, fz q = some e → fz' q = some e) ∧ h.2.1 ≤ h'.2.1 ∧ h'.2.1 ≤ h.2.1 + 100 ∧ h'.2.2 ≤ h.2.2 + 10000
theorem rec_neg {D : Dt} {z : Int} (h : z ≤ 0) : recI D z = -6 := fF_no 18 3 (fun i a b => decide_eq_false (fun h => by omega))
theorem rf_no (b : Nat) : rf b (-6) = none := rfl
theorem zero_c {n : Int} {D : Dt} (H : Iv n D) {r : Nat} (hr : r < 21) : ∀ i, nIt D r ≤ i → gP D r i 3 = 0 := fun i hi => ((H.rw hr).1 i hi).1
section
variable {c : Nat → Option Nat} {fz : Nat → Option Cl} {x : Nat} {h h' : Hp} {Z : Zt} {C : Ct} {k s : Nat} {CH : Nat → Ct} {sl : Nat → Option Nat} {CS : Nat → Ct} {pq cap : Nat} {fl : Int32} {len : Nat} {row : Nat → Int32} {W w : Int} {L : Ly} {M : Nat → Nat → Int} {n : Int}
theorem Rz_same (K : Kon c fz) (X : WX fz x Z M h) {o : Rs} {r : Int} (e : o = some (h, some (.inl (iI r)))) : Rz c fz x M h o r Z := ⟨h, fz, e, X, ⟨K, fun _ _ e => e⟩, Nat.le_refl _, by omega, by omega⟩
theorem HL.ckS (H : HL fz x h C k s CH sl CS pq cap fl len row W w L M) {o : Rs} : Jvm.Pilot.CReceiptRollsLaw_law_r7444_9b63af.ck h (some (x + 1)) 6 o = o := by
  have := ck_S (h := h) (b := x + 1) (C := C) (o := o); rw [H.st] at this; exact this
theorem HL.ckR (H : HL fz x h C k s CH sl CS pq cap fl len row W w L M) {r : Nat} (hr : r < 21) {o : Rs} : Jvm.Pilot.CReceiptRollsLaw_law_r7444_9b63af.ck h (some (x + 1 + 4 + 3 * r)) 4 o = o := by
  have := ck_R (h := h) (b := x + 1) (C := C) (o := o) hr; rw [H.st] at this; exact this
theorem HL.rS (H : HL fz x h C k s CH sl CS pq cap fl len row W w L M) {j : Nat} (hj : j < 10) {f : Int32 → Rs} : rdI h (some (x + 1)) 6 j f = f (iI (cF C j)) := by
  have := rdI_S (h := h) (b := x + 1) (C := C) (f := f) hj; rw [H.st] at this; exact this
theorem HL.rR (H : HL fz x h C k s CH sl CS pq cap fl len row W w L M) {r j : Nat} (hr : r < 21) (hj : j < 12) {f : Int32 → Rs} : rdI h (some (x + 1 + 4 + 3 * r)) 4 j f = f (iI (cR C r j)) := by
  have := rdI_R (h := h) (b := x + 1) (C := C) (f := f) hr hj; rw [H.st] at this; exact this
theorem HL.rc (H : HL fz x h C k s CH sl CS pq cap fl len row W w L M) {r : Nat} (hr : r < 21) : Rc h (x + 1 + 4 + 3 * r) (cR C r) (cG C r) (cE C r) := by
  have := hS_Rc (h := h) (b := x + 1) (C := C) hr; rw [H.st] at this; exact this
theorem HL.known (H : HL fz x h C k s CH sl CS pq cap fl len row W w L M) {D : Dt} (Q : CD fz C D) (GF : RgF D) {z : Int} (hz : ag z) : fX4_known c h (some (x + 1)) (iI z) = some (h, some (.inr (.inr (rf (x + 1) (recI D z))))) := by
  have := s_known (c := c) (h := h) (b := x + 1) Q GF hz.1 hz.2; rw [H.st] at this; exact this
theorem HL.waitAt (H : HL fz x h C k s CH sl CS pq cap fl len row W w L M) {D : Dt} (Q : CD fz C D) (GF : RgF D) {z : Int} (hz : ag z) : fX4_waitingAt c h (some (x + 1)) (iI z) = some (h, some (.inr (.inr (rf (x + 1) (atI D z))))) := by
  have := s_waitingAt (c := c) (h := h) (b := x + 1) Q GF hz.1 hz.2; rw [H.st] at this; exact this
theorem HL.openAt (H : HL fz x h C k s CH sl CS pq cap fl len row W w L M) {z : Int} (hz : ag z) : fX4_openAt c h (some (x + 1)) (iI z) = some (h, some (.inr (.inr (if 0 ≤ z ∧ z ≤ 2 then some (x + 1 + 4 + 3 * z.toNat) else none)))) := by
  have := s_openAt (c := c) (h := h) (b := x + 1) (C := C) hz.1 hz.2; rw [H.st] at this; exact this
theorem HL.setting (H : HL fz x h C k s CH sl CS pq cap fl len row W w L M) {D : Dt} (Q : CD fz C D) {j : Nat} (hj : j < 3) : fX4_settingAt c h (some (x + 1)) (iI (j : Int)) = some (h, some (.inl (iI (gT D j)))) := by
  have := s_setting (c := c) (h := h) (b := x + 1) Q hj; rw [H.st] at this; exact this
theorem HL.ticksFor (H : HL fz x h C k s CH sl CS pq cap fl len row W w L M) {D : Dt} (Q : CD fz C D) (T : RgT D) {z : Int} (z0 : 0 ≤ z) (z1 : z < 2000000000) : fX4_ticksFor c h (some (x + 1)) (iI z) = some (h, some (.inl (iI (tksI D z)))) := by
  have := s_ticksFor (c := c) (h := h) (b := x + 1) Q T z0 z1; rw [H.st] at this; exact this
theorem HL.all (H : HL fz x h C k s CH sl CS pq cap fl len row W w L M) {D : Dt} (Q : CD fz C D) (GF : RgF D) (Hw : How D) : fX4_linesToPrint c h (some (x + 1)) = some (h, some (.inl (iI (allI D)))) := by
  have := s_all (c := c) (h := h) (b := x + 1) Q GF Hw; rw [H.st] at this; exact this
theorem x_waiting (K : Kon c fz) (X : WX fz x Z M h) (I : ZI n Z) {z : Int} (hz : ag z) : Rz c fz x M h (fX5_waiting c h (some x) (iI z)) (rWai (zD Z) z) Z := by
  refine Rz_same K X ?_
  obtain ⟨C, k, s, CH, sl, CS, pq, cap, fl, len, row, W, w, L, H, R⟩ := X
  have GF := I.1.1.ok.2.2.1
  unfold fX5_waiting fX5_waiting_21 rWai
  rw [H.r0, H.ckS, H.waitAt R.1 GF hz]
  simp only [cc_s, kR_r, iI_l, iI_neg]
  by_cases e0 : z < 0
  · have : atI (zD Z) z = -6 := fF_no 18 3 (fun i a b => decide_eq_false (fun e => by have := rankI_bd (zD Z) i; omega))
    rw [if_pos e0, this, rf_no]
    simp only [ifN]
  · rw [if_neg e0]
    rcases atI_c (zD Z) z with e | ⟨r, e, h3, hr, hw, hk⟩
    · rw [e, if_pos rfl, rf_no]
      simp only [ifN]
    · rw [e, if_neg (by omega), rf_s, Int.toNat_natCast]
      simp only [ifN]
      rw [H.rR hr (by decide), R.1.2.2.1 r hr]
theorem x_printer (K : Kon c fz) (X : WX fz x Z M h) (I : ZI n Z) {z : Int} (hz : ag z) : Rz c fz x M h (fX5_printer c h (some x) (iI z)) (rPri (zD Z) z) Z := by
  refine Rz_same K X ?_
  obtain ⟨C, k, s, CH, sl, CS, pq, cap, fl, len, row, W, w, L, H, R⟩ := X
  unfold ag at hz
  have GF := I.1.1.ok.2.2.1
  have F := CD_F R.1
  unfold fX5_printer fX5_printer_62
  simp only [iI_l, iI_neg]
  by_cases e0 : z = 0
  · subst e0
    simp (decide := true) only [swf, if_true, if_false]
    rw [H.r0, H.rS (by decide), F 9 (by decide)]
    show (if iI (pnI (zD Z)) = iI 0 then _ else _) = (some (h, some (.inl (iI (if prtI (zD Z) = -6 then -6 else gF (zD Z) (prtI (zD Z)).toNat 0)))) : Rs)
    rcases prtI_c (zD Z) with e | ⟨r, e, h3, hr, hw⟩
    · rw [pn_no e, if_pos rfl, if_pos e]
    · have g := GF r hr 0 (by decide)
      have nn := hwP_t.mp hw
      rw [pn_at e, if_neg (show ¬ iI (gF (zD Z) r 0) = iI 0 from (by rw [eq_i (by omega) (by omega) (by omega) (by omega)]; omega)), H.r0, H.rS (by decide), F 9 (by decide), if_neg (by omega), e, Int.toNat_natCast]
      show (some (h, some (.inl (iI (pnI (zD Z))))) : Rs) = _
      rw [pn_at e]
  by_cases e1 : z = 1
  · subst e1
    simp (decide := true) only [swf, if_true, if_false]
    rw [H.r0, H.rS (by decide), F 0 (by decide)]
    rfl
  by_cases e2 : z = 2
  · subst e2
    simp (decide := true) only [swf, if_true, if_false]
    rw [H.r0, H.rS (by decide), F 1 (by decide)]
    rfl
  by_cases e3 : z = 3
  · subst e3
    simp (decide := true) only [swf, if_true, if_false]
    rw [H.r0, H.rS (by decide), F 2 (by decide)]
    rfl
  by_cases e4 : z = 4
  · subst e4
    simp (decide := true) only [swf, if_true, if_false]
    rw [H.r0, H.rS (by decide), F 3 (by decide)]
    rfl
  by_cases e5 : z = 5
  · subst e5
    simp (decide := true) only [swf, if_true, if_false]
    rw [H.r0, H.rS (by decide), F 4 (by decide)]
    rfl
  rw [swf, if_neg (show ¬ iI z = iI 0 from (by rw [eq_i (by omega) (by omega) (by omega) (by omega)]; omega)), swf, if_neg (show ¬ iI z = iI 1 from (by rw [eq_i (by omega) (by omega) (by omega) (by omega)]; omega)), swf, if_neg (show ¬ iI z = iI 2 from (by rw [eq_i (by omega) (by omega) (by omega) (by omega)]; omega)), swf, if_neg (show ¬ iI z = iI 3 from (by rw [eq_i (by omega) (by omega) (by omega) (by omega)]; omega)), swf, if_neg (show ¬ iI z = iI 4 from (by rw [eq_i (by omega) (by omega) (by omega) (by omega)]; omega)), swf, if_neg (show ¬ iI z = iI 5 from (by rw [eq_i (by omega) (by omega) (by omega) (by omega)]; omega)), swf]
  unfold rPri
  rw [if_neg e0, if_neg (by omega)]
theorem x_count (K : Kon c fz) (X : WX fz x Z M h) (I : ZI n Z) {z : Int} (hz : ag z) : Rz c fz x M h (fX5_count c h (some x) (iI z)) (rCnt Z z) Z := by
  refine Rz_same K X ?_
  obtain ⟨C, k, s, CH, sl, CS, pq, cap, fl, len, row, W, w, L, H, R⟩ := X
  unfold ag at hz
  have GF := I.1.1.ok.2.2.1
  have F := CD_F R.1
  have mn := s_many (c := c) (h := h) (b := x + 1) R.1 GF
  rw [H.st] at mn
  have pl := p_len (c := c) H
  have t0 := H.setting (c := c) R.1 (j := 0) (by decide)
  have t1 := H.setting (c := c) R.1 (j := 1) (by decide)
  have t2 := H.setting (c := c) R.1 (j := 2) (by decide)
  rw [show ((0 : Nat) : Int) = 0 from rfl] at t0
  rw [show ((1 : Nat) : Int) = 1 from rfl] at t1
  rw [show ((2 : Nat) : Int) = 2 from rfl] at t2
  unfold fX5_count
  simp only [iI_l, iI_neg]
  by_cases e0 : z = 0
  · subst e0
    simp (decide := true) only [swf, if_true, if_false]
    rw [H.r0, H.rS (by decide), F 5 (by decide)]
    rfl
  by_cases e1 : z = 1
  · subst e1
    simp (decide := true) only [swf, if_true, if_false]
    rw [H.r0, H.rS (by decide), F 6 (by decide)]
    rfl
  by_cases e2 : z = 2
  · subst e2
    simp (decide := true) only [swf, if_true, if_false]
    rw [H.r0, H.ckS, mn]
    rfl
  by_cases e3 : z = 3
  · subst e3
    simp (decide := true) only [swf, if_true, if_false]
    rw [H.r0, H.rS (by decide), F 7 (by decide)]
    rfl
  by_cases e4 : z = 4
  · subst e4
    simp (decide := true) only [swf, if_true, if_false]
    rw [H.r0, H.rS (by decide), F 8 (by decide)]
    rfl
  by_cases e5 : z = 5
  · subst e5
    simp (decide := true) only [swf, if_true, if_false]
    rw [H.r0, H.ckS, t0]
    rfl
  by_cases e6 : z = 6
  · subst e6
    simp (decide := true) only [swf, if_true, if_false]
    rw [H.r0, H.ckS, t1]
    rfl
  by_cases e7 : z = 7
  · subst e7
    simp (decide := true) only [swf, if_true, if_false]
    rw [H.r0, H.ckS, t2]
    rfl
  by_cases e8 : z = 8
  · subst e8
    simp (decide := true) only [swf, if_true, if_false]
    rw [H.r3, ck_e H.p0 rfl, pl]
    rw [R.2.2.2.1]
    rfl
  by_cases e9 : z = 9
  · subst e9
    simp (decide := true) only [swf, if_true, if_false]
    rw [H.r1, rdI_e H.h0 rfl rfl, R.2.1.1]
    rfl
  rw [swf, if_neg (show ¬ iI z = iI 0 from (by rw [eq_i (by omega) (by omega) (by omega) (by omega)]; omega)), swf, if_neg (show ¬ iI z = iI 1 from (by rw [eq_i (by omega) (by omega) (by omega) (by omega)]; omega)), swf, if_neg (show ¬ iI z = iI 2 from (by rw [eq_i (by omega) (by omega) (by omega) (by omega)]; omega)), swf, if_neg (show ¬ iI z = iI 3 from (by rw [eq_i (by omega) (by omega) (by omega) (by omega)]; omega)), swf, if_neg (show ¬ iI z = iI 4 from (by rw [eq_i (by omega) (by omega) (by omega) (by omega)]; omega)), swf, if_neg (show ¬ iI z = iI 5 from (by rw [eq_i (by omega) (by omega) (by omega) (by omega)]; omega)), swf, if_neg (show ¬ iI z = iI 6 from (by rw [eq_i (by omega) (by omega) (by omega) (by omega)]; omega)), swf, if_neg (show ¬ iI z = iI 7 from (by rw [eq_i (by omega) (by omega) (by omega) (by omega)]; omega)), swf, if_neg (show ¬ iI z = iI 8 from (by rw [eq_i (by omega) (by omega) (by omega) (by omega)]; omega)), swf, if_neg (show ¬ iI z = iI 9 from (by rw [eq_i (by omega) (by omega) (by omega) (by omega)]; omega)), swf]
  unfold rCnt
  rw [if_neg e0, if_neg e1, if_neg e2, if_neg e3, if_neg e4, if_neg e5, if_neg e6, if_neg e7, if_neg e8, if_neg e9]
theorem x_linesLeft (K : Kon c fz) (X : WX fz x Z M h) (I : ZI n Z) : Rz c fz x M h (fX5_linesLeft c h (some x)) (allI (zD Z)) Z := by
  refine Rz_same K X ?_
  obtain ⟨C, k, s, CH, sl, CS, pq, cap, fl, len, row, W, w, L, H, R⟩ := X
  unfold fX5_linesLeft
  rw [H.r0, H.ckS, H.all R.1 I.1.1.ok.2.2.1 I.1.1.gl.how]
  simp only [cc_s, kI_i]
theorem x_outIn (K : Kon c fz) (X : WX fz x Z M h) (I : ZI n Z) : Rz c fz x M h (fX5_outIn c h (some x)) (rOut (zD Z)) Z := by
  refine Rz_same K X ?_
  obtain ⟨C, k, s, CH, sl, CS, pq, cap, fl, len, row, W, w, L, H, R⟩ := X
  have T := I.1.1.2.1
  have T' := T
  unfold RgT at T
  have F := CD_F R.1
  have F0 : cF C 0 = gT (zD Z) 7 := F 0 (by decide)
  have ab := allI_bd I.1.1.ok
  unfold fX5_outIn fX5_outIn_48 rOut
  simp only [iI_l, iI_neg]
  rw [H.r0, H.rS (by decide), F0]
  by_cases e0 : gT (zD Z) 7 = 0
  · have lf : 0 ≤ allI (zD Z) := (sF_bd (f := toPrI (zD Z)) (b := 1500) 18 3 (fun o a b => by
      have io : ∀ w, hwP (zD Z) w o = true → isR (zD Z) o := fun w e => hwP_is e (by omega)
      unfold toPrI
      split
      · next e =>
        have i1 : isR (zD Z) o := by rcases e with e | e; exact io 0 e; exact io 1 e
        have w := (I.1.1.rw i1.1).2.2.2.2 a
        have lr := leftI_rg I.1.1.ok i1
        unfold leftI at lr ⊢
        rcases e with e | e
        · have e' := hwP_t.mp e
          have := w.2 e'.1 (by omega); omega
        · have e' := hwP_t.mp e
          have := w.2 e'.1 (by omega); omega
      · omega)).1
    rw [e0, if_pos rfl, if_neg (show ¬ allI (zD Z) < 0 by omega)]
    unfold tksI
    refine ret_c ?_
    rw [Int.zero_add]
    exact (Int.ediv_eq_zero_of_lt (by omega) (by omega)).symm
  · rw [if_neg (show ¬ iI (gT (zD Z) 7) = iI 0 from (by rw [eq_i (by omega) (by omega) (by omega) (by omega)]; omega)), H.r0, H.ckS, H.all R.1 I.1.1.ok.2.2.1 I.1.1.gl.how]
    simp only [cc_s, kI_i]
    rw [H.r0, H.rS (by decide), F0]
    by_cases e1 : allI (zD Z) < gT (zD Z) 7
    · rw [if_pos (show iI (allI (zD Z)) < iI (gT (zD Z) 7) from (by rw [lt_i (by omega) (by omega) (by omega) (by omega)]; omega)), if_pos e1]
    · rw [if_neg (show ¬ iI (allI (zD Z)) < iI (gT (zD Z) 7) from (by rw [lt_i (by omega) (by omega) (by omega) (by omega)]; omega)), if_neg e1, H.r0, H.r0, H.rS (by decide), F0, H.ckS, H.ticksFor R.1 T' (by omega) (by omega)]
      simp only [cc_s, kI_i]
theorem x_doneIn (K : Kon c fz) (X : WX fz x Z M h) (I : ZI n Z) {z : Int} (hz : ag z) : Rz c fz x M h (fX5_doneIn c h (some x) (iI z)) (rDin (zD Z) z) Z := by
  refine Rz_same K X ?_
  obtain ⟨C, k, s, CH, sl, CS, pq, cap, fl, len, row, W, w, L, H, R⟩ := X
  have T := I.1.1.2.1
  have T' := T
  unfold RgT at T
  have O := I.1.1.ok
  have GF := O.2.2.1
  have F0 : cF C 0 = gT (zD Z) 7 := CD_F R.1 0 (by decide)
  unfold fX5_doneIn fX5_doneIn_58 rDin
  simp only [iI_l, iI_neg]
  rw [H.r0, H.ckS, H.known R.1 GF hz]
  simp only [cc_s, kR_r]
  rcases recI_c (zD Z) z with e | ⟨r, e, h3, hr, z0, hx⟩
  · rw [e, if_pos rfl, rf_no]
    simp only [ifN]
  · have q := (R.1.2.2.2.2 r h3 hr (by omega)).1
    have g := GF r hr 3 (by decide)
    have isr : isR (zD Z) r := ⟨hr, Or.inr (by omega)⟩
    rw [e, if_neg (by omega), rf_s, Int.toNat_natCast]
    simp only [ifN]
    rw [H.rR hr (by decide), q.2.2.1]
    by_cases e2 : gF (zD Z) r 3 = 2
    · rw [if_pos (show iI (gF (zD Z) r 3) = iI 2 by rw [e2]), if_pos e2]
    · have up := s_up (c := c) (h := h) (b := x + 1) R.1 GF I.1.1.gl.how I.1.1.gl.one h3 hr (by omega) e2
      rw [H.st] at up
      have ub := upI_bd O isr
      have u0 := I.1.1.up r isr e2
      rw [if_neg (show ¬ iI (gF (zD Z) r 3) = iI 2 from (by rw [eq_i (by omega) (by omega) (by omega) (by omega)]; omega)), if_neg e2, H.r0, H.ckS, up]
      simp only [cc_s, kI_i]
      rw [H.r0, H.rS (by decide), F0]
      by_cases e3 : gT (zD Z) 7 < upI (zD Z) r
      · rw [if_pos (show iI (gT (zD Z) 7) < iI (upI (zD Z) r) from (by rw [lt_i (by omega) (by omega) (by omega) (by omega)]; omega)), if_pos e3]
      · rw [if_neg (show ¬ iI (gT (zD Z) 7) < iI (upI (zD Z) r) from (by rw [lt_i (by omega) (by omega) (by omega) (by omega)]; omega)), if_neg e3, H.r0, H.ckS, H.ticksFor R.1 T' u0 (by omega)]
        simp only [cc_s, kI_i]
theorem x_ofReceipt (K : Kon c fz) (X : WX fz x Z M h) (I : ZI n Z) {y z : Int} (hy : ag y) (hz : ag z) : Rz c fz x M h (fX5_ofReceipt c h (some x) (iI y) (iI z)) (rRcp (zD Z) y z) Z := by
  refine Rz_same K X ?_
  obtain ⟨C, k, s, CH, sl, CS, pq, cap, fl, len, row, W, w, L, H, R⟩ := X
  have O := I.1.1.ok
  have GF := O.2.2.1
  unfold fX5_ofReceipt fX5_ofReceipt_134 rRcp
  simp only [iI_l, iI_neg]
  rw [H.r0, H.ckS, H.known R.1 GF hy]
  simp only [cc_s, kR_r]
  unfold ag at hz
  rcases recI_c (zD Z) y with e | ⟨r, e, h3, hr, z0, hx⟩
  · rw [e, if_pos rfl, rf_no]
    simp only [ifN]
  · have q := R.1.2.2.2.2 r h3 hr (by omega)
    have g := GF r hr 3 (by decide)
    have isr : isR (zD Z) r := ⟨hr, Or.inr (by omega)⟩
    have rcd := R.1.2.2.2.1 r isr
    have G1 := O.1 r hr
    rw [e, if_neg (by omega), rf_s, Int.toNat_natCast]
    simp only [ifN]
    by_cases e0 : z = 0
    · subst e0
      simp (decide := true) only [swf, if_true, if_false]
      rw [H.rR hr (by decide), q.1.2.2.1]
      rfl
    by_cases e1 : z = 1
    · subst e1
      simp (decide := true) only [swf, if_true, if_false]
      rw [H.rR hr (by decide), q.1.1]
      rfl
    by_cases e2 : z = 2
    · subst e2
      simp (decide := true) only [swf, if_true, if_false]
      rw [H.rR hr (by decide), q.1.2.1]
      rfl
    by_cases e3 : z = 3
    · subst e3
      simp (decide := true) only [swf, if_true, if_false]
      rw [H.rR hr (by decide), rcd.1.1]
      rfl
    by_cases e4 : z = 4
    · subst e4
      simp (decide := true) only [swf, if_true, if_false]
      rw [H.ckR hr, c_struck (H.rc hr) rcd G1 (zero_c I.1.1 hr)]
      rfl
    by_cases e5 : z = 5
    · subst e5
      simp (decide := true) only [swf, if_true, if_false]
      rw [H.ckR hr, c_total H.1.1 (H.rc hr) rcd G1]
      rfl
    by_cases e6 : z = 6
    · subst e6
      simp (decide := true) only [swf, if_true, if_false]
      rw [H.rR hr (by decide), q.1.2.2.2.2.1]
      rfl
    by_cases e7 : z = 7
    · subst e7
      simp (decide := true) only [swf, if_true, if_false]
      rw [H.rR hr (by decide), q.1.2.2.2.2.2]
      rfl
    by_cases e8 : z = 8
    · subst e8
      simp (decide := true) only [swf, if_true, if_false]
      rw [H.rR hr (by decide), q.1.2.2.2.1]
      rfl
    by_cases e9 : z = 9
    · subst e9
      simp (decide := true) only [swf, if_true, if_false]
      rw [H.rR hr (by decide), q.1.2.2.1]
      show _ = (some (h, some (.inl (iI (if gF (zD Z) r 3 = 2 then gF (zD Z) r 6 else -6)))) : Rs)
      by_cases e2 : gF (zD Z) r 3 = 2
      · rw [if_pos (show iI (gF (zD Z) r 3) = iI 2 by rw [e2]), if_pos e2, H.rR hr (by decide), (q.2 e2).1]
      · rw [if_neg (show ¬ iI (gF (zD Z) r 3) = iI 2 from (by rw [eq_i (by omega) (by omega) (by omega) (by omega)]; omega)), if_neg e2]
    rw [swf, if_neg (show ¬ iI z = iI 0 from (by rw [eq_i (by omega) (by omega) (by omega) (by omega)]; omega)), swf, if_neg (show ¬ iI z = iI 1 from (by rw [eq_i (by omega) (by omega) (by omega) (by omega)]; omega)), swf, if_neg (show ¬ iI z = iI 2 from (by rw [eq_i (by omega) (by omega) (by omega) (by omega)]; omega)), swf, if_neg (show ¬ iI z = iI 3 from (by rw [eq_i (by omega) (by omega) (by omega) (by omega)]; omega)), swf, if_neg (show ¬ iI z = iI 4 from (by rw [eq_i (by omega) (by omega) (by omega) (by omega)]; omega)), swf, if_neg (show ¬ iI z = iI 5 from (by rw [eq_i (by omega) (by omega) (by omega) (by omega)]; omega)), swf, if_neg (show ¬ iI z = iI 6 from (by rw [eq_i (by omega) (by omega) (by omega) (by omega)]; omega)), swf, if_neg (show ¬ iI z = iI 7 from (by rw [eq_i (by omega) (by omega) (by omega) (by omega)]; omega)), swf, if_neg (show ¬ iI z = iI 8 from (by rw [eq_i (by omega) (by omega) (by omega) (by omega)]; omega)), swf, if_neg (show ¬ iI z = iI 9 from (by rw [eq_i (by omega) (by omega) (by omega) (by omega)]; omega)), swf]
    unfold wRcp
    rw [if_neg e0, if_neg e1, if_neg e2, if_neg e3, if_neg e4, if_neg e5, if_neg e6, if_neg e7, if_neg e8, if_neg e9]
theorem xor_bit {a i j : Nat} : (a ^^^ 2 ^ i) / 2 ^ j % 2 = if i = j then 1 - a / 2 ^ j % 2 else a / 2 ^ j % 2 := by
  have e1 : ∀ z, z / 2 ^ j % 2 = (z.testBit j).toNat := fun z => by
    rw [Nat.testBit_eq_decide_div_mod_eq]
    have := Nat.mod_lt (z / 2 ^ j) (show 0 < 2 by decide)
    by_cases e : z / 2 ^ j % 2 = 1
    · rw [e]; rfl
    · rw [decide_eq_false e]; simp; omega
  rw [e1, e1, Nat.testBit_xor, Nat.testBit_two_pow]
  by_cases e : i = j
  · rw [if_pos e, decide_eq_true e]; cases a.testBit j <;> rfl
  · rw [if_neg e, decide_eq_false e]; cases a.testBit j <;> rfl
theorem x_ifStruck (K : Kon c fz) (X : WX fz x Z M h) (I : ZI n Z) {t i : Int} (ht : ag t) (hi : ag i) : Rz c fz x M h (fX5_ifStruck c h (some x) (iI t) (iI i)) (rIfs (zD Z) t i) Z := by
  refine Rz_same K X ?_
  obtain ⟨C, k, s, CH, sl, CS, pq, cap, fl, len, row, W, w, L, H, R⟩ := X
  have O := I.1.1.ok
  unfold fX5_ifStruck fX5_ifStruck_21 rIfs
  simp only [iI_l, iI_neg]
  rw [H.r0, H.ckS, H.openAt ht]
  simp only [cc_s, kR_r]
  by_cases e : 0 ≤ t ∧ t ≤ 2
  · have hr : t.toNat < 21 := by omega
    have isr : isR (zD Z) t.toNat := ⟨hr, Or.inl (by omega)⟩
    have rcd := R.1.2.2.2.1 _ isr
    have G1 := O.1 _ hr
    have n8 := nIt_le G1
    rw [if_pos e]
    simp only [ifN]
    rw [H.ckR hr, c_itemAt (H.rc hr) rcd G1 hi.1 hi.2]
    simp only [cc_s, kR_r]
    by_cases e2 : 0 ≤ i ∧ i < gF (zD Z) t.toNat 8
    · obtain ⟨q, q1, q2⟩ := rcd.2.1 i.toNat (by omega)
      have m := msk_rg G1
      have mb := msk_bit (i := i.toNat) G1 (by omega)
      have hp := G1.2.1 i.toNat
      unfold pRg at hp
      obtain ⟨a, ha⟩ : ∃ a : Nat, mskI (zD Z) t.toNat = a := ⟨(mskI (zD Z) t.toNat).toNat, by omega⟩
      have p12 : (2 : Nat) ^ i.toNat ≤ 2048 := by
        have : (2 : Nat) ^ i.toNat ≤ 2 ^ 11 := Nat.pow_le_pow_right (by decide) (by omega)
        omega
      have xl : a ^^^ 2 ^ i.toNat < 4096 := Nat.xor_lt_two_pow (n := 12) (by omega) (by omega)
      rw [if_pos e2, q1]
      simp only [ifN]
      rw [H.rR hr (by decide), rcd.1.2.2, H.ckR hr, shl_i (by omega) (by omega), Int.one_mul, ha, show (2 : Int) ^ i.toNat = ((2 ^ i.toNat : Nat) : Int) by simp, xor_iI, c_without H.1.1 (H.rc hr) rcd G1 (by omega) (by omega), if_pos (by omega)]
      simp only [cc_s, kI_i]
      refine ret_c ?_
      rw [← wo_tot G1, ha]
      unfold woI
      have bz : ∀ j, (((a ^^^ 2 ^ i.toNat : Nat) : Int) / 2 ^ j % 2) = (((a ^^^ 2 ^ i.toNat) / 2 ^ j % 2 : Nat) : Int) := fun j => by simp
      have ba : ∀ j, ((a : Int) / 2 ^ j % 2) = ((a / 2 ^ j % 2 : Nat) : Int) := fun j => by simp
      rw [sF_upd (f := fun j => if (a : Int) / 2 ^ j % 2 = 0 then gP (zD Z) t.toNat j 0 * gP (zD Z) t.toNat j 1 else 0) (f' := fun j => if ((a ^^^ 2 ^ i.toNat : Nat) : Int) / 2 ^ j % 2 = 0 then gP (zD Z) t.toNat j 0 * gP (zD Z) t.toNat j 1 else 0) (r := i.toNat) (nIt (zD Z) t.toNat) 0 (by omega) (by omega) (fun j _ _ hj => by
        show (if ((a ^^^ 2 ^ i.toNat : Nat) : Int) / 2 ^ j % 2 = 0 then _ else _) = (if (a : Int) / 2 ^ j % 2 = 0 then _ else _)
        rw [bz, ba, xor_bit, if_neg (show ¬ i.toNat = j from fun e => hj e.symm)])]
      show _ - (if (a : Int) / 2 ^ i.toNat % 2 = 0 then _ else _) + (if ((a ^^^ 2 ^ i.toNat : Nat) : Int) / 2 ^ i.toNat % 2 = 0 then _ else _) = _
      rw [bz, xor_bit, if_pos rfl, ← ha, mb]
      rw [ha] at mb
      rw [ba] at mb
      by_cases e3 : gP (zD Z) t.toNat i.toNat 3 = 1
      · rw [if_neg (by omega), if_pos (by omega), if_pos e3]; omega
      · rw [if_pos (by omega), if_neg (by omega), if_neg e3]; omega
    · rw [if_neg e2, if_neg (by omega)]
      try simp only [ifN]
  · rw [if_neg e, if_neg (by omega)]
    simp only [ifN]
theorem x_between_l (H : HL fz x h C k s CH sl CS pq cap fl len row W w L M) {D : Dt} (Q : CD fz C D) (O : Ok1 D) {a b v : Int} (ha : ag a) (hb : ag b) (v0 : 0 ≤ v) (v1 : v ≤ 2) : ∀ (m fu q : Nat) (s n g : Int), m < fu → q + m = 18 → 0 ≤ n → n + m < 100 → -6 ≤ g → g < 12000000 → fX5_between_30 c fu h (some x) (iI a) (iI b) (iI v) (iI s) (iI n) (iI g) (iI (q : Int)) = some (h, some (.inl (iI (wBt (btL D a b (q + 3) m s n g) v)))) := by
  have GF := O.2.2.1
  unfold ag at ha hb
  have pl := s_places (c := c) (h := h) (b := x + 1) (C := C)
  rw [H.st] at pl
  have pa : ∀ q : Nat, q < 18 → fX4_placeAt c h (some (x + 1)) (iI (q : Int)) = some (h, some (.inr (.inr (if 0 < gF D (q + 3) 0 then some (x + 1 + 4 + 3 * (q + 3)) else none)))) := fun q hq => by
    have := s_placeAt (c := c) (h := h) (b := x + 1) Q GF hq
    rw [H.st] at this; exact this
  intro m
  induction m with
  | zero =>
    intro fu q s n g hf hk n0 n1 g0 g1
    obtain ⟨f, rfl⟩ : ∃ f, fu = f + 1 := ⟨fu - 1, by omega⟩
    unfold fX5_between_30 fX5_between_129
    rw [H.r0, H.ckS, pl]
    simp only [cc_s, kI_i, iI_l]
    rw [if_neg (show ¬ iI (q : Int) < iI 18 from (by rw [lt_i (by omega) (by omega) (by omega) (by omega)]; omega)), btL]
    unfold wBt
    by_cases e0 : v = 0
    · rw [if_pos (show iI v = iI 0 by rw [e0]), if_pos e0]
    · rw [if_neg (show ¬ iI v = iI 0 from (by rw [eq_i (by omega) (by omega) (by omega) (by omega)]; omega)), if_neg e0]
      by_cases e1 : v = 1
      · rw [if_pos (show iI v = iI 1 by rw [e1]), if_pos e1]
      · rw [if_neg (show ¬ iI v = iI 1 from (by rw [eq_i (by omega) (by omega) (by omega) (by omega)]; omega)), if_neg e1]
  | succ m ih =>
    intro fu q s n g hf hk n0 n1 g0 g1
    obtain ⟨f, rfl⟩ : ∃ f, fu = f + 1 := ⟨fu - 1, by omega⟩
    have gg := GF (q + 3) (by omega) 0 (by decide)
    unfold fX5_between_30 fX5_between_102
    rw [H.r0, H.ckS, pl]
    simp only [cc_s, kI_i]
    rw [if_pos (show iI (q : Int) < iI 18 from (by rw [lt_i (by omega) (by omega) (by omega) (by omega)]; omega)), H.r0, H.ckS, pa q (by omega)]
    simp only [cc_s, kR_r, iI_l, iI_add]
    rw [btL]
    by_cases e : 0 < gF D (q + 3) 0
    · rw [if_pos e]
      simp only [ifN]
      rw [H.rR (by omega) (by decide), Q.2.2.1 (q + 3) (by omega)]
      by_cases e1 : gF D (q + 3) 0 < a
      · rw [if_pos (show iI (gF D (q + 3) 0) < iI a from (by rw [lt_i (by omega) (by omega) (by omega) (by omega)]; omega)), if_neg (by omega), iI_k1, ih f (q + 1) s n g (by omega) (by omega) n0 (by omega) g0 g1, show q + 1 + 3 = q + 3 + 1 by omega]
      · rw [if_neg (show ¬ iI (gF D (q + 3) 0) < iI a from (by rw [lt_i (by omega) (by omega) (by omega) (by omega)]; omega)), H.rR (by omega) (by decide), Q.2.2.1 (q + 3) (by omega)]
        by_cases e2 : b < gF D (q + 3) 0
        · rw [if_pos (show iI b < iI (gF D (q + 3) 0) from (by rw [lt_i (by omega) (by omega) (by omega) (by omega)]; omega)), if_neg (by omega), iI_k1, ih f (q + 1) s n g (by omega) (by omega) n0 (by omega) g0 g1, show q + 1 + 3 = q + 3 + 1 by omega]
        · have G1 := O.1 (q + 3) (by omega)
          have tb := totI_bd G1
          rw [if_neg (show ¬ iI b < iI (gF D (q + 3) 0) from (by rw [lt_i (by omega) (by omega) (by omega) (by omega)]; omega)), H.ckR (by omega), c_total H.1.1 (H.rc (by omega)) (Q.2.2.2.1 (q + 3) ⟨by omega, Or.inr e⟩) G1, if_pos (by omega)]
          simp only [cc_s, kI_i, iI_add]
          rw [mx_i (by omega) (by omega) (by omega) (by omega), iI_k1, ih f (q + 1) (s + totI D (q + 3)) (n + 1) (if g < totI D (q + 3) then totI D (q + 3) else g) (by omega) (by omega) (by omega) (by omega) (by split <;> omega) (by split <;> omega), show q + 1 + 3 = q + 3 + 1 by omega]
    · rw [if_neg e, if_neg (by omega)]
      simp only [ifN]
      rw [iI_k1, ih f (q + 1) s n g (by omega) (by omega) n0 (by omega) g0 g1, show q + 1 + 3 = q + 3 + 1 by omega]
theorem x_between (K : Kon c fz) (X : WX fz x Z M h) (I : ZI n Z) {a b v : Int} (ha : ag a) (hb : ag b) (hv : ag v) : Rz c fz x M h (fX5_between c h (some x) (iI a) (iI b) (iI v)) (rBt (zD Z) a b v) Z := by
  refine Rz_same K X ?_
  obtain ⟨C, k, s, CH, sl, CS, pq, cap, fl, len, row, W, w, L, H, R⟩ := X
  have ha' := ha
  have hb' := hb
  unfold ag at ha' hb' hv
  unfold fX5_between fX5_between_14 rBt
  simp only [iI_l, iI_neg]
  by_cases e0 : b < a
  · rw [if_pos (show iI b < iI a from (by rw [lt_i (by omega) (by omega) (by omega) (by omega)]; omega)), if_pos e0]
  rw [if_neg (show ¬ iI b < iI a from (by rw [lt_i (by omega) (by omega) (by omega) (by omega)]; omega)), if_neg e0]
  by_cases e1 : v < 0
  · rw [if_pos (show iI v < iI 0 from (by rw [lt_i (by omega) (by omega) (by omega) (by omega)]; omega)), if_pos (by omega)]
  rw [if_neg (show ¬ iI v < iI 0 from (by rw [lt_i (by omega) (by omega) (by omega) (by omega)]; omega))]
  by_cases e2 : 2 < v
  · rw [if_pos (show iI 2 < iI v from (by rw [lt_i (by omega) (by omega) (by omega) (by omega)]; omega)), if_pos (by omega)]
  rw [if_neg (show ¬ iI 2 < iI v from (by rw [lt_i (by omega) (by omega) (by omega) (by omega)]; omega)), if_neg (by omega)]
  have key := x_between_l (c := c) H R.1 I.1.1.ok ha hb (v := v) (by omega) (by omega) 18 FU 0 0 0 (-6) (by decide) (by decide) (by decide) (by decide) (by decide) (by decide)
  rw [show ((0 : Nat) : Int) = 0 from rfl] at key
  rw [key]
end
