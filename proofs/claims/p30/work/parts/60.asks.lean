/-! THE CLASS'S CALLS: what there is -/
/-- a call gives r, and what is then is Z' -/
def Rz (c : Nat → Option Nat) (fz : Nat → Option Cl) (x : Nat) (M : Nat → Nat → Int) (h : Hp) (o : Rs) (r : Int) (Z' : Zt) : Prop := ∃ h' fz', o = some (h', some (.inl (iI r))) ∧ WX fz' x Z' M h' ∧ (Kon c fz' ∧ ∀ q e, fz q = some e → fz' q = some e) ∧ h.2.1 ≤ h'.2.1 ∧ h'.2.1 ≤ h.2.1 + 100 ∧ h'.2.2 ≤ h.2.2 + 10000
theorem rec_neg {D : Dt} {z : Int} (h : z ≤ 0) : recI D z = -6 := fF_no 18 3 (fun i a b => decide_eq_false (fun h => by omega))
theorem rf_no (b : Nat) : rf b (-6) = none := rfl
theorem zero_c {n : Int} {D : Dt} (H : Iv n D) {r : Nat} (hr : r < 21) : ∀ i, nIt D r ≤ i → gP D r i 3 = 0 := fun i hi => ((H.rw hr).1 i hi).1
section
variable {c : Nat → Option Nat} {fz : Nat → Option Cl} {x : Nat} {h h' : Hp} {Z : Zt} {C : Ct} {k s : Nat} {CH : Nat → Ct} {sl : Nat → Option Nat} {CS : Nat → Ct} {pq cap : Nat} {fl : Int32} {len : Nat} {row : Nat → Int32} {W w : Int} {L : Ly} {M : Nat → Nat → Int} {n : Int}
theorem Rz_same (K : Kon c fz) (X : WX fz x Z M h) {o : Rs} {r : Int} (e : o = some (h, some (.inl (iI r)))) : Rz c fz x M h o r Z := ⟨h, fz, e, X, ⟨K, fun _ _ e => e⟩, Nat.le_refl _, by omega, by omega⟩
/-- a call asks r, and nothing that is told is another -/
def Rq (fz : Nat → Option Cl) (x : Nat) (M : Nat → Nat → Int) (h : Hp) (o : Rs) (r : Int) (Z' : Zt) : Prop := ∃ h', o = some (h', some (.inl (iI r))) ∧ WX fz x Z' M h' ∧ h'.2 = h.2
theorem Rq_same (_ : Kon c fz) (X : WX fz x Z M h) {o : Rs} {r : Int} (e : o = some (h, some (.inl (iI r)))) : Rq fz x M h o r Z := ⟨h, e, X, rfl⟩
/-- as Rz, of at most b slots -/
def Rb (b : Nat) (c : Nat → Option Nat) (fz : Nat → Option Cl) (x : Nat) (M : Nat → Nat → Int) (h : Hp) (o : Rs) (r : Int) (Z' : Zt) : Prop := ∃ h' fz', o = some (h', some (.inl (iI r))) ∧ WX fz' x Z' M h' ∧ (Kon c fz' ∧ ∀ q e, fz q = some e → fz' q = some e) ∧ h.2.1 ≤ h'.2.1 ∧ h'.2.1 ≤ h.2.1 + 100 ∧ h'.2.2 ≤ h.2.2 + b
theorem Rb_same {b : Nat} (K : Kon c fz) (X : WX fz x Z M h) {o : Rs} {r : Int} (e : o = some (h, some (.inl (iI r)))) : Rb b c fz x M h o r Z := ⟨h, fz, e, X, ⟨K, fun _ _ e => e⟩, Nat.le_refl _, by omega, by omega⟩
theorem HL.ckS (H : HL fz x h C k s CH sl CS pq cap fl len row W w L M) {o : Rs} : Jvm.Pilot.CReceiptRollsLaw_law_r6028_bd9a59.ck h (some (x + 1)) 6 o = o := by
  have := ck_S (h := h) (b := x + 1) (C := C) (o := o); rw [H.st] at this; exact this
theorem HL.ckR (H : HL fz x h C k s CH sl CS pq cap fl len row W w L M) {r : Nat} (hr : r < 21) {o : Rs} : Jvm.Pilot.CReceiptRollsLaw_law_r6028_bd9a59.ck h (some (x + 1 + 4 + 3 * r)) 4 o = o := by
  have := ck_R (h := h) (b := x + 1) (C := C) (o := o) hr; rw [H.st] at this; exact this
theorem HL.rS (H : HL fz x h C k s CH sl CS pq cap fl len row W w L M) {j : Nat} (hj : j < 10) {f : Int32 → Rs} : rdI h (some (x + 1)) 6 j f = f (iI (cF C j)) := by
  have := rdI_S (h := h) (b := x + 1) (C := C) (f := f) hj; rw [H.st] at this; exact this
theorem HL.rR (H : HL fz x h C k s CH sl CS pq cap fl len row W w L M) {r j : Nat} (hr : r < 21) (hj : j < 12) {f : Int32 → Rs} : rdI h (some (x + 1 + 4 + 3 * r)) 4 j f = f (iI (cR C r j)) := by
  have := rdI_R (h := h) (b := x + 1) (C := C) (f := f) hr hj; rw [H.st] at this; exact this
theorem HL.rc (H : HL fz x h C k s CH sl CS pq cap fl len row W w L M) {r : Nat} (hr : r < 21) : Rc h (x + 1 + 4 + 3 * r) (cR C r) (cG C r) (cE C r) := by
  have := hS_Rc (h := h) (b := x + 1) (C := C) hr; rw [H.st] at this; exact this
theorem HL.known (H : HL fz x h C k s CH sl CS pq cap fl len row W w L M) {D : Dt} (Q : CD fz C D) (GF : RgF D) {z : Int} (hz : ag z) : fX4_known c h (some (x + 1)) (iI z) = some (h, some (.inr (.inr (rf (x + 1) (recI D z))))) := by
  have := s_known (c := c) (h := h) (b := x + 1) Q GF hz.1 hz.2; rw [H.st] at this; exact this
theorem HL.waitAt (H : HL fz x h C k s CH sl CS pq cap fl len row W w L M) {D : Dt} (Q : CD fz C D) (GF : RgF D) {z : Int} (hz : ag z) : fX4_waitingAt c h (some (x + 1)) (iI z) = some (h, some (.inr (.inr (rf (x + 1) (atI D z))))) := by
  have := s_waitingAt (c := c) (h := h) (b := x + 1) Q GF hz.1 hz.2; rw [H.st] at this; exact this
theorem HL.openAt (H : HL fz x h C k s CH sl CS pq cap fl len row W w L M) {z : Int} (hz : ag z) : fX4_openAt c h (some (x + 1)) (iI z) = some (h, some (.inr (.inr (if 0 ≤ z ∧ z ≤ 2 then some (x + 1 + 4 + 3 * z.toNat) else none)))) := by
  have := s_openAt (c := c) (h := h) (b := x + 1) (C := C) hz.1 hz.2; rw [H.st] at this; exact this
theorem HL.setting (H : HL fz x h C k s CH sl CS pq cap fl len row W w L M) {D : Dt} (Q : CD fz C D) {j : Nat} (hj : j < 3) : fX4_settingAt c h (some (x + 1)) (iI (j : Int)) = some (h, some (.inl (iI (gT D j)))) := by
  have := s_setting (c := c) (h := h) (b := x + 1) Q hj; rw [H.st] at this; exact this
theorem HL.all (H : HL fz x h C k s CH sl CS pq cap fl len row W w L M) {D : Dt} (Q : CD fz C D) (GF : RgF D) (Hw : How D) : fX4_linesToPrint c h (some (x + 1)) = some (h, some (.inl (iI (allI D)))) := by
  have := s_all (c := c) (h := h) (b := x + 1) Q GF Hw; rw [H.st] at this; exact this
theorem x_printer (K : Kon c fz) (X : WX fz x Z M h) (I : ZI n Z) {z : Int} (hz : ag z) : Rq fz x M h (fX5_printer c h (some x) (iI z)) (rPri (zD Z) z) Z := by
  refine Rq_same K X ?_
  obtain ⟨C, k, s, CH, sl, CS, pq, cap, fl, len, row, W, w, L, H, R⟩ := X
  unfold ag at hz
  have GF := I.1.1.ok.2.2.1
  have F := CD_F R.1
  unfold fX5_printer fX5_printer_62
  simp only [iI_l, iI_neg]
  by_cases e0 : z = 0
  · subst e0
    simp (decide := true) only [swf, if_true, if_false]
    rw [H.r0, H.rS (by decide), F 9 (by decide)]
    show (if iI (pnI (zD Z)) = iI 0 then _ else _) = (some (h, some (.inl (iI (if prtI (zD Z) = -6 then -6 else gF (zD Z) (prtI (zD Z)).toNat 0)))) : Rs)
    rcases prtI_c (zD Z) with e | ⟨r, e, h3, hr, hw⟩
    · rw [pn_no e, if_pos rfl, if_pos e]
    · have g := GF r hr 0 (by decide)
      have nn := hwP_t.mp hw
      rw [pn_at e, if_neg (show ¬ iI (gF (zD Z) r 0) = iI 0 from (by rw [eq_i (by omega) (by omega) (by omega) (by omega)]; omega)), H.r0, H.rS (by decide), F 9 (by decide), if_neg (by omega), e, Int.toNat_natCast]
      show (some (h, some (.inl (iI (pnI (zD Z))))) : Rs) = _
      rw [pn_at e]
  by_cases e1 : z = 1
  · subst e1
    simp (decide := true) only [swf, if_true, if_false]
    rw [H.r0, H.rS (by decide), F 0 (by decide)]
    rfl
  by_cases e2 : z = 2
  · subst e2
    simp (decide := true) only [swf, if_true, if_false]
    rw [H.r0, H.rS (by decide), F 1 (by decide)]
    rfl
  by_cases e3 : z = 3
  · subst e3
    simp (decide := true) only [swf, if_true, if_false]
    rw [H.r0, H.rS (by decide), F 2 (by decide)]
    rfl
  by_cases e4 : z = 4
  · subst e4
    simp (decide := true) only [swf, if_true, if_false]
    rw [H.r0, H.rS (by decide), F 3 (by decide)]
    rfl
  by_cases e5 : z = 5
  · subst e5
    simp (decide := true) only [swf, if_true, if_false]
    rw [H.r0, H.rS (by decide), F 4 (by decide)]
    rfl
  rw [swf, if_neg (show ¬ iI z = iI 0 from (by rw [eq_i (by omega) (by omega) (by omega) (by omega)]; omega)), swf, if_neg (show ¬ iI z = iI 1 from (by rw [eq_i (by omega) (by omega) (by omega) (by omega)]; omega)), swf, if_neg (show ¬ iI z = iI 2 from (by rw [eq_i (by omega) (by omega) (by omega) (by omega)]; omega)), swf, if_neg (show ¬ iI z = iI 3 from (by rw [eq_i (by omega) (by omega) (by omega) (by omega)]; omega)), swf, if_neg (show ¬ iI z = iI 4 from (by rw [eq_i (by omega) (by omega) (by omega) (by omega)]; omega)), swf, if_neg (show ¬ iI z = iI 5 from (by rw [eq_i (by omega) (by omega) (by omega) (by omega)]; omega)), swf]
  unfold rPri
  rw [if_neg e0, if_neg (by omega)]
theorem x_count (K : Kon c fz) (X : WX fz x Z M h) (I : ZI n Z) {z : Int} (hz : ag z) : Rq fz x M h (fX5_count c h (some x) (iI z)) (rCnt Z z) Z := by
  refine Rq_same K X ?_
  obtain ⟨C, k, s, CH, sl, CS, pq, cap, fl, len, row, W, w, L, H, R⟩ := X
  unfold ag at hz
  have GF := I.1.1.ok.2.2.1
  have F := CD_F R.1
  have mn := s_many (c := c) (h := h) (b := x + 1) R.1 GF
  rw [H.st] at mn
  have pl := p_len (c := c) H
  have t0 := H.setting (c := c) R.1 (j := 0) (by decide)
  have t1 := H.setting (c := c) R.1 (j := 1) (by decide)
  have t2 := H.setting (c := c) R.1 (j := 2) (by decide)
  rw [show ((0 : Nat) : Int) = 0 from rfl] at t0
  rw [show ((1 : Nat) : Int) = 1 from rfl] at t1
  rw [show ((2 : Nat) : Int) = 2 from rfl] at t2
  unfold fX5_count
  simp only [iI_l, iI_neg]
  by_cases e0 : z = 0
  · subst e0
    simp (decide := true) only [swf, if_true, if_false]
    rw [H.r0, H.rS (by decide), F 5 (by decide)]
    rfl
  by_cases e1 : z = 1
  · subst e1
    simp (decide := true) only [swf, if_true, if_false]
    rw [H.r0, H.rS (by decide), F 6 (by decide)]
    rfl
  by_cases e2 : z = 2
  · subst e2
    simp (decide := true) only [swf, if_true, if_false]
    rw [H.r0, H.ckS, mn]
    rfl
  by_cases e3 : z = 3
  · subst e3
    simp (decide := true) only [swf, if_true, if_false]
    rw [H.r0, H.rS (by decide), F 7 (by decide)]
    rfl
  by_cases e4 : z = 4
  · subst e4
    simp (decide := true) only [swf, if_true, if_false]
    rw [H.r0, H.rS (by decide), F 8 (by decide)]
    rfl
  by_cases e5 : z = 5
  · subst e5
    simp (decide := true) only [swf, if_true, if_false]
    rw [H.r0, H.ckS, t0]
    rfl
  by_cases e6 : z = 6
  · subst e6
    simp (decide := true) only [swf, if_true, if_false]
    rw [H.r0, H.ckS, t1]
    rfl
  by_cases e7 : z = 7
  · subst e7
    simp (decide := true) only [swf, if_true, if_false]
    rw [H.r0, H.ckS, t2]
    rfl
  by_cases e8 : z = 8
  · subst e8
    simp (decide := true) only [swf, if_true, if_false]
    rw [H.r3, ck_e H.p0 rfl, pl]
    rw [R.2.2.2.1]
    rfl
  by_cases e9 : z = 9
  · subst e9
    simp (decide := true) only [swf, if_true, if_false]
    rw [H.r1, rdI_e H.h0 rfl rfl, R.2.1.1]
    rfl
  rw [swf, if_neg (show ¬ iI z = iI 0 from (by rw [eq_i (by omega) (by omega) (by omega) (by omega)]; omega)), swf, if_neg (show ¬ iI z = iI 1 from (by rw [eq_i (by omega) (by omega) (by omega) (by omega)]; omega)), swf, if_neg (show ¬ iI z = iI 2 from (by rw [eq_i (by omega) (by omega) (by omega) (by omega)]; omega)), swf, if_neg (show ¬ iI z = iI 3 from (by rw [eq_i (by omega) (by omega) (by omega) (by omega)]; omega)), swf, if_neg (show ¬ iI z = iI 4 from (by rw [eq_i (by omega) (by omega) (by omega) (by omega)]; omega)), swf, if_neg (show ¬ iI z = iI 5 from (by rw [eq_i (by omega) (by omega) (by omega) (by omega)]; omega)), swf, if_neg (show ¬ iI z = iI 6 from (by rw [eq_i (by omega) (by omega) (by omega) (by omega)]; omega)), swf, if_neg (show ¬ iI z = iI 7 from (by rw [eq_i (by omega) (by omega) (by omega) (by omega)]; omega)), swf, if_neg (show ¬ iI z = iI 8 from (by rw [eq_i (by omega) (by omega) (by omega) (by omega)]; omega)), swf, if_neg (show ¬ iI z = iI 9 from (by rw [eq_i (by omega) (by omega) (by omega) (by omega)]; omega)), swf]
  unfold rCnt
  rw [if_neg e0, if_neg e1, if_neg e2, if_neg e3, if_neg e4, if_neg e5, if_neg e6, if_neg e7, if_neg e8, if_neg e9]
theorem x_linesLeft (K : Kon c fz) (X : WX fz x Z M h) (I : ZI n Z) : Rq fz x M h (fX5_linesLeft c h (some x)) (allI (zD Z)) Z := by
  refine Rq_same K X ?_
  obtain ⟨C, k, s, CH, sl, CS, pq, cap, fl, len, row, W, w, L, H, R⟩ := X
  unfold fX5_linesLeft
  rw [H.r0, H.ckS, H.all R.1 I.1.1.ok.2.2.1 I.1.1.gl.how]
  simp only [cc_s, kI_i]
theorem x_ofReceipt (K : Kon c fz) (X : WX fz x Z M h) (I : ZI n Z) {y z : Int} (hy : ag y) (hz : ag z) : Rq fz x M h (fX5_ofReceipt c h (some x) (iI y) (iI z)) (rRcp (zD Z) y z) Z := by
  refine Rq_same K X ?_
  obtain ⟨C, k, s, CH, sl, CS, pq, cap, fl, len, row, W, w, L, H, R⟩ := X
  have O := I.1.1.ok
  have GF := O.2.2.1
  unfold fX5_ofReceipt fX5_ofReceipt_134 rRcp
  simp only [iI_l, iI_neg]
  rw [H.r0, H.ckS, H.known R.1 GF hy]
  simp only [cc_s, kR_r]
  unfold ag at hz
  rcases recI_c (zD Z) y with e | ⟨r, e, h3, hr, z0, hx⟩
  · rw [e, if_pos rfl, rf_no]
    simp only [ifN]
  · have q := R.1.2.2.2.2 r h3 hr (by omega)
    have g := GF r hr 3 (by decide)
    have isr : isR (zD Z) r := ⟨hr, Or.inr (by omega)⟩
    have rcd := R.1.2.2.2.1 r isr
    have G1 := O.1 r hr
    rw [e, if_neg (by omega), rf_s, Int.toNat_natCast]
    simp only [ifN]
    by_cases e0 : z = 0
    · subst e0
      simp (decide := true) only [swf, if_true, if_false]
      rw [H.rR hr (by decide), q.1.2.2.1]
      rfl
    by_cases e1 : z = 1
    · subst e1
      simp (decide := true) only [swf, if_true, if_false]
      rw [H.rR hr (by decide), q.1.1]
      rfl
    by_cases e2 : z = 2
    · subst e2
      simp (decide := true) only [swf, if_true, if_false]
      rw [H.rR hr (by decide), q.1.2.1]
      rfl
    by_cases e3 : z = 3
    · subst e3
      simp (decide := true) only [swf, if_true, if_false]
      rw [H.rR hr (by decide), rcd.1.1]
      rfl
    by_cases e4 : z = 4
    · subst e4
      simp (decide := true) only [swf, if_true, if_false]
      rw [H.ckR hr, c_struck (H.rc hr) rcd G1 (zero_c I.1.1 hr)]
      rfl
    by_cases e5 : z = 5
    · subst e5
      simp (decide := true) only [swf, if_true, if_false]
      rw [H.ckR hr, c_total H.1.1 (H.rc hr) rcd G1]
      rfl
    by_cases e6 : z = 6
    · subst e6
      simp (decide := true) only [swf, if_true, if_false]
      rw [H.rR hr (by decide), q.1.2.2.2.2.1]
      rfl
    by_cases e7 : z = 7
    · subst e7
      simp (decide := true) only [swf, if_true, if_false]
      rw [H.rR hr (by decide), q.1.2.2.2.2.2]
      rfl
    by_cases e8 : z = 8
    · subst e8
      simp (decide := true) only [swf, if_true, if_false]
      rw [H.rR hr (by decide), q.1.2.2.2.1]
      rfl
    by_cases e9 : z = 9
    · subst e9
      simp (decide := true) only [swf, if_true, if_false]
      rw [H.rR hr (by decide), q.1.2.2.1]
      show _ = (some (h, some (.inl (iI (if gF (zD Z) r 3 = 2 then gF (zD Z) r 6 else -6)))) : Rs)
      by_cases e2 : gF (zD Z) r 3 = 2
      · rw [if_pos (show iI (gF (zD Z) r 3) = iI 2 by rw [e2]), if_pos e2, H.rR hr (by decide), (q.2 e2).1]
      · rw [if_neg (show ¬ iI (gF (zD Z) r 3) = iI 2 from (by rw [eq_i (by omega) (by omega) (by omega) (by omega)]; omega)), if_neg e2]
    rw [swf, if_neg (show ¬ iI z = iI 0 from (by rw [eq_i (by omega) (by omega) (by omega) (by omega)]; omega)), swf, if_neg (show ¬ iI z = iI 1 from (by rw [eq_i (by omega) (by omega) (by omega) (by omega)]; omega)), swf, if_neg (show ¬ iI z = iI 2 from (by rw [eq_i (by omega) (by omega) (by omega) (by omega)]; omega)), swf, if_neg (show ¬ iI z = iI 3 from (by rw [eq_i (by omega) (by omega) (by omega) (by omega)]; omega)), swf, if_neg (show ¬ iI z = iI 4 from (by rw [eq_i (by omega) (by omega) (by omega) (by omega)]; omega)), swf, if_neg (show ¬ iI z = iI 5 from (by rw [eq_i (by omega) (by omega) (by omega) (by omega)]; omega)), swf, if_neg (show ¬ iI z = iI 6 from (by rw [eq_i (by omega) (by omega) (by omega) (by omega)]; omega)), swf, if_neg (show ¬ iI z = iI 7 from (by rw [eq_i (by omega) (by omega) (by omega) (by omega)]; omega)), swf, if_neg (show ¬ iI z = iI 8 from (by rw [eq_i (by omega) (by omega) (by omega) (by omega)]; omega)), swf, if_neg (show ¬ iI z = iI 9 from (by rw [eq_i (by omega) (by omega) (by omega) (by omega)]; omega)), swf]
    unfold wRcp
    rw [if_neg e0, if_neg e1, if_neg e2, if_neg e3, if_neg e4, if_neg e5, if_neg e6, if_neg e7, if_neg e8, if_neg e9]
theorem xor_bit {a i j : Nat} : (a ^^^ 2 ^ i) / 2 ^ j % 2 = if i = j then 1 - a / 2 ^ j % 2 else a / 2 ^ j % 2 := by
  have e1 : ∀ z, z / 2 ^ j % 2 = (z.testBit j).toNat := fun z => by
    rw [Nat.testBit_eq_decide_div_mod_eq]
    have := Nat.mod_lt (z / 2 ^ j) (show 0 < 2 by decide)
    by_cases e : z / 2 ^ j % 2 = 1
    · rw [e]; rfl
    · rw [decide_eq_false e]; simp; omega
  rw [e1, e1, Nat.testBit_xor, Nat.testBit_two_pow]
  by_cases e : i = j
  · rw [if_pos e, decide_eq_true e]; cases a.testBit j <;> rfl
  · rw [if_neg e, decide_eq_false e]; cases a.testBit j <;> rfl
end
