/-! THE CLASS'S CALLS: close, ring, put -/
theorem Sg_fz {fz fz' : Nat → Option Cl} (H : ∀ q e, fz q = some e → fz' q = some e) {s n : Nat} {ch : Nat → Int} (S : Sg fz s n ch) : Sg fz' s n ch := by
  obtain ⟨tg, ba, kk, row, rest, t1, t2, t3, t4⟩ := S
  exact ⟨tg, ba, kk, row, rest, t1, H _ _ t2, H _ _ t3, t4⟩
theorem Kon_fz {c : Nat → Option Nat} {fz fz' : Nat → Option Cl} (H : ∀ q e, fz q = some e → fz' q = some e) (K : Kon c fz) : Kon c fz' := by
  obtain ⟨⟨t0, f0, a0, b0, c0⟩, ⟨t1, f1, a1, b1, c1⟩, ⟨t2, f2, a2, b2, c2⟩, ⟨s0, d0, e0⟩, ⟨s1, d1, e1⟩, ⟨s2, d2, e2⟩, ⟨s3, d3, e3⟩⟩ := K
  exact ⟨⟨t0, f0, a0, H _ _ b0, c0⟩, ⟨t1, f1, a1, H _ _ b1, c1⟩, ⟨t2, f2, a2, H _ _ b2, c2⟩, ⟨s0, d0, Sg_fz H e0⟩, ⟨s1, d1, Sg_fz H e1⟩, ⟨s2, d2, Sg_fz H e2⟩, ⟨s3, d3, Sg_fz H e3⟩⟩
section
variable {c : Nat → Option Nat} {fz : Nat → Option Cl} {x : Nat} {h h' : Hp} {Z : Zt} {C : Ct} {k s : Nat} {CH : Nat → Ct} {sl : Nat → Option Nat} {CS : Nat → Ct} {pq cap : Nat} {fl : Int32} {len : Nat} {row : Nat → Int32} {W w : Int} {L : Ly} {M : Nat → Nat → Int} {n : Int}
theorem HL.w0 (H : HL fz x h C k s CH sl CS pq cap fl len row W w L M) {f : Int32 → Rs} : rdI h (some (x + 475)) 5 0 f = f (iI W) := by
  have := rdI_T0 (h := h) (t := x + 475) (W := W) (w := w) (L := L) (f := f); rw [H.t] at this; exact this
theorem HL.w1 (H : HL fz x h C k s CH sl CS pq cap fl len row W w L M) {f : Int32 → Rs} : rdI h (some (x + 475)) 5 1 f = f (iI L.1) := by
  have := rdI_T1 (h := h) (t := x + 475) (W := W) (w := w) (L := L) (f := f); rw [H.t] at this; exact this
theorem x_close (K : Kon c fz) (X : WX fz x Z M h) (I : ZI n Z) {t p : Int} (ht : ag t) (hp : ag p) : Rz c fz x M h (fX5_close c h (some x) (iI t) (iI p)) (rClo (zD Z) t p) (zClo Z t p) := by
  have X' := X
  obtain ⟨C, k, s, CH, sl, CS, pq, cap, fl, len, row, W, w, L, H, R⟩ := X
  have O := I.1.1.ok
  have GF := O.2.2.1
  have G := I.1.1.gl
  unfold fX5_close fX5_close_69 rClo zClo
  simp only [iI_l, iI_neg]
  rw [H.r0, H.ckS, H.openAt ht]
  simp only [cc_s, kR_r]
  by_cases e : 0 ≤ t ∧ t ≤ 2
  · have hr : t.toNat < 21 := by omega
    have isr : isR (zD Z) t.toNat := ⟨hr, Or.inl (by omega)⟩
    have rcd := R.1.2.2.2.1 _ isr
    have G1 := O.1 _ hr
    have g8 := G1.1
    rw [if_pos e, if_neg (show ¬ ¬ (0 ≤ t ∧ t ≤ 2) by omega), if_neg (show ¬ ¬ (0 ≤ t ∧ t ≤ 2) by omega)]
    simp only [ifN]
    rw [isPrio h hp]
    simp only [cc_s, kI_i]
    by_cases ep : 0 ≤ p ∧ p ≤ 3
    · rw [bI_t ep, if_neg (show ¬ iI 1 = iI 0 by decide), if_neg (show ¬ ¬ (0 ≤ p ∧ p ≤ 3) by omega), if_neg (show ¬ ¬ (0 ≤ p ∧ p ≤ 3) by omega), H.rR hr (by decide), rcd.1.1]
      by_cases e8 : gF (zD Z) t.toNat 8 = 0
      · rw [if_pos (show iI (gF (zD Z) t.toNat 8) = iI 0 by rw [e8]), if_pos e8, if_pos e8]
        exact Rz_same K X' rfl
      · have fp := s_free (c := c) (h := h) (b := x + 1) R.1 GF
        rw [H.st] at fp
        have c6 : cF C 6 = gT (zD Z) 4 := CD_F R.1 6 (by decide)
        have c7 : cF C 7 = gT (zD Z) 5 := CD_F R.1 7 (by decide)
        have gb := G.2.1
        have g4 := I.1.1.2.1
        unfold RgT at g4
        have m0 := many_0 (D := zD Z) 0
        have m1 := many_0 (D := zD Z) 1
        rw [if_neg (show ¬ iI (gF (zD Z) t.toNat 8) = iI 0 from (by rw [eq_i (by omega) (by omega) (by omega) (by omega)]; omega)), if_neg e8, if_neg e8, H.r0, H.ckS, fp]
        simp only [cc_s, kR_r]
        by_cases e10 : manyI (zD Z) 0 + manyI (zD Z) 1 = 10
        · rw [if_pos e10, if_pos e10]
          have big : ∀ o : Rs, (rdR h (some x) 7 0 fun r10 => rdI h r10 6 6 fun x11 => rdR h (some x) 7 0 fun r12 => rdI h r12 6 7 fun x13 => if x11 - x13 < iI 10 then o else some (h, some (.inl (iI (-4))))) = some (h, some (.inl (iI (-4)))) := fun o => by
            rw [H.r0, H.rS (by decide), c6, H.r0, H.rS (by decide), c7, iI_sub, if_neg (show ¬ iI (gT (zD Z) 4 - gT (zD Z) 5) < iI 10 from (by rw [lt_i (by omega) (by omega) (by omega) (by omega)]; omega))]
          by_cases ef : freeI (zD Z) = -6
          · rw [ef, rf_no]
            simp only [ifN]
            exact Rz_same K X' rfl
          · obtain ⟨r, er, r3, hr', hf⟩ := freeI_c ef
            rw [er, rf_s]
            simp only [ifN]
            refine Rz_same K X' ?_
            rw [H.r0, H.rS (by decide), c6, H.r0, H.rS (by decide), c7, iI_sub, if_neg (show ¬ iI (gT (zD Z) 4 - gT (zD Z) 5) < iI 10 from (by rw [lt_i (by omega) (by omega) (by omega) (by omega)]; omega))]
        · obtain ⟨r, er, r3, hr', hf⟩ := freeI_c (Gl_free G e10)
          obtain ⟨h1, k1, s1, CH1, e4, H1, R1, n1⟩ := w_remember (c := c) H R O.1
          obtain ⟨L', l1, l2, l3, l4⟩ := w_lay K H1 R.1 I.1.1 isr (v := -1) ⟨by decide, by decide⟩
          have H2 := HL_sheet H1 (wdI (zD Z) t.toNat) (-1) L'
          have H3 := HL_now H2 (sCF C 6 (gT (zD Z) 4 + 1))
          have rt : t.toNat ≠ r := by omega
          have cp := cp_receipt (c := c) (h := hT h1 (x + 475) (wdI (zD Z) t.toNat) (-1) L') (fz := fz) (b := x + 1) (r := r) (C := sCF C 6 (gT (zD Z) 4 + 1)) (p := x + 1 + 4 + 3 * t.toNat) (R := cR C t.toNat) (G := cG C t.toNat) (E := cE C t.toNat) hr' (fun R' G' E' => (HL_now H2 _).1.1) (fun R' G' E' => by
            have := hS_Rc (h := hT h1 (x + 475) (wdI (zD Z) t.toNat) (-1) L') (b := x + 1) (r := t.toNat) (C := upR (sCF C 6 (gT (zD Z) 4 + 1)) r R' G' E') hr
            rw [cR_up, if_neg rt, cG_up, if_neg rt, cE_up, if_neg rt] at this
            exact this) (fun i hi => CD_el R.1 t.toNat i hr hi)
          have H4 := HL_now H2 (cpR (sCF C 6 (gT (zD Z) 4 + 1)) r (cR C t.toNat) (cG C t.toNat) (cE C t.toNat))
          rw [if_neg e10, if_neg e10, er, rf_s]
          simp only [ifN]
          rw [H.r0, H.rS (by decide), c6, H.r0, H.rS (by decide), c7, iI_sub, if_pos (show iI (gT (zD Z) 4 - gT (zD Z) 5) < iI 10 from (by rw [lt_i (by omega) (by omega) (by omega) (by omega)]; omega)), H.r1, H.r0, ck_e H.h0 rfl, e4]
          simp only [cc_s, kV_n]
          have QF := CD_close (p := p) R.1 I.1.1 r3 hr' (show t.toNat < 3 by omega) hf
          rw [Int.toNat_natCast]
          refine Rz_do K H2 R1 QF n1 ?_
          have ew : wdI (zD Z) t.toNat = gT (zD Z) 0 := if_pos (by omega)
          rw [H1.ck, l1]
          simp only [cc_s, kI_i]
          rw [H2.r0, H2.rS (by decide), c6, iI_add, H2.wS (by decide), H3.ckR hr', cp]
          simp only [cc_s, kV_n]
          rw [H4.r0, H4.rS (by decide), show cF (cpR (sCF C 6 (gT (zD Z) 4 + 1)) r (cR C t.toNat) (cG C t.toNat) (cE C t.toNat)) 6 = gT (zD Z) 4 + 1 from rfl, H4.r4, H4.w0, H4.r4, H4.w1, l2, H4.ckR hr', show iI t = iI ((t.toNat : Nat) : Int) by rw [show ((t.toNat : Nat) : Int) = t by omega], s_closeAs hr']
          simp only [cc_s, kV_n]
          have H5 := HL_now H2 (sCR (sCR (sCR (sCR (sCR (sCR (sCR (cpR (sCF C 6 (gT (zD Z) 4 + 1)) r (cR C t.toNat) (cG C t.toNat) (cE C t.toNat)) r 0 (gT (zD Z) 4 + 1)) r 1 t.toNat) r 2 p) r 3 0) r 4 (wdI (zD Z) t.toNat)) r 5 (lnI (zD Z) t.toNat)) r 6 0)
          rw [H5.ckR hr, s_clear hr]
          simp only [cc_s, kV_n]
          have H6 := HL_now H2 (closC C r t.toNat (gT (zD Z) 4 + 1) t.toNat p (gT (zD Z) 0) (lnI (zD Z) t.toNat))
          have eC : clC (sCR (sCR (sCR (sCR (sCR (sCR (sCR (cpR (sCF C 6 (gT (zD Z) 4 + 1)) r (cR C t.toNat) (cG C t.toNat) (cE C t.toNat)) r 0 (gT (zD Z) 4 + 1)) r 1 t.toNat) r 2 p) r 3 0) r 4 (wdI (zD Z) t.toNat)) r 5 (lnI (zD Z) t.toNat)) r 6 0) t.toNat = closC C r t.toNat (gT (zD Z) 4 + 1) t.toNat p (gT (zD Z) 0) (lnI (zD Z) t.toNat) := by rw [ew]; rfl
          rw [eC, H6.r0, H6.rS (by decide), clos_F, if_pos rfl]
    · rw [bI_f ep, if_pos rfl, if_pos ep, if_pos ep]
      exact Rz_same K X' rfl
  · rw [if_neg e, if_pos e, if_pos e]
    simp only [ifN]
    exact Rz_same K X' rfl
/-- new cells become such that never change -/
theorem HL_ext {fz' : Nat → Option Cl} (H : HL fz x h C k s CH sl CS pq cap fl len row W w L M) (hA : ∀ q, q < h.2.1 → h'.1 q = h.1 q) (hN : h.2.1 ≤ h'.2.1) (old : ∀ q, q < h.2.1 → fz' q = fz q) (new : ∀ q e, fz' q = some e → h.2.1 ≤ q → h'.1 q = some e ∧ q < h'.2.1) : HL fz' x h' C k s CH sl CS pq cap fl len row W w L M := by
  have H' := HL_new (h' := h') H hN hA rfl
  obtain ⟨⟨a1, a2, a3, a4⟩, b, ⟨c1, c2, c3⟩, ⟨d1, d2, d3⟩, ⟨e1, e2, e3, e4, e5, e6⟩, g1, g2⟩ := H'
  have q4 := H.1.2.2.2
  have qd := H.2.2.2.1.2.1
  have qe := H.2.2.2.2.1.2.2.2.1
  refine ⟨⟨fun q e he => ?_, fun q e he => ?_, by rw [old x (by omega)]; exact a3, a4⟩, b, ⟨c1, c2, c3⟩, ⟨d1, fun i q hi hq => ?_, d3⟩, ⟨e1, e2, e3, e4, by rw [old pq qe]; exact e5, e6⟩, g1, g2⟩
  · by_cases e1 : q < h.2.1
    · rw [old q e1] at he; exact a1 q e he
    · exact (new q e he (by omega)).1
  · by_cases e1 : q < h.2.1
    · rw [old q e1] at he; exact a2 q e he
    · exact ⟨(new q e he (by omega)).2, by omega⟩
  · have := d2 i q hi hq
    have b2 := qd i q hi hq
    exact ⟨this.1, this.2.1, fun j hj => by rw [old (q + j) (by omega)]; exact this.2.2.1 j hj, this.2.2.2⟩
theorem RZ_fz {fz' : Nat → Option Cl} (H : ∀ q e, fz q = some e → fz' q = some e) (R : RZ fz Z C k s CH sl CS cap len row) : RZ fz' Z C k s CH sl CS cap len row := by
  obtain ⟨q, ⟨r1, r2, r3, r4⟩, r5, r6⟩ := R
  exact ⟨CD_fz q H, ⟨r1, r2, r3, fun j hj => CD_fz (r4 j hj) H⟩, fun i hi => ⟨(r5 i hi).1, (r5 i hi).2.1, fun e => CD_fz ((r5 i hi).2.2 e) H⟩, r6⟩
theorem upH_upH (h : Hp) (a : Nat) (e e' : Cl) : upH (upH h a e) a e' = upH h a e' := by
  refine Prod.ext (funext fun q => ?_) rfl
  show (if q = a then some e' else if q = a then some e else h.1 q) = if q = a then some e' else h.1 q
  split <;> rfl
theorem x_ring (K : Kon c fz) (X : WX fz x Z M h) (I : ZI n Z) {t m p v : Int} (ht : ag t) (hm : ag m) (hp : ag p) (hv : ag v) : Rz c fz x M h (fX5_ring c h (some x) (iI t) (iI m) (iI p) (iI v)) (rRing Z t m p v) (zRing Z t m p v) := by
  have X' := X
  obtain ⟨C, k, s, CH, sl, CS, pq, cap, fl, len, row, W, w, L, H, R⟩ := X
  have O := I.1.1.ok
  have K' := K
  obtain ⟨-, -, ⟨t2, f2, c2, z2, v2⟩, -⟩ := K
  have fb := flI_bd Z
  have l80 := I.2.2.1
  unfold ag at hm hp hv
  unfold fX5_ring fX5_ring_66 rRing zRing
  simp only [iI_l, iI_neg]
  rw [H.r0, H.ckS, H.openAt ht]
  simp only [cc_s, kR_r]
  by_cases e : 0 ≤ t ∧ t ≤ 2
  · have hr : t.toNat < 21 := by omega
    have isr : isR (zD Z) t.toNat := ⟨hr, Or.inl (by omega)⟩
    have rcd := R.1.2.2.2.1 _ isr
    have G1 := O.1 _ hr
    have g8 := G1.1
    rw [if_pos e, if_neg (show ¬ ¬ (0 ≤ t ∧ t ≤ 2) by omega), if_neg (show ¬ ¬ (0 ≤ t ∧ t ≤ 2) by omega)]
    simp only [ifN]
    rw [H.ck, w_fault H R I.2.2.2 I.2.2.1]
    simp only [cc_s, kI_i]
    by_cases ef : flI Z = -6
    · rw [if_pos (show iI (flI Z) = iI (-6) by rw [ef]), if_neg (show ¬ (flI Z ≠ -6) by omega), if_neg (show ¬ (flI Z ≠ -6) by omega)]
      by_cases a1 : m < 1
      · rw [if_pos (show iI m < iI 1 from (by rw [lt_i (by omega) (by omega) (by omega) (by omega)]; omega)), if_pos (show ¬ (1 ≤ m ∧ m ≤ 99) by omega), if_pos (show ¬ (1 ≤ m ∧ m ≤ 99) by omega)]
        exact Rz_same K' X' rfl
      rw [if_neg (show ¬ iI m < iI 1 from (by rw [lt_i (by omega) (by omega) (by omega) (by omega)]; omega))]
      by_cases a2 : 99 < m
      · rw [if_pos (show iI 99 < iI m from (by rw [lt_i (by omega) (by omega) (by omega) (by omega)]; omega)), if_pos (show ¬ (1 ≤ m ∧ m ≤ 99) by omega), if_pos (show ¬ (1 ≤ m ∧ m ≤ 99) by omega)]
        exact Rz_same K' X' rfl
      rw [if_neg (show ¬ iI 99 < iI m from (by rw [lt_i (by omega) (by omega) (by omega) (by omega)]; omega)), if_neg (show ¬ ¬ (1 ≤ m ∧ m ≤ 99) by omega), if_neg (show ¬ ¬ (1 ≤ m ∧ m ≤ 99) by omega)]
      by_cases a3 : p < 1
      · rw [if_pos (show iI p < iI 1 from (by rw [lt_i (by omega) (by omega) (by omega) (by omega)]; omega)), if_pos (show ¬ (1 ≤ p ∧ p ≤ 9999) by omega), if_pos (show ¬ (1 ≤ p ∧ p ≤ 9999) by omega)]
        exact Rz_same K' X' rfl
      rw [if_neg (show ¬ iI p < iI 1 from (by rw [lt_i (by omega) (by omega) (by omega) (by omega)]; omega))]
      by_cases a4 : 9999 < p
      · rw [if_pos (show iI 9999 < iI p from (by rw [lt_i (by omega) (by omega) (by omega) (by omega)]; omega)), if_pos (show ¬ (1 ≤ p ∧ p ≤ 9999) by omega), if_pos (show ¬ (1 ≤ p ∧ p ≤ 9999) by omega)]
        exact Rz_same K' X' rfl
      rw [if_neg (show ¬ iI 9999 < iI p from (by rw [lt_i (by omega) (by omega) (by omega) (by omega)]; omega)), if_neg (show ¬ ¬ (1 ≤ p ∧ p ≤ 9999) by omega), if_neg (show ¬ ¬ (1 ≤ p ∧ p ≤ 9999) by omega)]
      by_cases a5 : v < 0
      · rw [if_pos (show iI v < iI 0 from (by rw [lt_i (by omega) (by omega) (by omega) (by omega)]; omega)), if_pos (show ¬ (0 ≤ v ∧ v ≤ 2) by omega), if_pos (show ¬ (0 ≤ v ∧ v ≤ 2) by omega)]
        exact Rz_same K' X' rfl
      rw [if_neg (show ¬ iI v < iI 0 from (by rw [lt_i (by omega) (by omega) (by omega) (by omega)]; omega)), c2, lenA_e (H.1.1 _ _ z2)]
      by_cases a6 : 2 < v
      · rw [if_neg (show ¬ iI v < iI ((3 : Nat) : Int) from (by rw [lt_i (by omega) (by omega) (by omega) (by omega)]; omega)), if_pos (show ¬ (0 ≤ v ∧ v ≤ 2) by omega), if_pos (show ¬ (0 ≤ v ∧ v ≤ 2) by omega)]
        exact Rz_same K' X' rfl
      rw [if_pos (show iI v < iI ((3 : Nat) : Int) from (by rw [lt_i (by omega) (by omega) (by omega) (by omega)]; omega)), if_neg (show ¬ ¬ (0 ≤ v ∧ v ≤ 2) by omega), if_neg (show ¬ ¬ (0 ≤ v ∧ v ≤ 2) by omega), H.rR hr (by decide), rcd.1.1]
      by_cases a7 : gF (zD Z) t.toNat 8 = 12
      · rw [if_neg (show ¬ iI (gF (zD Z) t.toNat 8) < iI 12 from (by rw [lt_i (by omega) (by omega) (by omega) (by omega)]; omega)), if_pos a7, if_pos a7]
        exact Rz_same K' X' rfl
      rw [if_pos (show iI (gF (zD Z) t.toNat 8) < iI 12 from (by rw [lt_i (by omega) (by omega) (by omega) (by omega)]; omega)), if_neg a7, if_neg a7]
      obtain ⟨h1, k1, s1, CH1, e4, H1, R1, n1⟩ := w_remember (c := c) H R O.1
      have fl6 := flI_6 ef
      have cl := I.1.1.cln t.toNat (by omega) (by omega)
      have R1' := R1
      obtain ⟨r0, -, -, r3, r4, r5, r6, r7⟩ := R1
      have r3' : len = zl Z := r3.trans (by unfold zRec; split <;> rfl)
      have zpe : zp (zRec Z) = zp Z := by unfold zRec; split <;> rfl
      -- the new cells
      have H2 := HL_push H1 (.inr (3, dfC 3)) 4
      obtain ⟨h3, row', t1, t2', t3, t4, t5, t6, t7⟩ := p_text (c := c) H2 r4 r5 r7
      have q2 : (pushH h1 (.inr (3, dfC 3)) 4).2.1 = h1.2.1 + 1 := rfl
      have q2s : (pushH h1 (.inr (3, dfC 3)) 4).2.2 = h1.2.2 + 4 := rfl
      rw [q2] at t1 t2' t3 t4 t6
      rw [q2s] at t7
      have c0 : h3.1 h1.2.1 = some (.inr (3, dfC 3)) := (t2' h1.2.1 (by omega)).trans (if_pos rfl)
      obtain ⟨h4, eh4⟩ : ∃ h4, h4 = upH h3 h1.2.1 (.inr (3, [.inr (.inr (some (h1.2.1 + 1))), .inl (iI m), .inl (iI p), .inl (iI v)])) := ⟨_, rfl⟩
      have mk : fX1_init c h3 (some h1.2.1) (some (h1.2.1 + 1)) (iI m) (iI p) (iI v) = some (h4, none) := by
        unfold fX1_init
        simp only [dn]
        rw [wr_e (c := 3) (k := 0) (v := .inr (.inr (some (h1.2.1 + 1)))) c0 (by decide) (by decide) rfl, wr_e (c := 3) (k := 1) (v := .inl (iI m)) upH_at (by decide) (by show 1 < 4; decide) rfl, upH_upH, wr_e (c := 3) (k := 2) (v := .inl (iI p)) upH_at (by decide) (by show 2 < 4; decide) rfl, upH_upH, wr_e (c := 3) (k := 3) (v := .inl (iI v)) upH_at (by decide) (by show 3 < 4; decide) rfl, upH_upH, eh4]
        rfl
      obtain ⟨fz', efz⟩ : ∃ fz' : Nat → Option Cl, fz' = fun q => if q = h1.2.1 then some (.inr (3, [.inr (.inr (some (h1.2.1 + 1))), .inl (iI m), .inl (iI p), .inl (iI v)])) else if q = h1.2.1 + 1 then some (.inr (0, [.inr (.inr (some (h1.2.1 + 1 + 1))), .inl (iI 0), .inl (iI 0), .inl (iI 0)])) else if q = h1.2.1 + 1 + 1 then some (.inl (1, len, .inl row')) else fz q := ⟨_, rfl⟩
      have fold : ∀ q, q < h1.2.1 → fz' q = fz q := fun q hq => by rw [efz]; show (if _ then _ else if _ then _ else if _ then _ else _) = _; rw [if_neg (by omega), if_neg (by omega), if_neg (by omega)]
      have f0 : fz' h1.2.1 = some (.inr (3, [.inr (.inr (some (h1.2.1 + 1))), .inl (iI m), .inl (iI p), .inl (iI v)])) := by rw [efz]; exact if_pos rfl
      have f1 : fz' (h1.2.1 + 1) = some (.inr (0, [.inr (.inr (some (h1.2.1 + 1 + 1))), .inl (iI 0), .inl (iI 0), .inl (iI 0)])) := by rw [efz]; exact (if_neg (by omega)).trans (if_pos rfl)
      have f3 : fz' (h1.2.1 + 1 + 1) = some (.inl (1, len, .inl row')) := by rw [efz]; exact (if_neg (by omega)).trans ((if_neg (by omega)).trans (if_pos rfl))
      have sub : ∀ q e, fz q = some e → fz' q = some e := fun q e he => by rw [fold q (H1.1.2.1 q e he).1]; exact he
      have u4 : ∀ q, h4.1 q = if q = h1.2.1 then some (.inr (3, [.inr (.inr (some (h1.2.1 + 1))), .inl (iI m), .inl (iI p), .inl (iI v)])) else h3.1 q := fun q => by rw [eh4]; rfl
      have s4 : h4.2 = h3.2 := by rw [eh4]; rfl
      have H4 : HL fz' x h4 C k1 s1 CH1 sl CS pq cap fl len row W w L M := HL_ext (h' := h4) H1 (fun q hq => by
        rw [u4, if_neg (by omega), t2' q (by omega)]; exact if_neg (by omega)) (by rw [s4, t6]; omega) fold (fun q e he hq => by
        rw [s4, t6, u4]
        rw [efz] at he
        change (if q = h1.2.1 then _ else if q = h1.2.1 + 1 then _ else if q = h1.2.1 + 1 + 1 then _ else fz q) = some e at he
        by_cases b0 : q = h1.2.1
        · rw [if_pos b0] at he ⊢; exact ⟨he, by omega⟩
        · rw [if_neg b0] at he ⊢
          by_cases b1 : q = h1.2.1 + 1
          · rw [if_pos b1] at he; rw [b1, t3]; exact ⟨he, by omega⟩
          · rw [if_neg b1] at he
            by_cases b2 : q = h1.2.1 + 1 + 1
            · rw [if_pos b2] at he; rw [b2, t4]; exact ⟨he, by omega⟩
            · rw [if_neg b2] at he
              have := (H1.1.2.1 q e he).1; omega)
      have itF : ItF fz' h1.2.1 (itm m p v (zl Z)) (nmK (zp Z) (zl Z)) := by
        refine ⟨h1.2.1 + 1, f0, 0, h1.2.1 + 1 + 1, 1, row', [.inl (iI 0), .inl (iI 0)], Or.inl rfl, f1, ?_, Or.inl rfl, ?_, fun j hj => ?_⟩
        · show fz' (h1.2.1 + 1 + 1) = some (.inl (1, ((zl Z : Int)).toNat, .inl row'))
          rw [Int.toNat_natCast, ← r3']; exact f3
        · show ((zl Z : Int)).toNat < 1000
          rw [Int.toNat_natCast]; omega
        · change j < ((zl Z : Int)).toNat at hj
          rw [Int.toNat_natCast] at hj
          have hz := (fl6.2 j hj)
          have ec : chr (nmK (zp Z) (zl Z) j) = zp Z j := by
            unfold nmK
            rw [if_pos hj]
            unfold chr cod
            split <;> split at * <;> omega
          show row' j = iI (chr (nmK (zp Z) (zl Z) j)) ∧ 0 ≤ chr (nmK (zp Z) (zl Z) j) ∧ chr (nmK (zp Z) (zl Z) j) < 128
          rw [ec, t5 j (by omega), r6 j (by omega), zpe]
          exact ⟨rfl, by omega, by omega⟩
      have QR := CD_ring (CD_fz R.1 sub) I.1.1 (show t.toNat < 3 by omega) (by omega) itF ef (by omega) (by omega) (by omega)
      have fs : ∃ fs, (hS h4 (x + 1) C).1 h1.2.1 = some (.inr (3, fs)) := ⟨_, by rw [H4.st]; exact H4.1.1 _ _ f0⟩
      obtain ⟨fs, efs⟩ := fs
      have ad := s_addItem (c := c) (h := h4) (b := x + 1) (C := C) (t := t.toNat) (i := gF (zD Z) t.toNat 8) (e := gF (zD Z) t.toNat 9) (q := h1.2.1) hr rcd.1.1 rcd.1.2.1 (by omega) (by omega) (by omega) cl.1 efs
      rw [H4.st] at ad
      have H5 := HL_now H4 (rgC C t.toNat (gF (zD Z) t.toNat 8) (gF (zD Z) t.toNat 9) h1.2.1)
      obtain ⟨h6, fl', e6, H6, n6⟩ := p_clear (c := c) H5 r5 r4
      refine ⟨h6, fz', ?_, ⟨_, k1, s1, CH1, sl, CS, pq, cap, fl', 0, row, W, w, L, H6, ?_⟩, ⟨Kon_fz sub K', sub⟩, ?_, ?_, ?_⟩
      · rw [H.r1, H.r0, ck_e H.h0 rfl, e4]
        simp only [cc_s, kV_n]
        rw [H1.rR hr (by decide), rcd.1.1]
        unfold nwO
        rw [show nmC 3 = 4 from rfl]
        dsimp only
        rw [H2.r3, ck_e H2.p0 rfl, t1]
        simp only [cc_s, kR_r, dn]
        rw [mk]
        simp only [cc_s, kV_n]
        rw [H4.ckR hr, ad]
        simp only [cc_s, kV_n]
        rw [H5.r3, ck_e H5.p0 rfl, e6]
        simp only [cc_s, kV_n]
      · obtain ⟨q0, q1, q2, q3, q4, q5, q6, q7⟩ := RZ_fz sub R1'
        exact ⟨QR, q1, q2, rfl, Nat.zero_le _, q5, fun j hj => by omega, q7⟩
      · rw [n6]; show h.2.1 ≤ h4.2.1; rw [s4, t6, n1]; omega
      · rw [n6]; show h4.2.1 ≤ _; rw [s4, t6, n1]; omega
      · rw [n6]; show h4.2.2 ≤ _; rw [s4]; rw [n1] at t7; omega
    · rw [if_neg (show ¬ iI (flI Z) = iI (-6) from (by rw [eq_i (by omega) (by omega) (by omega) (by omega)]; omega)), if_pos (show flI Z ≠ -6 from ef), if_pos (show flI Z ≠ -6 from ef)]
      exact Rz_same K' X' rfl
  · rw [if_neg e, if_pos e, if_pos e]
    simp only [ifN]
    exact Rz_same K' X' rfl
end
