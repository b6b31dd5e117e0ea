/-! A STATE of the class: printing -/
theorem RcD_cg {fz : Nat → Option Cl} {R R' : Nat → Int} {G : Nat → Option Nat} {E : Nat → Int} {D D' : Dt} {r : Nat} (H : RcD fz R G E D r) (h8 : gF D' r 8 = gF D r 8) (h9 : gF D' r 9 = gF D r 9) (hP : gP D' r = gP D r) (hN : gN' D' r = gN' D r) (hE : gE D' r = gE D r) (r9 : R' 9 = R 9) (r10 : R' 10 = R 10) (r11 : R' 11 = R 11) : RcD fz R' G E D' r := by
  have e1 : nIt D' r = nIt D r := by unfold nIt; rw [h8]
  have e2 : nEt D' r = nEt D r := by unfold nEt; rw [h9]
  have e3 : mskI D' r = mskI D r := by unfold mskI; rw [hP]
  unfold RcD at H ⊢
  rw [e1, e2, e3, h8, h9, hP, hN, hE, r9, r10, r11]
  exact H
/-- the same kept of a record -/
def sk (C C' : Ct) (r : Nat) : Prop := cR C' r 9 = cR C r 9 ∧ cR C' r 10 = cR C r 10 ∧ cR C' r 11 = cR C r 11 ∧ cG C' r = cG C r ∧ cE C' r = cE C r
def tF (D : Dt) (k : Nat) : Int := if k = 0 then gT D 7 else if k = 1 then gT D 8 else if k = 2 then gT D 9 else if k = 3 then gT D 10 else if k = 4 then gT D 11 else if k = 5 then gT D 3 else if k = 6 then gT D 4 else if k = 7 then gT D 5 else if k = 8 then gT D 6 else pnI D
theorem CD_F {fz : Nat → Option Cl} {C : Ct} {D : Dt} (Q : CD fz C D) : ∀ k, k < 10 → cF C k = tF D k := by
  intro k hk
  obtain ⟨-, ⟨q0, q1, q2, q3, q4, q5, q6, q7, q8, q9, -⟩, -⟩ := Q
  obtain rfl | rfl | rfl | rfl | rfl | rfl | rfl | rfl | rfl | rfl : k = 0 ∨ k = 1 ∨ k = 2 ∨ k = 3 ∨ k = 4 ∨ k = 5 ∨ k = 6 ∨ k = 7 ∨ k = 8 ∨ k = 9 := by omega
  all_goals assumption
theorem CD_el {fz : Nat → Option Cl} {C : Ct} {D : Dt} (Q : CD fz C D) : ∀ r i, r < 21 → i < 12 → el fz (cG C r i) := Q.2.1.2.2.2.2.2.2.2.2.2.2
theorem CD_of {fz : Nat → Option Cl} {C C' : Ct} {D D' : Dt} (Q : CD fz C D) (hG : ∀ r i, r < 21 → i < 12 → el fz (cG C' r i)) (hT : ∀ k, k < 3 → cT C' k = gT D' k) (hF : ∀ k, k < 10 → cF C' k = tF D' k) (hN : ∀ r, r < 21 → cR C' r 0 = gF D' r 0) (hS : ∀ r, isR D' r → isR D r ∧ gF D' r 8 = gF D r 8 ∧ gF D' r 9 = gF D r 9 ∧ gP D' r = gP D r ∧ gN' D' r = gN' D r ∧ gE D' r = gE D r ∧ sk C C' r)
    (hL : ∀ r, 3 ≤ r → r < 21 → 0 < gF D' r 0 → (cR C' r 1 = gF D' r 1 ∧ cR C' r 2 = gF D' r 2 ∧ cR C' r 3 = gF D' r 3 ∧ cR C' r 4 = gF D' r 4 ∧ cR C' r 5 = lnI D' r ∧ cR C' r 6 = gF D' r 5) ∧ (gF D' r 3 = 2 → cR C' r 7 = gF D' r 6 ∧ cR C' r 8 = gF D' r 7 - 1)) : CD fz C' D' := by
  refine ⟨hT, ⟨hF 0 (by decide), hF 1 (by decide), hF 2 (by decide), hF 3 (by decide), hF 4 (by decide), hF 5 (by decide), hF 6 (by decide), hF 7 (by decide), hF 8 (by decide), hF 9 (by decide), hG⟩, hN, fun r hr => ?_, hL⟩
  obtain ⟨i, h8, h9, hP, hN, hE, k9, k10, k11, kG, kE⟩ := hS r hr
  have := RcD_cg (Q.2.2.2.1 r i) h8 h9 hP hN hE k9 k10 k11
  rw [kG, kE]
  exact this
theorem cF_s (C : Ct) (k j : Nat) (v : Int) : cF (sCF C k v) j = if j = k then v else cF C j := rfl
theorem cR_sF (C : Ct) (k : Nat) (v : Int) : cR (sCF C k v) = cR C := rfl
theorem cF_sR (C : Ct) (r k : Nat) (v : Int) : cF (sCR C r k v) = cF C := rfl
theorem cR_sk (C : Ct) (r k q j : Nat) (v : Int) : cR (sCR C r k v) q j = if q = r ∧ j = k then v else cR C q j := by
  rw [cR_s]
  by_cases e : q = r
  · rw [if_pos e]; unfold st
    by_cases e2 : j = k
    · rw [if_pos e2, if_pos ⟨e, e2⟩]
    · rw [if_neg e2, if_neg (fun h => e2 h.2)]
  · rw [if_neg e, if_neg (fun h => e h.1)]
theorem sk_R {C : Ct} {r k q : Nat} {v : Int} (h : k < 9) : sk C (sCR C r k v) q := ⟨by rw [cR_sk, if_neg (by omega)], by rw [cR_sk, if_neg (by omega)], by rw [cR_sk, if_neg (by omega)], rfl, rfl⟩
theorem sk_o {C : Ct} {r k q : Nat} {v : Int} (h : q ≠ r) : sk C (sCR C r k v) q := ⟨by rw [cR_sk, if_neg (by omega)], by rw [cR_sk, if_neg (by omega)], by rw [cR_sk, if_neg (by omega)], rfl, rfl⟩
theorem sk_F {C : Ct} {k q : Nat} {v : Int} : sk C (sCF C k v) q := ⟨rfl, rfl, rfl, rfl, rfl⟩
theorem sk.tr {C C' C'' : Ct} {q : Nat} (h : sk C C' q) (h' : sk C' C'' q) : sk C C'' q := ⟨h'.1.trans h.1, h'.2.1.trans h.2.1, h'.2.2.1.trans h.2.2.1, h'.2.2.2.1.trans h.2.2.2.1, h'.2.2.2.2.trans h.2.2.2.2⟩
/-- a total is changed on both sides -/
theorem CD_T {fz : Nat → Option Cl} {C : Ct} {D : Dt} (Q : CD fz C D) {j k : Nat} {v : Int} (hj : j < 9) (h : ∀ i, i < 10 → tF (sT D k v) i = if i = j then v else tF D i) (hk : 3 ≤ k) : CD fz (sCF C j v) (sT D k v) :=
  CD_of Q (show ∀ r i, r < 21 → i < 12 → el fz (cG C r i) from CD_el Q) (fun i hi => by rw [gT_sT, if_neg (by omega)]; exact Q.1 i hi) (fun i hi => by rw [cF_s, h i hi, CD_F Q i hi]) Q.2.2.1 (fun r hr => ⟨hr, rfl, rfl, rfl, rfl, rfl, sk_F⟩) (fun r h3 hr n => by
    rw [(sm_T D k v r).ln h3]
    exact Q.2.2.2.2 r h3 hr n)
theorem pn_no {D : Dt} (h : prtI D = -6) : pnI D = 0 := if_pos h
theorem pn_at {D : Dt} {r : Nat} (h : prtI D = r) : pnI D = gF D r 0 := by unfold pnI; rw [if_neg (by omega), h, Int.toNat_natCast]
section
variable {c : Nat → Option Nat} {h : Hp} {fz : Nat → Option Cl} {b : Nat} {C : Ct} {D : Dt} {r : Nat} {n : Int}
theorem CD_take (Q : CD fz C D) (G : Gl D) (h3 : 3 ≤ r) (hr : r < 21) (h0 : hwP D 0 r = true) (hp : prtI D = -6) : CD fz (sCF (sCR C r 3 1) 9 (gF D r 0)) (sFl D r 3 1) := by
  have n := hwP_t.mp h0
  have Gt := Gl_take G h3 hr h0 hp
  have hw : hwP (sFl D r 3 1) 1 r = true := by rw [hwP_t, gF_sFl, if_neg (by omega), gF_sFl, if_pos ⟨rfl, rfl⟩]; exact ⟨n.1, rfl⟩
  have pn : pnI (sFl D r 3 1) = gF D r 0 := by rw [pn_at (prt_of Gt.one h3 hr hw), gF_sFl, if_neg (by omega)]
  have F : ∀ q j, j ≠ 3 → gF (sFl D r 3 1) q j = gF D q j := fun q j e => by rw [gF_sFl, if_neg (by omega)]
  refine CD_of Q (show ∀ r i, r < 21 → i < 12 → el fz (cG C r i) from CD_el Q) Q.1 (fun i hi => ?_) (fun q hq => ?_) (fun q hq => ⟨by unfold isR at hq ⊢; rw [F q 0 (by decide)] at hq; exact hq, F q 8 (by decide), F q 9 (by decide), rfl, rfl, rfl, (sk_R (by decide)).tr sk_F⟩) (fun q q3 hq nq => ?_)
  · rw [cF_s, cF_sR]
    by_cases e : i = 9
    · rw [if_pos e, e]; exact pn.symm
    · rw [if_neg e, CD_F Q i hi]
      unfold tF
      rw [pn]
      obtain rfl | rfl | rfl | rfl | rfl | rfl | rfl | rfl | rfl : i = 0 ∨ i = 1 ∨ i = 2 ∨ i = 3 ∨ i = 4 ∨ i = 5 ∨ i = 6 ∨ i = 7 ∨ i = 8 := by omega
      all_goals rfl
  · rw [cR_sF, cR_sk, if_neg (by omega), F q 0 (by decide)]; exact Q.2.2.1 q hq
  · rw [F q 0 (by decide)] at nq
    have := Q.2.2.2.2 q q3 hq nq
    rw [cR_sF, lnI_F (by decide) (by decide) (by decide) (by decide)]
    simp only [cR_sk]
    rw [F q 1 (by decide), F q 2 (by decide), F q 4 (by decide), F q 5 (by decide), F q 6 (by decide), F q 7 (by decide)]
    rw [gF_sFl]
    simp (decide := true) only [and_false, and_true, if_false]
    refine ⟨⟨this.1.1, this.1.2.1, ?_, this.1.2.2.2⟩, fun e => ?_⟩
    · split
      · rfl
      · exact this.1.2.2.1
    · split at e
      · omega
      · exact this.2 e
theorem s_take (Q : CD fz C D) (H : Iv n D) : ∃ C', fX4_takeReceipt c (hS h b C) (some b) = some (hS h b C', some (.inr (.inr (rf b (takI D))))) ∧ CD fz C' (takD D) := by
  have GF := H.ok.2.2.1
  have e9 : cF C 9 = pnI D := CD_F Q 9 (by decide)
  unfold fX4_takeReceipt fX4_takeReceipt_39 takI takD
  rcases prtI_c D with e | ⟨r, e, h3, hr, hw⟩
  · simp (maxSteps := 1000000) (disch := omega) only [cc_s, kI_i, kV_n, kR_r, ck_S, ck_R, rdI_S, rdR_S10, rdR_S11, rdR_S12, rdI_R, rdR_R12, rdR_R13, len_S1, len_S2, len_S3, len_G, len_E, ald_S1, ald_S2, ald_S3, ald_G, ald_E, wr_S, wr_R, ast_S1, ast_E, iI_l, iI_add, iI_sub, iI_mul, iI_neg, Int.reduceToNat]
    rw [e9, pn_no e, if_pos rfl, if_pos e, if_pos e, s_waitingAt Q GF (by decide) (by decide)]
    simp (maxSteps := 1000000) (disch := omega) only [cc_s, kI_i, kV_n, kR_r, ck_S, ck_R, rdI_S, rdR_S10, rdR_S11, rdR_S12, rdI_R, rdR_R12, rdR_R13, len_S1, len_S2, len_S3, len_G, len_E, ald_S1, ald_S2, ald_S3, ald_G, ald_E, wr_S, wr_R, ast_S1, ast_E, iI_l, iI_add, iI_sub, iI_mul, iI_neg, Int.reduceToNat]
    rcases atI_c D 0 with e2 | ⟨r, e2, h3, hr, hw, hk⟩
    · rw [e2, if_pos rfl]
      exact ⟨C, rfl, Q⟩
    · have n := hwP_t.mp hw
      rw [e2, if_neg (by omega), rf_s, Int.toNat_natCast]
      simp only [ifN]
      simp (maxSteps := 1000000) (disch := omega) only [cc_s, kI_i, kV_n, kR_r, ck_S, ck_R, rdI_S, rdR_S10, rdR_S11, rdR_S12, rdI_R, rdR_R12, rdR_R13, len_S1, len_S2, len_S3, len_G, len_E, ald_S1, ald_S2, ald_S3, ald_G, ald_E, wr_S, wr_R, ast_S1, ast_E, iI_l, iI_add, iI_sub, iI_mul, iI_neg, Int.reduceToNat]
      refine ⟨sCF (sCR C r 3 1) 9 (gF D r 0), ?_, CD_take Q H.gl h3 hr hw e⟩
      rw [cR_sk, if_neg (by omega), Q.2.2.1 r hr]
  · have n := hwP_t.mp hw
    have g := GF r hr 0 (by decide)
    simp (maxSteps := 1000000) (disch := omega) only [cc_s, kI_i, kV_n, kR_r, ck_S, ck_R, rdI_S, rdR_S10, rdR_S11, rdR_S12, rdI_R, rdR_R12, rdR_R13, len_S1, len_S2, len_S3, len_G, len_E, ald_S1, ald_S2, ald_S3, ald_G, ald_E, wr_S, wr_R, ast_S1, ast_E, iI_l, iI_add, iI_sub, iI_mul, iI_neg, Int.reduceToNat]
    rw [e9, pn_at e, if_neg (show ¬ iI (gF D r 0) = iI 0 from (by rw [eq_i (by omega) (by omega) (by omega) (by omega)]; omega)), s_known Q GF (by omega) (by omega), rec_of H.gl h3 hr n.1, if_neg (by omega), if_neg (by omega), e]
    exact ⟨C, rfl, Q⟩
theorem s_fin_l (Q : CD fz C D) (GF : RgF D) (t0 : 0 ≤ gT D 5) (t1 : gT D 5 < 1000000) : ∀ (m fu k : Nat), m < fu → k + m = 18 → (∀ q, k + 3 ≤ q → q < 21 → hwP D 2 q = true → gT D 5 - 8 ≤ gF D q 7 - 1) → fX4_finish_38 c fu (hS h b C) (some b) (iI (k : Int)) = some (hS h b C, none) := by
  intro m
  induction m with
  | zero =>
    intro fu k hf hk hx
    obtain ⟨f, rfl⟩ : ∃ f, fu = f + 1 := ⟨fu - 1, by omega⟩
    unfold fX4_finish_38
    rw [ck_S, s_places]
    simp only [cc_s, kI_i]
    rw [if_neg (show ¬ iI (k : Int) < iI 18 from (by rw [lt_i (by omega) (by omega) (by omega) (by omega)]; omega))]
  | succ m ih =>
    intro fu k hf hk hx
    obtain ⟨f, rfl⟩ : ∃ f, fu = f + 1 := ⟨fu - 1, by omega⟩
    have g3 := GF (k + 3) (by omega) 3 (by decide)
    have g7 := GF (k + 3) (by omega) 7 (by decide)
    have ih' := ih f (k + 1) (by omega) (by omega) (fun q q1 q2 => hx q (by omega) q2)
    unfold fX4_finish_38 fX4_finish_82
    rw [ck_S, s_places]
    simp only [cc_s, kI_i]
    rw [if_pos (show iI (k : Int) < iI 18 from (by rw [lt_i (by omega) (by omega) (by omega) (by omega)]; omega)), ck_S, s_placeAt Q GF (by omega)]
    simp only [cc_s, kR_r, iI_l, iI_add]
    by_cases e : 0 < gF D (k + 3) 0
    · have q := Q.2.2.2.2 (k + 3) (by omega) (by omega) e
      rw [if_pos e]
      simp (maxSteps := 1000000) (disch := omega) only [cc_s, kI_i, kV_n, kR_r, ck_S, ck_R, rdI_S, rdR_S10, rdR_S11, rdR_S12, rdI_R, rdR_R12, rdR_R13, len_S1, len_S2, len_S3, len_G, len_E, ald_S1, ald_S2, ald_S3, ald_G, ald_E, wr_S, wr_R, ast_S1, ast_E, iI_l, iI_add, iI_sub, iI_mul, iI_neg, Int.reduceToNat, ifN]
      rw [q.1.2.2.1]
      by_cases e2 : gF D (k + 3) 3 = 2
      · have hh := hx (k + 3) (by omega) (by omega) (hwP_t.mpr ⟨e, e2⟩)
        rw [if_pos (show iI (gF D (k + 3) 3) = iI 2 by rw [e2]), (q.2 e2).2, show cF C 7 = gT D 5 from CD_F Q 7 (by decide), if_neg (show ¬ iI (gF D (k + 3) 7 - 1) < iI (gT D 5 - 8) from (by rw [lt_i (by omega) (by omega) (by omega) (by omega)]; omega)), iI_k1, ih']
      · rw [if_neg (show ¬ iI (gF D (k + 3) 3) = iI 2 from (by rw [eq_i (by omega) (by omega) (by omega) (by omega)]; omega)), iI_k1, ih']
    · rw [if_neg e]
      simp only [ifN]
      rw [iI_k1, ih']
/-- a place is cleared -/
def clC (C : Ct) (o : Nat) : Ct := sCR (sCR (sCR (sCR C o 0 0) o 9 0) o 10 0) o 11 0
theorem s_clear {o : Nat} (ho : o < 21) : fX2_clear c (hS h b C) (some (b + 4 + 3 * o)) = some (hS h b (clC C o), none) := by
  unfold fX2_clear clC
  simp (maxSteps := 1000000) (disch := omega) only [cc_s, kI_i, kV_n, kR_r, ck_S, ck_R, rdI_S, rdR_S10, rdR_S11, rdR_S12, rdI_R, rdR_R12, rdR_R13, len_S1, len_S2, len_S3, len_G, len_E, ald_S1, ald_S2, ald_S3, ald_G, ald_E, wr_S, wr_R, ast_S1, ast_E, iI_l, iI_add, iI_sub, iI_mul, iI_neg, Int.reduceToNat]
theorem cl_R (C : Ct) (o q j : Nat) : cR (clC C o) q j = if q = o ∧ (j = 0 ∨ j = 9 ∨ j = 10 ∨ j = 11) then 0 else cR C q j := by
  unfold clC
  rw [cR_sk, cR_sk, cR_sk, cR_sk]
  repeat' split
  all_goals first | rfl | omega
theorem CD_clear (Q : CD fz C D) {o : Nat} (o3 : 3 ≤ o) (ho : o < 21) (hp : prtI D = -6) : CD fz (clC C o) (emD D o) := by
  have pz : prtI (emD D o) = -6 := fF_no 18 3 (fun i a b => Bool.eq_false_iff.mpr (fun e => by
    have e' := hwP_t.mp e
    rw [gF_em, gF_em] at e'
    by_cases eo : i = o
    · rw [if_pos eo] at e'; omega
    · rw [if_neg eo, if_neg eo] at e'
      have := prt_no hp i a (by omega)
      rw [hwP_t.mpr e'] at this
      exact absurd this (by decide)))
  refine CD_of Q (show ∀ r i, r < 21 → i < 12 → el fz (cG C r i) from CD_el Q) Q.1 (fun i hi => ?_) (fun q hq => ?_) (fun q hq => ?_) (fun q q3 hq nq => ?_)
  · show cF C i = _
    rw [CD_F Q i hi]
    unfold tF
    rw [pn_no hp, pn_no pz]
    rfl
  · rw [cl_R, gF_em]
    by_cases e : q = o
    · rw [if_pos ⟨e, Or.inl rfl⟩, if_pos e]
    · rw [if_neg (fun x => e x.1), if_neg e]; exact Q.2.2.1 q hq
  · have e : q ≠ o := fun e => by
      rcases hq.2 with h | h
      · omega
      · rw [gF_em, if_pos e] at h; omega
    have s := sm_em (D := D) e
    refine ⟨by unfold isR at hq ⊢; rw [gF_em, if_neg e] at hq; exact hq, by rw [s.1], by rw [s.1], s.2.1, s.2.2.1, s.2.2.2, ?_⟩
    unfold clC
    exact (((sk_o e).tr (sk_o e)).tr (sk_o e)).tr (sk_o e)
  · have e : q ≠ o := fun e => by rw [gF_em, if_pos e] at nq; omega
    have s := sm_em (D := D) e
    rw [gF_em, if_neg e] at nq
    have := Q.2.2.2.2 q q3 hq nq
    rw [s.ln q3, s.1]
    simp only [cl_R]
    simp (decide := true) only [e, false_and, if_false]
    exact this
theorem s_fin_o (Q : CD fz C D) (GF : RgF D) (t0 : 0 ≤ gT D 5) (t1 : gT D 5 < 1000000) (hp : prtI D = -6) {o : Nat} (ho : o < 21) (h2 : hwP D 2 o = true) (h7 : gF D o 7 - 1 < gT D 5 - 8) (hx : ∀ q, 3 ≤ q → q < 21 → q ≠ o → hwP D 2 q = true → gT D 5 - 8 ≤ gF D q 7 - 1) : ∀ (m fu k : Nat), m < fu → k + m = 18 → k + 3 ≤ o → fX4_finish_38 c fu (hS h b C) (some b) (iI (k : Int)) = some (hS h b (clC C o), none) := by
  have n2 := hwP_t.mp h2
  intro m
  induction m with
  | zero => intro fu k hf hk hko; omega
  | succ m ih =>
    intro fu k hf hk hko
    obtain ⟨f, rfl⟩ : ∃ f, fu = f + 1 := ⟨fu - 1, by omega⟩
    have g3 := GF (k + 3) (by omega) 3 (by decide)
    have g7 := GF (k + 3) (by omega) 7 (by decide)
    unfold fX4_finish_38 fX4_finish_82
    rw [ck_S, s_places]
    simp only [cc_s, kI_i]
    rw [if_pos (show iI (k : Int) < iI 18 from (by rw [lt_i (by omega) (by omega) (by omega) (by omega)]; omega)), ck_S, s_placeAt Q GF (by omega)]
    simp only [cc_s, kR_r, iI_l, iI_add]
    by_cases eo : k + 3 = o
    · subst eo
      have q := Q.2.2.2.2 (k + 3) (by omega) (by omega) n2.1
      rw [if_pos n2.1]
      simp (maxSteps := 1000000) (disch := omega) only [cc_s, kI_i, kV_n, kR_r, ck_S, ck_R, rdI_S, rdR_S10, rdR_S11, rdR_S12, rdI_R, rdR_R12, rdR_R13, len_S1, len_S2, len_S3, len_G, len_E, ald_S1, ald_S2, ald_S3, ald_G, ald_E, wr_S, wr_R, ast_S1, ast_E, iI_l, iI_add, iI_sub, iI_mul, iI_neg, Int.reduceToNat, ifN]
      rw [q.1.2.2.1, if_pos (show iI (gF D (k + 3) 3) = iI 2 by rw [n2.2]), (q.2 n2.2).2, show cF C 7 = gT D 5 from CD_F Q 7 (by decide), if_pos (show iI (gF D (k + 3) 7 - 1) < iI (gT D 5 - 8) from (by rw [lt_i (by omega) (by omega) (by omega) (by omega)]; omega)), s_clear (by omega)]
      simp only [cc_s, kV_n]
      have Q' := CD_clear Q (o := k + 3) (by omega) (by omega) hp
      rw [iI_k1]
      refine s_fin_l Q' (fun q hq j hj => ?_) t0 t1 m f (k + 1) (by omega) (by omega) (fun q q1 q2 q4 => ?_)
      · rw [gF_em]; split
        · decide
        · exact GF q hq j hj
      · have e : q ≠ k + 3 := by omega
        have := hwP_t.mp q4
        rw [gF_em, if_neg e, gF_em, if_neg e] at this
        rw [gF_em, if_neg e]
        exact hx q (by omega) q2 e (hwP_t.mpr this)
    · have ih' := ih f (k + 1) (by omega) (by omega) (by omega)
      by_cases e : 0 < gF D (k + 3) 0
      · have q := Q.2.2.2.2 (k + 3) (by omega) (by omega) e
        rw [if_pos e]
        simp (maxSteps := 1000000) (disch := omega) only [cc_s, kI_i, kV_n, kR_r, ck_S, ck_R, rdI_S, rdR_S10, rdR_S11, rdR_S12, rdI_R, rdR_R12, rdR_R13, len_S1, len_S2, len_S3, len_G, len_E, ald_S1, ald_S2, ald_S3, ald_G, ald_E, wr_S, wr_R, ast_S1, ast_E, iI_l, iI_add, iI_sub, iI_mul, iI_neg, Int.reduceToNat, ifN]
        rw [q.1.2.2.1]
        by_cases e2 : gF D (k + 3) 3 = 2
        · have hh := hx (k + 3) (by omega) (by omega) eo (hwP_t.mpr ⟨e, e2⟩)
          rw [if_pos (show iI (gF D (k + 3) 3) = iI 2 by rw [e2]), (q.2 e2).2, show cF C 7 = gT D 5 from CD_F Q 7 (by decide), if_neg (show ¬ iI (gF D (k + 3) 7 - 1) < iI (gT D 5 - 8) from (by rw [lt_i (by omega) (by omega) (by omega) (by omega)]; omega)), iI_k1, ih']
        · rw [if_neg (show ¬ iI (gF D (k + 3) 3) = iI 2 from (by rw [eq_i (by omega) (by omega) (by omega) (by omega)]; omega)), iI_k1, ih']
      · rw [if_neg e]
        simp only [ifN]
        rw [iI_k1, ih']
/-- a receipt is done, nothing forgotten yet -/
def dnC (C : Ct) (r : Nat) (t d : Int) : Ct := sCF (sCF (sCR (sCR (sCR C r 3 2) r 7 t) r 8 d) 9 0) 7 (d + 1)
theorem CD_dn (Q : CD fz C D) (G : Gl D) (h3 : 3 ≤ r) (hr : r < 21) (h1 : hwP D 1 r = true) : CD fz (dnC C r (gT D 3) (gT D 5)) (dnD D r) ∧ prtI (dnD D r) = -6 := by
  have n := hwP_t.mp h1
  have pz : prtI (dnD D r) = -6 := fF_no 18 3 (fun i a b => Bool.eq_false_iff.mpr (fun e => by
    by_cases ei : i = r
    · rw [ei, dn_r _ n.1] at e; exact absurd e (by decide)
    · rw [dn_o 1 ei] at e; exact ei (G.one i r a (by omega) h3 hr e h1)))
  refine ⟨?_, pz⟩
  have F0 : ∀ q j, j ≠ 3 → j ≠ 6 → j ≠ 7 → gF (dnD D r) q j = gF D q j := fun q j a b d => by rw [dn_F, if_neg (by omega), if_neg (by omega), if_neg (by omega)]
  have ln : ∀ q, lnI (dnD D r) q = lnI D q := fun q => by
    unfold dnD
    rw [lnI_F (by decide) (by decide) (by decide) (by decide), lnI_F (by decide) (by decide) (by decide) (by decide), lnI_F (by decide) (by decide) (by decide) (by decide), lnI_T (by decide) (by decide)]
  refine CD_of Q (show ∀ r i, r < 21 → i < 12 → el fz (cG C r i) from CD_el Q) (fun k hk => by rw [dn_T, if_neg (by omega)]; exact Q.1 k hk) (fun i hi => ?_) (fun q hq => ?_) (fun q hq => ?_) (fun q q3 hq nq => ?_)
  · unfold dnC
    rw [cF_s, cF_s, cF_sR, cF_sR, cF_sR, CD_F Q i hi]
    unfold tF
    rw [pn_no pz]
    simp only [dn_T]
    obtain rfl | rfl | rfl | rfl | rfl | rfl | rfl | rfl | rfl | rfl : i = 0 ∨ i = 1 ∨ i = 2 ∨ i = 3 ∨ i = 4 ∨ i = 5 ∨ i = 6 ∨ i = 7 ∨ i = 8 ∨ i = 9 := by omega
    all_goals rfl
  · unfold dnC
    rw [cR_sF, cR_sF, cR_sk, cR_sk, cR_sk, if_neg (by omega), if_neg (by omega), if_neg (by omega), F0 q 0 (by decide) (by decide) (by decide)]
    exact Q.2.2.1 q hq
  · refine ⟨by unfold isR at hq ⊢; rw [F0 q 0 (by decide) (by decide) (by decide)] at hq; exact hq, F0 q 8 (by decide) (by decide) (by decide), F0 q 9 (by decide) (by decide) (by decide), rfl, rfl, rfl, ?_⟩
    unfold dnC
    exact ((((sk_R (by decide)).tr (sk_R (by decide))).tr (sk_R (by decide))).tr sk_F).tr sk_F
  · rw [F0 q 0 (by decide) (by decide) (by decide)] at nq
    have := Q.2.2.2.2 q q3 hq nq
    unfold dnC
    rw [cR_sF, cR_sF, ln]
    simp only [cR_sk]
    rw [F0 q 1 (by decide) (by decide) (by decide), F0 q 2 (by decide) (by decide) (by decide), F0 q 4 (by decide) (by decide) (by decide), F0 q 5 (by decide) (by decide) (by decide)]
    simp only [dn_F]
    by_cases e : q = r
    · simp (decide := true) only [e, true_and, if_true, if_false]
      rw [e] at this
      refine ⟨⟨this.1.1, this.1.2.1, this.1.2.2.2⟩, ?_⟩
      intros
      first | omega | exact ⟨rfl, by omega⟩ | exact ⟨trivial, by omega⟩
    · simp (decide := true) only [e, false_and, if_false]
      exact this
theorem s_finish (Q : CD fz C D) (H : Gl D) (GF : RgF D) (t0 : 0 ≤ gT D 5) (t1 : gT D 5 < 900000) (h30 : 0 ≤ gT D 3) (h31 : gT D 3 < 1000000) (h3 : 3 ≤ r) (hr : r < 21) (h1 : hwP D 1 r = true) : ∃ C', fX4_finish c (hS h b C) (some b) (some (b + 4 + 3 * r)) = some (hS h b C', none) ∧ CD fz C' (endD D r) := by
  have n := hwP_t.mp h1
  have Q1 := CD_dn Q H h3 hr h1
  have t5 : gT (dnD D r) 5 = gT D 5 + 1 := by rw [dn_T, if_pos rfl]
  have GF1 : RgF (dnD D r) := fun q hq j hj => by
    rw [dn_F]; split
    · omega
    · split
      · omega
      · split
        · omega
        · exact GF q hq j hj
  have pre : fX4_finish c (hS h b C) (some b) (some (b + 4 + 3 * r)) = fX4_finish_38 c FU (hS h b (dnC C r (gT D 3) (gT D 5))) (some b) (iI 0) := by
    have e7 : cF C 7 = gT D 5 := CD_F Q 7 (by decide)
    have e5 : cF C 5 = gT D 3 := CD_F Q 5 (by decide)
    unfold fX4_finish dnC
    simp (maxSteps := 1000000) (disch := omega) only [cc_s, kI_i, kV_n, kR_r, ck_S, ck_R, rdI_S, rdR_S10, rdR_S11, rdR_S12, rdI_R, rdR_R12, rdR_R13, len_S1, len_S2, len_S3, len_G, len_E, ald_S1, ald_S2, ald_S3, ald_G, ald_E, wr_S, wr_R, ast_S1, ast_E, iI_l, iI_add, iI_sub, iI_mul, iI_neg, Int.reduceToNat, cF_s, cF_sR]
    rw [if_neg (by decide), e7, e5]
  rw [pre]
  rcases end_c H h3 hr h1 with ⟨c1, c2⟩ | ⟨c1, o, o3, ho, onr, o2, o7, c2⟩
  · refine ⟨_, ?_, by rw [c2]; exact Q1.1⟩
    have key := s_fin_l (c := c) (h := h) (b := b) Q1.1 GF1 (by omega) (by omega) 18 FU 0 (by decide) (by decide) (fun q q1 q2 e => ?_)
    · rw [show ((0 : Nat) : Int) = 0 from rfl] at key
      exact key
    · rw [t5]
      by_cases eq : q = r
      · rw [eq, dn_F, if_pos ⟨rfl, rfl⟩]; omega
      · rw [dn_o 2 eq] at e
        have := H.2.2.1 q (by omega) q2 e
        rw [dn_F, if_neg (by omega), if_neg (by omega), if_neg (by omega)]; omega
  · refine ⟨_, ?_, by rw [c2]; exact CD_clear Q1.1 o3 ho Q1.2⟩
    have key := s_fin_o (c := c) (h := h) (b := b) Q1.1 GF1 (by omega) (by omega) Q1.2 ho (by rw [dn_o 2 onr]; exact o2) (by rw [t5, dn_F, if_neg (by omega), if_neg (by omega), if_neg (by omega)]; omega) (fun q q1 q2 qo e => ?_) 18 FU 0 (by decide) (by decide) (by omega)
    · rw [show ((0 : Nat) : Int) = 0 from rfl] at key
      exact key
    · rw [t5]
      by_cases eq : q = r
      · rw [eq, dn_F, if_pos ⟨rfl, rfl⟩]; omega
      · rw [dn_o 2 eq] at e
        have g := H.2.2.1 q (by omega) q2 e
        have : gF D q 7 ≠ gF D o 7 := fun e7 => qo (H.2.2.2.2 q o (by omega) q2 o3 ho e o2 e7)
        rw [dn_F, if_neg (by omega), if_neg (by omega), if_neg (by omega)]; omega
/-- a line is printed -/
def lnC (C : Ct) (r : Nat) (p l s : Int) : Ct := sCF (sCF (sCR C r 6 p) 0 l) 1 s
theorem CD_ln (Q : CD fz C D) (G : Gl D) (h3 : 3 ≤ r) (hr : r < 21) : CD fz (lnC C r (gF D r 5 + 1) (gT D 7 - 1) (gT D 8 + 1)) (lnD D r) := by
  have F : ∀ q j, gF (lnD D r) q j = if q = r ∧ j = 5 then gF D r 5 + 1 else gF D q j := fun q j => by unfold lnD; rw [gF_sT, gF_sT, gF_sFl]
  have hh : ∀ q, hwP (lnD D r) 1 q = hwP D 1 q := fun q => hwP_cg (by rw [F, if_neg (by omega)]) (by rw [F, if_neg (by omega)])
  have pp : prtI (lnD D r) = prtI D := fF_congr _ _ (fun i _ _ => hh i)
  have pn : pnI (lnD D r) = pnI D := by unfold pnI; rw [pp]; split; rfl; rw [F, if_neg (by omega)]
  have ln : ∀ q, lnI (lnD D r) q = lnI D q := fun q => by
    unfold lnD
    rw [lnI_T (by decide) (by decide), lnI_T (by decide) (by decide), lnI_F (by decide) (by decide) (by decide) (by decide)]
  have T : ∀ k, gT (lnD D r) k = if k = 8 then gT D 8 + 1 else if k = 7 then gT D 7 - 1 else gT D k := fun k => by unfold lnD; rw [gT_sT, gT_sT, gT_sFl]
  refine CD_of Q (show ∀ r i, r < 21 → i < 12 → el fz (cG C r i) from CD_el Q) (fun k hk => by rw [T, if_neg (by omega), if_neg (by omega)]; exact Q.1 k hk) (fun i hi => ?_) (fun q hq => ?_) (fun q hq => ?_) (fun q q3 hq nq => ?_)
  · unfold lnC
    rw [cF_s, cF_s, cF_sR, CD_F Q i hi]
    unfold tF
    rw [pn]
    simp only [T]
    obtain rfl | rfl | rfl | rfl | rfl | rfl | rfl | rfl | rfl | rfl : i = 0 ∨ i = 1 ∨ i = 2 ∨ i = 3 ∨ i = 4 ∨ i = 5 ∨ i = 6 ∨ i = 7 ∨ i = 8 ∨ i = 9 := by omega
    all_goals rfl
  · unfold lnC
    rw [cR_sF, cR_sF, cR_sk, if_neg (by omega), F, if_neg (by omega)]
    exact Q.2.2.1 q hq
  · refine ⟨by unfold isR at hq ⊢; rw [F, if_neg (by omega)] at hq; exact hq, by rw [F, if_neg (by omega)], by rw [F, if_neg (by omega)], rfl, rfl, rfl, ?_⟩
    unfold lnC
    exact ((sk_R (by decide)).tr sk_F).tr sk_F
  · rw [F, if_neg (by omega)] at nq
    have := Q.2.2.2.2 q q3 hq nq
    unfold lnC
    rw [cR_sF, cR_sF, ln]
    simp only [cR_sk, F]
    simp (decide := true) only [and_false, and_true, if_false]
    refine ⟨⟨this.1.1, this.1.2.1, this.1.2.2.1, this.1.2.2.2.1, this.1.2.2.2.2.1, ?_⟩, this.2⟩
    split
    · rfl
    · exact this.1.2.2.2.2.2
theorem s_print (Q : CD fz C D) (H : Iv n D) (hn : n ≤ 1000) : ∃ C', fX4_printLine c (hS h b C) (some b) = some (hS h b C', some (.inl (iI (if takI D = -6 ∨ gT D 7 = 0 then 0 else 1)))) ∧ CD fz C' (plD D) := by
  obtain ⟨C1, e1, Q1⟩ := s_take (c := c) (h := h) (b := b) Q H
  have Ht := Iv_tak H
  have T := H.2.1
  unfold RgT at T
  have tk : gT (takD D) = gT D := gT_tak D
  have c0 : cF C1 0 = gT D 7 := by rw [CD_F Q1 0 (by decide)]; show gT (takD D) 7 = _; rw [tk]
  unfold fX4_printLine fX4_printLine_16 fX4_printLine_64 plD
  rw [ck_S, e1]
  simp only [cc_s, kR_r, iI_l]
  rcases tak_c H.gl with ⟨t1, t2⟩ | ⟨r, t1, h3, hr, hw, hx⟩
  · rw [if_pos (Or.inl t1), if_pos (Or.inl t1), t1]
    exact ⟨C1, by rw [show rf b (-6) = none from rfl]; simp only [ifN]; rw [rt_0], Q1⟩
  · rw [t1, rf_s]
    simp only [ifN]
    simp (maxSteps := 1000000) (disch := omega) only [cc_s, kI_i, kV_n, kR_r, ck_S, ck_R, rdI_S, rdR_S10, rdR_S11, rdR_S12, rdI_R, rdR_R12, rdR_R13, len_S1, len_S2, len_S3, len_G, len_E, ald_S1, ald_S2, ald_S3, ald_G, ald_E, wr_S, wr_R, ast_S1, ast_E, iI_l, iI_add, iI_sub, iI_mul, iI_neg, Int.reduceToNat]
    rw [c0]
    by_cases e7 : gT D 7 = 0
    · rw [if_pos (Or.inr e7), if_pos (Or.inr e7), if_neg (show ¬ iI 0 < iI (gT D 7) by rw [e7]; decide), rt_0]
      exact ⟨C1, rfl, Q1⟩
    · have nn := hwP_t.mp hw
      have q := (Q1.2.2.2.2 r h3 hr nn.1).1
      have w := (Ht.rw hr).2.2.2.2 h3
      have w2 := w.2 nn.1 (by omega)
      have g5 := (Ht.1 r hr).2.2.1 5 (by decide)
      have f5 : gF (takD D) r 5 = gF D r 5 := by
        rcases hx with ⟨_, e3⟩ | ⟨_, _, _, e3⟩
        · rw [e3]
        · rw [e3, gF_sFl, if_neg (by omega)]
      have ln : lnI (takD D) r = lnI D r := by
        rcases hx with ⟨_, e3⟩ | ⟨_, _, _, e3⟩
        · rw [e3]
        · rw [e3]; exact lnI_F (by decide) (by decide) (by decide) (by decide)
      have lb := lnI_rg Ht.ok (r := r) ⟨hr, Or.inr nn.1⟩
      have hno : ¬ ((r : Int) = -6 ∨ gT D 7 = 0) := by omega
      rw [if_neg hno, if_neg hno, Int.toNat_natCast, if_pos (show iI 0 < iI (gT D 7) from (by rw [lt_i (by omega) (by omega) (by omega) (by omega)]; omega))]
      have Q2 := CD_ln Q1 Ht.gl h3 hr
      simp (maxSteps := 1000000) (disch := omega) only [cc_s, kI_i, kV_n, kR_r, ck_S, ck_R, rdI_S, rdR_S10, rdR_S11, rdR_S12, rdI_R, rdR_R12, rdR_R13, len_S1, len_S2, len_S3, len_G, len_E, ald_S1, ald_S2, ald_S3, ald_G, ald_E, wr_S, wr_R, ast_S1, ast_E, iI_l, iI_add, iI_sub, iI_mul, iI_neg, Int.reduceToNat, cR_sk, cF_s, cF_sR, cR_sF]
      simp (decide := true) only [and_false, and_true, if_true, if_false]
      rw [q.2.2.2.2.1, q.2.2.2.2.2, ln, f5]
      have c1 : cF C1 1 = gT D 8 := by rw [CD_F Q1 1 (by decide)]; show gT (takD D) 8 = _; rw [tk]
      have eC : sCF (sCF (sCR C1 r 6 (gF D r 5 + 1)) 0 (gT D 7 - 1)) 1 (gT D 8 + 1) = lnC C1 r (gF (takD D) r 5 + 1) (gT (takD D) 7 - 1) (gT (takD D) 8 + 1) := by rw [tk, f5]; rfl
      rw [c0, c1, eC]
      by_cases el : gF D r 5 + 1 = lnI D r
      · rw [if_neg (show ¬ iI (gF D r 5 + 1) < iI (lnI D r) from (by rw [lt_i (by omega) (by omega) (by omega) (by omega)]; omega)), if_pos el]
        have ll : gT (lnD (takD D) r) 5 = gT D 5 ∧ gT (lnD (takD D) r) 3 = gT D 3 := by unfold lnD; simp only [gT_sT, gT_sFl, tk]; exact ⟨rfl, rfl⟩
        have bb := Ht.done hn
        rw [tk] at bb
        obtain ⟨C3, e3, Q3⟩ := s_finish (c := c) (h := h) (b := b) Q2 (Gl_T (Gl_T (Gl_F Ht.gl (by decide) (by decide) (by decide)) (by decide) (by decide)) (by decide) (by decide)) (fun q hq j hj => by
          unfold lnD
          rw [gF_sT, gF_sT, gF_sFl]
          split
          · omega
          · exact (Ht.1 q hq).2.2.1 j hj) (by omega) (by omega) (by omega) (by omega) h3 hr (by
          rw [hwP_t]
          show 0 < gF (sFl (takD D) r 5 _) r 0 ∧ gF (sFl (takD D) r 5 _) r 3 = 1
          rw [gF_sFl, if_neg (by omega), gF_sFl, if_neg (by omega)]
          exact nn)
        rw [e3]
        simp only [cc_s, kV_n]
        rw [rt_1]
        exact ⟨C3, rfl, Q3⟩
      · rw [if_pos (show iI (gF D r 5 + 1) < iI (lnI D r) from (by rw [lt_i (by omega) (by omega) (by omega) (by omega)]; omega)), if_neg el, rt_1]
        exact ⟨_, rfl, Q2⟩
theorem tF_3 (D : Dt) (v : Int) : ∀ i, i < 10 → tF (sT D 3 v) i = if i = 5 then v else tF D i := by
  intro i hi
  obtain rfl | rfl | rfl | rfl | rfl | rfl | rfl | rfl | rfl | rfl : i = 0 ∨ i = 1 ∨ i = 2 ∨ i = 3 ∨ i = 4 ∨ i = 5 ∨ i = 6 ∨ i = 7 ∨ i = 8 ∨ i = 9 := by omega
  all_goals rfl
theorem s_tick_l (hn : n ≤ 1000) {sp : Int} (s1 : sp ≤ 9) : ∀ (m fu : Nat) (k : Int) (C : Ct) (D : Dt), Iv n D → CD fz C D → gT D 2 = sp → m < fu → k + m = sp → 0 ≤ k → ∃ C', fX4_tick_2 c fu (hS h b C) (some b) (iI k) = some (hS h b C', some (.inl (iI (tkL m k D).1))) ∧ CD fz C' (sT (tkL m k D).2 3 (gT (tkL m k D).2 3 + 1)) := by
  have last : ∀ (k : Int) (C : Ct) (D : Dt), CD fz C D → ∃ C', fX4_tick_24 c (hS h b C) (some b) (iI k) = some (hS h b C', some (.inl (iI k))) ∧ CD fz C' (sT D 3 (gT D 3 + 1)) := by
    intro k C D Q
    unfold fX4_tick_24
    simp (maxSteps := 1000000) (disch := omega) only [cc_s, kI_i, kV_n, kR_r, ck_S, ck_R, rdI_S, rdR_S10, rdR_S11, rdR_S12, rdI_R, rdR_R12, rdR_R13, len_S1, len_S2, len_S3, len_G, len_E, ald_S1, ald_S2, ald_S3, ald_G, ald_E, wr_S, wr_R, ast_S1, ast_E, iI_l, iI_add, iI_sub, iI_mul, iI_neg, Int.reduceToNat]
    rw [show cF C 5 = gT D 3 from CD_F Q 5 (by decide)]
    exact ⟨_, rfl, CD_T Q (by decide) (tF_3 D _) (by decide)⟩
  intro m
  induction m with
  | zero =>
    intro fu k C D H Q hs hf hk k0
    obtain ⟨f, rfl⟩ : ∃ f, fu = f + 1 := ⟨fu - 1, by omega⟩
    have st2 := s_setting (c := c) (h := h) (b := b) Q (k := 2) (by decide)
    rw [show ((2 : Nat) : Int) = 2 from rfl] at st2
    unfold fX4_tick_2
    simp only [iI_l]
    rw [ck_S, st2]
    simp only [cc_s, kI_i]
    rw [if_neg (show ¬ iI k < iI (gT D 2) from (by rw [lt_i (by omega) (by omega) (by omega) (by omega)]; omega))]
    exact last k C D Q
  | succ m ih =>
    intro fu k C D H Q hs hf hk k0
    obtain ⟨f, rfl⟩ : ∃ f, fu = f + 1 := ⟨fu - 1, by omega⟩
    have st2 := s_setting (c := c) (h := h) (b := b) Q (k := 2) (by decide)
    rw [show ((2 : Nat) : Int) = 2 from rfl] at st2
    obtain ⟨C1, e1, Q1⟩ := s_print (c := c) (h := h) (b := b) Q H hn
    unfold fX4_tick_2
    simp only [iI_l]
    rw [ck_S, st2]
    simp only [cc_s, kI_i]
    rw [if_pos (show iI k < iI (gT D 2) from (by rw [lt_i (by omega) (by omega) (by omega) (by omega)]; omega)), ck_S, e1]
    simp only [cc_s, kI_i, iI_add]
    rw [tkL]
    by_cases e : takI D = -6 ∨ gT D 7 = 0
    · rw [if_pos e, if_pos e, if_pos rfl]
      exact last k C1 (plD D) Q1
    · rw [if_neg e, if_neg e, if_neg (show ¬ iI 1 = iI 0 by decide)]
      exact ih f (k + 1) C1 (plD D) (Iv_pl H hn) Q1 (by rw [gT_pl D (by decide)]; exact hs) (by omega) (by omega) (by omega)
theorem s_tick (hn : n ≤ 1000) (H : Iv n D) (Q : CD fz C D) : ∃ C', fX4_tick c (hS h b C) (some b) = some (hS h b C', some (.inl (iI (tkR D).1))) ∧ CD fz C' (tkR D).2 := by
  have T := H.2.1
  unfold RgT at T
  unfold fX4_tick tkR
  simp only [iI_l]
  exact s_tick_l hn (sp := gT D 2) (by omega) (gT D 2).toNat FU 0 C D H Q rfl (by unfold FU; omega) (by omega) (by decide)
end
