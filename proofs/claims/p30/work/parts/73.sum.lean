/-! THE LAW'S CHECKS: isSummed -/
section
variable {c : Nat → Option Nat} {fz : Nat → Option Cl} {x : Nat} {h h' : Hp} {Z : Zt} {M : Nat → Nat → Int} {n : Int}
/-- a sign of a receipt that is known -/
theorem rSgn_r {D : Dt} {r : Nat} {z l q : Int} (e : recI D z = r) (z0 : 0 < z) (h3 : 3 ≤ r) (l0 : 0 ≤ l) (l1 : l < lnI D r) (q0 : 0 ≤ q) (q1 : q < gF D r 4) : rSgn D z l q = sgnI D r (numI D r) l (gF D r 4) q.toNat := by
  have w : wdI D r = gF D r 4 := if_neg (by omega)
  unfold rSgn sgR
  rw [if_neg (show ¬ (-2 ≤ z ∧ z ≤ 0) by omega), e, if_neg (by omega), if_neg (by omega), Int.toNat_natCast, if_pos l1, w, if_pos (by omega)]
theorem rSgn_w {D : Dt} {r : Nat} {z l : Int} (e : recI D z = r) (z0 : 0 < z) (h3 : 3 ≤ r) (l0 : 0 ≤ l) (l1 : l < lnI D r) : rSgn D z l (gF D r 4) = -2 := by
  have w : wdI D r = gF D r 4 := if_neg (by omega)
  unfold rSgn sgR
  rw [if_neg (show ¬ (-2 ≤ z ∧ z ≤ 0) by omega), e, if_neg (by omega), if_neg (by omega), Int.toNat_natCast, if_pos l1, w, if_neg (by omega)]
theorem rSgn_l {D : Dt} {r : Nat} {z : Int} (e : recI D z = r) (z0 : 0 < z) (l0 : 0 ≤ lnI D r) : rSgn D z (lnI D r) 0 = -1 := by
  unfold rSgn sgR
  rw [if_neg (show ¬ (-2 ≤ z ∧ z ≤ 0) by omega), e, if_neg (by omega), if_neg (by omega), Int.toNat_natCast, if_neg (by omega)]
theorem s30 (K : Kon c fz) (I : ZI n Z) {z : Int} {r : Nat} (hz : ag z) (z0 : 0 < z) (e : recI (zD Z) z = r) (h3 : 3 ≤ r) (hr : r < 21) (nz : 0 < gF (zD Z) r 0) {s W T N : Int} (es : s = smI (zD Z) r (numI (zD Z) r) (gF (zD Z) r 4)) (eW : W = gF (zD Z) r 4) (eT : T = totI (zD Z) r) (eN : N = lnI (zD Z) r) : ∀ (m fu : Nat) (h : Hp), m < fu → s + m < N → WX fz x Z M h → Ra fz x M h (.inl (iI 1)) (fL_isSummed_30 c fu h (some x) (iI z) (iI W) (iI T) (iI N) (iI (s + (m : Int)))) Z := by
  have O := I.1.1.ok
  have isr : isR (zD Z) r := ⟨hr, Or.inr nz⟩
  have G := O.1 r hr
  have wd := wdI_rg O isr
  have ew : wdI (zD Z) r = gF (zD Z) r 4 := if_neg (by omega)
  rw [ew] at wd
  have nr := numI_rg O hr
  have lr := lnI_rg O isr
  have eN' : N = s + 1 + txI (zD Z) r 1 + txI (zD Z) r 2 := by
    rw [eN, es]
    show cntI (zD Z) r (numI (zD Z) r) (wdI (zD Z) r) = _
    rw [ew]
    exact cnt_sm G wd.1 wd.2
  have c1 := txI_c (D := zD Z) (r := r) 1
  have c2 := txI_c (D := zD Z) (r := r) 2
  have s1 := (evL_st (w := 0) G nr.1 nr.2 wd.1 wd.2).1
  rw [← es] at s1
  have tb := totI_bd G
  rw [← eT] at tb
  have sg := sgn_sum (w := s) G nr.1 nr.2 wd.1 wd.2 es
  rw [← eW, ← eT] at sg
  rw [← eW] at wd
  have S : ∀ l q : Int, 0 ≤ l → l < N → 0 ≤ q → q < W → rSgn (zD Z) z l q = sgnI (zD Z) r (numI (zD Z) r) l W q.toNat := fun l q a b c d => by rw [eW] at d ⊢; rw [eN] at b; exact rSgn_r e z0 h3 a b c d
  intro m
  induction m with
  | zero =>
    intro fu h hf hm X
    obtain ⟨f, rfl⟩ : ∃ f, fu = f + 1 := ⟨fu - 1, by omega⟩
    rw [show s + ((0 : Nat) : Int) = s by omega]
    unfold fL_isSummed_30
    simp (maxSteps := 1000000) (disch := omega) only [iI_l, iI_add, iI_sub, iI_neg, iI_mul, div_i, dv_i]
    rw [if_pos (show iI (N - 4) < iI s from (by rw [lt_i (by omega) (by omega) (by omega) (by omega)]; omega)), if_pos (show iI 0 < iI s from (by rw [lt_i (by omega) (by omega) (by omega) (by omega)]; omega))]
    refine q1 X (x_sign K X I hz (show ag s from ⟨by omega, by omega⟩) (show ag 0 from ⟨by decide, by decide⟩)) (fun h1 X1 _ => ?_)
    rw [S s 0 (by omega) (by omega) (by omega) (by omega), show (0 : Int).toNat = 0 from rfl, sg.1, if_pos rfl]
    refine q1 X1 (x_sign K X1 I hz (show ag s from ⟨by omega, by omega⟩) (show ag 1 from ⟨by decide, by decide⟩)) (fun h2 X2 _ => ?_)
    rw [S s 1 (by omega) (by omega) (by omega) (by omega), show (1 : Int).toNat = 1 from rfl, sg.2.1, if_pos rfl]
    refine q1 X2 (x_sign K X2 I hz (show ag s from ⟨by omega, by omega⟩) (show ag 2 from ⟨by decide, by decide⟩)) (fun k3 X3 _ => ?_)
    rw [S s 2 (by omega) (by omega) (by omega) (by omega), show (2 : Int).toNat = 2 from rfl, sg.2.2.1, if_pos rfl]
    refine q1 X3 (x_sign K X3 I hz (show ag s from ⟨by omega, by omega⟩) (show ag 3 from ⟨by decide, by decide⟩)) (fun h4 X4 _ => ?_)
    rw [S s 3 (by omega) (by omega) (by omega) (by omega), show (3 : Int).toNat = 3 from rfl, sg.2.2.2.1, if_pos rfl]
    refine q1 X4 (x_sign K X4 I hz (show ag s from ⟨by omega, by omega⟩) (show ag (W - 1) from ⟨by omega, by omega⟩)) (fun h5 X5 _ => ?_)
    rw [S s (W - 1) (by omega) (by omega) (by omega) (by omega), sg.2.2.2.2.1, if_pos (show iI (48 + T % 10) = iI (48 + (T - T / 10 * 10)) by congr 1; omega)]
    refine q1 X5 (x_sign K X5 I hz (show ag s from ⟨by omega, by omega⟩) (show ag (W - 2) from ⟨by omega, by omega⟩)) (fun h6 X6 _ => ?_)
    rw [S s (W - 2) (by omega) (by omega) (by omega) (by omega), sg.2.2.2.2.2.1, if_pos (show iI (48 + T / 10 % 10) = iI (48 + (T / 10 - T / 10 / 10 * 10)) by congr 1; omega)]
    refine q1 X6 (x_sign K X6 I hz (show ag s from ⟨by omega, by omega⟩) (show ag (W - 3) from ⟨by omega, by omega⟩)) (fun h7 X7 _ => ?_)
    rw [S s (W - 3) (by omega) (by omega) (by omega) (by omega), sg.2.2.2.2.2.2.1, if_pos rfl]
    refine q1 X7 (x_sign K X7 I hz (show ag s from ⟨by omega, by omega⟩) (show ag (W - 4) from ⟨by omega, by omega⟩)) (fun h8 X8 _ => ?_)
    rw [S s (W - 4) (by omega) (by omega) (by omega) (by omega), sg.2.2.2.2.2.2.2, if_pos (show iI (48 + T / 100 % 10) = iI (48 + (T / 100 - T / 100 / 10 * 10)) by congr 1; omega)]
    unfold fL_isSummed_182 fL_isSummed_219
    simp only [iI_l, iI_neg]
    rw [if_neg (show ¬ iI 1 = iI 0 by decide)]
    refine q1 X8 (x_sign K X8 I hz (show ag s from ⟨by omega, by omega⟩) (show ag W from ⟨by omega, by omega⟩)) (fun h9 X9 _ => ?_)
    rw [eW, rSgn_w e z0 h3 (by omega) (by omega), if_pos rfl]
    refine q1 X9 (x_sign K X9 I hz (show ag N from ⟨by omega, by omega⟩) (show ag 0 from ⟨by decide, by decide⟩)) (fun h10 X10 _ => ?_)
    rw [eN, rSgn_l e z0 (by omega), if_pos rfl, rt_1]
    exact ra_r X10 rfl
  | succ m ih =>
    intro fu h hf hm X
    obtain ⟨f, rfl⟩ : ∃ f, fu = f + 1 := ⟨fu - 1, by omega⟩
    unfold fL_isSummed_30 fL_isSummed_220
    simp (maxSteps := 1000000) (disch := omega) only [iI_l, iI_add, iI_sub, iI_neg]
    rw [if_pos (show iI (N - 4) < iI (s + ((m + 1 : Nat) : Int)) from (by rw [lt_i (by omega) (by omega) (by omega) (by omega)]; omega)), if_pos (show iI 0 < iI (s + ((m + 1 : Nat) : Int)) from (by rw [lt_i (by omega) (by omega) (by omega) (by omega)]; omega))]
    refine q1 X (x_sign K X I hz (show ag (s + ((m + 1 : Nat) : Int)) from ⟨by omega, by omega⟩) (show ag 0 from ⟨by decide, by decide⟩)) (fun h1 X1 _ => ?_)
    rw [S _ 0 (by omega) (by omega) (by omega) (by omega), show (0 : Int).toNat = 0 from rfl, sgn_tax (D := zD Z) (r := r) (num := numI (zD Z) r) (width := W) G wd.1 wd.2 (by rw [eW, ← es]; omega) (by rw [eW, cnt_sm G (by omega) (by omega), ← es]; omega), if_neg (show ¬ iI 116 = iI 115 by decide), show s + ((m + 1 : Nat) : Int) + -1 = s + (m : Int) by omega]
    exact ih f h1 (by omega) (by omega) X1
theorem w_sum (K : Kon c fz) (X : WX fz x Z M h) (I : ZI n Z) {z : Int} {r : Nat} (hz : ag z) (z0 : 0 < z) (e : recI (zD Z) z = r) (h3 : 3 ≤ r) (hr : r < 21) (nz : 0 < gF (zD Z) r 0) : Ra fz x M h (.inl (iI 1)) (fL_isSummed c h (some x) (iI z)) Z := by
  have O := I.1.1.ok
  have isr : isR (zD Z) r := ⟨hr, Or.inr nz⟩
  have G := O.1 r hr
  have wd := wdI_rg O isr
  have ew : wdI (zD Z) r = gF (zD Z) r 4 := if_neg (by omega)
  have nr := numI_rg O hr
  have eN' : lnI (zD Z) r = smI (zD Z) r (numI (zD Z) r) (gF (zD Z) r 4) + 1 + txI (zD Z) r 1 + txI (zD Z) r 2 := by
    show cntI (zD Z) r (numI (zD Z) r) (wdI (zD Z) r) = _
    rw [ew]
    rw [ew] at wd
    exact cnt_sm G wd.1 wd.2
  have c1 := txI_c (D := zD Z) (r := r) 1
  have c2 := txI_c (D := zD Z) (r := r) 2
  obtain ⟨m, hm⟩ : ∃ m : Nat, (m : Int) = txI (zD Z) r 1 + txI (zD Z) r 2 := ⟨(txI (zD Z) r 1 + txI (zD Z) r 2).toNat, by omega⟩
  unfold fL_isSummed
  simp only [iI_l, iI_sub]
  refine q1 X (x_ofReceipt K X I hz (show ag 8 from ⟨by decide, by decide⟩)) (fun h1 X1 _ => ?_)
  refine q1 X1 (x_ofReceipt K X1 I hz (show ag 5 from ⟨by decide, by decide⟩)) (fun h2 X2 _ => ?_)
  refine q1 X2 (x_ofReceipt K X2 I hz (show ag 6 from ⟨by decide, by decide⟩)) (fun h3' X3 _ => ?_)
  rw [rcp_r e, rcp_r e, rcp_r e, show wRcp (zD Z) r 8 = gF (zD Z) r 4 from rfl, show wRcp (zD Z) r 5 = totI (zD Z) r from rfl, show wRcp (zD Z) r 6 = lnI (zD Z) r from rfl]
  have key := s30 (M := M) (x := x) K I hz z0 e h3 hr nz rfl rfl rfl rfl m FU h3' (by unfold FU; omega) (by omega) X3
  rw [iI_sub, show lnI (zD Z) r - 1 = smI (zD Z) r (numI (zD Z) r) (gF (zD Z) r 4) + (m : Int) by omega]
  exact key
end
