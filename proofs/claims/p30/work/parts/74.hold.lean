/-! THE LAW'S CHECK: holds -/
section
variable {c : Nat → Option Nat} {fz : Nat → Option Cl} {x : Nat} {h h' : Hp} {Z : Zt} {M : Nat → Nat → Int} {n : Int}
theorem hEnd (K : Kon c fz) (X : WX fz x Z M h) (I : ZI n Z) {p q s b : Int} (hp : p = manyI (zD Z) 0) (hq : q = manyI (zD Z) 1) (hs : s = allI (zD Z)) : Ra fz x M h (.inl (iI 1)) (fL_holds_265 c h (some x) (iI p) (iI q) (iI s) (iI 1) (iI b) (iI b)) Z := by
  have G := I.1.1.gl
  have T := I.1.1.2.1
  unfold RgT at T
  unfold fL_holds_265 fL_holds_321
  simp only [iI_l]
  rw [if_pos True.intro]
  refine q1 X (x_count K X I (show ag 2 from ⟨by decide, by decide⟩)) (fun h1 X1 _ => ?_)
  rw [show rCnt Z 2 = manyI (zD Z) 0 from rfl, ← hp, if_pos rfl]
  refine q1 X1 (x_linesLeft K X1 I) (fun h2 X2 _ => ?_)
  rw [← hs, if_pos rfl, if_neg (show ¬ iI 1 = iI 0 by decide)]
  refine q1 X2 (x_count K X2 I (show ag 1 from ⟨by decide, by decide⟩)) (fun h3 X3 _ => ?_)
  refine q1 X3 (x_count K X3 I (show ag 3 from ⟨by decide, by decide⟩)) (fun h4 X4 _ => ?_)
  rw [show rCnt Z 1 = gT (zD Z) 4 from rfl, show rCnt Z 3 = gT (zD Z) 5 from rfl, iI_add, iI_add, if_pos (show iI (gT (zD Z) 4) = iI (gT (zD Z) 5 + p + q) by rw [G.2.1.1, hp, hq])]
  refine q1 X4 (x_printer K X4 I (show ag 1 from ⟨by decide, by decide⟩)) (fun h5 X5 _ => ?_)
  rw [show rPri (zD Z) 1 = gT (zD Z) 7 from rfl, if_neg (show ¬ iI (gT (zD Z) 7) < iI 0 from (by rw [lt_i (by omega) (by omega) (by omega) (by omega)]; omega)), rt_1]
  exact ra_r X5 rfl
theorem h158 (K : Kon c fz) (X : WX fz x Z M h) (I : ZI n Z) {d p q s z b : Int} {r : Nat} {k10 : Hp → Option Nat → Int32 → Int32 → Int32 → Int32 → Int32 → Rs} (hz : ag z) (z0 : 0 < z) (e : recI (zD Z) z = r) (h3 : 3 ≤ r) (hr : r < 21) (nz : 0 < gF (zD Z) r 0) (hb : b = if gF (zD Z) r 3 = 2 then 1 else 0) (H : ∀ h', WX fz x Z M h' → Ra fz x M h' (.inl (iI 1)) (k10 h' (some x) (iI d) (iI p) (iI q) (iI s) (iI (z + 1))) Z) :
    Ra fz x M h (.inl (iI 1)) (fL_holds_158 c k10 h (some x) (iI d) (iI p) (iI q) (iI s) (iI z) (iI b)) Z := by
  have g6 := (I.1.1.1 r hr).2.2.1 6 (by decide)
  have sm : ∀ h1, WX fz x Z M h1 → Ra fz x M h1 (.inl (iI 1)) (fL_holds_174 c k10 h1 (some x) (iI d) (iI p) (iI q) (iI s) (iI z) (iI b) (iI b)) Z := fun h1 X1 => by
    unfold fL_holds_174 fL_holds_188
    simp only [iI_l, iI_add]
    rw [if_pos True.intro]
    refine q2 (w_sum K X1 I hz z0 e h3 hr nz) (fun h2 X2 _ => ?_)
    rw [kI_i, if_neg (show ¬ iI 1 = iI 0 by decide)]
    exact H h2 X2
  unfold fL_holds_158
  simp only [iI_l]
  refine q1 X (x_ofReceipt K X I hz (show ag 9 from ⟨by decide, by decide⟩)) (fun h1 X1 _ => ?_)
  rw [rcp_r e, show wRcp (zD Z) r 9 = if gF (zD Z) r 3 = 2 then gF (zD Z) r 6 else -6 from rfl]
  by_cases c2 : gF (zD Z) r 3 = 2
  · rw [if_pos c2] at hb
    subst hb
    rw [if_pos c2, if_neg (show ¬ iI (gF (zD Z) r 6) < iI 0 from (by rw [lt_i (by omega) (by omega) (by omega) (by omega)]; omega))]
    exact sm h1 X1
  · rw [if_neg c2] at hb
    subst hb
    rw [if_neg c2, if_pos (show iI (-6) < iI 0 by decide)]
    exact sm h1 X1
theorem h10 (K : Kon c fz) (I : ZI n Z) (J : JL (zD Z)) {N : Nat} (hN : (N : Int) = gT (zD Z) 4) (hN1 : N ≤ 1000) {d : Int} (hd : d = FI (zD Z)) : ∀ (m fu k : Nat) (p q s : Int) (h : Hp), m < fu → k + m = N + 1 → 1 ≤ k → WX fz x Z M h → p + sF (kn (zD Z) (kW (zD Z))) k m = manyI (zD Z) 0 → q + sF (kn (zD Z) (kP (zD Z))) k m = manyI (zD Z) 1 → s + sF (kn (zD Z) (kL (zD Z))) k m = allI (zD Z) →
    Ra fz x M h (.inl (iI 1)) (fL_holds_10 c fu h (some x) (iI d) (iI p) (iI q) (iI s) (iI (k : Int))) Z := by
  have G := I.1.1.gl
  have T := I.1.1.2.1
  unfold RgT at T
  have O := I.1.1.ok
  intro m
  induction m with
  | zero =>
    intro fu k p q s h hf hk k1 X hp hq hs
    obtain ⟨f, rfl⟩ : ∃ f, fu = f + 1 := ⟨fu - 1, by omega⟩
    rw [sF, Int.add_zero] at hp hq hs
    unfold fL_holds_10
    simp only [iI_l]
    refine q1 X (x_count K X I (show ag 1 from ⟨by decide, by decide⟩)) (fun h1 X1 _ => ?_)
    rw [show rCnt Z 1 = gT (zD Z) 4 from rfl, ← hN, if_pos (show iI (N : Int) < iI (k : Int) from (by rw [lt_i (by omega) (by omega) (by omega) (by omega)]; omega))]
    refine q1 X1 (x_printer K X1 I (show ag 0 from ⟨by decide, by decide⟩)) (fun h2 X2 _ => ?_)
    refine q1 X2 (x_printer K X2 I (show ag 2 from ⟨by decide, by decide⟩)) (fun h3 X3 _ => ?_)
    refine q1 X3 (x_printer K X3 I (show ag 3 from ⟨by decide, by decide⟩)) (fun h4 X4 _ => ?_)
    rw [show rPri (zD Z) 2 = gT (zD Z) 8 from rfl, show rPri (zD Z) 3 = gT (zD Z) 9 from rfl, show rPri (zD Z) 0 = if prtI (zD Z) = -6 then -6 else gF (zD Z) (prtI (zD Z)).toNat 0 from rfl]
    rcases many1 G with ⟨e, m0⟩ | ⟨r, e, r3, hr, hw, m1⟩
    · rw [if_pos e, if_pos (show iI (-6) < iI 0 by decide)]
      unfold fL_holds_230 fL_holds_239 fL_holds_255
      simp only [iI_l, iI_add, iI_sub]
      have ed : gT (zD Z) 8 - gT (zD Z) 9 = d + 0 := by rw [hd]; unfold FI; rw [prI_no e]; omega
      rw [if_pos (congrArg iI ed), if_neg (show ¬ iI 1 < iI q by rw [hq, m0]; decide), if_pos (show iI q = iI 0 by rw [hq, m0]), if_pos (show iI (-6) < iI 0 by decide)]
      exact hEnd K X4 I hp hq hs
    · have nn := hwP_t.mp hw
      have f0 := (I.1.1.1 r hr).2.2.1 0 (by decide)
      rw [e, if_neg (show ¬ (r : Int) = -6 by omega), Int.toNat_natCast, if_neg (show ¬ iI (gF (zD Z) r 0) < iI 0 from (by rw [lt_i (by omega) (by omega) (by omega) (by omega)]; omega))]
      refine q1 X4 (x_ofReceipt K X4 I (show ag (gF (zD Z) r 0) from ⟨by omega, by omega⟩) (show ag 7 from ⟨by decide, by decide⟩)) (fun h5 X5 _ => ?_)
      rw [rcp_r (rec_of G r3 hr nn.1), show wRcp (zD Z) r 7 = gF (zD Z) r 5 from rfl]
      unfold fL_holds_230 fL_holds_239 fL_holds_255
      simp only [iI_l, iI_add, iI_sub]
      have ed : gT (zD Z) 8 - gT (zD Z) 9 = d + gF (zD Z) r 5 := by rw [hd]; unfold FI; rw [prI_of e]; omega
      rw [if_pos (congrArg iI ed), if_neg (show ¬ iI 1 < iI q by rw [hq, m1]; decide), if_neg (show ¬ iI q = iI 0 by rw [hq, m1]; decide), if_neg (show ¬ iI (gF (zD Z) r 0) < iI 0 from (by rw [lt_i (by omega) (by omega) (by omega) (by omega)]; omega))]
      exact hEnd K X5 I hp hq hs
  | succ m ih =>
    intro fu k p q s h hf hk k1 X hp hq hs
    obtain ⟨f, rfl⟩ : ∃ f, fu = f + 1 := ⟨fu - 1, by omega⟩
    rw [sF] at hp hq hs
    unfold fL_holds_10
    simp only [iI_l]
    refine q1 X (x_count K X I (show ag 1 from ⟨by decide, by decide⟩)) (fun h1 X1 _ => ?_)
    rw [show rCnt Z 1 = gT (zD Z) 4 from rfl, ← hN, if_neg (show ¬ iI (N : Int) < iI (k : Int) from (by rw [lt_i (by omega) (by omega) (by omega) (by omega)]; omega))]
    have zk : ag (k : Int) := ⟨by omega, by omega⟩
    refine q1 X1 (x_ofReceipt K X1 I zk (show ag 0 from ⟨by decide, by decide⟩)) (fun h2 X2 _ => ?_)
    have nx : ∀ p' q' s' : Int, p' + sF (kn (zD Z) (kW (zD Z))) (k + 1) m = manyI (zD Z) 0 → q' + sF (kn (zD Z) (kP (zD Z))) (k + 1) m = manyI (zD Z) 1 → s' + sF (kn (zD Z) (kL (zD Z))) (k + 1) m = allI (zD Z) → ∀ h', WX fz x Z M h' → Ra fz x M h' (.inl (iI 1)) (fL_holds_10 c f h' (some x) (iI d) (iI p') (iI q') (iI s') (iI ((k : Int) + 1))) Z := fun p' q' s' a1 a2 a3 h' X' => by
      rw [show (k : Int) + 1 = ((k + 1 : Nat) : Int) by omega]
      exact ih f (k + 1) p' q' s' h' (by omega) (by omega) (by omega) X' a1 a2 a3
    rcases recI_c (zD Z) (k : Int) with e | ⟨r, e, r3, hr, z0, hx⟩
    · rw [rcp_no e, if_pos (show iI (-1) < iI 0 by decide)]
      rw [kn_no e, Int.zero_add] at hp hq hs
      unfold fL_holds_188
      simp only [iI_l, iI_add]
      exact nx p q s hp hq hs h2 X2
    · have nz : 0 < gF (zD Z) r 0 := by omega
      have g := G.1.2.1 r r3 hr nz
      have isr : isR (zD Z) r := ⟨hr, Or.inr nz⟩
      have lr := lnI_rg O isr
      have f5 := (I.1.1.1 r hr).2.2.1 5 (by decide)
      have w := (I.1.1.rw hr).2.2.2.2 r3
      have j := J r r3 hr
      rw [kn_r e] at hp hq hs
      rw [rcp_r e, show wRcp (zD Z) r 0 = gF (zD Z) r 3 from rfl, if_neg (show ¬ iI (gF (zD Z) r 3) < iI 0 from (by rw [lt_i (by omega) (by omega) (by omega) (by omega)]; omega))]
      refine q1 X2 (x_ofReceipt K X2 I zk (show ag 6 from ⟨by decide, by decide⟩)) (fun h3 X3 _ => ?_)
      refine q1 X3 (x_ofReceipt K X3 I zk (show ag 7 from ⟨by decide, by decide⟩)) (fun h4 X4 _ => ?_)
      rw [rcp_r e, rcp_r e, show wRcp (zD Z) r 6 = lnI (zD Z) r from rfl, show wRcp (zD Z) r 7 = gF (zD Z) r 5 from rfl]
      rcases (show gF (zD Z) r 3 = 0 ∨ gF (zD Z) r 3 = 1 ∨ gF (zD Z) r 3 = 2 by omega) with c3 | c3 | c3
      · have p5 := j.1 (hwP_t.mpr ⟨nz, c3⟩)
        have b1 : kW (zD Z) r = 1 := if_pos c3
        have b2 : kP (zD Z) r = 0 := if_neg (by omega)
        have b3 : kL (zD Z) r = lnI (zD Z) r - gF (zD Z) r 5 := if_pos (by omega)
        rw [b1] at hp; rw [b2] at hq; rw [b3] at hs
        rw [c3, if_pos rfl]
        unfold fL_holds_65
        simp only [iI_l]
        rw [if_neg (show ¬ iI 0 = iI 1 by decide)]
        unfold fL_holds_79
        simp only [iI_l]
        rw [if_pos (show iI 0 < iI 2 by decide)]
        unfold fL_holds_98
        simp only [iI_l]
        rw [if_pos True.intro, if_pos (show iI (gF (zD Z) r 5) = iI 0 by rw [p5])]
        unfold fL_holds_111
        simp only [iI_l]
        rw [if_neg (show ¬ iI 0 = iI 2 by decide)]
        unfold fL_holds_124
        simp only [iI_l]
        rw [if_neg (show ¬ iI 0 = iI 1 by decide)]
        unfold fL_holds_147
        simp only [iI_l, iI_add, iI_sub]
        rw [if_neg (show ¬ iI 0 = iI 2 by decide)]
        exact h158 K X4 I zk z0 e r3 hr nz (by rw [if_neg (by omega)]) (nx _ _ _ (by omega) (by omega) (by omega))
      · have b1 : kW (zD Z) r = 0 := if_neg (by omega)
        have b2 : kP (zD Z) r = 1 := if_pos c3
        have b3 : kL (zD Z) r = lnI (zD Z) r - gF (zD Z) r 5 := if_pos (by omega)
        have w2 := w.2 nz (by omega)
        have P : prtI (zD Z) = r := prt_of G.one r3 hr (hwP_t.mpr ⟨nz, c3⟩)
        rw [b1] at hp; rw [b2] at hq; rw [b3] at hs
        rw [c3, if_neg (show ¬ iI 1 = iI 0 by decide)]
        unfold fL_holds_65
        simp only [iI_l]
        rw [if_pos True.intro]
        unfold fL_holds_79
        simp only [iI_l]
        rw [if_pos (show iI 1 < iI 2 by decide)]
        unfold fL_holds_98
        simp only [iI_l]
        rw [if_neg (show ¬ iI 1 = iI 0 by decide)]
        unfold fL_holds_111
        simp only [iI_l]
        rw [if_neg (show ¬ iI 1 = iI 2 by decide)]
        unfold fL_holds_124
        simp only [iI_l]
        rw [if_pos True.intro, if_pos (show iI (gF (zD Z) r 5) < iI (lnI (zD Z) r) from (by rw [lt_i (by omega) (by omega) (by omega) (by omega)]; omega))]
        refine q1 X4 (x_printer K X4 I (show ag 0 from ⟨by decide, by decide⟩)) (fun h5 X5 _ => ?_)
        rw [show rPri (zD Z) 0 = if prtI (zD Z) = -6 then -6 else gF (zD Z) (prtI (zD Z)).toNat 0 from rfl, P, if_neg (show ¬ (r : Int) = -6 by omega), Int.toNat_natCast, hx, if_pos rfl]
        unfold fL_holds_147
        simp only [iI_l, iI_add, iI_sub]
        rw [if_neg (show ¬ iI 1 = iI 2 by decide)]
        exact h158 K X5 I zk z0 e r3 hr nz (by rw [if_neg (by omega)]) (nx _ _ _ (by omega) (by omega) (by omega))
      · have p5 := j.2 (hwP_t.mpr ⟨nz, c3⟩)
        have b1 : kW (zD Z) r = 0 := if_neg (by omega)
        have b2 : kP (zD Z) r = 0 := if_neg (by omega)
        have b3 : kL (zD Z) r = 0 := if_neg (by omega)
        rw [b1] at hp; rw [b2] at hq; rw [b3] at hs
        rw [c3, if_neg (show ¬ iI 2 = iI 0 by decide)]
        unfold fL_holds_65
        simp only [iI_l]
        rw [if_neg (show ¬ iI 2 = iI 1 by decide)]
        unfold fL_holds_79
        simp only [iI_l]
        rw [if_neg (show ¬ iI 2 < iI 2 by decide)]
        unfold fL_holds_98
        simp only [iI_l]
        rw [if_neg (show ¬ iI 2 = iI 0 by decide)]
        unfold fL_holds_111
        simp only [iI_l]
        rw [if_pos True.intro, if_pos (show iI (gF (zD Z) r 5) = iI (lnI (zD Z) r) by rw [p5])]
        unfold fL_holds_124
        simp only [iI_l]
        rw [if_neg (show ¬ iI 2 = iI 1 by decide)]
        unfold fL_holds_147
        simp only [iI_l, iI_add, iI_sub]
        rw [if_pos True.intro]
        exact h158 K X4 I zk z0 e r3 hr nz (by rw [if_pos c3]) (nx _ _ _ (by omega) (by omega) (by omega))
theorem w_holds (K : Kon c fz) (X : WX fz x Z M h) (I : ZI n Z) (hn : n ≤ 1000) (J : JL (zD Z)) {d : Int} (hd : d = FI (zD Z)) : Ra fz x M h (.inl (iI 1)) (fL_holds c h (some x) (iI d)) Z := by
  obtain ⟨N, hN, hN1, eN⟩ := many_n I hn
  have G := I.1.1.gl
  unfold fL_holds
  simp only [iI_l]
  rw [show (iI 1) = iI ((1 : Nat) : Int) from rfl]
  exact h10 K I J hN hN1 hd N FU 1 0 0 0 h (by unfold FU; omega) (by omega) (by decide) X (by rw [kW_sum G hN]; omega) (by rw [kP_sum G hN]; omega) (by rw [kL_sum G hN]; omega)
end
