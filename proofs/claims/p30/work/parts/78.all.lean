/-! ALL CALLS OF A TURN -/
theorem AOK.ck {c : Nat → Option Nat} {D D' : Dt} {r : Int} {o : Hp → Nat → Rs} (H : AOK c D D' r o) : AOK c D D' r (fun h x => Jvm.Pilot.CReceiptRollsLaw_law_r6028_bd9a59.ck h (some x) 7 (cc (o h x) (kI fun h1 x1 => some (h1, some (.inl x1))))) := fun n hn fz x h Z M e I X K => by
  obtain ⟨h1, fz1, Z1, e1, R⟩ := H n hn fz x h Z M e I X K
  exact ⟨h1, fz1, Z1, step1 X e1 _, R⟩
theorem ACT.ck {c : Nat → Option Nat} {D : Dt} {b : Prop} [Decidable b] {o : Hp → Nat → Rs} (H : ACT c D b o) : ACT c D b (fun h x => Jvm.Pilot.CReceiptRollsLaw_law_r6028_bd9a59.ck h (some x) 7 (cc (o h x) (kI fun h1 x1 => some (h1, some (.inl x1))))) := by
  obtain ⟨r, D', a, s, u, g, k⟩ := H
  exact ⟨r, D', a, s, u, g, k.ck⟩
/-- the number of receipts is asked first -/
theorem ACT.cnt {c : Nat → Option Nat} {D : Dt} {b : Prop} [Decidable b] {o : Hp → Nat → Rs} (H : ACT c D b o) (k : Nat → Hp → Int32 → Rs) (e : ∀ (h : Hp) (x : Nat) (Z : Zt) (fz : Nat → Option Cl) (M : Nat → Nat → Int), WX fz x Z M h → k x h (iI (gT D 4)) = o h x) : ACT c D b (fun h x => Jvm.Pilot.CReceiptRollsLaw_law_r6028_bd9a59.ck h (some x) 7 (cc (fX5_count c h (some x) (iI 1)) (kI (k x)))) := by
  obtain ⟨r, D', a, s, u, g, H⟩ := H
  refine ⟨r, D', a, s, u, g, fun n hn fz x h Z M eZ I X K => ?_⟩
  obtain ⟨h0, e0, X0, n0⟩ := x_count K X I (show ag 1 from ⟨by decide, by decide⟩)
  obtain ⟨h1, fz1, Z1, e1, X1, K1, ⟨b1, b2, b3⟩, R⟩ := H n hn fz x h0 Z M eZ I X0 K
  have e4 : rCnt Z 1 = gT D 4 := by rw [← eZ]; rfl
  rw [e4] at e0
  rw [n0] at b1 b2 b3
  exact ⟨h1, fz1, Z1, (step1 X e0 _).trans ((e h0 x Z fz M X0).trans e1), X1, K1, ⟨b1, b2, b3⟩, R⟩
section
variable {c : Nat → Option Nat} {n : Int} {D : Dt}
theorem w_act (hn : n ≤ 1000) (J : JL D) (H : Iv n D) (v w : Int32) : ACT c D (v &&& iI 15 = iI 5) (fun h x => fL_act c h (some x) v w) := by
  obtain ⟨k, hk, ek⟩ := key_of v
  have tr := lowN_rg (shrI v (iI 4)) (n := 3) (by decide)
  have T := H.2.1
  unfold RgT at T
  have t4 := H.2.2.2
  by_cases e0 : k = 0
  · subst e0
    have p := lowN_rg w (n := 5) (by decide)
    refine ACT.of (ACT.ck (a_close hn J H (by rw [ek]; decide) tr.1 tr.2 p.1 p.2)) (fun fz x h Z M X => ?_)
    unfold fL_act
    simp only [iI_l]
    rw [low_cc _ (by decide) (by decide), ek]
    simp (decide := true) only [swf, if_true, if_false]
    rw [low_cc _ (by decide) (by decide)]
  by_cases e1 : k = 1
  · subst e1
    have p := lowN_rg w (n := 5) (by decide)
    refine ACT.of (ACT.ck (a_close hn J H (by rw [ek]; decide) tr.1 tr.2 p.1 p.2)) (fun fz x h Z M X => ?_)
    unfold fL_act
    simp only [iI_l]
    rw [low_cc _ (by decide) (by decide), ek]
    simp (decide := true) only [swf, if_true, if_false]
    rw [low_cc _ (by decide) (by decide)]
  by_cases e2 : k = 2
  · subst e2
    have p := lowN_rg w (n := 4) (by decide)
    refine ACT.of (ACT.ck (a_strike J H (by rw [ek]; decide) tr.1 tr.2 p.1 p.2)) (fun fz x h Z M X => ?_)
    unfold fL_act
    simp only [iI_l]
    rw [low_cc _ (by decide) (by decide), ek]
    simp (decide := true) only [swf, if_true, if_false]
    rw [low_cc _ (by decide) (by decide)]
  by_cases e3 : k = 3
  · subst e3
    have p := lowN_rg w (n := 4) (by decide)
    refine ACT.of (ACT.ck (a_strike J H (by rw [ek]; decide) tr.1 tr.2 p.1 p.2)) (fun fz x h Z M X => ?_)
    unfold fL_act
    simp only [iI_l]
    rw [low_cc _ (by decide) (by decide), ek]
    simp (decide := true) only [swf, if_true, if_false]
    rw [low_cc _ (by decide) (by decide)]
  by_cases e4 : k = 4
  · subst e4
    have s := lowN_rg w (n := 3) (by decide)
    have y0 := lowN_rg (shrI w (iI 2)) (n := 27) (by decide)
    have y1 := lowN_rg (shrI w (iI 2)) (n := 60) (by decide)
    have y2 := lowN_rg (shrI w (iI 2)) (n := 11) (by decide)
    rcases (show lowN w 3 = 0 ∨ lowN w 3 = 1 ∨ lowN w 3 = 2 by omega) with es | es | es
    · refine ACT.of (ACT.ck (a_set J H (by rw [ek]; decide) s.1 s.2 (show ag (15 + lowN (shrI w (iI 2)) 27) from ⟨by omega, by omega⟩))) (fun fz x h Z M X => ?_)
      unfold fL_act fL_act_150
      simp only [iI_l]
      rw [low_cc _ (by decide) (by decide), ek]
      simp (decide := true) only [swf, if_true, if_false]
      rw [low_cc _ (by decide) (by decide), if_pos (show iI (lowN w 3) = iI 0 by rw [es]), low_cc _ (by decide) (by decide), iI_add]
    · refine ACT.of (ACT.ck (a_set J H (by rw [ek]; decide) s.1 s.2 (show ag (4 + lowN (shrI w (iI 2)) 60) from ⟨by omega, by omega⟩))) (fun fz x h Z M X => ?_)
      unfold fL_act fL_act_150
      simp only [iI_l]
      rw [low_cc _ (by decide) (by decide), ek]
      simp (decide := true) only [swf, if_true, if_false]
      rw [low_cc _ (by decide) (by decide), if_neg (show ¬ iI (lowN w 3) = iI 0 by rw [es]; decide), if_pos (show iI (lowN w 3) = iI 1 by rw [es]), low_cc _ (by decide) (by decide), iI_add]
    · refine ACT.of (ACT.ck (a_set J H (by rw [ek]; decide) s.1 s.2 (show ag (lowN (shrI w (iI 2)) 11) from ⟨by omega, by omega⟩))) (fun fz x h Z M X => ?_)
      unfold fL_act fL_act_150
      simp only [iI_l]
      rw [low_cc _ (by decide) (by decide), ek]
      simp (decide := true) only [swf, if_true, if_false]
      rw [low_cc _ (by decide) (by decide), if_neg (show ¬ iI (lowN w 3) = iI 0 by rw [es]; decide), if_neg (show ¬ iI (lowN w 3) = iI 1 by rw [es]; decide), low_cc _ (by decide) (by decide)]
  by_cases e5 : k = 5
  · subst e5
    refine ACT.of (ACT.ck (a_newRoll J H (by rw [ek]; rfl))) (fun fz x h Z M X => ?_)
    unfold fL_act
    simp only [iI_l]
    rw [low_cc _ (by decide) (by decide), ek]
    simp (decide := true) only [swf, if_true, if_false]
  by_cases e6 : k = 6
  · subst e6
    have q := lowN_rg w (n := gT D 4 + 1) (by omega)
    have p := lowN_rg (shrI w (iI 4)) (n := 5) (by decide)
    refine ACT.of (ACT.cnt (ACT.ck (a_hurry J H (y := 1 + lowN w (gT D 4 + 1)) (by rw [ek]; decide) ⟨by omega, by omega⟩ p.1 p.2)) (fun x h49 x50 => cc (fL_low c h49 w (x50 + iI 1)) (kI fun h51 x52 => cc (fL_low c h51 (shrI w (iI 4)) (iI 5)) (kI fun h53 x54 => ck h53 (some x) 7 (cc (fX5_hurry c h53 (some x) (iI 1 + x52) x54) (kI fun h55 x56 => some (h55, some (.inl x56))))))) (fun h x Z fz M X => ?_)) (fun fz x h Z M X => ?_)
    · show cc (fL_low c h w (iI (gT D 4) + iI 1)) _ = _
      rw [iI_add, low_cc _ (by omega) (by omega), low_cc _ (by decide) (by decide), iI_add]
    · unfold fL_act
      simp only [iI_l]
      rw [low_cc _ (by decide) (by decide), ek]
      simp (decide := true) only [swf, if_true, if_false]
  by_cases e7 : k = 7
  · subst e7
    have p := lowN_rg w (n := 6) (by decide)
    refine ACT.of (ACT.ck (a_tear J H (v := 1 + lowN w 6) (by rw [ek]; decide) (by omega) (by omega))) (fun fz x h Z M X => ?_)
    unfold fL_act
    simp only [iI_l]
    rw [low_cc _ (by decide) (by decide), ek]
    simp (decide := true) only [swf, if_true, if_false]
    rw [low_cc _ (by decide) (by decide), iI_add]
  by_cases e8 : k = 8
  · subst e8
    have p := lowN_rg w (n := 8) (by decide)
    refine ACT.of (ACT.ck (a_pass hn J H (t := 1 + lowN w 8) (by rw [ek]; decide) (by omega) (by omega))) (fun fz x h Z M X => ?_)
    unfold fL_act
    simp only [iI_l]
    rw [low_cc _ (by decide) (by decide), ek]
    simp (decide := true) only [swf, if_true, if_false]
    rw [low_cc _ (by decide) (by decide), iI_add]
  by_cases e9 : k = 9
  · subst e9
    have p := lowN_rg w (n := 8) (by decide)
    refine ACT.of (ACT.ck (a_pass hn J H (t := 1 + lowN w 8) (by rw [ek]; decide) (by omega) (by omega))) (fun fz x h Z M X => ?_)
    unfold fL_act
    simp only [iI_l]
    rw [low_cc _ (by decide) (by decide), ek]
    simp (decide := true) only [swf, if_true, if_false]
    rw [low_cc _ (by decide) (by decide), iI_add]
  by_cases e10 : k = 10
  · subst e10
    have p := lowN_rg w (n := 8) (by decide)
    refine ACT.of (ACT.ck (a_pass hn J H (t := 1 + lowN w 8) (by rw [ek]; decide) (by omega) (by omega))) (fun fz x h Z M X => ?_)
    unfold fL_act
    simp only [iI_l]
    rw [low_cc _ (by decide) (by decide), ek]
    simp (decide := true) only [swf, if_true, if_false]
    rw [low_cc _ (by decide) (by decide), iI_add]
  have none_c : ∀ k' : Nat, k' < 11 → ¬ iI (k : Int) = iI (k' : Int) := fun k' hk' e => by
    rw [eq_i (by omega) (by omega) (by omega) (by omega)] at e
    omega
  refine ACT.of (a_ring J H (by rw [ek]; exact none_c 5 (by decide)) w tr.1 tr.2) (fun fz x h Z M X => ?_)
  unfold fL_act
  simp only [iI_l]
  rw [low_cc _ (by decide) (by decide), ek]
  rw [swf, if_neg (show ¬ iI (k : Int) = iI 0 from none_c 0 (by decide)), swf, if_neg (show ¬ iI (k : Int) = iI 1 from none_c 1 (by decide)), swf, if_neg (show ¬ iI (k : Int) = iI 2 from none_c 2 (by decide)), swf, if_neg (show ¬ iI (k : Int) = iI 3 from none_c 3 (by decide)), swf, if_neg (show ¬ iI (k : Int) = iI 4 from none_c 4 (by decide)), swf, if_neg (show ¬ iI (k : Int) = iI 5 from none_c 5 (by decide)), swf, if_neg (show ¬ iI (k : Int) = iI 6 from none_c 6 (by decide)), swf, if_neg (show ¬ iI (k : Int) = iI 7 from none_c 7 (by decide)), swf, if_neg (show ¬ iI (k : Int) = iI 8 from none_c 8 (by decide)), swf, if_neg (show ¬ iI (k : Int) = iI 9 from none_c 9 (by decide)), swf, if_neg (show ¬ iI (k : Int) = iI 10 from none_c 10 (by decide)), swf]
end
