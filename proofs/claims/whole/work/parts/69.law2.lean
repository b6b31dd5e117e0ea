/-! THE LAW -/
/-- the lowest bits of a command -/
theorem cmd_31 (v : Int32) : ∃ k : Nat, k < 32 ∧ v &&& iI 31 = iI (k : Int) := by
  refine ⟨(v.toBitVec &&& 31#32).toNat, ?_, ?_⟩
  · rw [BitVec.toNat_and]
    exact Nat.lt_of_le_of_lt Nat.and_le_right (by decide)
  · apply Int32.toBitVec_inj.mp
    rw [iI_bv]
    show v.toBitVec &&& 31#32 = _
    simp
section
variable {c : Nat → Option Nat} {b x L : Nat} {g : Nat → Int32} {s : Nat → Int} {B S B' S' : Nat}
theorem l_fin {f j : Nat} {Z' : Zt} {M : Nat → Nat → Int} {fz : Nat → Option Cl} {H : Hp} {o : Rs} {r : Int} {K5 : Hp → Int32 → Rs} (mf : Hp → Rs)
    (ih : ∀ (H : Hp) (Z : Zt) (M : Nat → Nat → Int) (fz : Nat → Option Cl), WX fz x Z M H → MZ M Z → ZI ((j + 1 : Nat) : Int) Z → Kon c fz → fz b = some (.inl (10, L, .inl g)) → H.2.1 ≤ B + 100 * (j + 1) → H.2.2 ≤ S + 10000 * (j + 1) → ∃ hf, fL_law_18 c f H (some b) (some x) (some (x + 477)) (iI (5 * ((j + 1 : Nat) : Int))) = some (hf, some (.inl (iI 1))) ∧ hf.2.1 ≤ B' ∧ hf.2.2 ≤ S')
    (hb : H.2.1 ≤ B + 100 * j) (hs2 : H.2.2 ≤ S + 10000 * j) (hfz : fz b = some (.inl (10, L, .inl g))) (R : Rz c fz x M H o r Z') (I : ZI ((j + 1 : Nat) : Int) Z')
    (mm : ∀ h' : Hp, ∃ M', mf (hM h' (x + 477) M) = some (hM h' (x + 477) M', some (.inl (iI r))) ∧ MZ M' Z')
    (hk : ∀ h' : Hp, (hM h' (x + 477) M).1 b = some (.inl (10, L, .inl g)) → K5 (hM h' (x + 477) M) (iI r) = cc (mf (hM h' (x + 477) M)) (kI fun h9 x10 => if iI r = x10 then fL_law_917 c (fL_law_18 c f) h9 (some b) (some x) (some (x + 477)) (iI (5 * (j : Int))) else rtI .boolean h9 (iI 0))) :
    ∃ hf, cc o (kI K5) = some (hf, some (.inl (iI 1))) ∧ hf.2.1 ≤ B' ∧ hf.2.2 ≤ S' := by
  obtain ⟨h', fz', e, W, ⟨K', sub⟩, b1, b2, b3⟩ := R
  obtain ⟨C, k, s1, CH, sl, CS, pq, cap, fl, len, row, W1, w1, L1, HH, RR⟩ := W
  have hm := HH.m
  have hc : (hM h' (x + 477) M).1 b = some (.inl (10, L, .inl g)) := by rw [hm]; exact HH.1.1 _ _ (sub _ _ hfz)
  have key := hk h' hc
  obtain ⟨M', e2, MZ'⟩ := mm h'
  rw [e2] at key
  rw [hm] at key
  simp only [cc_s, kI_i] at key
  rw [if_pos trivial] at key
  unfold fL_law_917 at key
  simp only [iI_l, iI_add] at key
  rw [show 5 * (j : Int) + 5 = 5 * ((j + 1 : Nat) : Int) by omega] at key
  have c1 : (hM h' (x + 477) M').2 = h'.2 := rfl
  obtain ⟨hf, f1, f2, f3⟩ := ih (hM h' (x + 477) M') Z' M' fz' ⟨C, k, s1, CH, sl, CS, pq, cap, fl, len, row, W1, w1, L1, HL_model HH M', RR⟩ MZ' I K' (sub _ _ hfz) (Nat.le_trans b2 (by omega)) (Nat.le_trans b3 (by omega))
  refine ⟨hf, ?_, f2, f3⟩
  rw [e]
  simp only [cc_s, kI_i]
  rw [key, f1]
theorem rdS {H : Hp} {f : Int32 → Rs} {i : Int} (hc : H.1 b = some (.inl (10, L, .inl g))) (hg : ∀ i, g i = iI (s i)) (hL : L ≤ 2560) (i0 : 0 ≤ i) (i1 : i < L) : aldI H (some b) [0, 10] (iI i) f = f (iI (s i.toNat)) := by
  rw [aldI_e hc rfl i0 i1 (by omega), hg]
theorem law_l (hL : L ≤ 2560) (hg : ∀ i, g i = iI (s i)) (hs : ∀ i, ag (s i)) (hB : B + 51200 ≤ B') (hS' : S + 5120000 ≤ S') : ∀ (m fu j : Nat), m < fu → j + m = L / 5 → ∀ (H : Hp) (Z : Zt) (M : Nat → Nat → Int) (fz : Nat → Option Cl), WX fz x Z M H → MZ M Z → ZI (j : Int) Z → Kon c fz → fz b = some (.inl (10, L, .inl g)) → H.2.1 ≤ B + 100 * j → H.2.2 ≤ S + 10000 * j → ∃ hf, fL_law_18 c fu H (some b) (some x) (some (x + 477)) (iI (5 * (j : Int))) = some (hf, some (.inl (iI 1))) ∧ hf.2.1 ≤ B' ∧ hf.2.2 ≤ S' := by
  intro m
  induction m with
  | zero =>
    intro fu j hf hk H Z M fz X Z1 I K hfz hb hs2
    obtain ⟨f, rfl⟩ : ∃ f, fu = f + 1 := ⟨fu - 1, by omega⟩
    have hc : H.1 b = some (.inl (10, L, .inl g)) := by obtain ⟨C, k, s1, CH, sl, CS, pq, cap, fl, len, row, W1, w1, L1, HH, RR⟩ := X; exact HH.1.1 _ _ hfz
    refine ⟨H, ?_, by omega, by omega⟩
    unfold fL_law_18
    simp only [iI_l]
    rw [lenA_e hc, iI_sub, if_pos (show iI ((L : Int) - 5) < iI (5 * (j : Int)) from (by rw [lt_i (by omega) (by omega) (by omega) (by omega)]; omega)), rt_1]
  | succ m ihm =>
    intro fu j hf hk H Z M fz X Z1 I K hfz hb hs2
    obtain ⟨f, rfl⟩ : ∃ f, fu = f + 1 := ⟨fu - 1, by omega⟩
    have ih := ihm f (j + 1) (by omega) (by omega)
    have hc : H.1 b = some (.inl (10, L, .inl g)) := by obtain ⟨C, k, s1, CH, sl, CS, pq, cap, fl, len, row, W1, w1, L1, HH, RR⟩ := X; exact HH.1.1 _ _ hfz
    have ckx : ∀ o, ck H (some x) 7 o = o := fun o => by obtain ⟨C, k, s1, CH, sl, CS, pq, cap, fl, len, row, W1, w1, L1, HH, RR⟩ := X; exact HH.ck
    have rd : ∀ {H : Hp} {f : Int32 → Rs} (a : Nat), a < 5 → H.1 b = some (.inl (10, L, .inl g)) → aldI H (some b) [0, 10] (iI (5 * (j : Int) + a)) f = f (iI (s (5 * j + a))) := fun {H f} a ha hc => by
      rw [rdS hc hg hL (by omega) (by omega), show (5 * (j : Int) + (a : Int)).toNat = 5 * j + a by omega]
    have rd1 : ∀ {H : Hp} {f : Int32 → Rs}, H.1 b = some (.inl (10, L, .inl g)) → aldI H (some b) [0, 10] (iI (5 * (j : Int) + 1)) f = f (iI (s (5 * j + 1))) := fun hc => rd 1 (by decide) hc
    have rd2 : ∀ {H : Hp} {f : Int32 → Rs}, H.1 b = some (.inl (10, L, .inl g)) → aldI H (some b) [0, 10] (iI (5 * (j : Int) + 2)) f = f (iI (s (5 * j + 2))) := fun hc => rd 2 (by decide) hc
    have rd3 : ∀ {H : Hp} {f : Int32 → Rs}, H.1 b = some (.inl (10, L, .inl g)) → aldI H (some b) [0, 10] (iI (5 * (j : Int) + 3)) f = f (iI (s (5 * j + 3))) := fun hc => rd 3 (by decide) hc
    have rd4 : ∀ {H : Hp} {f : Int32 → Rs}, H.1 b = some (.inl (10, L, .inl g)) → aldI H (some b) [0, 10] (iI (5 * (j : Int) + 4)) f = f (iI (s (5 * j + 4))) := fun hc => rd 4 (by decide) hc
    have up : ∀ {Z : Zt}, ZI (j : Int) Z → ZI ((j + 1 : Nat) : Int) Z := fun h => h.mono (by omega)
    obtain ⟨k, hk32, ek⟩ := cmd_31 (iI (s (5 * j)))
    unfold fL_law_18
    simp only [iI_l, iI_add]
    rw [lenA_e hc, iI_sub, if_neg (show ¬ iI ((L : Int) - 5) < iI (5 * (j : Int)) from (by rw [lt_i (by omega) (by omega) (by omega) (by omega)]; omega)), rdS hc hg hL (by omega) (by omega), show (5 * (j : Int)).toNat = 5 * j by omega, ek]
    by_cases e0 : k = 0
    · subst e0
      simp (decide := true) only [swf, if_true, if_false]
      rw [rd1 hc, rd2 hc, ckx]
      by_cases ok : okSet (s (5 * j + 1)) (s (5 * j + 2))
      · refine l_fin (fun h => fX6_set c h (some (x + 477)) (iI (s (5 * j + 1))) (iI (s (5 * j + 2)))) ih hb hs2 hfz ((x_set K X I (hs (5 * j + 1)) (hs (5 * j + 2))).1 ok) (up (ZI_set I ok)) (fun h' => (m_set (hs (5 * j + 1)) (hs (5 * j + 2)) Z1).1 ok) (fun h' hc' => ?_)
        rw [rd1 hc', rd2 hc', ck_M]
      · refine l_fin (fun h => fX6_set c h (some (x + 477)) (iI (s (5 * j + 1))) (iI (s (5 * j + 2)))) ih hb hs2 hfz ((x_set K X I (hs (5 * j + 1)) (hs (5 * j + 2))).2 ok) (up I) (fun h' => (m_set (hs (5 * j + 1)) (hs (5 * j + 2)) Z1).2 ok) (fun h' hc' => ?_)
        rw [rd1 hc', rd2 hc', ck_M]
    by_cases e1 : k = 1
    · subst e1
      simp (decide := true) only [swf, if_true, if_false]
      rw [rd1 hc, rd2 hc, rd3 hc, rd4 hc, ckx]
      refine l_fin (fun h => fX6_ring c h (some (x + 477)) (iI (s (5 * j + 1))) (iI (s (5 * j + 2))) (iI (s (5 * j + 3))) (iI (s (5 * j + 4)))) ih hb hs2 hfz (x_ring K X I (hs (5 * j + 1)) (hs (5 * j + 2)) (hs (5 * j + 3)) (hs (5 * j + 4))) (up (ZI_ring I)) (fun h' => m_ring I.1.1.ok I.1.1.cln I.2.2.2 (hs (5 * j + 1)) (hs (5 * j + 2)) (hs (5 * j + 3)) (hs (5 * j + 4)) Z1) (fun h' hc' => ?_)
      rw [rd1 hc', rd2 hc', rd3 hc', rd4 hc', ck_M]
    by_cases e2 : k = 2
    · subst e2
      simp (decide := true) only [swf, if_true, if_false]
      rw [rd1 hc, rd2 hc, ckx]
      refine l_fin (fun h => fX6_strike c h (some (x + 477)) (iI (s (5 * j + 1))) (iI (s (5 * j + 2)))) ih hb hs2 hfz (x_strike K X I (hs (5 * j + 1)) (hs (5 * j + 2))) (up (ZI_strike I)) (fun h' => m_strike I.1.1.ok (hs (5 * j + 1)) (hs (5 * j + 2)) Z1 I.1.1.h24 I.1.1.h0) (fun h' hc' => ?_)
      rw [rd1 hc', rd2 hc', ck_M]
    by_cases e3 : k = 3
    · subst e3
      simp (decide := true) only [swf, if_true, if_false]
      rw [rd1 hc, rd2 hc, ckx]
      refine l_fin (fun h => fX6_close c h (some (x + 477)) (iI (s (5 * j + 1))) (iI (s (5 * j + 2)))) ih hb hs2 hfz (x_close K X I (hs (5 * j + 1)) (hs (5 * j + 2))) (ZI_close (by omega) I) (fun h' => m_close I.1.1.ok (fun e => Gl_free I.1.1.gl e) (hs (5 * j + 1)) (hs (5 * j + 2)) Z1) (fun h' hc' => ?_)
      rw [rd1 hc', rd2 hc', ck_M]
    by_cases e4 : k = 4
    · subst e4
      simp (decide := true) only [swf, if_true, if_false]
      rw [rd1 hc, rd2 hc, ckx]
      refine l_fin (fun h => fX6_hurry c h (some (x + 477)) (iI (s (5 * j + 1))) (iI (s (5 * j + 2)))) ih hb hs2 hfz (x_hurry K X I (hs (5 * j + 1)) (hs (5 * j + 2))) (up (ZI_hurry I)) (fun h' => m_hurry I.1.1.ok (hs (5 * j + 1)) (hs (5 * j + 2)) Z1) (fun h' hc' => ?_)
      rw [rd1 hc', rd2 hc', ck_M]
    by_cases e5 : k = 5
    · subst e5
      simp (decide := true) only [swf, if_true, if_false]
      rw [ckx]
      refine l_fin (fun h => fX6_newRoll c h (some (x + 477)) ) ih hb hs2 hfz (x_newRoll K X I) (up (ZI_newRoll I)) (fun h' => m_newRoll Z1) (fun h' hc' => ?_)
      rw [ck_M]
    by_cases e6 : k = 6
    · subst e6
      simp (decide := true) only [swf, if_true, if_false]
      rw [rd1 hc, ckx]
      refine l_fin (fun h => fX6_tear c h (some (x + 477)) (iI (s (5 * j + 1)))) ih hb hs2 hfz (x_tear K X I (hs (5 * j + 1))) (up (ZI_tear I)) (fun h' => m_tear I.1.1.ok (hs (5 * j + 1)) Z1) (fun h' hc' => ?_)
      rw [rd1 hc', ck_M]
    by_cases e7 : k = 7
    · subst e7
      simp (decide := true) only [swf, if_true, if_false]
      rw [rd1 hc, ckx]
      refine l_fin (fun h => fX6_pass c h (some (x + 477)) (iI (s (5 * j + 1)))) ih hb hs2 hfz (x_pass (by omega) K X I (hs (5 * j + 1))) (up (ZI_pass (by omega) I)) (fun h' => m_pass (Iv_keep (n := (j : Int)) (by omega)) I.1.1 (hs (5 * j + 1)) Z1) (fun h' hc' => ?_)
      rw [rd1 hc', ck_M]
    by_cases e8 : k = 8
    · subst e8
      simp (decide := true) only [swf, if_true, if_false]
      rw [rd1 hc, rd2 hc, rd3 hc, ckx]
      refine l_fin (fun h => fX6_item c h (some (x + 477)) (iI (s (5 * j + 1))) (iI (s (5 * j + 2))) (iI (s (5 * j + 3)))) ih hb hs2 hfz (x_item K X I (hs (5 * j + 1)) (hs (5 * j + 2)) (hs (5 * j + 3))) (up I) (fun h' => m_item I.1.1.ok (hs (5 * j + 1)) (hs (5 * j + 2)) (hs (5 * j + 3)) Z1) (fun h' hc' => ?_)
      rw [rd1 hc', rd2 hc', rd3 hc', ck_M]
    by_cases e9 : k = 9
    · subst e9
      simp (decide := true) only [swf, if_true, if_false]
      rw [rd1 hc, rd2 hc, ckx]
      refine l_fin (fun h => fX6_ofTill c h (some (x + 477)) (iI (s (5 * j + 1))) (iI (s (5 * j + 2)))) ih hb hs2 hfz (x_ofTill K X I (hs (5 * j + 1)) (hs (5 * j + 2))) (up I) (fun h' => m_ofTill I.1.1.ok (hs (5 * j + 1)) (hs (5 * j + 2)) Z1) (fun h' hc' => ?_)
      rw [rd1 hc', rd2 hc', ck_M]
    by_cases e10 : k = 10
    · subst e10
      simp (decide := true) only [swf, if_true, if_false]
      rw [rd1 hc, rd2 hc, ckx]
      refine l_fin (fun h => fX6_ofReceipt c h (some (x + 477)) (iI (s (5 * j + 1))) (iI (s (5 * j + 2)))) ih hb hs2 hfz (x_ofReceipt K X I (hs (5 * j + 1)) (hs (5 * j + 2))) (up I) (fun h' => m_ofReceipt I.1.1.ok (hs (5 * j + 1)) (hs (5 * j + 2)) Z1) (fun h' hc' => ?_)
      rw [rd1 hc', rd2 hc', ck_M]
    by_cases e11 : k = 11
    · subst e11
      simp (decide := true) only [swf, if_true, if_false]
      rw [rd1 hc, rd2 hc, rd3 hc, ckx]
      refine l_fin (fun h => fX6_sign c h (some (x + 477)) (iI (s (5 * j + 1))) (iI (s (5 * j + 2))) (iI (s (5 * j + 3)))) ih hb hs2 hfz (x_sign K X I (hs (5 * j + 1)) (hs (5 * j + 2)) (hs (5 * j + 3))) (up I) (fun h' => m_sign I.1.1.ok (hs (5 * j + 1)) (hs (5 * j + 2)) (hs (5 * j + 3)) Z1) (fun h' hc' => ?_)
      rw [rd1 hc', rd2 hc', rd3 hc', ck_M]
    by_cases e12 : k = 12
    · subst e12
      simp (decide := true) only [swf, if_true, if_false]
      rw [rd1 hc, ckx]
      refine l_fin (fun h => fX6_waiting c h (some (x + 477)) (iI (s (5 * j + 1)))) ih hb hs2 hfz (x_waiting K X I (hs (5 * j + 1))) (up I) (fun h' => m_waiting I.1.1.ok (hs (5 * j + 1)) Z1) (fun h' hc' => ?_)
      rw [rd1 hc', ck_M]
    by_cases e13 : k = 13
    · subst e13
      simp (decide := true) only [swf, if_true, if_false]
      rw [rd1 hc, ckx]
      refine l_fin (fun h => fX6_printer c h (some (x + 477)) (iI (s (5 * j + 1)))) ih hb hs2 hfz (x_printer K X I (hs (5 * j + 1))) (up I) (fun h' => m_printer I.1.1.ok (hs (5 * j + 1)) Z1) (fun h' hc' => ?_)
      rw [rd1 hc', ck_M]
    by_cases e14 : k = 14
    · subst e14
      simp (decide := true) only [swf, if_true, if_false]
      rw [rd1 hc, ckx]
      refine l_fin (fun h => fX6_count c h (some (x + 477)) (iI (s (5 * j + 1)))) ih hb hs2 hfz (x_count K X I (hs (5 * j + 1))) (up I) (fun h' => m_count I.1.1.ok (hs (5 * j + 1)) Z1) (fun h' hc' => ?_)
      rw [rd1 hc', ck_M]
    by_cases e15 : k = 15
    · subst e15
      simp (decide := true) only [swf, if_true, if_false]
      rw [rd1 hc, rd2 hc, rd3 hc, ckx]
      refine l_fin (fun h => fX6_between c h (some (x + 477)) (iI (s (5 * j + 1))) (iI (s (5 * j + 2))) (iI (s (5 * j + 3)))) ih hb hs2 hfz (x_between K X I (hs (5 * j + 1)) (hs (5 * j + 2)) (hs (5 * j + 3))) (up I) (fun h' => m_between I.1.1.ok (hs (5 * j + 1)) (hs (5 * j + 2)) (hs (5 * j + 3)) Z1) (fun h' hc' => ?_)
      rw [rd1 hc', rd2 hc', rd3 hc', ck_M]
    by_cases e16 : k = 16
    · subst e16
      simp (decide := true) only [swf, if_true, if_false]
      rw [rd1 hc, ckx]
      refine l_fin (fun h => fX6_doneIn c h (some (x + 477)) (iI (s (5 * j + 1)))) ih hb hs2 hfz (x_doneIn K X I (hs (5 * j + 1))) (up I) (fun h' => m_doneIn I.1.1.ok (hs (5 * j + 1)) I.1.1.up Z1) (fun h' hc' => ?_)
      rw [rd1 hc', ck_M]
    by_cases e17 : k = 17
    · subst e17
      simp (decide := true) only [swf, if_true, if_false]
      rw [ckx]
      refine l_fin (fun h => fX6_linesLeft c h (some (x + 477)) ) ih hb hs2 hfz (x_linesLeft K X I) (up I) (fun h' => m_linesLeft I.1.1.ok Z1) (fun h' hc' => ?_)
      rw [ck_M]
    by_cases e18 : k = 18
    · subst e18
      simp (decide := true) only [swf, if_true, if_false]
      rw [ckx]
      refine l_fin (fun h => fX6_outIn c h (some (x + 477)) ) ih hb hs2 hfz (x_outIn K X I) (up I) (fun h' => m_outIn I.1.1.ok Z1) (fun h' hc' => ?_)
      rw [ck_M]
    by_cases e19 : k = 19
    · subst e19
      simp (decide := true) only [swf, if_true, if_false]
      rw [rd1 hc, rd2 hc, ckx]
      refine l_fin (fun h => fX6_bestWidth c h (some (x + 477)) (iI (s (5 * j + 1))) (iI (s (5 * j + 2)))) ih hb hs2 hfz (x_bestWidth K X I (hs (5 * j + 1)) (hs (5 * j + 2))) (up I) (fun h' => m_bestWidth I.1.1.ok (hs (5 * j + 1)) (hs (5 * j + 2)) Z1) (fun h' hc' => ?_)
      rw [rd1 hc', rd2 hc', ck_M]
    by_cases e20 : k = 20
    · subst e20
      simp (decide := true) only [swf, if_true, if_false]
      rw [rd1 hc, rd2 hc, ckx]
      refine l_fin (fun h => fX6_ifStruck c h (some (x + 477)) (iI (s (5 * j + 1))) (iI (s (5 * j + 2)))) ih hb hs2 hfz (x_ifStruck K X I (hs (5 * j + 1)) (hs (5 * j + 2))) (up I) (fun h' => m_ifStruck I.1.1.ok (hs (5 * j + 1)) (hs (5 * j + 2)) Z1) (fun h' hc' => ?_)
      rw [rd1 hc', rd2 hc', ck_M]
    by_cases e21 : k = 21
    · subst e21
      simp (decide := true) only [swf, if_true, if_false]
      rw [rd1 hc, rd2 hc, ckx]
      obtain ⟨u, hu, eu⟩ : ∃ u : Nat, u < 2 ^ 64 ∧ ((shlL (Int32.toInt64 (iI (s (5 * j + 1)))) (iI 32)) ||| ((Int32.toInt64 (iI (s (5 * j + 2)))) &&& (4294967295 : Int64))) = lL u := ⟨_, UInt64.toNat_lt _, (lL_u _).symm⟩
      rw [eu]
      refine l_fin (fun h => fX6_put c h (some (x + 477)) (lL u)) ih hb hs2 hfz (x_put K X I hu) (up (ZI_put I)) (fun h' => m_put hu Z1) (fun h' hc' => ?_)
      rw [rd1 hc', rd2 hc', ck_M, eu]
    by_cases e22 : k = 22
    · subst e22
      simp (decide := true) only [swf, if_true, if_false]
      rw [ckx]
      refine l_fin (fun h => fX6_wipe c h (some (x + 477)) ) ih hb hs2 hfz (x_wipe K X I) (up (ZI_wipe I)) (fun h' => m_wipe Z1) (fun h' hc' => ?_)
      rw [ck_M]
    by_cases e23 : k = 23
    · subst e23
      simp (decide := true) only [swf, if_true, if_false]
      rw [ckx]
      refine l_fin (fun h => fX6_fault c h (some (x + 477)) ) ih hb hs2 hfz (x_fault K X I ) (up I) (fun h' => m_fault Z1 I.2.2.2) (fun h' hc' => ?_)
      rw [ck_M]
    by_cases e24 : k = 24
    · subst e24
      simp (decide := true) only [swf, if_true, if_false]
      rw [ckx]
      refine l_fin (fun h => fX6_undo c h (some (x + 477)) ) ih hb hs2 hfz (x_undo K X I) (up (ZI_undo I)) (fun h' => m_undo Z1) (fun h' hc' => ?_)
      rw [ck_M]
    by_cases e25 : k = 25
    · subst e25
      simp (decide := true) only [swf, if_true, if_false]
      rw [rd1 hc, ckx]
      refine l_fin (fun h => fX6_save c h (some (x + 477)) (iI (s (5 * j + 1)))) ih hb hs2 hfz (x_save K X I (hs (5 * j + 1))) (up (ZI_save I)) (fun h' => m_save (hs (5 * j + 1)) Z1) (fun h' hc' => ?_)
      rw [rd1 hc', ck_M]
    by_cases e26 : k = 26
    · subst e26
      simp (decide := true) only [swf, if_true, if_false]
      rw [rd1 hc, ckx]
      refine l_fin (fun h => fX6_restore c h (some (x + 477)) (iI (s (5 * j + 1)))) ih hb hs2 hfz (x_restore K X I (hs (5 * j + 1))) (up (ZI_restore I)) (fun h' => m_restore (hs (5 * j + 1)) Z1) (fun h' hc' => ?_)
      rw [rd1 hc', ck_M]
    have none_c : ∀ k' : Nat, k' < 27 → ¬ iI (k : Int) = iI (k' : Int) := fun k' hk' e => by
      rw [eq_i (by omega) (by omega) (by omega) (by omega)] at e
      omega
    rw [swf, if_neg (show ¬ iI (k : Int) = iI 0 from none_c 0 (by decide)), swf, if_neg (show ¬ iI (k : Int) = iI 1 from none_c 1 (by decide)), swf, if_neg (show ¬ iI (k : Int) = iI 2 from none_c 2 (by decide)), swf, if_neg (show ¬ iI (k : Int) = iI 3 from none_c 3 (by decide)), swf, if_neg (show ¬ iI (k : Int) = iI 4 from none_c 4 (by decide)), swf, if_neg (show ¬ iI (k : Int) = iI 5 from none_c 5 (by decide)), swf, if_neg (show ¬ iI (k : Int) = iI 6 from none_c 6 (by decide)), swf, if_neg (show ¬ iI (k : Int) = iI 7 from none_c 7 (by decide)), swf, if_neg (show ¬ iI (k : Int) = iI 8 from none_c 8 (by decide)), swf, if_neg (show ¬ iI (k : Int) = iI 9 from none_c 9 (by decide)), swf, if_neg (show ¬ iI (k : Int) = iI 10 from none_c 10 (by decide)), swf, if_neg (show ¬ iI (k : Int) = iI 11 from none_c 11 (by decide)), swf, if_neg (show ¬ iI (k : Int) = iI 12 from none_c 12 (by decide)), swf, if_neg (show ¬ iI (k : Int) = iI 13 from none_c 13 (by decide)), swf, if_neg (show ¬ iI (k : Int) = iI 14 from none_c 14 (by decide)), swf, if_neg (show ¬ iI (k : Int) = iI 15 from none_c 15 (by decide)), swf, if_neg (show ¬ iI (k : Int) = iI 16 from none_c 16 (by decide)), swf, if_neg (show ¬ iI (k : Int) = iI 17 from none_c 17 (by decide)), swf, if_neg (show ¬ iI (k : Int) = iI 18 from none_c 18 (by decide)), swf, if_neg (show ¬ iI (k : Int) = iI 19 from none_c 19 (by decide)), swf, if_neg (show ¬ iI (k : Int) = iI 20 from none_c 20 (by decide)), swf, if_neg (show ¬ iI (k : Int) = iI 21 from none_c 21 (by decide)), swf, if_neg (show ¬ iI (k : Int) = iI 22 from none_c 22 (by decide)), swf, if_neg (show ¬ iI (k : Int) = iI 23 from none_c 23 (by decide)), swf, if_neg (show ¬ iI (k : Int) = iI 24 from none_c 24 (by decide)), swf, if_neg (show ¬ iI (k : Int) = iI 25 from none_c 25 (by decide)), swf, if_neg (show ¬ iI (k : Int) = iI 26 from none_c 26 (by decide)), swf]
    unfold fL_law_917
    simp only [iI_l, iI_add]
    rw [show 5 * (j : Int) + 5 = 5 * ((j + 1 : Nat) : Int) by omega]
    exact ih H Z M fz X Z1 (up I) K hfz (by omega) (by omega)
end
