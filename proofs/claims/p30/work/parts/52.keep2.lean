/-! RING, STRIKE, CLOSE keep it -/
theorem sF_snoc {f : Nat → Int} : ∀ (m k : Nat), sF f k (m + 1) = sF f k m + f (k + m)
  | 0, k => by simp [sF]
  | m + 1, k => by
    have := sF_snoc (f := f) m (k + 1)
    rw [sF, this, sF, show k + 1 + m = k + (m + 1) by omega]
    omega
theorem gP_sP (D : Dt) (r i q j : Nat) (p : Nat → Int) : gP (sP D r i p) q j = if q = r ∧ j = i then p else gP D q j := rfl
theorem gN_sN (D : Dt) (r i q j : Nat) (p : Nat → Int) : gN' (sN D r i p) q j = if q = r ∧ j = i then p else gN' D q j := rfl
theorem gE_sE (D : Dt) (r q : Nat) (p : Nat → Int) : gE (sE D r p) q = if q = r then p else gE D q := rfl
theorem rg_F (Z : Zt) (t q k : Nat) (m p x : Int) : gF (rngD Z t m p x) q k = if q = t ∧ k = 9 then gF (zD Z) t 9 + 1 else if q = t ∧ k = 8 then gF (zD Z) t 8 + 1 else gF (zD Z) q k := by
  unfold rngD hapD
  rw [gF_sFl]
  show (if _ then gF (sFl _ t 8 _) t 9 + 1 else gF (sFl _ t 8 _) q k) = _
  rw [gF_sFl, gF_sFl, if_neg (show ¬ (t = t ∧ 9 = 8) by omega)]
  rfl
theorem rg_P (Z : Zt) (t q j : Nat) (m p x : Int) : gP (rngD Z t m p x) q j = if q = t ∧ j = (gF (zD Z) t 8).toNat then itm m p x (zl Z) else gP (zD Z) q j := rfl
theorem rg_N (Z : Zt) (t q j : Nat) (m p x : Int) : gN' (rngD Z t m p x) q j = if q = t ∧ j = (gF (zD Z) t 8).toNat then nmK (zp Z) (zl Z) else gN' (zD Z) q j := rfl
theorem rg_E (Z : Zt) (t q : Nat) (m p x : Int) : gE (rngD Z t m p x) q = if q = t then st (gE (zD Z) t) (gF (zD Z) t 9).toNat (gF (zD Z) t 8) else gE (zD Z) q := by
  unfold rngD hapD
  show (if q = t then st (gE (zD Z) t) (gF (sFl _ t 8 _) t 9).toNat _ else gE (zD Z) q) = _
  rw [gF_sFl, if_neg (show ¬ (t = t ∧ 9 = 8) by omega)]
  rfl
theorem rg_T (Z : Zt) (t k : Nat) (m p x : Int) : gT (rngD Z t m p x) k = gT (zD Z) k := rfl
theorem Iv_ring {n : Int} {Z : Zt} (H : Iv n (zD Z)) {t : Nat} {m p x : Int} (ht : t < 3) (h8 : gF (zD Z) t 8 < 12) (h1 : 1 ≤ m ∧ m ≤ 99) (h2 : 1 ≤ p ∧ p ≤ 9999) (h3 : 0 ≤ x ∧ x ≤ 2) (hf : flI Z = -6) : Iv n (rngD Z t m p x) := by
  have hfl := flI_6 hf
  have L := H.1 t (by omega)
  have C := H.cln t ht h8
  have n8 := nIt_le L.1
  have g := L.1.1
  have F : ∀ k, gF (rngD Z t m p x) t k = if k = 9 then gF (zD Z) t 9 + 1 else if k = 8 then gF (zD Z) t 8 + 1 else gF (zD Z) t k := fun k => by
    rw [rg_F]; simp only [true_and]
  have e1 : nIt (rngD Z t m p x) t = nIt (zD Z) t + 1 := by unfold nIt; rw [F]; show (gF (zD Z) t 8 + 1).toNat = _; omega
  have e2 : nEt (rngD Z t m p x) t = nEt (zD Z) t + 1 := by unfold nEt; rw [F]; show (gF (zD Z) t 9 + 1).toNat = _; omega
  have P : ∀ j, gP (rngD Z t m p x) t j = if j = nIt (zD Z) t then itm m p x (zl Z) else gP (zD Z) t j := fun j => by
    rw [rg_P]; simp only [true_and]; rfl
  have N : ∀ j, gN' (rngD Z t m p x) t j = if j = nIt (zD Z) t then nmK (zp Z) (zl Z) else gN' (zD Z) t j := fun j => by
    rw [rg_N]; simp only [true_and]; rfl
  have E : gE (rngD Z t m p x) t = st (gE (zD Z) t) (nEt (zD Z) t) (gF (zD Z) t 8) := by rw [rg_E, if_pos rfl]; rfl
  have e3 : struckI (rngD Z t m p x) t = struckI (zD Z) t := by
    unfold struckI
    rw [e1, sF_snoc, Nat.zero_add, P, if_pos rfl]
    rw [sF_congr (nIt (zD Z) t) 0 (f := fun i => gP (rngD Z t m p x) t i 3) (g := fun i => gP (zD Z) t i 3) (fun i a b => by show gP (rngD Z t m p x) t i 3 = _; rw [P, if_neg (by omega)])]
    show _ + 0 = _
    omega
  obtain ⟨a, b, c, d, e, f1, f2, f3, f4, f5⟩ := L
  refine ⟨fun q hq => ?_, H.2.1, Gl_cg H.gl (fun r r3 hr => ⟨by rw [rg_F, if_neg (by omega), if_neg (by omega)], by rw [rg_F, if_neg (by omega), if_neg (by omega)], by rw [rg_F, if_neg (by omega), if_neg (by omega)]⟩) rfl rfl, H.2.2.2⟩
  by_cases eq : q = t
  · rw [eq]
    refine ⟨⟨by rw [F, F]; simp (decide := true) only [if_true, if_false]; omega, fun i => ?_, fun i k => ?_, fun k => ?_⟩, fun i hi => ?_, fun k hk => ?_, fun k hk => ?_, fun h => by omega, fun i hi => ?_, fun k hk => ?_, ?_, fun _ => ?_, fun h => by omega⟩
    · rw [P]; split
      · unfold pRg itm; simp; omega
      · exact a.2.1 i
    · rw [N]; split
      · unfold nmK; split
        · next hk => have := (hfl.2 k hk).2; omega
        · decide
      · exact a.2.2.1 i k
    · rw [E]; unfold st; split
      · omega
      · exact a.2.2.2 k
    · rw [P]; split
      · unfold itm; simp (decide := true) only [if_true, if_false]; omega
      · exact b i (by omega)
    · rw [F, if_neg (by omega), if_neg (by omega)]; exact c k hk
    · rw [E, F]; simp (decide := true) only [if_true, if_false]
      unfold st; split
      · omega
      · have := d k (by omega); omega
    · rw [P, N, if_neg (by omega), if_neg (by omega)]; exact f1 i (by omega)
    · rw [E]; unfold st; rw [if_neg (by omega)]; exact f2 k (by omega)
    · rw [F, F, e3]; simp (decide := true) only [if_true, if_false]; omega
    · have := f4 ht
      refine ⟨by rw [F, if_neg (by omega), if_neg (by omega)]; exact this.1, by rw [F, if_neg (by omega), if_neg (by omega)]; exact this.2.1, fun k k2 k8 => by rw [F, if_neg (by omega), if_neg (by omega)]; exact this.2.2 k k2 k8⟩
  · refine (H.1 q hq).to ⟨funext fun j => ?_, funext fun j => ?_, funext fun j => ?_, ?_⟩
    · rw [rg_F, if_neg (by omega), if_neg (by omega)]
    · rw [rg_P, if_neg (by omega)]
    · rw [rg_N, if_neg (by omega)]
    · rw [rg_E, if_neg eq]
theorem sr_F (D : Dt) (t i : Int) (q k : Nat) : gF (strD D t i) q k = if q = t.toNat ∧ k = 9 then gF D t.toNat 9 + 1 else gF D q k := by
  unfold strD hapD
  rw [gF_sT, gF_sFl]
  rfl
theorem sr_P (D : Dt) (t i : Int) (q j : Nat) : gP (strD D t i) q j = if q = t.toNat ∧ j = i.toNat then st (gP D t.toNat i.toNat) 3 1 else gP D q j := rfl
theorem sr_N (D : Dt) (t i : Int) : gN' (strD D t i) = gN' D := rfl
theorem sr_E (D : Dt) (t i : Int) (q : Nat) : gE (strD D t i) q = if q = t.toNat then st (gE D t.toNat) (gF D t.toNat 9).toNat (i + 16) else gE D q := rfl
theorem sr_T (D : Dt) (t i : Int) (k : Nat) : gT (strD D t i) k = if k = 6 then gT D 6 + 1 else gT D k := rfl
theorem Iv_strike {n : Int} {D : Dt} (H : Iv n D) {t i : Int} (h : 0 ≤ t ∧ t ≤ 2 ∧ 0 ≤ i ∧ i < gF D t.toNat 8) (hs : gP D t.toNat i.toNat 3 ≠ 1) : Iv n (strD D t i) := by
  have ht : t.toNat < 3 := by omega
  have L := H.1 t.toNat (by omega)
  have n8 := nIt_le L.1
  have g := L.1.1
  have hp := L.1.2.1 i.toNat
  have hp' := hp
  unfold pRg at hp'
  have h0 : gP D t.toNat i.toNat 3 = 0 := by omega
  have h9 := H.h24 t.toNat ht i.toNat (by omega) h0
  have F : ∀ k, gF (strD D t i) t.toNat k = if k = 9 then gF D t.toNat 9 + 1 else gF D t.toNat k := fun k => by
    rw [sr_F]; simp only [true_and]
  have e1 : nIt (strD D t i) t.toNat = nIt D t.toNat := by unfold nIt; rw [F, if_neg (by omega)]
  have e2 : nEt (strD D t i) t.toNat = nEt D t.toNat + 1 := by unfold nEt; rw [F, if_pos rfl]; omega
  have P : ∀ j, gP (strD D t i) t.toNat j = if j = i.toNat then st (gP D t.toNat i.toNat) 3 1 else gP D t.toNat j := fun j => by
    rw [sr_P]; simp only [true_and]
  have E : gE (strD D t i) t.toNat = st (gE D t.toNat) (nEt D t.toNat) (i + 16) := by rw [sr_E, if_pos rfl]; rfl
  have e3 : struckI (strD D t i) t.toNat = struckI D t.toNat + 1 := by
    unfold struckI
    rw [e1, sF_upd (f := fun j => gP D t.toNat j 3) (f' := fun j => gP (strD D t i) t.toNat j 3) (r := i.toNat) (nIt D t.toNat) 0 (by omega) (by omega) (fun j a b c => by show gP (strD D t i) t.toNat j 3 = _; rw [P, if_neg c])]
    rw [P, if_pos rfl, h0]
    show _ - 0 + 1 = _
    omega
  have pst : ∀ j, j ≠ 3 → st (gP D t.toNat i.toNat) 3 1 j = gP D t.toNat i.toNat j := fun j hj => if_neg hj
  have pst3 : st (gP D t.toNat i.toNat) 3 1 3 = 1 := if_pos rfl
  obtain ⟨a, b, c, d, e, f1, f2, f3, f4, f5⟩ := L
  refine ⟨fun q hq => ?_, RgT_k H.2.1 (by decide) (fun h => absurd h (by decide)), Gl_cg H.gl (fun r r3 hr => ⟨by rw [sr_F, if_neg (by omega)], by rw [sr_F, if_neg (by omega)], by rw [sr_F, if_neg (by omega)]⟩) rfl rfl, H.2.2.2⟩
  by_cases eq : q = t.toNat
  · rw [eq]
    refine ⟨⟨by rw [F, F]; simp (decide := true) only [if_true, if_false]; omega, fun j => ?_, fun j k => a.2.2.1 j k, fun k => ?_⟩, fun j hj => ?_, fun k hk => ?_, fun k hk => ?_, fun h => by omega, fun j hj => ?_, fun k hk => ?_, ?_, fun _ => ?_, fun h => by omega⟩
    · rw [P]; split
      · unfold pRg; rw [pst 0 (by decide), pst 1 (by decide), pst 2 (by decide), pst3, pst 4 (by decide)]; omega
      · exact a.2.1 j
    · rw [E]; unfold st; split
      · omega
      · exact a.2.2.2 k
    · rw [P]; split
      · rw [pst 0 (by decide), pst 1 (by decide)]; exact b i.toNat (by omega)
      · exact b j (by omega)
    · rw [F, if_neg (by omega)]; exact c k hk
    · rw [E, F, if_neg (by omega)]
      unfold st; split
      · omega
      · exact d k (by omega)
    · rw [P, if_neg (by omega)]; exact f1 j (by omega)
    · rw [E]; unfold st; rw [if_neg (by omega)]; exact f2 k (by omega)
    · rw [F, F, e3, if_pos rfl, if_neg (by omega)]; omega
    · have := f4 ht
      refine ⟨by rw [F, if_neg (by omega)]; exact this.1, by rw [F, if_neg (by omega)]; exact this.2.1, fun k k2 k8 => by rw [F, if_neg (by omega)]; exact this.2.2 k k2 k8⟩
  · refine (H.1 q hq).to ⟨funext fun j => ?_, funext fun j => ?_, rfl, ?_⟩
    · rw [sr_F, if_neg (by omega)]
    · rw [sr_P, if_neg (by omega)]
    · rw [sr_E, if_neg eq]
theorem clo_P (D : Dt) (r t q : Nat) (p : Int) (hrt : r ≠ t) : gP (cloD D r t p) q = if q = t then fun _ _ => 0 else if q = r then gP D t else gP D q := by
  funext j k
  show (if q = t then 0 else gP D (if q = r then t else q) j k) = _
  by_cases e : q = t
  · rw [if_pos e, if_pos e]
  · rw [if_neg e, if_neg e]; split <;> rfl
theorem clo_N (D : Dt) (r t q : Nat) (p : Int) (hrt : r ≠ t) : gN' (cloD D r t p) q = if q = t then fun _ _ => 0 else if q = r then gN' D t else gN' D q := by
  funext j k
  show (if q = t then 0 else gN' D (if q = r then t else q) j k) = _
  by_cases e : q = t
  · rw [if_pos e, if_pos e]
  · rw [if_neg e, if_neg e]; split <;> rfl
theorem clo_E (D : Dt) (r t q : Nat) (p : Int) (hrt : r ≠ t) : gE (cloD D r t p) q = if q = t then fun _ => 0 else if q = r then gE D t else gE D q := by
  funext k
  show (if q = t then 0 else gE D (if q = r then t else q) k) = _
  by_cases e : q = t
  · rw [if_pos e, if_pos e]
  · rw [if_neg e, if_neg e]; split <;> rfl
/-- the lines of what is closed are those that it had -/
theorem clo_ln (D : Dt) {r t : Nat} (p : Int) (h3 : 3 ≤ r) (ht : t < 3) : lnI (cloD D r t p) r = lnI D t := by
  have hrt : r ≠ t := by omega
  have F : ∀ k, 5 ≤ k → gF (cloD D r t p) r k = gF D t k := fun k hk => by rw [clo_F, if_neg (by omega), if_neg (by omega), if_neg (by omega), if_neg (by omega), if_neg (by omega), if_pos rfl]
  have e1 : nIt (cloD D r t p) r = nIt D t := by unfold nIt; rw [F 8 (by decide)]
  have e2 : nEt (cloD D r t p) r = nEt D t := by unfold nEt; rw [F 9 (by decide)]
  have eP : gP (cloD D r t p) r = gP D t := by rw [clo_P _ _ _ _ _ hrt, if_neg hrt, if_pos rfl]
  have eN : gN' (cloD D r t p) r = gN' D t := by rw [clo_N _ _ _ _ _ hrt, if_neg hrt, if_pos rfl]
  have eE : gE (cloD D r t p) r = gE D t := by rw [clo_E _ _ _ _ _ hrt, if_neg hrt, if_pos rfl]
  have ev : ∀ (w width : Int) (m k : Nat) (L : Ly), lEv (cloD D r t p) r w width k m L = lEv D t w width k m L := by
    intro w width m
    induction m with
    | zero => intro k L; rfl
    | succ m ih =>
      intro k L
      rw [lEv, lEv, ih]
      congr 1
      unfold lEv1
      rw [eE, eP, eN]
  have eT : totI (cloD D r t p) r = totI D t := by
    unfold totI; rw [e1]; exact sF_congr _ _ fun i _ _ => by unfold vl; rw [eP]
  have eS : ∀ x, sumT (cloD D r t p) r x = sumT D t x := fun x => by
    unfold sumT; rw [e1]; exact sF_congr _ _ fun i _ _ => by unfold tv; rw [eP]
  have eX : ∀ x, taxI (cloD D r t p) r x = taxI D t x := fun x => by unfold taxI; rw [eS]
  have eN2 : numI (cloD D r t p) r = numI D t := by
    unfold numI
    rw [if_neg (by omega), if_pos ht, clo_F, if_neg (by omega), if_neg (by omega), if_neg (by omega), if_neg (by omega), if_pos ⟨rfl, rfl⟩]
  have eW : wdI (cloD D r t p) r = wdI D t := by
    unfold wdI
    rw [if_neg (by omega), if_pos ht, clo_F, if_neg (by omega), if_neg (by omega), if_pos ⟨rfl, rfl⟩]
  unfold lnI cntI lAll lTail lTax
  rw [eN2, eW, e2, ev, eT, eS, eS, eX, eX]
theorem Iv_close {n : Int} {D : Dt} (H : Iv n D) (hn : n ≤ 1000) {r t : Nat} {p : Int} (h3 : 3 ≤ r) (hr : r < 21) (ht : t < 3) (hf : gF D r 0 ≤ 0) (hm : manyI D 0 + manyI D 1 ≠ 10) (p0 : 0 ≤ p) (p1 : p ≤ 3) : Iv (n + 1) (cloD D r t p) := by
  have L := H.1 t (by omega)
  have w4 := (H.rw (r := t) (by omega)).2.2.2.1 ht
  have T := H.2.1
  unfold RgT at T
  have hrt : r ≠ t := by omega
  have F5 : ∀ k, 5 ≤ k → gF (cloD D r t p) r k = gF D t k := fun k hk => by rw [clo_F, if_neg (by omega), if_neg (by omega), if_neg (by omega), if_neg (by omega), if_neg (by omega), if_pos rfl]
  have F : ∀ k, gF (cloD D r t p) r k = if k = 4 then gT D 0 else if k = 2 then p else if k = 0 then gT D 4 + 1 else gF D t k := fun k => by
    rw [clo_F, if_neg (by omega), if_neg (by omega)]; simp only [true_and, if_true]
  have Ft : ∀ k, gF (cloD D r t p) t k = if k = 1 then (t : Int) else 0 := fun k => by
    rw [clo_F]; simp only [true_and, if_true]
  have e1 : nIt (cloD D r t p) r = nIt D t := by unfold nIt; rw [F5 8 (by decide)]
  have e2 : nEt (cloD D r t p) r = nEt D t := by unfold nEt; rw [F5 9 (by decide)]
  have eP : gP (cloD D r t p) r = gP D t := by rw [clo_P _ _ _ _ _ hrt, if_neg hrt, if_pos rfl]
  have eN : gN' (cloD D r t p) r = gN' D t := by rw [clo_N _ _ _ _ _ hrt, if_neg hrt, if_pos rfl]
  have eE : gE (cloD D r t p) r = gE D t := by rw [clo_E _ _ _ _ _ hrt, if_neg hrt, if_pos rfl]
  have e3 : struckI (cloD D r t p) r = struckI D t := by unfold struckI; rw [e1, eP]
  have ln := lnI_rg H.ok (r := t) ⟨by omega, Or.inl ht⟩
  obtain ⟨a, b, c, d, e, f1, f2, f3, f4, f5⟩ := L
  refine ⟨fun q hq => ?_, ?_, Gl_close H.gl h3 hr ht hf (w4.2.2 3 (by decide) (by decide)) hm (by omega), by rw [clo_T, if_pos rfl]; have := H.2.2.2; omega⟩
  · by_cases eq : q = r
    · rw [eq]
      refine ⟨⟨by rw [F5 8 (by decide), F5 9 (by decide)]; exact a.1, by rw [eP]; exact a.2.1, by rw [eN]; exact a.2.2.1, by rw [eE]; exact a.2.2.2⟩, by rw [e1, eP]; exact b, fun k hk => ?_, ?_, fun _ _ => ?_, ?_, ?_, ?_, fun h => by omega, fun _ => ⟨?_, fun _ _ => ?_⟩⟩
      · rw [F]; split
        · omega
        · split
          · omega
          · split
            · have := H.2.2.2; omega
            · exact c k hk
      · intro k hk; rw [eE, F5 8 (by decide)]; exact d k (by rw [← e2]; exact hk)
      · rw [F, if_pos rfl]; omega
      · rw [e1, eP, eN]; exact f1
      · rw [e2, eE]; exact f2
      · rw [F5 9 (by decide), F5 8 (by decide), e3]; exact f3
      · rw [F5 5 (by decide), w4.2.2 5 (by decide) (by decide)]; decide
      · rw [F5 5 (by decide), w4.2.2 5 (by decide) (by decide), clo_ln D p h3 ht]; omega
    · by_cases et : q = t
      · rw [et]
        have tP : gP (cloD D r t p) t = fun _ _ => 0 := by rw [clo_P _ _ _ _ _ hrt, if_pos rfl]
        have tN : gN' (cloD D r t p) t = fun _ _ => 0 := by rw [clo_N _ _ _ _ _ hrt, if_pos rfl]
        have tE : gE (cloD D r t p) t = fun _ => 0 := by rw [clo_E _ _ _ _ _ hrt, if_pos rfl]
        have t1 : nIt (cloD D r t p) t = 0 := by unfold nIt; rw [Ft]; rfl
        have t2 : nEt (cloD D r t p) t = 0 := by unfold nEt; rw [Ft]; rfl
        have t3 : struckI (cloD D r t p) t = 0 := by unfold struckI; rw [t1]; rfl
        unfold Lc Rw Rg1 EvOk
        rw [t1, t2, t3, tP, tN, tE]
        refine ⟨⟨by rw [Ft, Ft]; simp, fun i => by unfold pRg; dsimp only; decide, fun _ _ => by dsimp only; decide, fun _ => by dsimp only; decide⟩, fun i h => by omega, fun k hk => by rw [Ft]; split <;> omega, fun k h => by omega, fun h => by omega, fun _ _ => ⟨rfl, rfl⟩, fun _ _ => rfl, by rw [Ft, Ft]; simp, fun _ => ⟨by rw [Ft, if_neg (by decide)], by rw [Ft, if_pos rfl], fun k k2 k8 => by rw [Ft, if_neg (by omega)]⟩, fun h => by omega⟩
      · refine (H.1 q hq).to ⟨funext fun j => ?_, ?_, ?_, ?_⟩
        · rw [clo_F, if_neg (by omega), if_neg (by omega), if_neg (by omega), if_neg (by omega), if_neg (by omega), if_neg (by omega)]
        · rw [clo_P _ _ _ _ _ hrt, if_neg et, if_neg eq]
        · rw [clo_N _ _ _ _ _ hrt, if_neg et, if_neg eq]
        · rw [clo_E _ _ _ _ _ hrt, if_neg et, if_neg eq]
  · have := H.2.2.2
    unfold RgT
    simp only [clo_T]
    simp (decide := true) only [if_false, if_true]
    omega
