/-! THE CLASS'S CALLS: changes -/
theorem sT_sw (D : Dt) {i j : Nat} (v w : Int) (h : i ≠ j) : sT (sT D i v) j w = sT (sT D j w) i v := by
  unfold sT
  refine Prod.ext (funext fun k => ?_) rfl
  show st (st D.1 i v) j w k = st (st D.1 j w) i v k
  unfold st
  by_cases e : k = j
  · rw [if_pos e, if_neg (by omega), if_pos e]
  · rw [if_neg e]
    split
    · rfl
    · first | rfl | rw [if_neg e]
/-- the total k of a state is its field j -/
def jk2 (j k : Nat) : Prop := (j = 4 ∧ k = 11) ∨ (j = 3 ∧ k = 10) ∨ (j = 0 ∧ k = 7) ∨ (j = 2 ∧ k = 9) ∨ (j = 8 ∧ k = 6)
theorem tF_T (D : Dt) {j k : Nat} (v : Int) (h : jk2 j k) : ∀ i, i < 10 → tF (sT D k v) i = if i = j then v else tF D i := by
  intro i hi
  rcases h with ⟨rfl, rfl⟩ | ⟨rfl, rfl⟩ | ⟨rfl, rfl⟩ | ⟨rfl, rfl⟩ | ⟨rfl, rfl⟩
  all_goals
    obtain rfl | rfl | rfl | rfl | rfl | rfl | rfl | rfl | rfl | rfl : i = 0 ∨ i = 1 ∨ i = 2 ∨ i = 3 ∨ i = 4 ∨ i = 5 ∨ i = 6 ∨ i = 7 ∨ i = 8 ∨ i = 9 := by omega
    all_goals rfl
theorem CD_T2 {fz : Nat → Option Cl} {C : Ct} {D : Dt} (Q : CD fz C D) {j k : Nat} {v : Int} (h : jk2 j k) : CD fz (sCF C j v) (sT D k v) := CD_T Q (by unfold jk2 at h; omega) (tF_T D v h) (by unfold jk2 at h; omega)
theorem CD_Fl {fz : Nat → Option Cl} {C : Ct} {D : Dt} (Q : CD fz C D) {r j k : Nat} {v : Int} (h3 : 3 ≤ r) (h : (j = 2 ∧ k = 2) ∨ (j = 6 ∧ k = 5)) : CD fz (sCR C r j v) (sFl D r k v) := by
  have F : ∀ q i, i ≠ 2 → i ≠ 5 → gF (sFl D r k v) q i = gF D q i := fun q i a b => by rw [gF_sFl, if_neg (by omega)]
  have ln : ∀ q, lnI (sFl D r k v) q = lnI D q := fun q => lnI_F (by omega) (by omega) (by omega) (by omega)
  have pn : pnI (sFl D r k v) = pnI D := pn_cg (fun q _ _ => ⟨F q 0 (by decide) (by decide), F q 3 (by decide) (by decide)⟩)
  refine CD_of Q (show ∀ r i, r < 21 → i < 12 → el fz (cG C r i) from CD_el Q) Q.1 (fun i hi => ?_) (fun q hq => ?_) (fun q hq => ⟨by unfold isR at hq ⊢; rw [F q 0 (by decide) (by decide)] at hq; exact hq, F q 8 (by decide) (by decide), F q 9 (by decide) (by decide), rfl, rfl, rfl, sk_R (by omega)⟩) (fun q q3 hq nq => ?_)
  · rw [cF_sR, CD_F Q i hi]; exact (tF_cg (D := D) (D' := sFl D r k v) (fun _ => rfl) pn i).symm
  · rw [cR_sk, if_neg (by omega), F q 0 (by decide) (by decide)]; exact Q.2.2.1 q hq
  · rw [F q 0 (by decide) (by decide)] at nq
    have := Q.2.2.2.2 q q3 hq nq
    rw [ln, F q 1 (by decide) (by decide), F q 3 (by decide) (by decide), F q 4 (by decide) (by decide), F q 6 (by decide) (by decide), F q 7 (by decide) (by decide)]
    rcases h with ⟨rfl, rfl⟩ | ⟨rfl, rfl⟩
    · simp only [cR_sk, gF_sFl]
      simp (decide := true) only [and_false, and_true, if_false]
      refine ⟨⟨this.1.1, ?_, this.1.2.2⟩, this.2⟩
      split
      · rfl
      · exact this.1.2.1
    · simp only [cR_sk, gF_sFl]
      simp (decide := true) only [and_false, and_true, if_false]
      refine ⟨⟨this.1.1, this.1.2.1, this.1.2.2.1, this.1.2.2.2.1, this.1.2.2.2.2.1, ?_⟩, this.2⟩
      split
      · rfl
      · exact this.1.2.2.2.2.2
theorem CD_set {fz : Nat → Option Cl} {C : Ct} {D : Dt} (Q : CD fz C D) {k : Nat} {v : Int} (hk : k < 3) : CD fz (sCT C k v) (sT D k v) := by
  refine CD_of Q (show ∀ r i, r < 21 → i < 12 → el fz (cG C r i) from CD_el Q) (fun i hi => ?_) (fun i hi => ?_) Q.2.2.1 (fun q hq => ⟨hq, rfl, rfl, rfl, rfl, rfl, rfl, rfl, rfl, rfl, rfl⟩) (fun q q3 hq nq => by
    rw [(sm_T D k v q).ln q3]
    exact Q.2.2.2.2 q q3 hq nq)
  · show (if i = k then v else cT C i) = if i = k then v else gT D i
    split
    · rfl
    · exact Q.1 i hi
  · show cF C i = _
    rw [CD_F Q i hi]
    have : ∀ j, 3 ≤ j → gT (sT D k v) j = gT D j := fun j hj => by rw [gT_sT, if_neg (by omega)]
    unfold tF
    rw [this 7 (by decide), this 8 (by decide), this 9 (by decide), this 10 (by decide), this 11 (by decide), this 3 (by decide), this 4 (by decide), this 5 (by decide), this 6 (by decide)]
    rfl
section
variable {c : Nat → Option Nat} {fz : Nat → Option Cl} {x : Nat} {h h' : Hp} {Z : Zt} {C : Ct} {k s : Nat} {CH : Nat → Ct} {sl : Nat → Option Nat} {CS : Nat → Ct} {pq cap : Nat} {fl : Int32} {len : Nat} {row : Nat → Int32} {W w : Int} {L : Ly} {M : Nat → Nat → Int} {n : Int}
theorem RZ_do {C' : Ct} {D' : Dt} (R : RZ fz (zRec Z) C k s CH sl CS cap len row) (Q : CD fz C' D') : RZ fz (zDo Z D') C' k s CH sl CS cap len row := ⟨Q, R.2⟩
theorem Rz_do {C' : Ct} {D' : Dt} (K : Kon c fz) (H : HL fz x h' C k s CH sl CS pq cap fl len row W w L M) (R : RZ fz (zRec Z) C k s CH sl CS cap len row) (Q : CD fz C' D') (e2 : h'.2 = h.2) {o : Rs} {r : Int} (e : o = some (hS h' (x + 1) C', some (.inl (iI r)))) : Rz c fz x M h o r (zDo Z D') := by
  refine ⟨_, fz, e, ⟨C', k, s, CH, sl, CS, pq, cap, fl, len, row, W, w, L, HL_now H C', RZ_do R Q⟩, ⟨K, fun _ _ e => e⟩, ?_, ?_, ?_⟩
  · show h.2.1 ≤ h'.2.1; rw [e2]; exact Nat.le_refl _
  · show h'.2.1 ≤ _; rw [e2]; omega
  · show h'.2.2 ≤ _; rw [e2]; omega
theorem x_set (K : Kon c fz) (X : WX fz x Z M h) (I : ZI n Z) {a b : Int} (ha : ag a) (hb : ag b) : (okSet a b → Rz c fz x M h (fX5_set c h (some x) (iI a) (iI b)) (gT (zD Z) a.toNat) (zDo Z (sT (zD Z) a.toNat b))) ∧ (¬ okSet a b → Rz c fz x M h (fX5_set c h (some x) (iI a) (iI b)) (-2) Z) := by
  have X' := X
  obtain ⟨C, k, s, CH, sl, CS, pq, cap, fl, len, row, W, w, L, H, R⟩ := X
  have K' := K
  obtain ⟨⟨t0, f0, c0, z0, v0⟩, ⟨t1, f1, c1, z1, v1⟩, -⟩ := K
  unfold ag at ha hb
  have bad : ∀ o : Rs, o = some (h, some (.inl (-(iI 2)))) → Rz c fz x M h o (-2) Z := fun o e => Rz_same K' X' (by rw [e, iI_neg])
  unfold fX5_set fX5_set_20 fX5_set_41
  simp only [iI_l, iI_neg]
  rw [c0, c1]
  by_cases e0 : a < 0
  · rw [if_pos (show iI a < iI 0 from (by rw [lt_i (by omega) (by omega) (by omega) (by omega)]; omega))]
    exact ⟨fun ok => by unfold okSet at ok; omega, fun _ => Rz_same K' X' rfl⟩
  rw [if_neg (show ¬ iI a < iI 0 from (by rw [lt_i (by omega) (by omega) (by omega) (by omega)]; omega)), lenA_e (H.1.1 _ _ z0), lenA_e (H.1.1 _ _ z1)]
  by_cases e1 : a < 3
  · have va := v0 a.toNat (by omega)
    have vb := v1 a.toNat (by omega)
    have ea : ((a.toNat : Nat) : Int) = a := by omega
    rw [ea] at va vb
    have lb : 1 ≤ lstI a ∧ lstI a ≤ 16 := by unfold lstI; split <;> (try split) <;> omega
    have mb : 9 ≤ mstI a ∧ mstI a ≤ 200 := by unfold mstI; split <;> (try split) <;> omega
    rw [if_pos (show iI a < iI ((3 : Nat) : Int) from (by rw [lt_i (by omega) (by omega) (by omega) (by omega)]; omega)), if_pos (show iI a < iI ((3 : Nat) : Int) from (by rw [lt_i (by omega) (by omega) (by omega) (by omega)]; omega)), aldI_e (H.1.1 _ _ z0) rfl (by omega) (by omega) (by decide), va]
    by_cases e2 : b < lstI a
    · rw [if_pos (show iI b < iI (lstI a) from (by rw [lt_i (by omega) (by omega) (by omega) (by omega)]; omega))]
      exact ⟨fun ok => by unfold okSet at ok; omega, fun _ => Rz_same K' X' rfl⟩
    rw [if_neg (show ¬ iI b < iI (lstI a) from (by rw [lt_i (by omega) (by omega) (by omega) (by omega)]; omega)), aldI_e (H.1.1 _ _ z1) rfl (by omega) (by omega) (by decide), vb]
    by_cases e3 : mstI a < b
    · rw [if_pos (show iI (mstI a) < iI b from (by rw [lt_i (by omega) (by omega) (by omega) (by omega)]; omega))]
      exact ⟨fun ok => by unfold okSet at ok; omega, fun _ => Rz_same K' X' rfl⟩
    rw [if_neg (show ¬ iI (mstI a) < iI b from (by rw [lt_i (by omega) (by omega) (by omega) (by omega)]; omega))]
    refine ⟨fun _ => ?_, fun ok => absurd (show okSet a b by unfold okSet; omega) ok⟩
    obtain ⟨h1, k1, s1, CH1, e4, H1, R1, n1⟩ := w_remember (c := c) H R I.1.1.ok.1
    refine Rz_do (C' := sCT C a.toNat b) K' H1 R1 (CD_set R.1 (by omega)) n1 ?_
    have hs := s_setting (c := c) (h := h1) (b := x + 1) R.1 (k := a.toNat) (by omega)
    rw [ea] at hs
    rw [H.r1, H.r0, ck_e H.h0 rfl, e4]
    simp only [cc_s, kV_n]
    rw [H1.r0, H1.ckS]
    have hch : fX4_changeSetting c h1 (some (x + 1)) (iI a) (iI b) = some (hS h1 (x + 1) (sCT C a.toNat b), some (.inl (iI (gT (zD Z) a.toNat)))) := by
      rw [← H1.st]
      unfold fX4_changeSetting fX4_changeSetting_26
      simp only [iI_l]
      rw [ck_S, hs]
      simp only [cc_s, kI_i]
      rw [if_neg (show ¬ iI a < iI 0 from (by rw [lt_i (by omega) (by omega) (by omega) (by omega)]; omega)), rdR_S10, len_S1, if_pos (show iI a < iI 3 from (by rw [lt_i (by omega) (by omega) (by omega) (by omega)]; omega)), rdR_S10, ast_S1 (by omega) (by omega), H1.st]
    rw [hch]
    simp only [cc_s, kI_i]
  · rw [if_neg (show ¬ iI a < iI ((3 : Nat) : Int) from (by rw [lt_i (by omega) (by omega) (by omega) (by omega)]; omega))]
    exact ⟨fun ok => by unfold okSet at ok; omega, fun _ => Rz_same K' X' rfl⟩
theorem isPrio (hp : Hp) {p : Int} (h : ag p) : fX5_isPriority c hp (iI p) = some (hp, some (.inl (iI (bI (0 ≤ p ∧ p ≤ 3))))) := by
  unfold ag at h
  unfold fX5_isPriority fX5_isPriority_13 fX5_isPriority_14
  simp only [iI_l]
  by_cases e0 : p < 0
  · rw [if_pos (show iI p < iI 0 from (by rw [lt_i (by omega) (by omega) (by omega) (by omega)]; omega)), bI_f (by omega), rt_0]
  · rw [if_neg (show ¬ iI p < iI 0 from (by rw [lt_i (by omega) (by omega) (by omega) (by omega)]; omega))]
    by_cases e1 : 3 < p
    · rw [if_pos (show iI 3 < iI p from (by rw [lt_i (by omega) (by omega) (by omega) (by omega)]; omega)), bI_f (by omega), rt_0]
    · rw [if_neg (show ¬ iI 3 < iI p from (by rw [lt_i (by omega) (by omega) (by omega) (by omega)]; omega)), bI_t (by omega), rt_1]
theorem x_hurry (K : Kon c fz) (X : WX fz x Z M h) (I : ZI n Z) {y p : Int} (hy : ag y) (hp : ag p) : Rz c fz x M h (fX5_hurry c h (some x) (iI y) (iI p)) (rHur (zD Z) y p) (zHur Z y p) := by
  have X' := X
  obtain ⟨C, k, s, CH, sl, CS, pq, cap, fl, len, row, W, w, L, H, R⟩ := X
  have O := I.1.1.ok
  have GF := O.2.2.1
  unfold fX5_hurry rHur zHur
  simp only [iI_l, iI_neg]
  rw [H.r0, H.ckS, H.known R.1 GF hy]
  simp only [cc_s, kR_r]
  rcases recI_c (zD Z) y with e | ⟨r, e, h3, hr, z0, hx⟩
  · rw [e, if_pos rfl, if_pos rfl, rf_no]
    simp only [ifN]
    exact Rz_same K X' rfl
  · have q := R.1.2.2.2.2 r h3 hr (by omega)
    have g := GF r hr 3 (by decide)
    rw [e, if_neg (show ¬ (r : Int) = -6 by omega), if_neg (show ¬ (r : Int) = -6 by omega), rf_s, Int.toNat_natCast]
    simp only [ifN]
    rw [isPrio h hp]
    simp only [cc_s, kI_i]
    by_cases ep : 0 ≤ p ∧ p ≤ 3
    · rw [bI_t ep, if_neg (show ¬ iI 1 = iI 0 by decide), if_neg (show ¬ ¬ (0 ≤ p ∧ p ≤ 3) by omega), if_neg (show ¬ ¬ (0 ≤ p ∧ p ≤ 3) by omega), H.rR hr (by decide), q.1.2.2.1]
      by_cases e3 : gF (zD Z) r 3 = 0
      · obtain ⟨h1, k1, s1, CH1, e4, H1, R1, n1⟩ := w_remember (c := c) H R O.1
        rw [if_pos (show iI (gF (zD Z) r 3) = iI 0 by rw [e3]), if_pos e3, if_pos e3, H.r1, H.r0, ck_e H.h0 rfl, e4]
        simp only [cc_s, kV_n]
        refine Rz_do (C' := sCR C r 2 p) K H1 R1 (CD_Fl R.1 h3 (Or.inl ⟨rfl, rfl⟩)) n1 ?_
        rw [H1.rR hr (by decide), q.1.2.1]
        have := wr_R (h := h1) (b := x + 1) (C := C) (k := 2) (v := p) (w := fun h11 => some (h11, some (.inl (iI (gF (zD Z) r 2))))) hr (by decide)
        rw [H1.st] at this
        exact this
      · rw [if_neg (show ¬ iI (gF (zD Z) r 3) = iI 0 from (by rw [eq_i (by omega) (by omega) (by omega) (by omega)]; omega)), if_neg e3, if_neg e3]
        exact Rz_same K X' rfl
    · rw [bI_f ep, if_pos rfl, if_pos ep, if_pos ep]
      exact Rz_same K X' rfl
theorem HL.wS (H : HL fz x h C k s CH sl CS pq cap fl len row W w L M) {j : Nat} {v : Int} (hj : j < 10) {f : Hp → Rs} : wr h (some (x + 1)) 6 j (.inl (iI v)) f = f (hS h (x + 1) (sCF C j v)) := by
  have := wr_S (h := h) (b := x + 1) (C := C) (k := j) (v := v) (w := f) hj; rw [H.st] at this; exact this
theorem HL.wR (H : HL fz x h C k s CH sl CS pq cap fl len row W w L M) {r j : Nat} {v : Int} (hr : r < 21) (hj : j < 12) {f : Hp → Rs} : wr h (some (x + 1 + 4 + 3 * r)) 4 j (.inl (iI v)) f = f (hS h (x + 1) (sCR C r j v)) := by
  have := wr_R (h := h) (b := x + 1) (C := C) (k := j) (v := v) (w := f) hr hj; rw [H.st] at this; exact this
theorem hS_hS (h : Hp) (b : Nat) (C C' : Ct) : hS (hS h b C) b C' = hS h b C' := ovl_ovl
theorem x_newRoll (K : Kon c fz) (X : WX fz x Z M h) (I : ZI n Z) : Rz c fz x M h (fX5_newRoll c h (some x)) (gT (zD Z) 7) (zDo Z (sT (sT (sT (zD Z) 11 (gT (zD Z) 11 + gT (zD Z) 7)) 10 (gT (zD Z) 10 + 1)) 7 (gT (zD Z) 1))) := by
  obtain ⟨C, k, s, CH, sl, CS, pq, cap, fl, len, row, W, w, L, H, R⟩ := X
  obtain ⟨h1, k1, s1, CH1, e4, H1, R1, n1⟩ := w_remember (c := c) H R I.1.1.ok.1
  have F := CD_F R.1
  have f0 : cF C 0 = gT (zD Z) 7 := F 0 (by decide)
  have f4 : cF C 4 = gT (zD Z) 11 := F 4 (by decide)
  have f3 : cF C 3 = gT (zD Z) 10 := F 3 (by decide)
  have Q1 := CD_T2 (v := gT (zD Z) 11 + gT (zD Z) 7) R.1 (j := 4) (k := 11) (Or.inl ⟨rfl, rfl⟩)
  have Q2 := CD_T2 (v := gT (zD Z) 1) Q1 (j := 0) (k := 7) (Or.inr (Or.inr (Or.inl ⟨rfl, rfl⟩)))
  have Q3 := CD_T2 (v := gT (zD Z) 10 + 1) Q2 (j := 3) (k := 10) (Or.inr (Or.inl ⟨rfl, rfl⟩))
  rw [sT_sw _ _ _ (show 7 ≠ 10 by decide)] at Q3
  refine Rz_do K H1 R1 Q3 n1 ?_
  have H2 := HL_now H1 (sCF C 4 (gT (zD Z) 11 + gT (zD Z) 7))
  have H3 := HL_now H2 (sCF (sCF C 4 (gT (zD Z) 11 + gT (zD Z) 7)) 0 (gT (zD Z) 1))
  have t1 := H2.setting (c := c) Q1 (j := 1) (by decide)
  rw [show ((1 : Nat) : Int) = 1 from rfl] at t1
  unfold fX5_newRoll
  simp only [iI_l]
  rw [H.r1, H.r0, ck_e H.h0 rfl, e4]
  simp only [cc_s, kV_n]
  rw [H1.r0, H1.rS (by decide), f0, H1.r0, H1.rS (by decide), f4, iI_add, H1.wS (by decide), H2.r0, H2.r0, H2.ckS, t1]
  simp only [cc_s, kI_i]
  rw [show gT (sT (zD Z) 11 (gT (zD Z) 11 + gT (zD Z) 7)) 1 = gT (zD Z) 1 from rfl, H2.wS (by decide), H3.r0, H3.rS (by decide), show cF (sCF (sCF C 4 (gT (zD Z) 11 + gT (zD Z) 7)) 0 (gT (zD Z) 1)) 3 = cF C 3 from rfl, f3, iI_add, H3.wS (by decide), hS_hS, hS_hS]
theorem x_tear (K : Kon c fz) (X : WX fz x Z M h) (I : ZI n Z) {v : Int} (hv : ag v) : Rz c fz x M h (fX5_tear c h (some x) (iI v)) (rTear (zD Z) v) (zTear Z v) := by
  have X' := X
  obtain ⟨C, k, s, CH, sl, CS, pq, cap, fl, len, row, W, w, L, H, R⟩ := X
  have O := I.1.1.ok
  have GF := O.2.2.1
  have e9 : cF C 9 = pnI (zD Z) := CD_F R.1 9 (by decide)
  unfold ag at hv
  unfold fX5_tear fX5_tear_11 fX5_tear_41 rTear zTear
  simp only [iI_l, iI_neg]
  by_cases e0 : v < 1
  · rw [if_pos (show iI v < iI 1 from (by rw [lt_i (by omega) (by omega) (by omega) (by omega)]; omega)), if_pos (show ¬ (1 ≤ v ∧ v ≤ 99) by omega), if_pos (show ¬ (1 ≤ v ∧ v ≤ 99) by omega)]
    exact Rz_same K X' rfl
  rw [if_neg (show ¬ iI v < iI 1 from (by rw [lt_i (by omega) (by omega) (by omega) (by omega)]; omega))]
  by_cases e1 : 99 < v
  · rw [if_pos (show iI 99 < iI v from (by rw [lt_i (by omega) (by omega) (by omega) (by omega)]; omega)), if_pos (show ¬ (1 ≤ v ∧ v ≤ 99) by omega), if_pos (show ¬ (1 ≤ v ∧ v ≤ 99) by omega)]
    exact Rz_same K X' rfl
  rw [if_neg (show ¬ iI 99 < iI v from (by rw [lt_i (by omega) (by omega) (by omega) (by omega)]; omega)), if_neg (show ¬ ¬ (1 ≤ v ∧ v ≤ 99) by omega), if_neg (show ¬ ¬ (1 ≤ v ∧ v ≤ 99) by omega), H.r0, H.r0, H.rS (by decide), e9, H.ckS]
  rcases prtI_c (zD Z) with e | ⟨r, e, h3, hr, hw⟩
  · rw [pn_no e, H.known R.1 GF (show ag 0 from ⟨by decide, by decide⟩), rec_0, rf_no, if_pos e, if_pos e]
    simp only [cc_s, kR_r, ifN]
    exact Rz_same K X' rfl
  · have nn := hwP_t.mp hw
    have g := GF r hr 0 (by decide)
    have q := R.1.2.2.2.2 r h3 hr nn.1
    have isr : isR (zD Z) r := ⟨hr, Or.inr nn.1⟩
    have w5 := (I.1.1.rw hr).2.2.2.2 h3
    have g5 := GF r hr 5 (by decide)
    rw [pn_at e, H.known R.1 GF (show ag (gF (zD Z) r 0) from ⟨by omega, by omega⟩), rec_of I.1.1.gl h3 hr nn.1, rf_s, if_neg (show ¬ prtI (zD Z) = -6 by omega), if_neg (show ¬ prtI (zD Z) = -6 by omega), e, Int.toNat_natCast]
    simp only [cc_s, kR_r, ifN]
    rw [H.rR hr (by decide), q.1.2.2.2.2.2]
    by_cases e2 : gF (zD Z) r 5 < v
    · rw [if_pos (show iI (gF (zD Z) r 5) < iI v from (by rw [lt_i (by omega) (by omega) (by omega) (by omega)]; omega)), if_pos e2, if_pos e2]
      exact Rz_same K X' rfl
    · obtain ⟨h1, k1, s1, CH1, e4, H1, R1, n1⟩ := w_remember (c := c) H R O.1
      obtain ⟨L', l1, l2, l3, l4⟩ := w_lay K H1 R.1 I.1.1 isr (v := gF (zD Z) r 5 - v) ⟨by omega, by omega⟩
      have H2 := HL_sheet H1 (wdI (zD Z) r) (gF (zD Z) r 5 - v) L'
      rw [if_neg (show ¬ iI (gF (zD Z) r 5) < iI v from (by rw [lt_i (by omega) (by omega) (by omega) (by omega)]; omega)), if_neg e2, if_neg e2, H.r1, H.r0, ck_e H.h0 rfl, e4]
      simp only [cc_s, kV_n]
      have Q1 := CD_Fl (v := begI (zD Z) r (numI (zD Z) r) (gF (zD Z) r 5 - v) (wdI (zD Z) r)) R.1 h3 (j := 6) (k := 5) (Or.inr ⟨rfl, rfl⟩)
      have Q2 := CD_T2 (v := gT (zD Z) 9 + (gF (zD Z) r 5 - begI (zD Z) r (numI (zD Z) r) (gF (zD Z) r 5 - v) (wdI (zD Z) r))) Q1 (j := 2) (k := 9) (Or.inr (Or.inr (Or.inr (Or.inl ⟨rfl, rfl⟩))))
      have eD : tearD (zD Z) v = sT (sFl (zD Z) r 5 (begI (zD Z) r (numI (zD Z) r) (gF (zD Z) r 5 - v) (wdI (zD Z) r))) 9 (gT (zD Z) 9 + (gF (zD Z) r 5 - begI (zD Z) r (numI (zD Z) r) (gF (zD Z) r 5 - v) (wdI (zD Z) r))) := by unfold tearD; rw [e, Int.toNat_natCast]
      rw [eD]
      refine Rz_do K H2 R1 Q2 n1 ?_
      have H3 := HL_now H2 (sCR C r 6 (begI (zD Z) r (numI (zD Z) r) (gF (zD Z) r 5 - v) (wdI (zD Z) r)))
      have f2 : cF C 2 = gT (zD Z) 9 := CD_F R.1 2 (by decide)
      rw [H1.rR hr (by decide), q.1.2.2.2.2.2, iI_sub, H1.ck, l1]
      simp only [cc_s, kI_i]
      rw [H2.rR hr (by decide), q.1.2.2.2.2.2, H2.r4, rdI_T2, l3, H2.r4, rdI_T2, l3, H2.wR hr (by decide), H3.r0, H3.rS (by decide), show cF (sCR C r 6 (begI (zD Z) r (numI (zD Z) r) (gF (zD Z) r 5 - v) (wdI (zD Z) r))) 2 = cF C 2 from rfl, f2, iI_sub, iI_add, H3.wS (by decide), hS_hS]
theorem x_pass_l (hn : n ≤ 1000) {t : Int} (t1 : t ≤ 99) : ∀ (m fu q : Nat) (acc : Int) (h : Hp) (C : Ct) (D : Dt), HL fz x h C k s CH sl CS pq cap fl len row W w L M → CD fz C D → Iv n D → gT D 3 + m ≤ 9999 → 0 ≤ gT D 3 → m < fu → q + m = t → ∃ C', fX5_pass_47 c fu h (some x) (iI t) (iI acc) (iI (q : Int)) = some (hS h (x + 1) C', some (.inl (iI (psL m acc D).1))) ∧ CD fz C' (psL m acc D).2 := by
  intro m
  induction m with
  | zero =>
    intro fu q acc h C D H Q I h3 h30 hf hk
    obtain ⟨f, rfl⟩ : ∃ f, fu = f + 1 := ⟨fu - 1, by omega⟩
    unfold fX5_pass_47
    rw [if_neg (show ¬ iI (q : Int) < iI t from (by rw [lt_i (by omega) (by omega) (by omega) (by omega)]; omega))]
    exact ⟨C, by rw [H.st]; rfl, Q⟩
  | succ m ih =>
    intro fu q acc h C D H Q I h3 h30 hf hk
    obtain ⟨f, rfl⟩ : ∃ f, fu = f + 1 := ⟨fu - 1, by omega⟩
    obtain ⟨C1, e1, Q1⟩ := s_tick (c := c) (h := h) (b := x + 1) hn I Q
    rw [H.st] at e1
    have tk := tkR_J (Iv_keep hn) I (by omega)
    have H1 := HL_now H C1
    obtain ⟨C2, e2, Q2⟩ := ih f (q + 1) (acc + (tkR D).1) (hS h (x + 1) C1) C1 (tkR D).2 H1 Q1 tk.1 (by omega) (by omega) (by omega) (by omega)
    refine ⟨C2, ?_, Q2⟩
    unfold fX5_pass_47
    simp only [iI_l]
    rw [if_pos (show iI (q : Int) < iI t from (by rw [lt_i (by omega) (by omega) (by omega) (by omega)]; omega)), H.r0, H.ckS, e1]
    simp only [cc_s, kI_i, iI_add]
    rw [iI_k1, e2, hS_hS]
    rfl
theorem x_pass (hn : n ≤ 1000) (K : Kon c fz) (X : WX fz x Z M h) (I : ZI n Z) {t : Int} (ht : ag t) : Rz c fz x M h (fX5_pass c h (some x) (iI t)) (if ¬ (1 ≤ t ∧ t ≤ 99) then -2 else if 9999 < gT (zD Z) 3 + t then -5 else (psL t.toNat 0 (zD Z)).1) (if ¬ (1 ≤ t ∧ t ≤ 99) then Z else if 9999 < gT (zD Z) 3 + t then Z else zDo Z (psL t.toNat 0 (zD Z)).2) := by
  have X' := X
  obtain ⟨C, k, s, CH, sl, CS, pq, cap, fl, len, row, W, w, L, H, R⟩ := X
  have T := I.1.1.2.1
  unfold RgT at T
  unfold ag at ht
  have f5 : cF C 5 = gT (zD Z) 3 := CD_F R.1 5 (by decide)
  unfold fX5_pass fX5_pass_11
  simp only [iI_l, iI_neg]
  by_cases e0 : t < 1
  · rw [if_pos (show iI t < iI 1 from (by rw [lt_i (by omega) (by omega) (by omega) (by omega)]; omega)), if_pos (show ¬ (1 ≤ t ∧ t ≤ 99) by omega), if_pos (show ¬ (1 ≤ t ∧ t ≤ 99) by omega)]
    exact Rz_same K X' rfl
  rw [if_neg (show ¬ iI t < iI 1 from (by rw [lt_i (by omega) (by omega) (by omega) (by omega)]; omega))]
  by_cases e1 : 99 < t
  · rw [if_pos (show iI 99 < iI t from (by rw [lt_i (by omega) (by omega) (by omega) (by omega)]; omega)), if_pos (show ¬ (1 ≤ t ∧ t ≤ 99) by omega), if_pos (show ¬ (1 ≤ t ∧ t ≤ 99) by omega)]
    exact Rz_same K X' rfl
  rw [if_neg (show ¬ iI 99 < iI t from (by rw [lt_i (by omega) (by omega) (by omega) (by omega)]; omega)), if_neg (show ¬ ¬ (1 ≤ t ∧ t ≤ 99) by omega), if_neg (show ¬ ¬ (1 ≤ t ∧ t ≤ 99) by omega), H.r0, H.rS (by decide), f5, iI_add]
  by_cases e2 : 9999 < gT (zD Z) 3 + t
  · rw [if_pos (show iI 9999 < iI (gT (zD Z) 3 + t) from (by rw [lt_i (by omega) (by omega) (by omega) (by omega)]; omega)), if_pos e2, if_pos e2]
    exact Rz_same K X' rfl
  · obtain ⟨h1, k1, s1, CH1, e4, H1, R1, n1⟩ := w_remember (c := c) H R I.1.1.ok.1
    obtain ⟨C2, p1, Q2⟩ := x_pass_l (c := c) hn (t := t) (by omega) t.toNat FU 0 0 h1 C (zD Z) H1 R.1 I.1.1 (by omega) (by omega) (by unfold FU; omega) (by omega)
    rw [if_neg (show ¬ iI 9999 < iI (gT (zD Z) 3 + t) from (by rw [lt_i (by omega) (by omega) (by omega) (by omega)]; omega)), if_neg e2, if_neg e2, H.r1, H.r0, ck_e H.h0 rfl, e4]
    simp only [cc_s, kV_n]
    refine Rz_do K H1 R1 Q2 n1 ?_
    rw [show ((0 : Nat) : Int) = 0 from rfl] at p1
    rw [p1]
theorem x_strike (K : Kon c fz) (X : WX fz x Z M h) (I : ZI n Z) {t i : Int} (ht : ag t) (hi : ag i) : Rz c fz x M h (fX5_strike c h (some x) (iI t) (iI i)) (rStr (zD Z) t i) (zStr Z t i) := by
  have X' := X
  obtain ⟨C, k, s, CH, sl, CS, pq, cap, fl, len, row, W, w, L, H, R⟩ := X
  have O := I.1.1.ok
  unfold fX5_strike fX5_strike_22 fX5_strike_33 rStr zStr
  simp only [iI_l, iI_neg]
  rw [H.r0, H.ckS, H.openAt ht]
  simp only [cc_s, kR_r]
  by_cases e : 0 ≤ t ∧ t ≤ 2
  · have hr : t.toNat < 21 := by omega
    have isr : isR (zD Z) t.toNat := ⟨hr, Or.inl (by omega)⟩
    have rcd := R.1.2.2.2.1 _ isr
    have G1 := O.1 _ hr
    have n8 := nIt_le G1
    have g := G1.1
    rw [if_pos e]
    simp only [ifN]
    rw [H.ckR hr, c_itemAt (H.rc hr) rcd G1 hi.1 hi.2]
    simp only [cc_s, kR_r]
    by_cases eI : 0 ≤ i ∧ i < gF (zD Z) t.toNat 8
    · have eI' : 0 ≤ t ∧ t ≤ 2 ∧ 0 ≤ i ∧ i < gF (zD Z) t.toNat 8 := ⟨e.1, e.2, eI.1, eI.2⟩
      obtain ⟨q, q1, q2⟩ := rcd.2.1 i.toNat (by omega)
      have hi12 : i.toNat < 12 := by omega
      have ei : iI i = iI ((i.toNat : Nat) : Int) := by rw [show ((i.toNat : Nat) : Int) = i by omega]
      have hp := G1.2.1 i.toNat
      unfold pRg at hp
      rw [if_pos eI, q1, if_pos eI', if_pos eI', ei]
      simp only [ifN]
      rw [H.ckR hr, c_isStruck (H.rc hr) rcd G1 hi12]
      simp only [cc_s, kI_i]
      by_cases es : gP (zD Z) t.toNat i.toNat 3 = 1
      · rw [bI_t es, if_neg (show ¬ iI 1 = iI 0 by decide), if_pos es, if_pos es]
        exact Rz_same K X' rfl
      · have m := msk_rg G1
        have mb := msk_bit (i := i.toNat) G1 hi12
        have h24 := I.1.1.h24 t.toNat (by omega) i.toNat (by omega) (by omega)
        obtain ⟨h1, k1, s1, CH1, e4, H1, R1, n1⟩ := w_remember (c := c) H R O.1
        have ss := s_strike (c := c) (h := h1) (b := x + 1) (C := C) (t := t.toNat) (m := mskI (zD Z) t.toNat) (e := gF (zD Z) t.toNat 9) (i := i.toNat) hr rcd.1.2.2 rcd.1.2.1 m.1 m.2 hi12 (by omega) (by omega) h24
        rw [H1.st] at ss
        have H2 := HL_now H1 (srC C t.toNat (mskI (zD Z) t.toNat) (gF (zD Z) t.toNat 9) i.toNat)
        have f8 : cF C 8 = gT (zD Z) 6 := CD_F R.1 8 (by decide)
        rw [bI_f es, if_pos rfl, if_neg es, if_neg es, H.r1, H.r0, ck_e H.h0 rfl, e4]
        simp only [cc_s, kV_n]
        refine Rz_do K H1 R1 (CD_strike R.1 I.1.1 eI' es) n1 ?_
        have H3 := HL_now H2 (sCF (srC C t.toNat (mskI (zD Z) t.toNat) (gF (zD Z) t.toNat 9) i.toNat) 8 (gT (zD Z) 6 + 1))
        rw [H1.ckR hr, ss]
        simp only [cc_s, kV_n]
        rw [H2.r0, H2.rS (by decide), show cF (srC C t.toNat (mskI (zD Z) t.toNat) (gF (zD Z) t.toNat 9) i.toNat) 8 = cF C 8 from rfl, f8, iI_add, H2.wS (by decide), it_ck H3.1.1 q2, it_sum H3.1.1 q2]
        simp only [cc_s, kI_i]
        rw [hS_hS]
    · rw [if_neg eI, if_neg (show ¬ (0 ≤ t ∧ t ≤ 2 ∧ 0 ≤ i ∧ i < gF (zD Z) t.toNat 8) by omega), if_neg (show ¬ (0 ≤ t ∧ t ≤ 2 ∧ 0 ≤ i ∧ i < gF (zD Z) t.toNat 8) by omega)]
      simp only [ifN]
      exact Rz_same K X' rfl
  · rw [if_neg e, if_neg (show ¬ (0 ≤ t ∧ t ≤ 2 ∧ 0 ≤ i ∧ i < gF (zD Z) t.toNat 8) by omega), if_neg (show ¬ (0 ≤ t ∧ t ≤ 2 ∧ 0 ≤ i ∧ i < gF (zD Z) t.toNat 8) by omega)]
    simp only [ifN]
    exact Rz_same K X' rfl
theorem x_undo (K : Kon c fz) (X : WX fz x Z M h) (I : ZI n Z) : Rz c fz x M h (fX5_undo c h (some x)) (rUnd Z) (zUnd Z) := by
  have X' := X
  obtain ⟨C, k, s, CH, sl, CS, pq, cap, fl, len, row, W, w, L, H, R⟩ := X
  obtain ⟨q, ⟨r1, r2, r3, r4⟩, r5, r6⟩ := R
  unfold fX5_undo rUnd zUnd
  simp only [iI_l, iI_neg]
  rw [H.r1, rdI_e H.h0 rfl rfl]
  by_cases e : zn Z = 0
  · rw [if_pos (show iI (k : Int) = iI 0 by rw [r1, e]; rfl), if_pos e, if_pos e]
    exact Rz_same K X' rfl
  · obtain ⟨h1, C', e1, H1, n1, Q1⟩ := w_giveBack (c := c) H r3 (by omega) r2 (r4 (k - 1) (by omega)) (I.1.2.1 (k - 1) (by omega)).ok.1
    rw [if_neg (show ¬ iI (k : Int) = iI 0 from (by rw [eq_i (by omega) (by omega) (by omega) (by omega)]; omega)), if_neg e, if_neg e, H.r1, H.r0, ck_e H.h0 rfl, e1]
    simp only [cc_s, kV_n]
    refine ⟨h1, fz, ?_, ⟨C', k - 1, s, CH, sl, CS, pq, cap, fl, len, row, W, w, L, H1, ?_⟩, ⟨K, fun _ _ e => e⟩, by rw [n1]; exact Nat.le_refl _, by rw [n1]; omega, by rw [n1]; omega⟩
    · rw [H1.r1, rdI_e H1.h0 rfl rfl, r1, show ((zn Z - 1 : Nat) : Int) = (zn Z : Int) - 1 by omega]
    · refine ⟨?_, ⟨?_, by omega, r3, fun j hj => r4 j (by omega)⟩, r5, r6⟩
      · show CD fz C' (zH Z (zn Z - 1))
        rw [← r1]; exact Q1
      · show k - 1 = zn Z - 1; omega
theorem x_wipe (K : Kon c fz) (X : WX fz x Z M h) (I : ZI n Z) : Rz c fz x M h (fX5_wipe c h (some x)) (zl Z) (zPad Z 0 (zp Z)) := by
  obtain ⟨C, k, s, CH, sl, CS, pq, cap, fl, len, row, W, w, L, H, R⟩ := X
  have pl := p_len (c := c) H
  obtain ⟨r0, r1, r2, r3, r4, r5, r6, r7⟩ := R
  obtain ⟨h1, fl', e1, H1, n1⟩ := p_clear (c := c) H r5 r4
  refine ⟨h1, fz, ?_, ⟨C, k, s, CH, sl, CS, pq, cap, fl', 0, row, W, w, L, H1, ⟨r0, r1, r2, rfl, Nat.zero_le _, r5, fun j hj => by omega, r7⟩⟩, ⟨K, fun _ _ e => e⟩, by rw [n1]; exact Nat.le_refl _, by rw [n1]; omega, by rw [n1]; omega⟩
  unfold fX5_wipe
  simp only [iI_l]
  rw [H.r3, ck_e H.p0 rfl, pl]
  simp only [cc_s, kI_i]
  rw [H.r3, ck_e H.p0 rfl, e1]
  simp only [cc_s, kV_n]
  rw [r3]
theorem x_fault_l (H : HL fz x h C k s CH sl CS pq cap fl len row W w L M) (R : RZ fz Z C k s CH sl CS cap len row) (P : OkP Z) : ∀ (m fu q : Nat), m < fu → q + m = len → fX5_faultOfPad_4 c fu h (some x) (iI (bI (q = 0 ∨ zp Z (q - 1) = 95))) (iI (q : Int)) = some (h, some (.inl (iI (flL (zp Z) len q m)))) := by
  have pl := p_len (c := c) H
  obtain ⟨r0, r1, r2, r3, r4, r5, r6, r7⟩ := R
  intro m
  induction m with
  | zero =>
    intro fu q hf hk
    obtain ⟨f, rfl⟩ : ∃ f, fu = f + 1 := ⟨fu - 1, by omega⟩
    have eq : q = len := by omega
    unfold fX5_faultOfPad_4 fX5_faultOfPad_109
    rw [H.r3, ck_e H.p0 rfl, pl]
    simp only [cc_s, kI_i, iI_l, iI_neg]
    rw [if_neg (show ¬ iI (q : Int) < iI (len : Int) from (by rw [lt_i (by omega) (by omega) (by omega) (by omega)]; omega)), flL, eq]
    by_cases e : len = 0 ∨ zp Z (len - 1) = 95
    · rw [bI_t e, if_neg (show ¬ iI 1 = iI 0 by decide), if_pos e, H.r3, ck_e H.p0 rfl, pl]
      simp only [cc_s, kI_i]
    · rw [bI_f e, if_pos rfl, if_neg e]
  | succ m ih =>
    intro fu q hf hk
    obtain ⟨f, rfl⟩ : ∃ f, fu = f + 1 := ⟨fu - 1, by omega⟩
    have pv := P q (by omega)
    have pc := p_chr (c := c) H r4 r5 (i := q) (by omega) (r6 q (by omega)) (by omega) (by omega)
    have ih' := ih f (q + 1) (by omega) (by omega)
    unfold fX5_faultOfPad_4 fX5_faultOfPad_40 fX5_faultOfPad_41 fX5_faultOfPad_63 fX5_faultOfPad_64 fX5_faultOfPad_82 fX5_faultOfPad_84
    rw [H.r3, ck_e H.p0 rfl, pl]
    simp only [cc_s, kI_i, iI_l]
    rw [if_pos (show iI (q : Int) < iI (len : Int) from (by rw [lt_i (by omega) (by omega) (by omega) (by omega)]; omega)), H.r3, ck_e H.p0 rfl, pc]
    simp only [cc_s, kI_i, iI_add]
    rw [flL]
    rw [show q + 1 - 1 = q by omega] at ih'
    rw [iI_k1]
    by_cases el : 97 ≤ zp Z q ∧ zp Z q ≤ 122
    · have sb : stB (zp Z) q = decide (q < 30) := if_pos el
      rw [if_neg (show ¬ iI (zp Z q) < iI 97 from (by rw [lt_i (by omega) (by omega) (by omega) (by omega)]; omega)), if_neg (show ¬ iI 122 < iI (zp Z q) from (by rw [lt_i (by omega) (by omega) (by omega) (by omega)]; omega)), if_neg (show ¬ iI (zp Z q) = iI 95 from (by rw [eq_i (by omega) (by omega) (by omega) (by omega)]; omega))]
      by_cases e30 : q < 30
      · rw [if_pos (show iI (q : Int) < iI 30 from (by rw [lt_i (by omega) (by omega) (by omega) (by omega)]; omega)), if_neg (show ¬ iI 1 = iI 0 by decide), sb, if_pos (decide_eq_true e30)]
        rw [bI_f (show ¬ (q + 1 = 0 ∨ zp Z q = 95) by omega)] at ih'
        exact ih'
      · rw [if_neg (show ¬ iI (q : Int) < iI 30 from (by rw [lt_i (by omega) (by omega) (by omega) (by omega)]; omega)), sb, if_neg (by simpa using e30)]
    · have sb : stB (zp Z) q = decide (zp Z q = 95 ∧ 0 < q ∧ q < 29 ∧ zp Z (q - 1) ≠ 95) := if_neg el
      have nol : ∀ a b : Rs, (if iI (zp Z q) < iI 97 then a else if iI 122 < iI (zp Z q) then a else b) = a := fun a b => by
        by_cases e : zp Z q < 97
        · rw [if_pos (show iI (zp Z q) < iI 97 from (by rw [lt_i (by omega) (by omega) (by omega) (by omega)]; omega))]
        · rw [if_neg (show ¬ iI (zp Z q) < iI 97 from (by rw [lt_i (by omega) (by omega) (by omega) (by omega)]; omega)), if_pos (show iI 122 < iI (zp Z q) from (by rw [lt_i (by omega) (by omega) (by omega) (by omega)]; omega))]
      rw [nol]
      have stop : ∀ a : Rs, (if iI (q : Int) < iI 30 then (if True then (if True then some (h, some (.inl (iI (q : Int)))) else a) else a) else some (h, some (.inl (iI (q : Int))))) = some (h, some (.inl (iI (q : Int)))) := fun a => by
        rw [if_pos trivial, if_pos trivial, ite_self]
      by_cases e95 : zp Z q = 95
      · rw [if_pos (show iI (zp Z q) = iI 95 by rw [e95])]
        by_cases ed : q = 0 ∨ zp Z (q - 1) = 95
        · rw [bI_t ed, if_neg (show ¬ iI 1 = iI 0 by decide), stop, sb, if_neg (by rw [decide_eq_true_eq]; omega)]
        · rw [bI_f ed, if_pos rfl]
          by_cases e29 : q < 29
          · rw [if_pos (show iI (q : Int) < iI 29 from (by rw [lt_i (by omega) (by omega) (by omega) (by omega)]; omega)), if_pos (show iI (q : Int) < iI 30 from (by rw [lt_i (by omega) (by omega) (by omega) (by omega)]; omega)), if_pos trivial, if_neg (show ¬ iI 1 = iI 0 by decide), sb, if_pos (decide_eq_true (by omega))]
            rw [bI_t (show q + 1 = 0 ∨ zp Z q = 95 by omega)] at ih'
            exact ih'
          · rw [if_neg (show ¬ iI (q : Int) < iI 29 from (by rw [lt_i (by omega) (by omega) (by omega) (by omega)]; omega)), stop, sb, if_neg (by rw [decide_eq_true_eq]; omega)]
      · rw [if_neg (show ¬ iI (zp Z q) = iI 95 from (by rw [eq_i (by omega) (by omega) (by omega) (by omega)]; omega)), stop, sb, if_neg (by rw [decide_eq_true_eq]; omega)]
theorem w_fault (H : HL fz x h C k s CH sl CS pq cap fl len row W w L M) (R : RZ fz Z C k s CH sl CS cap len row) (P : OkP Z) (hl : zl Z ≤ 80) : fX5_faultOfPad c h (some x) = some (h, some (.inl (iI (flI Z)))) := by
  have r3 := R.2.2.2.1
  have key := x_fault_l (c := c) H R P len FU 0 (by unfold FU; omega) (by omega)
  rw [bI_t (show 0 = 0 ∨ zp Z (0 - 1) = 95 from Or.inl rfl), show ((0 : Nat) : Int) = 0 from rfl, r3] at key
  unfold fX5_faultOfPad
  simp only [iI_l]
  rw [key]
  rfl
end
