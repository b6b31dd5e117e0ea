/-! WHAT THE LAW'S SUMS HANG ON -/
/-- the lines of all rolls -/
def SgI (D : Dt) : Int := gT D 8 + gT D 7 + gT D 11
/-- the lines printed of the receipt that is printed -/
def prnI (D : Dt) : Int := if prtI D = -6 then 0 else gF D (prtI D).toNat 5
def FI (D : Dt) : Int := gT D 8 - gT D 9 - prnI D
/-- of one that waits no line is printed, of one that is done all are -/
def JL (D : Dt) : Prop := ∀ r, 3 ≤ r → r < 21 → (hwP D 0 r = true → gF D r 5 = 0) ∧ (hwP D 2 r = true → gF D r 5 = lnI D r)
def Stq (k : Int) (D D' : Dt) : Prop := JL D' ∧ SgI D' = SgI D + k ∧ gT D 5 ≤ gT D' 5 ∧ (gT D' 5 = gT D 5 → FI D' = FI D)
theorem Stq.tr {k k' : Int} {D D' D'' : Dt} (h : Stq k D D') (h' : Stq k' D' D'') : Stq (k + k') D D'' := ⟨h'.1, by rw [h'.2.1, h.2.1]; omega, Int.le_trans h.2.2.1 h'.2.2.1, fun e => by
  have a := h.2.2.1
  have b := h'.2.2.1
  rw [h'.2.2.2 (by omega), h.2.2.2 (by omega)]⟩
theorem Stq.rf {D : Dt} (J : JL D) : Stq 0 D D := ⟨J, by omega, Int.le_refl _, fun _ => rfl⟩
theorem prt_cg {D D' : Dt} (h : ∀ q, 3 ≤ q → q < 21 → hwP D' 1 q = hwP D 1 q) : prtI D' = prtI D := fF_congr 18 3 (fun i a b => h i a (by omega))
theorem prI_of {D : Dt} {r : Nat} (e : prtI D = r) : prnI D = gF D r 5 := by unfold prnI; rw [e, if_neg (by omega), Int.toNat_natCast]
theorem prI_no {D : Dt} (e : prtI D = -6) : prnI D = 0 := if_pos e
theorem prI_cg {D D' : Dt} (h : ∀ q, 3 ≤ q → q < 21 → hwP D' 1 q = hwP D 1 q) (h5 : ∀ q, 3 ≤ q → q < 21 → hwP D 1 q = true → gF D' q 5 = gF D q 5) : prnI D' = prnI D := by
  have e := prt_cg h
  rcases prtI_c D with e0 | ⟨r, e0, h3, hr, hw⟩
  · rw [prI_no e0, prI_no (e.trans e0)]
  · rw [prI_of e0, prI_of (e.trans e0), h5 r h3 hr hw]
/-- the receipts' places are as they were, but for what isn't asked here -/
theorem Stq_cg {D D' : Dt} {k : Int} (J : JL D) (h : ∀ r, 3 ≤ r → r < 21 → gF D' r 0 = gF D r 0 ∧ gF D' r 3 = gF D r 3 ∧ gF D' r 5 = gF D r 5 ∧ lnI D' r = lnI D r) (h5 : gT D' 5 = gT D 5) (hs : SgI D' = SgI D + k) (h8 : gT D' 8 = gT D 8) (h9 : gT D' 9 = gT D 9) : Stq k D D' := by
  have hw : ∀ w q, 3 ≤ q → q < 21 → hwP D' w q = hwP D w q := fun w q a b => hwP_cg (h q a b).1 (h q a b).2.1
  refine ⟨fun r h3 hr => ?_, hs, by omega, fun _ => ?_⟩
  · rw [hw 0 r h3 hr, hw 2 r h3 hr, (h r h3 hr).2.2.1, (h r h3 hr).2.2.2]
    exact J r h3 hr
  · unfold FI
    rw [h8, h9, prI_cg (hw 1) (fun q a b _ => (h q a b).2.2.1)]
theorem Stq_sm {D D' : Dt} {k : Int} (J : JL D) (h : ∀ r, 3 ≤ r → r < 21 → sm D D' r) (h5 : gT D' 5 = gT D 5) (hs : SgI D' = SgI D + k) (h8 : gT D' 8 = gT D 8) (h9 : gT D' 9 = gT D 9) : Stq k D D' :=
  Stq_cg J (fun r h3 hr => ⟨by rw [(h r h3 hr).1], by rw [(h r h3 hr).1], by rw [(h r h3 hr).1], (h r h3 hr).ln h3⟩) h5 hs h8 h9
theorem Stq_set {D : Dt} {k : Nat} {v : Int} (J : JL D) (hk : k < 4) : Stq 0 D (sT D k v) :=
  Stq_sm J (fun r _ _ => sm_T D k v r) (by rw [gT_sT, if_neg (by omega)]) (by unfold SgI; rw [gT_sT, gT_sT, gT_sT, if_neg (by omega), if_neg (by omega), if_neg (by omega)]; omega) (by rw [gT_sT, if_neg (by omega)]) (by rw [gT_sT, if_neg (by omega)])
theorem Stq_newRoll {D : Dt} (J : JL D) : Stq (gT D 1) D (sT (sT (sT D 11 (gT D 11 + gT D 7)) 10 (gT D 10 + 1)) 7 (gT D 1)) := by
  have g : ∀ j, gT (sT (sT (sT D 11 (gT D 11 + gT D 7)) 10 (gT D 10 + 1)) 7 (gT D 1)) j = if j = 7 then gT D 1 else if j = 10 then gT D 10 + 1 else if j = 11 then gT D 11 + gT D 7 else gT D j := fun j => by rw [gT_sT, gT_sT, gT_sT]
  refine Stq_sm J (fun r _ _ => ((sm_T D 11 _ r).tr (sm_T _ 10 _ r)).tr (sm_T _ 7 _ r)) ?_ ?_ ?_ ?_
  · rw [g]; rfl
  · unfold SgI
    rw [g, g, g]
    show gT D 8 + gT D 1 + (gT D 11 + gT D 7) = _
    omega
  · rw [g]; rfl
  · rw [g]; rfl
theorem Stq_hurry {D : Dt} {r : Nat} {v : Int} (J : JL D) : Stq 0 D (sFl D r 2 v) :=
  Stq_cg J (fun q _ _ => ⟨by rw [gF_sFl, if_neg (by omega)], by rw [gF_sFl, if_neg (by omega)], by rw [gF_sFl, if_neg (by omega)], lnI_F (by decide) (by decide) (by decide) (by decide)⟩) rfl (by unfold SgI; rw [gT_sFl]; omega) rfl rfl
theorem Stq_strike {D : Dt} {t i : Int} (J : JL D) (h : 0 ≤ t ∧ t ≤ 2) : Stq 0 D (strD D t i) :=
  Stq_sm J (fun r h3 _ => ⟨funext fun k => by rw [sr_F, if_neg (by omega)], funext fun j => by rw [sr_P, if_neg (by omega)], by rw [sr_N], by rw [sr_E, if_neg (by omega)]⟩) (by rw [sr_T, if_neg (by omega)]) (by unfold SgI; rw [sr_T, sr_T, sr_T, if_neg (by omega), if_neg (by omega), if_neg (by omega)]; omega) (by rw [sr_T, if_neg (by omega)]) (by rw [sr_T, if_neg (by omega)])
theorem Stq_ring {Z : Zt} {t : Nat} {m p x : Int} (J : JL (zD Z)) (ht : t < 3) : Stq 0 (zD Z) (rngD Z t m p x) :=
  Stq_sm J (fun r h3 _ => ⟨funext fun k => by rw [rg_F, if_neg (by omega), if_neg (by omega)], funext fun j => by rw [rg_P, if_neg (by omega)], funext fun j => by rw [rg_N, if_neg (by omega)], by rw [rg_E, if_neg (by omega)]⟩) (by rw [rg_T]) (by unfold SgI; rw [rg_T, rg_T, rg_T]; omega) (by rw [rg_T]) (by rw [rg_T])
theorem Stq_close {D : Dt} {r t : Nat} {p : Int} (J : JL D) (h3 : 3 ≤ r) (hr : r < 21) (ht : t < 3) (hf : gF D r 0 ≤ 0) (t3 : gF D t 3 = 0) (t5 : gF D t 5 = 0) : Stq 0 D (cloD D r t p) := by
  have F : ∀ q k, 3 ≤ q → q ≠ r → gF (cloD D r t p) q k = gF D q k := fun q k a b => by rw [clo_F, if_neg (by omega), if_neg (by omega), if_neg (by omega), if_neg (by omega), if_neg (by omega), if_neg (by omega)]
  have r3 : gF (cloD D r t p) r 3 = 0 := by rw [clo_F, if_neg (by omega), if_neg (by omega), if_neg (by omega), if_neg (by omega), if_neg (by omega), if_pos rfl, t3]
  have r5 : gF (cloD D r t p) r 5 = 0 := by rw [clo_F, if_neg (by omega), if_neg (by omega), if_neg (by omega), if_neg (by omega), if_neg (by omega), if_pos rfl, t5]
  have S : ∀ q, 3 ≤ q → q ≠ r → sm D (cloD D r t p) q := fun q a b => ⟨funext fun k => F q k a b, by rw [clo_P D r t q p (by omega), if_neg (by omega), if_neg b], by rw [clo_N D r t q p (by omega), if_neg (by omega), if_neg b], by rw [clo_E D r t q p (by omega), if_neg (by omega), if_neg b]⟩
  have T : ∀ k, k ≠ 4 → gT (cloD D r t p) k = gT D k := fun k hk => by rw [clo_T, if_neg hk]
  have H1 : ∀ q, 3 ≤ q → q < 21 → hwP (cloD D r t p) 1 q = hwP D 1 q := fun q a b => by
    by_cases e : q = r
    · subst e
      have n1 : hwP (cloD D q t p) 1 q ≠ true := fun h => by have := hwP_t.mp h; omega
      have n2 : hwP D 1 q ≠ true := fun h => by have := hwP_t.mp h; omega
      rw [Bool.eq_false_iff.mpr n1, Bool.eq_false_iff.mpr n2]
    · exact hwP_cg (F q 0 a e) (F q 3 a e)
  refine ⟨fun q a b => ?_, by unfold SgI; rw [T 8 (by decide), T 7 (by decide), T 11 (by decide)]; omega, by rw [T 5 (by decide)]; omega, fun _ => ?_⟩
  · by_cases e : q = r
    · subst e
      exact ⟨fun _ => r5, fun h => by have := hwP_t.mp h; omega⟩
    · rw [hwP_cg (F q 0 a e) (F q 3 a e), hwP_cg (F q 0 a e) (F q 3 a e), F q 5 a e, (S q a e).ln a]
      exact J q a b
  · unfold FI
    rw [T 8 (by decide), T 9 (by decide), prI_cg H1 (fun q a b h => F q 5 a (fun e => by subst e; have := hwP_t.mp h; omega))]
/-- lines are torn -/
theorem Stq_tear {D : Dt} {r : Nat} {v w : Int} (J : JL D) (e : prtI D = r) (hw : hwP D 1 r = true) (ev : w = gT D 9 + (gF D r 5 - v)) : Stq 0 D (sT (sFl D r 5 v) 9 w) := by
  have n := hwP_t.mp hw
  have F : ∀ q k, gF (sT (sFl D r 5 v) 9 w) q k = if q = r ∧ k = 5 then v else gF D q k := fun q k => by rw [gF_sT, gF_sFl]
  have T : ∀ k, k ≠ 9 → gT (sT (sFl D r 5 v) 9 w) k = gT D k := fun k hk => by rw [gT_sT, if_neg hk, gT_sFl]
  have H : ∀ u q, hwP (sT (sFl D r 5 v) 9 w) u q = hwP D u q := fun u q => hwP_cg (by rw [F, if_neg (by omega)]) (by rw [F, if_neg (by omega)])
  have P : prtI (sT (sFl D r 5 v) 9 w) = r := (prt_cg (fun q _ _ => H 1 q)).trans e
  refine ⟨fun q a b => ?_, by unfold SgI; rw [T 8 (by decide), T 7 (by decide), T 11 (by decide)]; omega, by rw [T 5 (by decide)]; omega, fun _ => ?_⟩
  · rw [H, H]
    by_cases eq : q = r
    · subst eq
      exact ⟨fun h => by have := hwP_t.mp h; omega, fun h => by have := hwP_t.mp h; omega⟩
    · rw [F, if_neg (by omega), (((sm_F (k := 5) (v := v) eq).tr (sm_T _ 9 w q))).ln a]
      exact J q a b
  · unfold FI
    rw [T 8 (by decide), gT_sT, if_pos rfl, prI_of P, prI_of e, F, if_pos ⟨rfl, rfl⟩, ev]
    omega
theorem Stq_tak {D : Dt} (J : JL D) (G : Gl D) : Stq 0 D (takD D) := by
  rcases tak_c G with ⟨_, e2⟩ | ⟨r, e1, h3, hr, hw, ⟨_, e3⟩ | ⟨e4, _, h0, e3⟩⟩
  · rw [e2]; exact Stq.rf J
  · rw [e3]; exact Stq.rf J
  · have Gt := Gl_take G h3 hr h0 e4
    rw [e3] at hw ⊢
    have P : prtI (sFl D r 3 1) = r := prt_of Gt.one h3 hr hw
    have F : ∀ q k, gF (sFl D r 3 1) q k = if q = r ∧ k = 3 then 1 else gF D q k := fun q k => gF_sFl D r 3 q k 1
    refine ⟨fun q a b => ?_, by unfold SgI; rw [gT_sFl]; omega, by rw [gT_sFl]; omega, fun _ => ?_⟩
    · by_cases eq : q = r
      · subst eq
        have f3 : gF (sFl D q 3 1) q 3 = 1 := by rw [F, if_pos ⟨rfl, rfl⟩]
        exact ⟨fun h => by have := hwP_t.mp h; omega, fun h => by have := hwP_t.mp h; omega⟩
      · have H : ∀ u, hwP (sFl D r 3 1) u q = hwP D u q := fun u => hwP_cg (by rw [F, if_neg (by omega)]) (by rw [F, if_neg (by omega)])
        rw [H, H, F, if_neg (by omega), (sm_F (k := 3) (v := 1) eq).ln a]
        exact J q a b
    · unfold FI
      rw [gT_sFl, prI_of P, prI_no e4, F, if_neg (by omega), (J r h3 hr).1 h0]
theorem ln_F (D : Dt) (r q k : Nat) : gF (lnD D r) q k = if q = r ∧ k = 5 then gF D r 5 + 1 else gF D q k := by unfold lnD; rw [gF_sT, gF_sT, gF_sFl]
theorem ln_T (D : Dt) (r k : Nat) : gT (lnD D r) k = if k = 8 then gT D 8 + 1 else if k = 7 then gT D 7 - 1 else gT D k := by unfold lnD; rw [gT_sT, gT_sT, gT_sFl]
theorem ln_ln {D : Dt} {r q : Nat} (h3 : 3 ≤ q) : lnI (lnD D r) q = lnI D q := by
  unfold lnD
  rw [(sm_T _ 8 _ q).ln h3, (sm_T _ 7 _ q).ln h3]
  exact lnI_F (by decide) (by decide) (by decide) (by decide)
theorem ln_h (D : Dt) (r : Nat) (u : Int) (q : Nat) : hwP (lnD D r) u q = hwP D u q := hwP_cg (by rw [ln_F, if_neg (by omega)]) (by rw [ln_F, if_neg (by omega)])
theorem Stq_ln {D : Dt} {r : Nat} (J : JL D) (G : Gl D) (h3 : 3 ≤ r) (hr : r < 21) (hw : hwP D 1 r = true) : Stq 0 D (lnD D r) := by
  have n := hwP_t.mp hw
  have P0 : prtI D = r := prt_of G.one h3 hr hw
  have P : prtI (lnD D r) = r := (prt_cg (fun q _ _ => ln_h D r 1 q)).trans P0
  refine ⟨fun q a b => ?_, by unfold SgI; rw [ln_T, ln_T, ln_T]; show gT D 8 + 1 + (gT D 7 - 1) + gT D 11 = _; omega, by rw [ln_T, if_neg (by decide), if_neg (by decide)]; omega, fun _ => ?_⟩
  · rw [ln_h, ln_h]
    by_cases eq : q = r
    · subst eq
      exact ⟨fun h => by have := hwP_t.mp h; omega, fun h => by have := hwP_t.mp h; omega⟩
    · rw [ln_F, if_neg (by omega), ln_ln a]
      exact J q a b
  · unfold FI
    rw [prI_of P, prI_of P0, ln_F, if_pos ⟨rfl, rfl⟩, ln_T, ln_T, if_pos rfl, if_neg (by decide), if_neg (by decide)]
    omega
theorem Stq_end {D : Dt} {r : Nat} (J : JL D) (G : Gl D) (h3 : 3 ≤ r) (hr : r < 21) (hw : hwP D 1 r = true) (hl : gF D r 5 = lnI D r) : Stq 0 D (endD D r) := by
  have L : ∀ q, 3 ≤ q → lnI (dnD D r) q = lnI D q := fun q a => by
    unfold dnD
    rw [lnI_F (by decide) (by decide) (by decide) (by decide), lnI_F (by decide) (by decide) (by decide) (by decide), lnI_F (by decide) (by decide) (by decide) (by decide)]
    exact (sm_T D 5 _ q).ln a
  have dn : JL (dnD D r) := fun q a b => by
    by_cases eq : q = r
    · subst eq
      have n := hwP_t.mp hw
      refine ⟨fun h => ?_, fun _ => ?_⟩
      · rw [dn_r 0 n.1] at h
        exact absurd h (by decide)
      · rw [dn_F, if_neg (by omega), if_neg (by omega), if_neg (by omega), L q a, hl]
    · rw [dn_o 0 eq, dn_o 2 eq, dn_F, if_neg (by omega), if_neg (by omega), if_neg (by omega), L q a]
      exact J q a b
  rcases end_c G h3 hr hw with ⟨_, e⟩ | ⟨_, o, o3, o21, onr, _, _, e⟩
  · rw [e]
    refine ⟨dn, by unfold SgI; rw [dn_T, dn_T, dn_T, if_neg (by decide), if_neg (by decide), if_neg (by decide)]; omega, by rw [dn_T, if_pos rfl]; omega, fun h => by rw [dn_T, if_pos rfl] at h; omega⟩
  · rw [e]
    have T : ∀ k, gT (emD (dnD D r) o) k = gT (dnD D r) k := fun k => rfl
    refine ⟨fun q a b => ?_, by unfold SgI; rw [T, T, T, dn_T, dn_T, dn_T, if_neg (by decide), if_neg (by decide), if_neg (by decide)]; omega, by rw [T, dn_T, if_pos rfl]; omega, fun h => by rw [T, dn_T, if_pos rfl] at h; omega⟩
    by_cases eo : q = o
    · subst eo
      have z : gF (emD (dnD D r) q) q 0 = 0 := by rw [gF_em, if_pos rfl]
      exact ⟨fun h => by have := hwP_t.mp h; omega, fun h => by have := hwP_t.mp h; omega⟩
    · have s : sm (dnD D r) (emD (dnD D r) o) q := sm_em eo
      have H : ∀ u, hwP (emD (dnD D r) o) u q = hwP (dnD D r) u q := fun u => hwP_cg (by rw [s.1]) (by rw [s.1])
      rw [H, H, s.1, s.ln a]
      exact dn q a b
theorem Gl_ln {D : Dt} {r : Nat} (G : Gl D) : Gl (lnD D r) := Gl_T (Gl_T (Gl_F G (by decide) (by decide) (by decide)) (by decide) (by decide)) (by decide) (by decide)
theorem Stq_pl {n : Int} {D : Dt} (J : JL D) (H : Iv n D) : Stq 0 D (plD D) := by
  have Ht := Iv_tak H
  have S1 := Stq_tak J H.gl
  unfold plD
  by_cases e : takI D = -6 ∨ gT D 7 = 0
  · rw [if_pos e]; exact S1
  rw [if_neg e]
  rcases tak_c H.gl with ⟨e1, e2⟩ | ⟨r, e1, h3, hr, hw, hx⟩
  · exact absurd (Or.inl e1) e
  have f5 : gF (takD D) r 5 = gF D r 5 := by
    rcases hx with ⟨_, e3⟩ | ⟨_, _, _, e3⟩
    · rw [e3]
    · rw [e3, gF_sFl, if_neg (by omega)]
  have ln : lnI (takD D) r = lnI D r := by
    rcases hx with ⟨_, e3⟩ | ⟨_, _, _, e3⟩
    · rw [e3]
    · rw [e3]; exact lnI_F (by decide) (by decide) (by decide) (by decide)
  rw [e1, Int.toNat_natCast]
  have S2 := S1.tr (Stq_ln S1.1 Ht.gl h3 hr hw)
  by_cases el : gF D r 5 + 1 = lnI D r
  · rw [if_pos el]
    exact S2.tr (Stq_end S2.1 (Gl_ln Ht.gl) h3 hr (by rw [ln_h]; exact hw) (by rw [ln_F, if_pos ⟨rfl, rfl⟩, f5, ln_ln h3, ln, el]))
  · rw [if_neg el]; exact S2
/-- printing goes on from D0 -/
def Kp (n : Int) (D0 D : Dt) : Prop := Iv n D ∧ Stq 0 D0 D
theorem Kp_keep {n : Int} (hn : n ≤ 1000) {D0 : Dt} : Keep (Kp n D0) := fun D h => by
  have k := Iv_keep hn D h.1
  exact ⟨k.1, ⟨k.2.1, h.2.tr (Stq_pl h.2.1 h.1)⟩, fun v v0 v1 => ⟨k.2.2 v v0 v1, h.2.tr (Stq_set h.2.1 (by decide))⟩⟩
theorem Stq_pass {n : Int} {D : Dt} (hn : n ≤ 1000) (J : JL D) (H : Iv n D) {m : Nat} (h3 : 0 ≤ gT D 3) (hm : gT D 3 + m ≤ 9999) : Stq 0 D (psL m 0 D).2 := (psL_J (Kp_keep hn) m 0 D ⟨H, Stq.rf J⟩ h3 hm).2
theorem tkL_n : ∀ (m : Nat) (n : Int) (D : Dt), n ≤ (tkL m n D).1
  | 0, n, _ => Int.le_refl n
  | m + 1, n, D => by
    rw [tkL]
    split
    · exact Int.le_refl n
    · have := tkL_n m (n + 1) (plD D); omega
theorem psL_n : ∀ (m : Nat) (n : Int) (D : Dt), n ≤ (psL m n D).1
  | 0, n, _ => Int.le_refl n
  | m + 1, n, D => by
    rw [psL]
    have := psL_n m (n + (tkR D).1) (tkR D).2
    have h : (0 : Int) ≤ (tkR D).1 := tkL_n (gT D 2).toNat 0 D
    omega
