/-! WHAT EVERY STATE KEEPS -/
/-- what a record keeps -/
def Rw (D : Dt) (r : Nat) : Prop := (∀ i, nIt D r ≤ i → gP D r i 3 = 0 ∧ gN' D r i = fun _ => 0) ∧ (∀ k, nEt D r ≤ k → gE D r k = 0) ∧ gF D r 9 = gF D r 8 + struckI D r ∧ (r < 3 → gF D r 0 = 0 ∧ gF D r 1 = r ∧ ∀ k, 2 ≤ k → k < 8 → gF D r k = 0) ∧ (3 ≤ r → gF D r 5 ≤ 1500 ∧ (0 < gF D r 0 → gF D r 3 ≠ 2 → gF D r 5 < lnI D r))
def Lc (D : Dt) (r : Nat) : Prop := Rg1 D r ∧ (∀ i, i < nIt D r → 1 ≤ gP D r i 0 ∧ 1 ≤ gP D r i 1) ∧ (∀ k, k < 8 → 0 ≤ gF D r k ∧ gF D r k < 1000000) ∧ EvOk D r ∧ (3 ≤ r → 0 < gF D r 0 → 16 ≤ gF D r 4 ∧ gF D r 4 ≤ 40) ∧ Rw D r
def Iv (n : Int) (D : Dt) : Prop := (∀ r, r < 21 → Lc D r) ∧ RgT D ∧ Gl D ∧ gT D 4 ≤ n
theorem Iv.ok {n : Int} {D : Dt} (H : Iv n D) : Ok1 D := ⟨fun r hr => (H.1 r hr).1, fun r hr => (H.1 r hr).2.1, fun r hr => (H.1 r hr).2.2.1, H.2.1, fun r hr => (H.1 r hr).2.2.2.1, fun r h3 hr => (H.1 r hr).2.2.2.2.1 h3⟩
theorem Iv.rw {n : Int} {D : Dt} (H : Iv n D) {r : Nat} (hr : r < 21) : Rw D r := (H.1 r hr).2.2.2.2.2
theorem Iv.gl {n : Int} {D : Dt} (H : Iv n D) : Gl D := H.2.2.1
theorem Iv.mono {n m : Int} {D : Dt} (H : Iv n D) (h : n ≤ m) : Iv m D := ⟨H.1, H.2.1, H.2.2.1, Int.le_trans H.2.2.2 h⟩
theorem many_0 {D : Dt} (w : Int) : 0 ≤ manyI D w := (manyI_bd D w).1
theorem Iv.done {n : Int} {D : Dt} (H : Iv n D) (hn : n ≤ 1000) : gT D 5 < 900000 := by
  have := H.2.2.1.2.1
  have h4 := H.2.2.2
  have := many_0 (D := D) 0
  have := many_0 (D := D) 1
  omega
theorem Iv.okm {n : Int} {D : Dt} (H : Iv n D) : OkM D := ⟨H.ok, fun r hr => by
  have := H.rw hr
  by_cases h3 : r < 3
  · have := (this.2.2.2.1 h3).2.2 5 (by decide) (by decide); omega
  · have := (this.2.2.2.2 (by omega)).1; omega⟩
theorem struck_bd {D : Dt} {r : Nat} (G : Rg1 D r) : 0 ≤ struckI D r ∧ struckI D r ≤ gF D r 8 := by
  have n8 := nIt_le G
  have := sF_bd (f := fun i => gP D r i 3) (b := 1) (nIt D r) 0 (fun i _ _ => by have := G.2.1 i; unfold pRg at this; omega)
  unfold struckI
  omega
theorem Iv.cln {n : Int} {D : Dt} (H : Iv n D) : Cln D := fun t ht h8 => by
  have L := H.1 t (by omega)
  have w := H.rw (r := t) (by omega)
  have s := struck_bd L.1
  have g := L.1.1
  have w9 := w.2.2.1
  refine ⟨by omega, w.2.1 _ (by unfold nEt; omega), (w.1 _ (by unfold nIt; omega)).2⟩
theorem sF_lt {f : Nat → Int} : ∀ (m k i : Nat), k ≤ i → i < k + m → (∀ j, 0 ≤ f j ∧ f j ≤ 1) → f i = 0 → sF f k m < m
  | 0, k, i, h1, h2, _, _ => by omega
  | m + 1, k, i, h1, h2, h, h0 => by
    simp only [sF]
    by_cases e : i = k
    · have := sF_bd (f := f) (b := 1) m (k + 1) (fun j _ _ => h j)
      rw [← e, h0, e]; omega
    · have := sF_lt (f := f) m (k + 1) i (by omega) (by omega) h h0
      have := h k; omega
theorem Iv.h24 {n : Int} {D : Dt} (H : Iv n D) : ∀ r, r < 3 → ∀ i, i < nIt D r → gP D r i 3 = 0 → gF D r 9 < 24 := fun r hr i hi h0 => by
  have L := H.1 r (by omega)
  have n8 := nIt_le L.1
  have w := H.rw (r := r) (by omega)
  have := sF_lt (f := fun i => gP D r i 3) (nIt D r) 0 i (by omega) (by omega) (fun j => by have := L.1.2.1 j; unfold pRg at this; omega) h0
  have g := L.1.1
  have w9 := w.2.2.1
  have e : struckI D r = sF (fun i => gP D r i 3) 0 (nIt D r) := rfl
  omega
theorem Iv.h0 {n : Int} {D : Dt} (H : Iv n D) : ∀ r, r < 3 → gF D r 9 < 24 → gE D r (gF D r 9).toNat = 0 := fun r hr _ => (H.rw (r := r) (by omega)).2.1 _ (by unfold nEt; omega)
theorem Iv.up {n : Int} {D : Dt} (H : Iv n D) : ∀ r, isR D r → gF D r 3 ≠ 2 → 0 ≤ upI D r := by
  have lf : ∀ r, isR D r → gF D r 3 ≠ 2 → 0 ≤ leftI D r := fun r hr h2 => by
    unfold leftI
    have w := H.rw hr.1
    by_cases h3 : r < 3
    · have := (w.2.2.2.1 h3).2.2 5 (by decide) (by decide)
      have := lnI_rg H.ok hr
      omega
    · have := (w.2.2.2.2 (by omega)).2 (by rcases hr.2 with h | h; omega; exact h) h2
      omega
  intro r hr h2
  unfold upI
  have := lf r hr h2
  split
  · have := sF_bd (f := aheadI D r) (b := 1500) 18 3 (fun o a b => by
      unfold aheadI
      split
      · next e =>
        have io : isR D o := ⟨by omega, Or.inr (by rcases e with e | e; exact (hwP_t.mp e).1; exact (hwP_t.mp e.1).1)⟩
        have n2 : gF D o 3 ≠ 2 := by rcases e with e | e; have := hwP_t.mp e; omega; have := hwP_t.mp e.1; omega
        exact ⟨lf o io n2, (leftI_rg H.ok io).2⟩
      · omega)
    omega
  · omega
/-- a record is the same in both -/
def sm (D D' : Dt) (r : Nat) : Prop := gF D' r = gF D r ∧ gP D' r = gP D r ∧ gN' D' r = gN' D r ∧ gE D' r = gE D r
theorem sm.ln {D D' : Dt} {r : Nat} (h : sm D D' r) (h3 : 3 ≤ r) : lnI D' r = lnI D r := lnI_congr h.2.2.2 h.2.1 h.2.2.1 (by rw [h.1]) (by rw [h.1]) (by unfold numI; rw [if_neg (by omega), if_neg (by omega), h.1]) (by unfold wdI; rw [if_neg (by omega), if_neg (by omega), h.1])
theorem sm.nIt {D D' : Dt} {r : Nat} (h : sm D D' r) : nIt D' r = Jvm.Pilot.CReceiptRollsLaw_law_r6028_bd9a59.nIt D r := by unfold Jvm.Pilot.CReceiptRollsLaw_law_r6028_bd9a59.nIt; rw [h.1]
theorem sm.nEt {D D' : Dt} {r : Nat} (h : sm D D' r) : nEt D' r = Jvm.Pilot.CReceiptRollsLaw_law_r6028_bd9a59.nEt D r := by unfold Jvm.Pilot.CReceiptRollsLaw_law_r6028_bd9a59.nEt; rw [h.1]
theorem sm.struck {D D' : Dt} {r : Nat} (h : sm D D' r) : struckI D' r = struckI D r := by unfold struckI; rw [h.nIt, h.2.1]
theorem Lc.to {D D' : Dt} {r : Nat} (H : Lc D r) (h : sm D D' r) : Lc D' r := by
  have e1 := h.nIt
  have e2 := h.nEt
  have e3 := h.struck
  have e4 : 3 ≤ r → lnI D' r = lnI D r := fun h3 => h.ln h3
  obtain ⟨f, p, n, e⟩ := h
  unfold Lc Rw Rg1 EvOk at H ⊢
  rw [e1, e2, e3, f, p, n, e]
  refine ⟨H.1, H.2.1, H.2.2.1, H.2.2.2.1, H.2.2.2.2.1, H.2.2.2.2.2.1, H.2.2.2.2.2.2.1, H.2.2.2.2.2.2.2.1, H.2.2.2.2.2.2.2.2.1, fun h3 => ?_⟩
  rw [e4 h3]
  exact H.2.2.2.2.2.2.2.2.2 h3
theorem Lc_F {D : Dt} {r k : Nat} {v : Int} (H : Lc D r) (h3 : 3 ≤ r) (k2 : 2 ≤ k) (k4 : k ≠ 4) (k8 : k < 8) (v0 : 0 ≤ v) (v1 : v < 1000000) (h5 : k = 5 → v ≤ 1500 ∧ (gF D r 3 ≠ 2 → v < lnI D r)) (hk3 : k = 3 → v = 2 ∨ (0 < gF D r 0 → gF D r 3 ≠ 2)) : Lc (sFl D r k v) r := by
  have F : ∀ j, gF (sFl D r k v) r j = if j = k then v else gF D r j := fun j => by
    rw [gF_sFl]
    by_cases e : j = k
    · rw [if_pos ⟨rfl, e⟩, if_pos e]
    · rw [if_neg (by omega), if_neg e]
  have e1 : nIt (sFl D r k v) r = nIt D r := by unfold nIt; rw [F, if_neg (by omega)]
  have e2 : nEt (sFl D r k v) r = nEt D r := by unfold nEt; rw [F, if_neg (by omega)]
  have e3 : struckI (sFl D r k v) r = struckI D r := by unfold struckI; rw [e1]; rfl
  have e4 : lnI (sFl D r k v) r = lnI D r := lnI_F (by omega) k4 (by omega) (by omega)
  obtain ⟨a, b, c, d, e, f1, f2, f3, f4, f5⟩ := H
  refine ⟨⟨by rw [F, F, if_neg (by omega), if_neg (by omega)]; exact a.1, a.2.1, a.2.2.1, a.2.2.2⟩, by rw [e1]; exact b, fun j hj => ?_, ?_, fun _ => ?_, by rw [e1]; exact f1, by rw [e2]; exact f2, by rw [F, F, if_neg (by omega), if_neg (by omega), e3]; exact f3, fun h => by omega, fun _ => ⟨?_, ?_⟩⟩
  · rw [F]; split
    · exact ⟨v0, v1⟩
    · exact c j hj
  · intro j hj; rw [F, if_neg (by omega)]; exact d j (by rw [← e2]; exact hj)
  · rw [F, F, if_neg (by omega), if_neg (by omega)]; exact e h3
  · rw [F]; split
    · next e5 => exact (h5 e5.symm).1
    · exact (f5 h3).1
  · rw [F, F, F, if_neg (by omega), e4]
    intro n hh
    by_cases e5 : 5 = k
    · rw [if_neg (by omega)] at hh
      rw [if_pos e5]; exact (h5 e5.symm).2 hh
    · rw [if_neg e5]
      by_cases e6 : 3 = k
      · rw [if_pos e6] at hh
        rcases hk3 e6.symm with h | h
        · exact absurd h hh
        · exact (f5 h3).2 n (h n)
      · rw [if_neg e6] at hh; exact (f5 h3).2 n hh
theorem sm_T (D : Dt) (k : Nat) (v : Int) (r : Nat) : sm D (sT D k v) r := ⟨rfl, rfl, rfl, rfl⟩
theorem sm_F {D : Dt} {r k q : Nat} {v : Int} (h : q ≠ r) : sm D (sFl D r k v) q := ⟨funext fun j => by rw [gF_sFl, if_neg (by omega)], rfl, rfl, rfl⟩
theorem sm_em {D : Dt} {o q : Nat} (h : q ≠ o) : sm D (emD D o) q := ⟨funext fun j => if_neg h, funext fun j => funext fun k => if_neg h, funext fun j => funext fun k => if_neg h, funext fun j => if_neg h⟩
theorem sm.tr {D D' D'' : Dt} {r : Nat} (h : sm D D' r) (h' : sm D' D'' r) : sm D D'' r := ⟨h'.1.trans h.1, h'.2.1.trans h.2.1, h'.2.2.1.trans h.2.2.1, h'.2.2.2.trans h.2.2.2⟩
theorem Lc_em {D : Dt} {o : Nat} (h3 : 3 ≤ o) : Lc (emD D o) o := by
  have F : gF (emD D o) o = fun _ => 0 := funext fun j => if_pos rfl
  have P : gP (emD D o) o = fun _ _ => 0 := funext fun j => funext fun k => if_pos rfl
  have N : gN' (emD D o) o = fun _ _ => 0 := funext fun j => funext fun k => if_pos rfl
  have E : gE (emD D o) o = fun _ => 0 := funext fun j => if_pos rfl
  have e1 : nIt (emD D o) o = 0 := by unfold nIt; rw [F]; rfl
  have e2 : nEt (emD D o) o = 0 := by unfold nEt; rw [F]; rfl
  have e3 : struckI (emD D o) o = 0 := by unfold struckI; rw [e1]; rfl
  unfold Lc Rw Rg1 EvOk
  rw [e1, e2, e3, F, P, N, E]
  refine ⟨⟨by decide, fun i => by unfold pRg; dsimp only; decide, fun _ _ => by dsimp only; decide, fun _ => by dsimp only; decide⟩, fun i h => by omega, fun k _ => by dsimp only; decide, fun k h => by omega, fun _ h => absurd h (by decide), fun _ _ => ⟨rfl, rfl⟩, fun _ _ => rfl, rfl, fun h => by omega, fun _ => ⟨by decide, fun h => absurd h (by decide)⟩⟩
/-- a state is kept when only totals change that the table doesn't hang on -/
theorem Iv_T {n : Int} {D : Dt} (H : Iv n D) {k : Nat} {v : Int} (h4 : k ≠ 4) (h5 : k ≠ 5) (h : RgT (sT D k v)) : Iv n (sT D k v) :=
  ⟨fun r hr => (H.1 r hr).to (sm_T D k v r), h, Gl_T H.gl h4 h5, by rw [gT_sT, if_neg (fun e => h4 e.symm)]; exact H.2.2.2⟩
theorem Iv_T2 {n : Int} {D : Dt} (H : Iv n D) {k : Nat} {v : Int} (h5 : 5 < k) (h7 : k = 7 → 0 ≤ v ∧ v ≤ 200) : Iv n (sT D k v) := Iv_T H (by omega) (by omega) (RgT_k H.2.1 h5 h7)
theorem Iv_3 {n : Int} {D : Dt} (H : Iv n D) {v : Int} (v0 : 0 ≤ v) (v1 : v ≤ 9999) : Iv n (sT D 3 v) := Iv_T H (by decide) (by decide) (by
  have := H.2.1
  unfold RgT at this ⊢
  simp only [gT_sT]
  simp (decide := true) only [if_false, if_true]
  omega)
theorem Iv_F {n : Int} {D : Dt} (H : Iv n D) {r k : Nat} {v : Int} (h3 : 3 ≤ r) (hr : r < 21) (k2 : 2 ≤ k) (k3 : k ≠ 3) (k4 : k ≠ 4) (k7 : k < 7) (v0 : 0 ≤ v) (v1 : v < 1000000) (h5 : k = 5 → v ≤ 1500 ∧ (gF D r 3 ≠ 2 → v < lnI D r)) : Iv n (sFl D r k v) :=
  ⟨fun q hq => by
    by_cases e : q = r
    · rw [e]; exact Lc_F (H.1 r hr) h3 k2 k4 (by omega) v0 v1 h5 (fun e3 => absurd e3 k3)
    · exact (H.1 q hq).to (sm_F e), H.2.1, Gl_F H.gl (by omega) k3 (by omega), H.2.2.2⟩
theorem Iv_take {n : Int} {D : Dt} (H : Iv n D) {r : Nat} (h3 : 3 ≤ r) (hr : r < 21) (h0 : hwP D 0 r = true) (hp : prtI D = -6) : Iv n (sFl D r 3 1) :=
  ⟨fun q hq => by
    by_cases e : q = r
    · rw [e]; exact Lc_F (H.1 r hr) h3 (by decide) (by decide) (by decide) (by decide) (by decide) (fun h => absurd h (by decide)) (fun _ => Or.inr (fun _ => by have := hwP_t.mp h0; omega))
    · exact (H.1 q hq).to (sm_F e), H.2.1, Gl_take H.gl h3 hr h0 hp, H.2.2.2⟩
theorem Iv_end {n : Int} {D : Dt} (hn : n ≤ 1000) {r : Nat} (h3 : 3 ≤ r) (hr : r < 21) (h : hwP D 1 r = true) (L : ∀ q, q < 21 → q ≠ r → Lc D q) (Lr : Lc D r ∨ Lc (sFl D r 3 2) r) (T : RgT D) (G : Gl D) (h4 : gT D 4 ≤ n) : Iv n (endD D r) := by
  have b := G.2.1
  have m0 := many_0 (D := D) 0
  have m1 := many_0 (D := D) 1
  have hg := Gl_end G h3 hr h
  have t' : RgT (dnD D r) := by
    unfold RgT at T ⊢
    simp only [dn_T]
    simp (decide := true) only [if_false, if_true]
    omega
  have T3 := T
  unfold RgT at T3
  have lr : Lc (dnD D r) r := by
    have l1 : Lc (sFl D r 3 2) r := by
      rcases Lr with h | h
      · exact Lc_F h h3 (by decide) (by decide) (by decide) (by decide) (by decide) (fun h => absurd h (by decide)) (fun _ => Or.inl rfl)
      · exact h
    have l2 : Lc (sFl (sT D 5 (gT D 5 + 1)) r 3 2) r := l1.to ⟨rfl, rfl, rfl, rfl⟩
    have l3 := Lc_F (k := 6) (v := gT D 3) l2 h3 (by decide) (by decide) (by decide) (by omega) (by omega) (fun h => absurd h (by decide)) (fun h => absurd h (by decide))
    exact Lc_F (k := 7) (v := gT D 5 + 1) l3 h3 (by decide) (by decide) (by decide) (by omega) (by omega) (fun h => absurd h (by decide)) (fun h => absurd h (by decide))
  have lq : ∀ q, q < 21 → Lc (dnD D r) q := fun q hq => by
    by_cases e : q = r
    · rw [e]; exact lr
    · exact (L q hq e).to ((((sm_T D 5 _ q).tr (sm_F e)).tr (sm_F e)).tr (sm_F e))
  have t4 : gT (dnD D r) 4 = gT D 4 := by rw [dn_T, if_neg (by decide)]
  rcases end_c G h3 hr h with ⟨c1, c2⟩ | ⟨c1, o, o1, o2, o3, o4, o5, c2⟩
  · rw [c2] at hg ⊢
    exact ⟨lq, t', hg, by rw [t4]; exact h4⟩
  · rw [c2] at hg ⊢
    refine ⟨fun q hq => ?_, t', hg, by rw [gT_em, t4]; exact h4⟩
    by_cases e : q = o
    · rw [e]; exact Lc_em o1
    · exact (lq q hq).to (sm_em e)
theorem tak_c {D : Dt} (G : Gl D) : (takI D = -6 ∧ takD D = D) ∨ ∃ r : Nat, takI D = r ∧ 3 ≤ r ∧ r < 21 ∧ hwP (takD D) 1 r = true ∧ ((prtI D = r ∧ takD D = D) ∨ (prtI D = -6 ∧ atI D 0 = r ∧ hwP D 0 r = true ∧ takD D = sFl D r 3 1)) := by
  unfold takI takD
  rcases prtI_c D with e | ⟨r, e, h3, hr, hw⟩
  · rw [if_pos e, if_pos e]
    rcases atI_c D 0 with e2 | ⟨r, e2, h3, hr, hw, hk⟩
    · rw [if_pos e2]; exact Or.inl ⟨e2, rfl⟩
    · rw [if_neg (by omega), e2, Int.toNat_natCast]
      refine Or.inr ⟨r, rfl, h3, hr, ?_, Or.inr ⟨e, rfl, hw, rfl⟩⟩
      rw [hwP_t, gF_sFl, if_neg (by omega), gF_sFl, if_pos ⟨rfl, rfl⟩]
      exact ⟨(hwP_t.mp hw).1, rfl⟩
  · rw [if_neg (by omega), if_neg (by omega)]
    exact Or.inr ⟨r, e, h3, hr, hw, Or.inl ⟨e, rfl⟩⟩
theorem Iv_tak {n : Int} {D : Dt} (H : Iv n D) : Iv n (takD D) := by
  rcases tak_c H.gl with ⟨e, e2⟩ | ⟨r, e, h3, hr, hw, ⟨e2, e3⟩ | ⟨e2, e3, e4, e5⟩⟩
  · rw [e2]; exact H
  · rw [e3]; exact H
  · rw [e5]; exact Iv_take H h3 hr e4 e2
theorem Iv_pl {n : Int} {D : Dt} (H : Iv n D) (hn : n ≤ 1000) : Iv n (plD D) := by
  have Ht := Iv_tak H
  unfold plD
  by_cases e : takI D = -6 ∨ gT D 7 = 0
  · rw [if_pos e]; exact Ht
  rw [if_neg e]
  rcases tak_c H.gl with ⟨e1, e2⟩ | ⟨r, e1, h3, hr, hw, hx⟩
  · exact absurd (Or.inl e1) e
  have f5 : gF (takD D) r 5 = gF D r 5 := by
    rcases hx with ⟨_, e3⟩ | ⟨_, _, _, e3⟩
    · rw [e3]
    · rw [e3, gF_sFl, if_neg (by omega)]
  have ln : lnI (takD D) r = lnI D r := by
    rcases hx with ⟨_, e3⟩ | ⟨_, _, _, e3⟩
    · rw [e3]
    · rw [e3]; exact lnI_F (by decide) (by decide) (by decide) (by decide)
  have t7 : gT (takD D) 7 = gT D 7 := by rw [gT_tak]
  rw [e1, Int.toNat_natCast]
  have nn := hwP_t.mp hw
  have w := (Ht.rw hr).2.2.2.2 h3
  have w2 := w.2 nn.1 (by omega)
  have T := H.2.1
  unfold RgT at T
  rw [f5, ln] at w2
  have isr : isR (takD D) r := ⟨hr, Or.inr nn.1⟩
  have lb := lnI_rg Ht.ok isr
  rw [ln] at lb
  have g5 := (Ht.1 r hr).2.2.1 5 (by decide)
  rw [f5] at g5
  have n7 : gT D 7 ≠ 0 := fun h => e (Or.inr h)
  have fin : ∀ D1, Iv n D1 → gT D1 7 = gT D 7 → Iv n (sT (sT D1 7 (gT D1 7 - 1)) 8 (gT (sT D1 7 (gT D1 7 - 1)) 8 + 1)) := fun D1 h1 h2 => Iv_T2 (Iv_T2 h1 (by decide) (fun _ => by omega)) (by decide) (fun h => absurd h (by decide))
  by_cases el : gF D r 5 + 1 = lnI D r
  · rw [if_pos el]
    refine Iv_end hn h3 hr ?_ (fun q hq hne => ?_) (Or.inr ?_) ?_ ?_ ?_
    · rw [hwP_t]
      show 0 < gF (sFl (takD D) r 5 _) r 0 ∧ gF (sFl (takD D) r 5 _) r 3 = 1
      rw [gF_sFl, if_neg (by omega), gF_sFl, if_neg (by omega)]
      exact nn
    · exact (Ht.1 q hq).to (((sm_F (k := 5) (v := gF (takD D) r 5 + 1) hne).tr (sm_T _ 7 _ q)).tr (sm_T _ 8 _ q))
    · have l1 : Lc (sFl (takD D) r 3 2) r := Lc_F (Ht.1 r hr) h3 (by decide) (by decide) (by decide) (by decide) (by decide) (fun h => absurd h (by decide)) (fun _ => Or.inl rfl)
      have l2 := Lc_F (k := 5) (v := gF D r 5 + 1) l1 h3 (by decide) (by decide) (by decide) (by omega) (by omega) (fun _ => ⟨by omega, fun h2 => absurd (by rw [gF_sFl, if_pos ⟨rfl, rfl⟩]) h2⟩) (fun h => absurd h (by decide))
      refine l2.to ⟨funext fun j => ?_, rfl, rfl, rfl⟩
      unfold lnD
      rw [gF_sFl, gF_sT, gF_sT, gF_sFl, gF_sFl, gF_sFl, f5]
      split <;> split <;> first | rfl | omega
    · unfold lnD
      exact RgT_k (RgT_k Ht.2.1 (by decide) (fun _ => by rw [t7]; omega)) (by decide) (fun h => absurd h (by decide))
    · exact Gl_T (Gl_T (Gl_F Ht.gl (by decide) (by decide) (by decide)) (by decide) (by decide)) (by decide) (by decide)
    · exact Ht.2.2.2
  · rw [if_neg el]
    have h1 : Iv n (sFl (takD D) r 5 (gF (takD D) r 5 + 1)) := Iv_F Ht h3 hr (by decide) (by decide) (by decide) (by decide) (by omega) (by omega) (fun _ => ⟨by omega, fun _ => by rw [ln]; omega⟩)
    exact fin _ h1 t7
theorem Iv_keep {n : Int} (hn : n ≤ 1000) : Keep (Iv n) := fun D H => ⟨⟨H.okm, H.done hn⟩, Iv_pl H hn, fun v v0 v1 => Iv_3 H v0 v1⟩
