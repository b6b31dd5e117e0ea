/-! WHAT THE LEDGER'S TABLE KEEPS -/
theorem sF_upd {f f' : Nat → Int} {r : Nat} : ∀ (m k : Nat), k ≤ r → r < k + m → (∀ i, k ≤ i → i < k + m → i ≠ r → f' i = f i) → sF f' k m = sF f k m - f r + f' r
  | 0, k, h1, h2, _ => by omega
  | m + 1, k, h1, h2, h => by
    simp only [sF]
    by_cases e : k = r
    · subst e
      rw [sF_congr m (k + 1) (f := f') (g := f) (fun i a b => h i (by omega) (by omega) (by omega))]
      omega
    · rw [sF_upd (f := f) (f' := f') m (k + 1) (by omega) (by omega) (fun i a b c => h i (by omega) (by omega) c), h k (by omega) (by omega) e]
      omega
theorem fF_uniq {p : Nat → Bool} {r : Nat} : ∀ (m k : Nat), k ≤ r → r < k + m → p r = true → (∀ i, k ≤ i → i < k + m → p i = true → i = r) → fF p k m = r
  | 0, k, h1, h2, _, _ => by omega
  | m + 1, k, h1, h2, hr, h => by
    rw [fF]
    by_cases e : p k = true
    · rw [if_pos e, h k (by omega) (by omega) e]
    · rw [if_neg e]
      exact fF_uniq m (k + 1) (by rcases Nat.lt_or_ge k r with h | h; exact h; exact absurd hr (by rw [show r = k by omega]; exact e)) (by omega) hr (fun i a b c => h i (by omega) (by omega) c)
theorem fF_no {p : Nat → Bool} : ∀ (m k : Nat), (∀ i, k ≤ i → i < k + m → p i = false) → fF p k m = -6
  | 0, _, _ => rfl
  | m + 1, k, h => by
    rw [fF, if_neg (by rw [h k (by omega) (by omega)]; decide)]
    exact fF_no m (k + 1) (fun i a b => h i (by omega) (by omega))
theorem many_upd {D D' : Dt} {w : Int} {r : Nat} (h3 : 3 ≤ r) (hr : r < 21) (h : ∀ q, 3 ≤ q → q < 21 → q ≠ r → hwP D' w q = hwP D w q) : manyI D' w = manyI D w - bI (hwP D w r = true) + bI (hwP D' w r = true) :=
  sF_upd 18 3 h3 (by omega) (fun i a b c => by show bI (hwP D' w i = true) = bI (hwP D w i = true); rw [h i a (by omega) c])
theorem many_cg {D D' : Dt} {w : Int} (h : ∀ q, 3 ≤ q → q < 21 → hwP D' w q = hwP D w q) : manyI D' w = manyI D w :=
  sF_congr 18 3 (fun i a b => by show bI (hwP D' w i = true) = bI (hwP D w i = true); rw [h i a (by omega)])
theorem hwP_cg {D D' : Dt} {w : Int} {q : Nat} (h0 : gF D' q 0 = gF D q 0) (h3 : gF D' q 3 = gF D q 3) : hwP D' w q = hwP D w q := by unfold hwP; rw [h0, h3]
theorem hwP_t {D : Dt} {w : Int} {q : Nat} : hwP D w q = true ↔ 0 < gF D q 0 ∧ gF D q 3 = w := by unfold hwP; exact decide_eq_true_iff
/-- the table -/
def Gl (D : Dt) : Prop := ((∀ r q, 3 ≤ r → r < 21 → 3 ≤ q → q < 21 → 0 < gF D r 0 → gF D r 0 = gF D q 0 → r = q) ∧ (∀ r, 3 ≤ r → r < 21 → 0 < gF D r 0 → gF D r 0 ≤ gT D 4 ∧ 0 ≤ gF D r 3 ∧ gF D r 3 ≤ 2) ∧ One D) ∧
  (gT D 4 = gT D 5 + manyI D 0 + manyI D 1 ∧ manyI D 0 + manyI D 1 ≤ 10 ∧ 0 ≤ gT D 5 ∧ (gT D 5 ≤ 8 → manyI D 2 = gT D 5) ∧ (8 ≤ gT D 5 → manyI D 2 = 8)) ∧
  (∀ r, 3 ≤ r → r < 21 → hwP D 2 r = true → gT D 5 - 8 < gF D r 7 ∧ 1 ≤ gF D r 7 ∧ gF D r 7 ≤ gT D 5) ∧
  (∀ v, 1 ≤ v → gT D 5 - 8 < v → v ≤ gT D 5 → ∃ r, 3 ≤ r ∧ r < 21 ∧ hwP D 2 r = true ∧ gF D r 7 = v) ∧
  (∀ r q, 3 ≤ r → r < 21 → 3 ≤ q → q < 21 → hwP D 2 r = true → hwP D 2 q = true → gF D r 7 = gF D q 7 → r = q)
theorem Gl.how {D : Dt} (H : Gl D) : How D := fun r a b c => (H.1.2.1 r a b c).2
theorem Gl.one {D : Dt} (H : Gl D) : One D := H.1.2.2
theorem Gl_cg {D D' : Dt} (H : Gl D) (h : ∀ r, 3 ≤ r → r < 21 → gF D' r 0 = gF D r 0 ∧ gF D' r 3 = gF D r 3 ∧ gF D' r 7 = gF D r 7) (h4 : gT D' 4 = gT D 4) (h5 : gT D' 5 = gT D 5) : Gl D' := by
  have hw : ∀ w q, 3 ≤ q → q < 21 → hwP D' w q = hwP D w q := fun w q a b => hwP_cg (h q a b).1 (h q a b).2.1
  have hm : ∀ w, manyI D' w = manyI D w := fun w => many_cg (hw w)
  obtain ⟨⟨a1, a2, a3⟩, b, g, x, i⟩ := H
  refine ⟨⟨fun r q r1 r2 q1 q2 n e => ?_, fun r r1 r2 n => ?_, fun r q r1 r2 q1 q2 e f => ?_⟩, ?_, fun r r1 r2 e => ?_, fun v v1 v2 v3 => ?_, fun r q r1 r2 q1 q2 e f d => ?_⟩
  · rw [(h r r1 r2).1] at n e; rw [(h q q1 q2).1] at e; exact a1 r q r1 r2 q1 q2 n e
  · rw [(h r r1 r2).1] at n ⊢; rw [(h r r1 r2).2.1, h4]; exact a2 r r1 r2 n
  · rw [hw _ _ r1 r2] at e; rw [hw _ _ q1 q2] at f; exact a3 r q r1 r2 q1 q2 e f
  · rw [h4, h5, hm, hm, hm]; exact b
  · rw [hw _ _ r1 r2] at e; rw [h5, (h r r1 r2).2.2]; exact g r r1 r2 e
  · rw [h5] at v2 v3
    obtain ⟨r, r1, r2, e, d⟩ := x v v1 v2 v3
    exact ⟨r, r1, r2, by rw [hw _ _ r1 r2]; exact e, by rw [(h r r1 r2).2.2]; exact d⟩
  · rw [hw _ _ r1 r2] at e; rw [hw _ _ q1 q2] at f; rw [(h r r1 r2).2.2, (h q q1 q2).2.2] at d; exact i r q r1 r2 q1 q2 e f d
theorem Gl_T {D : Dt} {k : Nat} {v : Int} (H : Gl D) (h4 : k ≠ 4) (h5 : k ≠ 5) : Gl (sT D k v) := Gl_cg H (fun r _ _ => ⟨rfl, rfl, rfl⟩) (by rw [gT_sT, if_neg (fun e => h4 e.symm)]) (by rw [gT_sT, if_neg (fun e => h5 e.symm)])
theorem Gl_F {D : Dt} {r k : Nat} {v : Int} (H : Gl D) (h0 : k ≠ 0) (h3 : k ≠ 3) (h7 : k ≠ 7) : Gl (sFl D r k v) := Gl_cg H (fun q _ _ => ⟨by rw [gF_sFl, if_neg (by omega)], by rw [gF_sFl, if_neg (by omega)], by rw [gF_sFl, if_neg (by omega)]⟩) rfl rfl
theorem prt_of {D : Dt} (H : One D) {r : Nat} (h3 : 3 ≤ r) (hr : r < 21) (h : hwP D 1 r = true) : prtI D = r := fF_uniq 18 3 h3 (by omega) h (fun i a b c => H i r a (by omega) h3 hr c h)
theorem prt_no {D : Dt} (h : prtI D = -6) : ∀ r, 3 ≤ r → r < 21 → hwP D 1 r = false := fun r a b => fF_none 18 3 h r a (by omega)
theorem rec_of {D : Dt} (H : Gl D) {r : Nat} (h3 : 3 ≤ r) (hr : r < 21) (n : 0 < gF D r 0) : recI D (gF D r 0) = r :=
  fF_uniq 18 3 h3 (by omega) (decide_eq_true ⟨n, rfl⟩) (fun i a b c => by
    have := of_decide_eq_true c
    exact (H.1.1 r i h3 hr a (by omega) n this.2.symm).symm)
theorem rec_0 {D : Dt} : recI D 0 = -6 := fF_no 18 3 (fun i a b => decide_eq_false (fun h => by omega))
theorem Gl_take {D : Dt} (H : Gl D) {r : Nat} (h3 : 3 ≤ r) (hr : r < 21) (h0 : hwP D 0 r = true) (hp : prtI D = -6) : Gl (sFl D r 3 1) := by
  have n := hwP_t.mp h0
  have ho : ∀ w q, q ≠ r → hwP (sFl D r 3 1) w q = hwP D w q := fun w q e => hwP_cg (by rw [gF_sFl, if_neg (by omega)]) (by rw [gF_sFl, if_neg (by omega)])
  have hx : ∀ w, hwP (sFl D r 3 1) w r = decide (w = 1) := fun w => by
    unfold hwP
    rw [gF_sFl, if_neg (by omega), gF_sFl, if_pos ⟨rfl, rfl⟩]
    exact decide_eq_decide.mpr ⟨fun h => h.2.symm, fun h => ⟨n.1, h.symm⟩⟩
  have m0 := many_upd (w := 0) h3 hr (fun q _ _ e => ho 0 q e)
  have m1 := many_upd (w := 1) h3 hr (fun q _ _ e => ho 1 q e)
  have m2 := many_upd (w := 2) h3 hr (fun q _ _ e => ho 2 q e)
  rw [hx, bI_t h0, bI_f (by decide)] at m0
  rw [hx, bI_f (by rw [prt_no hp r h3 hr]; decide), bI_t (by decide)] at m1
  rw [hx, bI_f (fun e => by have := hwP_t.mp e; omega), bI_f (by decide)] at m2
  obtain ⟨⟨a1, a2, a3⟩, b, g, x, i⟩ := H
  have g7 : ∀ q, gF (sFl D r 3 1) q 7 = gF D q 7 := fun q => by rw [gF_sFl, if_neg (by omega)]
  have g0 : ∀ q, gF (sFl D r 3 1) q 0 = gF D q 0 := fun q => by rw [gF_sFl, if_neg (by omega)]
  have h2 : ∀ q, hwP (sFl D r 3 1) 2 q = hwP D 2 q := fun q => by
    by_cases e : q = r
    · subst e
      rw [hx]
      exact (Bool.eq_false_iff.mpr (fun e => by have := hwP_t.mp e; omega)).symm
    · exact ho 2 q e
  refine ⟨⟨fun r' q r1 r2 q1 q2 n' e => ?_, fun q r1 r2 n' => ?_, fun q s r1 r2 q1 q2 e f => ?_⟩, ?_, fun r' r1 r2 e => ?_, fun v v1 v2 v3 => ?_, fun r' q r1 r2 q1 q2 e f d => ?_⟩
  · rw [g0] at n' e; rw [g0] at e; exact a1 r' q r1 r2 q1 q2 n' e
  · rw [g0] at n' ⊢
    refine ⟨(a2 q r1 r2 n').1, ?_⟩
    rw [gF_sFl]
    split
    · decide
    · exact (a2 q r1 r2 n').2
  · have hh : ∀ z, 3 ≤ z → z < 21 → hwP (sFl D r 3 1) 1 z = true → z = r := fun z z1 z2 hz => by
      by_cases e : z = r
      · exact e
      · rw [ho 1 z e, prt_no hp z z1 z2] at hz; exact absurd hz (by decide)
    rw [hh q r1 r2 e, hh s q1 q2 f]
  · rw [m0, m1, m2, gT_sFl]; omega
  · rw [h2] at e; rw [g7, gT_sFl]; exact g r' r1 r2 e
  · rw [gT_sFl] at v2 v3
    obtain ⟨q, q1, q2, e, d⟩ := x v v1 v2 v3
    exact ⟨q, q1, q2, by rw [h2]; exact e, by rw [g7]; exact d⟩
  · rw [h2] at e f; rw [g7, g7] at d; exact i r' q r1 r2 q1 q2 e f d
/-- the first that is done -/
theorem olL_min {D : Dt} : ∀ (m k : Nat) (o : Int), 3 ≤ k → k + m = 21 → (o ≠ -6 → 3 ≤ o ∧ o < k ∧ hwP D 2 o.toNat = true ∧ ∀ q, 3 ≤ q → q < k → hwP D 2 q = true → gF D o.toNat 7 ≤ gF D q 7) → (o = -6 → ∀ q, 3 ≤ q → q < k → hwP D 2 q = false) → olL D k m o ≠ -6 → (3 ≤ olL D k m o ∧ olL D k m o < 21 ∧ hwP D 2 (olL D k m o).toNat = true ∧ ∀ q, 3 ≤ q → q < 21 → hwP D 2 q = true → gF D (olL D k m o).toNat 7 ≤ gF D q 7)
  | 0, k, o, h3, hk, h1, h2, h => by
    rw [olL] at h ⊢
    have := h1 h
    refine ⟨this.1, by omega, this.2.2.1, fun q q1 q2 hq => this.2.2.2 q q1 (by omega) hq⟩
  | m + 1, k, o, h3, hk, h1, h2, h => by
    rw [olL] at h ⊢
    by_cases e : hwP D 2 k = true ∧ (o = -6 ∨ gF D k 7 < gF D o.toNat 7)
    · rw [if_pos e] at h ⊢
      refine olL_min m (k + 1) k (by omega) (by omega) (fun _ => ⟨by omega, by omega, by rw [Int.toNat_natCast]; exact e.1, fun q q1 q2 hq => ?_⟩) (fun e6 => by omega) h
      rw [Int.toNat_natCast]
      by_cases eq : q = k
      · rw [eq]; exact Int.le_refl _
      · rcases e.2 with e6 | e6
        · rw [h2 e6 q q1 (by omega)] at hq; exact absurd hq (by decide)
        · by_cases ho : o = -6
          · rw [h2 ho q q1 (by omega)] at hq; exact absurd hq (by decide)
          · have := (h1 ho).2.2.2 q q1 (by omega) hq; omega
    · rw [if_neg e] at h ⊢
      refine olL_min m (k + 1) o (by omega) (by omega) (fun ho => ?_) (fun ho q q1 q2 => ?_) h
      · have := h1 ho
        refine ⟨this.1, by omega, this.2.2.1, fun q q1 q2 hq => ?_⟩
        by_cases eq : q = k
        · subst eq
          by_cases e7 : gF D q 7 < gF D o.toNat 7
          · exact absurd ⟨hq, Or.inr e7⟩ e
          · omega
        · exact this.2.2.2 q q1 (by omega) hq
      · by_cases eq : q = k
        · subst eq
          exact Bool.eq_false_iff.mpr (fun hq => e ⟨hq, Or.inl ho⟩)
        · exact h2 ho q q1 (by omega)
/-- r is done -/
def dnD (D : Dt) (r : Nat) : Dt := sFl (sFl (sFl (sT D 5 (gT D 5 + 1)) r 3 2) r 6 (gT D 3)) r 7 (gT D 5 + 1)
theorem dn_F (D : Dt) (r q k : Nat) : gF (dnD D r) q k = if q = r ∧ k = 7 then gT D 5 + 1 else if q = r ∧ k = 6 then gT D 3 else if q = r ∧ k = 3 then 2 else gF D q k := by
  unfold dnD
  rw [gF_sFl, gF_sFl, gF_sFl, gF_sT]
theorem dn_T (D : Dt) (r k : Nat) : gT (dnD D r) k = if k = 5 then gT D 5 + 1 else gT D k := by
  unfold dnD
  rw [gT_sFl, gT_sFl, gT_sFl, gT_sT]
theorem dn_o {D : Dt} {r q : Nat} (w : Int) (e : q ≠ r) : hwP (dnD D r) w q = hwP D w q := hwP_cg (by rw [dn_F, if_neg (by omega), if_neg (by omega), if_neg (by omega)]) (by rw [dn_F, if_neg (by omega), if_neg (by omega), if_neg (by omega)])
theorem dn_r {D : Dt} {r : Nat} (w : Int) (n : 0 < gF D r 0) : hwP (dnD D r) w r = decide (w = 2) := by
  unfold hwP
  rw [dn_F, if_neg (by omega), if_neg (by omega), if_neg (by omega), dn_F, if_neg (by omega), if_neg (by omega), if_pos ⟨rfl, rfl⟩]
  exact decide_eq_decide.mpr ⟨fun h => h.2.symm, fun h => ⟨n, h.symm⟩⟩
theorem dn_many {D : Dt} {r : Nat} (h3 : 3 ≤ r) (hr : r < 21) (h : hwP D 1 r = true) : manyI (dnD D r) 0 = manyI D 0 ∧ manyI (dnD D r) 1 = manyI D 1 - 1 ∧ manyI (dnD D r) 2 = manyI D 2 + 1 := by
  have n := hwP_t.mp h
  have m0 := many_upd (D' := dnD D r) (w := 0) h3 hr (fun q _ _ e => dn_o 0 e)
  have m1 := many_upd (D' := dnD D r) (w := 1) h3 hr (fun q _ _ e => dn_o 1 e)
  have m2 := many_upd (D' := dnD D r) (w := 2) h3 hr (fun q _ _ e => dn_o 2 e)
  rw [dn_r _ n.1, bI_f (fun e => by have := hwP_t.mp e; omega), bI_f (by decide)] at m0
  rw [dn_r _ n.1, bI_t h, bI_f (by decide)] at m1
  rw [dn_r _ n.1, bI_f (fun e => by have := hwP_t.mp e; omega), bI_t (by decide)] at m2
  omega
/-- what becomes of the table when one is done: nothing is forgotten, or the one whose time is over -/
theorem end_c {D : Dt} (H : Gl D) {r : Nat} (h3 : 3 ≤ r) (hr : r < 21) (h : hwP D 1 r = true) : (gT D 5 < 8 ∧ endD D r = dnD D r) ∨ (8 ≤ gT D 5 ∧ ∃ o : Nat, 3 ≤ o ∧ o < 21 ∧ o ≠ r ∧ hwP D 2 o = true ∧ gF D o 7 = gT D 5 - 7 ∧ endD D r = emD (dnD D r) o) := by
  have hm := dn_many h3 hr h
  have n := hwP_t.mp h
  obtain ⟨-, b, g, x, i⟩ := H
  by_cases e : gT D 5 < 8
  · refine Or.inl ⟨e, ?_⟩
    show fgD (dnD D r) = _
    unfold fgD
    rw [if_neg (by omega)]
  · refine Or.inr ⟨by omega, ?_⟩
    have e8 : 8 < manyI (dnD D r) 2 := by omega
    obtain ⟨q, q1, q2, q3, q4⟩ := x (gT D 5 - 7) (by omega) (by omega) (by omega)
    have qr : q ≠ r := fun e => by subst e; have := hwP_t.mp q3; omega
    have hn : olI (dnD D r) ≠ -6 := (olL_some (D := dnD D r) 18 3 (-6) (by decide) (by decide) (fun h => absurd rfl h)).2 (Or.inl (by show 0 < manyI (dnD D r) 2; omega))
    have ho := olL_min (D := dnD D r) 18 3 (-6) (by decide) (by decide) (fun h => absurd rfl h) (fun _ q a b => by omega) hn
    obtain ⟨o1, o2, o3, o4⟩ := ho
    have o5 := o4 q q1 q2 (by rw [dn_o 2 qr]; exact q3)
    change 3 ≤ olI (dnD D r) at o1
    change olI (dnD D r) < 21 at o2
    change hwP (dnD D r) 2 (olI (dnD D r)).toNat = true at o3
    change gF (dnD D r) (olI (dnD D r)).toNat 7 ≤ gF (dnD D r) q 7 at o5
    have onr : (olI (dnD D r)).toNat ≠ r := fun e => by
      rw [e, dn_F, if_pos ⟨rfl, rfl⟩, dn_F, if_neg (by omega), if_neg (by omega), if_neg (by omega), q4] at o5
      omega
    rw [dn_o 2 onr] at o3
    rw [dn_F, if_neg (by omega), if_neg (by omega), if_neg (by omega), dn_F, if_neg (by omega), if_neg (by omega), if_neg (by omega), q4] at o5
    have o6 := g (olI (dnD D r)).toNat (by omega) (by omega) o3
    refine ⟨(olI (dnD D r)).toNat, by omega, by omega, onr, o3, by omega, ?_⟩
    show fgD (dnD D r) = _
    unfold fgD
    rw [if_pos e8]
theorem gF_em (D : Dt) (o q k : Nat) : gF (emD D o) q k = if q = o then 0 else gF D q k := rfl
theorem Gl_end {D : Dt} (H : Gl D) {r : Nat} (h3 : 3 ≤ r) (hr : r < 21) (h : hwP D 1 r = true) : Gl (endD D r) := by
  have hm := dn_many h3 hr h
  have n := hwP_t.mp h
  have hc := end_c H h3 hr h
  obtain ⟨⟨a1, a2, a3⟩, b, g, x, i⟩ := H
  have d0 : ∀ q, gF (dnD D r) q 0 = gF D q 0 := fun q => by rw [dn_F, if_neg (by omega), if_neg (by omega), if_neg (by omega)]
  have d3 : ∀ q, q ≠ r → gF (dnD D r) q 3 = gF D q 3 := fun q e => by rw [dn_F, if_neg (by omega), if_neg (by omega), if_neg (by omega)]
  have d3r : gF (dnD D r) r 3 = 2 := by rw [dn_F, if_neg (by omega), if_neg (by omega), if_pos ⟨rfl, rfl⟩]
  have d7 : ∀ q, q ≠ r → gF (dnD D r) q 7 = gF D q 7 := fun q e => by rw [dn_F, if_neg (by omega), if_neg (by omega), if_neg (by omega)]
  have d7r : gF (dnD D r) r 7 = gT D 5 + 1 := by rw [dn_F, if_pos ⟨rfl, rfl⟩]
  have t5 : gT (dnD D r) 5 = gT D 5 + 1 := by rw [dn_T, if_pos rfl]
  have t4 : gT (dnD D r) 4 = gT D 4 := by rw [dn_T, if_neg (by decide)]
  have one : ∀ q, 3 ≤ q → q < 21 → hwP (dnD D r) 1 q = true → False := fun q q1 q2 e => by
    by_cases eq : q = r
    · subst eq; rw [dn_r _ n.1] at e; exact absurd e (by decide)
    · rw [dn_o 1 eq] at e; exact eq (a3 q r q1 q2 h3 hr e h)
  have two : ∀ q, 3 ≤ q → q < 21 → hwP (dnD D r) 2 q = true → q = r ∨ hwP D 2 q = true := fun q q1 q2 e => by
    by_cases eq : q = r
    · exact Or.inl eq
    · rw [dn_o 2 eq] at e; exact Or.inr e
  have nr : ∀ q, hwP D 2 q = true → q ≠ r := fun q e eq => by subst eq; have := hwP_t.mp e; omega
  have inj : ∀ r' q, 3 ≤ r' → r' < 21 → 3 ≤ q → q < 21 → hwP (dnD D r) 2 r' = true → hwP (dnD D r) 2 q = true → gF (dnD D r) r' 7 = gF (dnD D r) q 7 → r' = q := by
    intro r' q r1 r2 q1 q2 e f d
    rcases two r' r1 r2 e with rfl | e'
    · rcases two q q1 q2 f with rfl | f'
      · rfl
      · rw [d7r, d7 q (nr q f')] at d
        have := g q q1 q2 f'; omega
    · rcases two q q1 q2 f with rfl | f'
      · rw [d7r, d7 r' (nr r' e')] at d
        have := g r' r1 r2 e'; omega
      · rw [d7 r' (nr r' e'), d7 q (nr q f')] at d
        exact i r' q r1 r2 q1 q2 e' f' d
  have num : ∀ r' q, 3 ≤ r' → r' < 21 → 3 ≤ q → q < 21 → 0 < gF (dnD D r) r' 0 → gF (dnD D r) r' 0 = gF (dnD D r) q 0 → r' = q := fun r' q r1 r2 q1 q2 n' e => by
    rw [d0] at n' e; rw [d0] at e; exact a1 r' q r1 r2 q1 q2 n' e
  have rng : ∀ q, 3 ≤ q → q < 21 → 0 < gF (dnD D r) q 0 → gF (dnD D r) q 0 ≤ gT D 4 ∧ 0 ≤ gF (dnD D r) q 3 ∧ gF (dnD D r) q 3 ≤ 2 := fun q q1 q2 n' => by
    rw [d0] at n' ⊢
    have := a2 q q1 q2 n'
    by_cases eq : q = r
    · rw [eq, d3r]; rw [eq] at this; omega
    · rw [d3 q eq]; exact this
  rcases hc with ⟨c1, c2⟩ | ⟨c1, o, o1, o2, o3, o4, o5, c2⟩
  · rw [c2]
    refine ⟨⟨num, fun q q1 q2 n' => by rw [t4]; exact rng q q1 q2 n', fun q s q1 q2 _ _ e _ => (one q q1 q2 e).elim⟩, ?_, fun q q1 q2 e => ?_, fun v v1 v2 v3 => ?_, inj⟩
    · rw [t4, t5]; omega
    · rw [t5]
      rcases two q q1 q2 e with rfl | e'
      · rw [d7r]; omega
      · rw [d7 q (nr q e')]
        have := g q q1 q2 e'; omega
    · rw [t5] at v2 v3
      by_cases ev : v = gT D 5 + 1
      · exact ⟨r, h3, hr, by rw [dn_r _ n.1]; decide, by rw [d7r, ev]⟩
      · obtain ⟨q, q1, q2, q3, q4⟩ := x v v1 (by omega) (by omega)
        exact ⟨q, q1, q2, by rw [dn_o 2 (nr q q3)]; exact q3, by rw [d7 q (nr q q3)]; exact q4⟩
  · rw [c2]
    have eo : ∀ w q, q ≠ o → hwP (emD (dnD D r) o) w q = hwP (dnD D r) w q := fun w q e => hwP_cg (by rw [gF_em, if_neg e]) (by rw [gF_em, if_neg e])
    have ez : ∀ w, hwP (emD (dnD D r) o) w o = false := fun w => Bool.eq_false_iff.mpr (fun e => by have := hwP_t.mp e; rw [gF_em, if_pos rfl] at this; omega)
    have no : ∀ w q, hwP (emD (dnD D r) o) w q = true → q ≠ o := fun w q e eq => by rw [eq, ez] at e; exact absurd e (by decide)
    have do2 : hwP (dnD D r) 2 o = true := by rw [dn_o 2 o3]; exact o4
    have m0 := many_upd (D := dnD D r) (D' := emD (dnD D r) o) (w := 0) o1 o2 (fun q _ _ e => eo 0 q e)
    have m1 := many_upd (D := dnD D r) (D' := emD (dnD D r) o) (w := 1) o1 o2 (fun q _ _ e => eo 1 q e)
    have m2 := many_upd (D := dnD D r) (D' := emD (dnD D r) o) (w := 2) o1 o2 (fun q _ _ e => eo 2 q e)
    have do2' := hwP_t.mp do2
    rw [ez, bI_f (fun e => by have := hwP_t.mp e; omega), bI_f (by decide)] at m0
    rw [ez, bI_f (fun e => by have := hwP_t.mp e; omega), bI_f (by decide)] at m1
    rw [ez, bI_t do2, bI_f (by decide)] at m2
    have pn : ∀ q, 0 < gF (emD (dnD D r) o) q 0 → q ≠ o := fun q e eq => by rw [eq, gF_em, if_pos rfl] at e; omega
    refine ⟨⟨fun r' q r1 r2 q1 q2 n' e => ?_, fun q q1 q2 n' => ?_, fun q s q1 q2 _ _ e _ => ?_⟩, ?_, fun q q1 q2 e => ?_, fun v v1 v2 v3 => ?_, fun r' q r1 r2 q1 q2 e f d => ?_⟩
    · have p1 := pn r' n'
      rw [gF_em, if_neg p1] at n' e
      have p2 : q ≠ o := fun eq => by rw [eq, gF_em, if_pos rfl] at e; omega
      rw [gF_em, if_neg p2] at e
      exact num r' q r1 r2 q1 q2 n' e
    · have p1 := pn q n'
      rw [gF_em, if_neg p1] at n'
      rw [gF_em, if_neg p1, gF_em, if_neg p1, gT_em, t4]
      exact rng q q1 q2 n'
    · rw [eo 1 q (no 1 q e)] at e
      exact (one q q1 q2 e).elim
    · rw [gT_em, t4, t5]; omega
    · have p1 := no 2 q e
      rw [eo 2 q p1] at e
      rw [gF_em, if_neg p1, gT_em, t5]
      rcases two q q1 q2 e with rfl | e'
      · rw [d7r]; omega
      · have n7 : gF D q 7 ≠ gF D o 7 := fun e7 => p1 (i q o q1 q2 o1 o2 e' o4 e7)
        rw [d7 q (nr q e')]
        have := g q q1 q2 e'; omega
    · rw [gT_em, t5] at v2 v3
      by_cases ev : v = gT D 5 + 1
      · refine ⟨r, h3, hr, ?_, ?_⟩
        · rw [eo 2 r (fun e => o3 e.symm), dn_r _ n.1]; decide
        · rw [gF_em, if_neg (fun e => o3 e.symm), d7r, ev]
      · obtain ⟨q, q1, q2, q3, q4⟩ := x v v1 (by omega) (by omega)
        have p1 : q ≠ o := fun e => by rw [e, o5] at q4; omega
        refine ⟨q, q1, q2, ?_, ?_⟩
        · rw [eo 2 q p1, dn_o 2 (nr q q3)]; exact q3
        · rw [gF_em, if_neg p1, d7 q (nr q q3)]; exact q4
    · have p1 := no 2 r' e
      have p2 := no 2 q f
      rw [eo 2 r' p1] at e
      rw [eo 2 q p2] at f
      rw [gF_em, if_neg p1, gF_em, if_neg p2] at d
      exact inj r' q r1 r2 q1 q2 e f d
/-- there is a free record -/
theorem Gl_free {D : Dt} (H : Gl D) (h : manyI D 0 + manyI D 1 ≠ 10) : freeI D ≠ -6 := by
  intro e
  have hf := fF_none 18 3 e
  have hs : sF (fun r => bI (hwP D 0 r = true) + (bI (hwP D 1 r = true) + bI (hwP D 2 r = true))) 3 18 = sF (fun _ => 1) 3 18 := by
    refine sF_congr 18 3 (fun i a b => ?_)
    have n := hf i a b
    have n' : 0 < gF D i 0 := by
      have := of_decide_eq_false n; omega
    have hw := H.how i a (by omega) n'
    show bI _ + (bI _ + bI _) = 1
    by_cases e0 : gF D i 3 = 0
    · rw [bI_t (hwP_t.mpr ⟨n', e0⟩), bI_f (fun x => by have := hwP_t.mp x; omega), bI_f (fun x => by have := hwP_t.mp x; omega)]; rfl
    · by_cases e1 : gF D i 3 = 1
      · rw [bI_t (p := hwP D 1 i = true) (hwP_t.mpr ⟨n', e1⟩), bI_f (fun x => by have := hwP_t.mp x; omega), bI_f (fun x => by have := hwP_t.mp x; omega)]; rfl
      · rw [bI_t (p := hwP D 2 i = true) (hwP_t.mpr ⟨n', by omega⟩), bI_f (fun x => by have := hwP_t.mp x; omega), bI_f (fun x => by have := hwP_t.mp x; omega)]; rfl
  have ad : ∀ (f g : Nat → Int) (m k : Nat), sF (fun r => f r + g r) k m = sF f k m + sF g k m := by
    intro f g m
    induction m with
    | zero => intro k; rfl
    | succ m ih => intro k; simp only [sF]; rw [ih]; omega
  rw [ad, ad] at hs
  have h18 : sF (fun _ => 1) 3 18 = 18 := rfl
  rw [h18] at hs
  change manyI D 0 + (manyI D 1 + manyI D 2) = 18 at hs
  have b := H.2.1
  omega
theorem clo_F (D : Dt) (r t q k : Nat) (p : Int) : gF (cloD D r t p) q k = if q = t ∧ k = 1 then (t : Int) else if q = t then 0 else if q = r ∧ k = 4 then gT D 0 else if q = r ∧ k = 2 then p else if q = r ∧ k = 0 then gT D 4 + 1 else if q = r then gF D t k else gF D q k := by
  unfold cloD
  rw [gF_sFl, gF_em, gF_sFl, gF_sFl, gF_sFl, gF_sT]
  have : gF (cpD D r t) q k = if q = r then gF D t k else gF D q k := by show gF D (if q = r then t else q) k = _; split <;> rfl
  rw [this]
theorem clo_T (D : Dt) (r t k : Nat) (p : Int) : gT (cloD D r t p) k = if k = 4 then gT D 4 + 1 else gT D k := by
  unfold cloD
  rw [gT_sFl, gT_em, gT_sFl, gT_sFl, gT_sFl, gT_sT]
  rfl
theorem Gl_close {D : Dt} (H : Gl D) {r t : Nat} {p : Int} (h3 : 3 ≤ r) (hr : r < 21) (ht : t < 3) (hf : gF D r 0 ≤ 0) (h0 : gF D t 3 = 0) (hm : manyI D 0 + manyI D 1 ≠ 10) (h4 : 0 ≤ gT D 4) : Gl (cloD D r t p) := by
  obtain ⟨⟨a1, a2, a3⟩, b, g, x, i⟩ := H
  have f0 : gF (cloD D r t p) r 0 = gT D 4 + 1 := by rw [clo_F, if_neg (by omega), if_neg (by omega), if_neg (by omega), if_neg (by omega), if_pos ⟨rfl, rfl⟩]
  have f3 : gF (cloD D r t p) r 3 = 0 := by rw [clo_F, if_neg (by omega), if_neg (by omega), if_neg (by omega), if_neg (by omega), if_neg (by omega), if_pos rfl, h0]
  have fo : ∀ q k, 3 ≤ q → q ≠ r → gF (cloD D r t p) q k = gF D q k := fun q k q1 e => by rw [clo_F, if_neg (by omega), if_neg (by omega), if_neg (by omega), if_neg (by omega), if_neg (by omega), if_neg (by omega)]
  have ho : ∀ w q, 3 ≤ q → q ≠ r → hwP (cloD D r t p) w q = hwP D w q := fun w q q1 e => hwP_cg (fo q 0 q1 e) (fo q 3 q1 e)
  have hx : ∀ w, hwP (cloD D r t p) w r = decide (w = 0) := fun w => by
    unfold hwP
    rw [f0, f3]
    exact decide_eq_decide.mpr ⟨fun h => h.2.symm, fun h => ⟨by omega, h.symm⟩⟩
  have hrn : ∀ w, ¬ hwP D w r = true := fun w e => by have := hwP_t.mp e; omega
  have m0 := many_upd (D := D) (D' := cloD D r t p) (w := 0) h3 hr (fun q a _ e => ho 0 q a e)
  have m1 := many_upd (D := D) (D' := cloD D r t p) (w := 1) h3 hr (fun q a _ e => ho 1 q a e)
  have m2 := many_upd (D := D) (D' := cloD D r t p) (w := 2) h3 hr (fun q a _ e => ho 2 q a e)
  rw [hx, bI_f (hrn 0), bI_t (by decide)] at m0
  rw [hx, bI_f (hrn 1), bI_f (by decide)] at m1
  rw [hx, bI_f (hrn 2), bI_f (by decide)] at m2
  have t4 : gT (cloD D r t p) 4 = gT D 4 + 1 := by rw [clo_T, if_pos rfl]
  have t5 : gT (cloD D r t p) 5 = gT D 5 := by rw [clo_T, if_neg (by decide)]
  have h12 : ∀ w q, w ≠ 0 → hwP (cloD D r t p) w q = true → q ≠ r := fun w q hw e eq => by
    rw [eq, hx] at e; exact hw (of_decide_eq_true e)
  refine ⟨⟨fun r' q r1 r2 q1 q2 n' e => ?_, fun q q1 q2 n' => ?_, fun q s q1 q2 s1 s2 e f => ?_⟩, ?_, fun q q1 q2 e => ?_, fun v v1 v2 v3 => ?_, fun r' q r1 r2 q1 q2 e f d => ?_⟩
  · by_cases e1 : r' = r
    · by_cases e2 : q = r
      · rw [e1, e2]
      · rw [e1, f0, fo q 0 q1 e2] at e
        have := a2 q q1 q2 (by omega); omega
    · rw [fo r' 0 r1 e1] at n' e
      by_cases e2 : q = r
      · rw [e2, f0] at e
        have := a2 r' r1 r2 n'; omega
      · rw [fo q 0 q1 e2] at e
        exact a1 r' q r1 r2 q1 q2 n' e
  · rw [t4]
    by_cases e1 : q = r
    · rw [e1, f0, f3]; omega
    · rw [fo q 0 q1 e1] at n' ⊢
      rw [fo q 3 q1 e1]
      have := a2 q q1 q2 n'; omega
  · have p1 := h12 1 q (by decide) e
    have p2 := h12 1 s (by decide) f
    rw [ho 1 q q1 p1] at e
    rw [ho 1 s s1 p2] at f
    exact a3 q s q1 q2 s1 s2 e f
  · rw [t4, t5]; omega
  · have p1 := h12 2 q (by decide) e
    rw [ho 2 q q1 p1] at e
    rw [fo q 7 q1 p1, t5]
    exact g q q1 q2 e
  · rw [t5] at v2 v3
    obtain ⟨q, q1, q2, q3, q4⟩ := x v v1 v2 v3
    have p1 : q ≠ r := fun e => by rw [e] at q3; exact hrn 2 q3
    exact ⟨q, q1, q2, by rw [ho 2 q q1 p1]; exact q3, by rw [fo q 7 q1 p1]; exact q4⟩
  · have p1 := h12 2 r' (by decide) e
    have p2 := h12 2 q (by decide) f
    rw [ho 2 r' r1 p1] at e
    rw [ho 2 q q1 p2] at f
    rw [fo r' 7 r1 p1, fo q 7 q1 p2] at d
    exact i r' q r1 r2 q1 q2 e f d
