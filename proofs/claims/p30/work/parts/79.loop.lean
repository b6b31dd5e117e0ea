/-! THE LAW'S LOOP -/
theorem lg_same (y : Int64) : lg_cmp y y = 0 := by
  unfold lg_cmp
  rw [if_neg (fun h => Int64.lt_irrefl h), if_pos rfl]
/-- the law answers true, in its room -/
def FnB (B S : Nat) (o : Rs) : Prop := ∃ hf : Hp, o = some (hf, some (.inl (iI 1))) ∧ hf.2.1 ≤ B ∧ hf.2.2 ≤ S
section
variable {c : Nat → Option Nat} {fz : Nat → Option Cl} {x : Nat} {h h' : Hp} {Z : Zt} {M : Nat → Nat → Int} {n : Int} {B S : Nat}
theorem f1 {o : Rs} {r : Int} {k : Hp → Int32 → Rs} (X : WX fz x Z M h) (Q : Rq fz x M h o r Z) (H : ∀ h', WX fz x Z M h' → h'.2 = h.2 → FnB B S (k h' (iI r))) : FnB B S (ck h (some x) 7 (cc o (kI k))) := by
  obtain ⟨h1, e, X1, n1⟩ := Q
  rw [wx_ck X, e]
  exact H h1 X1 n1
theorem f2 {o : Rs} {y : Int64} {k : Hp → Int64 → Rs} (Q : Ra fz x M h (.inr (.inl y)) o Z) (H : ∀ h', WX fz x Z M h' → h'.2 = h.2 → FnB B S (k h' y)) : FnB B S (cc o (kJ k)) := by
  obtain ⟨h1, e, X1, n1⟩ := Q
  rw [e]
  exact H h1 X1 n1
theorem f3 {o : Rs} {y : Int32} {k : Hp → Int32 → Rs} (Q : Ra fz x M h (.inl y) o Z) (H : ∀ h', WX fz x Z M h' → h'.2 = h.2 → FnB B S (k h' y)) : FnB B S (cc o (kI k)) := by
  obtain ⟨h1, e, X1, n1⟩ := Q
  rw [e]
  exact H h1 X1 n1
theorem f4 {o : Rs} {y : Int32} {k : Hp → Int32 → Rs} (e : o = some (h', some (.inl y))) (H : FnB B S (k h' y)) : FnB B S (cc o (kI k)) := by
  rw [e]
  exact H
theorem f5 {o : Rs} {y : Int32} {k : Hp → Int32 → Rs} (X : WX fz x Z M h) (e : o = some (h', some (.inl y))) (H : FnB B S (k h' y)) : FnB B S (ck h (some x) 7 (cc o (kI k))) := by
  rw [wx_ck X, e]
  exact H
/-- the turns behind this one -/
def Nx (c : Nat → Option Nat) (x b L : Nat) (g : Nat → Int32) (M : Nat → Nat → Int) (B S B' S' f j : Nat) : Prop := ∀ (h : Hp) (Z : Zt) (fz : Nat → Option Cl) (d ro : Int), WX fz x Z M h → ZI (2 * ((j : Nat) : Int)) Z → Kon c fz → fz b = some (.inl (10, L, .inl g)) → JL (zD Z) → d = FI (zD Z) → ro = SgI (zD Z) → h.2.1 ≤ B + 3200 * j → h.2.2 ≤ S + 100000 * j → FnB B' S' (fL_law_16 c f h (some b) (some x) (iI d) (iI ro) (iI ((j : Nat) : Int)))
theorem l302 {b L : Nat} {g : Nat → Int32} {B0 S0 f j : Nat} (ih : Nx c x b L g M B0 S0 B S f (j + 1)) (hj : j < 34) (K : Kon c fz) (X : WX fz x Z M h) (I : ZI (2 * ((j + 1 : Nat) : Int)) Z) (hb : fz b = some (.inl (10, L, .inl g))) (J : JL (zD Z)) {d ro : Int} (hd : d = FI (zD Z)) (hr : ro = SgI (zD Z)) (b1 : h.2.1 ≤ B0 + 3200 * (j + 1)) (b2 : h.2.2 ≤ S0 + 100000 * (j + 1)) : FnB B S (fL_law_302 c (fL_law_16 c f) h (some b) (some x) (iI d) (iI ro) (iI (j : Int))) := by
  unfold fL_law_302 fL_law_341
  simp only [iI_l, iI_add]
  refine f1 X (x_printer K X I (show ag 2 from ⟨by decide, by decide⟩)) (fun h1 X1 n1 => ?_)
  refine f1 X1 (x_printer K X1 I (show ag 1 from ⟨by decide, by decide⟩)) (fun h2 X2 n2 => ?_)
  refine f1 X2 (x_printer K X2 I (show ag 5 from ⟨by decide, by decide⟩)) (fun h3 X3 n3 => ?_)
  rw [show rPri (zD Z) 2 = gT (zD Z) 8 from rfl, show rPri (zD Z) 1 = gT (zD Z) 7 from rfl, show rPri (zD Z) 5 = gT (zD Z) 11 from rfl, iI_add, iI_add, if_pos (show iI (gT (zD Z) 8 + gT (zD Z) 7 + gT (zD Z) 11) = iI ro by rw [hr]; rfl), dv_i (by decide) (by decide), div_i (by omega) (by omega) (by decide) (by decide), iI_mul, iI_sub]
  have e3 : h3.2 = h.2 := n3.trans (n2.trans n1)
  have nx : ∀ h4, WX fz x Z M h4 → h4.2 = h.2 → FnB B S (fL_law_16 c f h4 (some b) (some x) (iI d) (iI ro) (iI ((j : Int) + 1))) := fun h4 X4 n4 => by
    rw [show (j : Int) + 1 = ((j + 1 : Nat) : Int) by omega]
    exact ih h4 Z fz d ro X4 I K hb J hd hr (by rw [n4]; exact b1) (by rw [n4]; exact b2)
  by_cases c1 : iI ((j : Int) - (j : Int) / 2 * 2) = iI 1
  · rw [if_pos c1]
    refine f3 (w_holds K X3 I (by omega) J hd) (fun h4 X4 n4 => ?_)
    rw [if_neg (show ¬ iI 1 = iI 0 by decide)]
    exact nx h4 X4 (n4.trans e3)
  · rw [if_neg c1]
    exact nx h3 X3 e3
theorem l254 {b L : Nat} {g : Nat → Int32} {B0 S0 f j : Nat} (ih : Nx c x b L g M B0 S0 B S f (j + 1)) (hj : j < 34) (K : Kon c fz) (X : WX fz x Z M h) (I : ZI (2 * ((j + 1 : Nat) : Int)) Z) (hb : fz b = some (.inl (10, L, .inl g))) {D : Dt} {k : Int} (T : RgT D) (St : Stq k D (zD Z)) {d s0 s1 : Int} (hd : d = FI D) (hr : s0 + s1 = SgI D + k) (b1 : h.2.1 ≤ B0 + 3200 * (j + 1)) (b2 : h.2.2 ≤ S0 + 100000 * (j + 1)) : FnB B S (fL_law_254 c (fL_law_16 c f) h (some b) (some x) (iI d) (iI (j : Int)) (iI (gT D 5)) (iI s0) (iI s1)) := by
  have T' := I.1.1.2.1
  unfold RgT at T T'
  have G := I.1.1.gl
  unfold fL_law_254 fL_law_300
  simp only [iI_l, iI_add]
  refine f1 X (x_count K X I (show ag 3 from ⟨by decide, by decide⟩)) (fun h1 X1 n1 => ?_)
  rw [show rCnt Z 3 = gT (zD Z) 5 from rfl]
  by_cases c1 : gT D 5 < gT (zD Z) 5
  · rw [if_pos (show iI (gT D 5) < iI (gT (zD Z) 5) from (by rw [lt_i (by omega) (by omega) (by omega) (by omega)]; omega))]
    refine f1 X1 (x_printer K X1 I (show ag 2 from ⟨by decide, by decide⟩)) (fun h2 X2 n2 => ?_)
    refine f1 X2 (x_printer K X2 I (show ag 3 from ⟨by decide, by decide⟩)) (fun h3 X3 n3 => ?_)
    refine f1 X3 (x_printer K X3 I (show ag 0 from ⟨by decide, by decide⟩)) (fun h4 X4 n4 => ?_)
    have e4 : h4.2 = h.2 := n4.trans (n3.trans (n2.trans n1))
    rw [show rPri (zD Z) 2 = gT (zD Z) 8 from rfl, show rPri (zD Z) 3 = gT (zD Z) 9 from rfl]
    have p0 : rPri (zD Z) 0 = if prtI (zD Z) = -6 then -6 else gF (zD Z) (prtI (zD Z)).toNat 0 := rfl
    rcases many1 G with ⟨e, m0⟩ | ⟨r, e, r3, hr', hw, m1⟩
    · rw [p0, if_pos e, if_pos (show iI (-6) < iI 0 by decide), iI_sub, iI_sub]
      exact l302 ih hj K X4 I hb St.1 (by unfold FI; rw [prI_no e]) (by rw [hr, St.2.1]) (by rw [e4]; exact b1) (by rw [e4]; exact b2)
    · have nn := hwP_t.mp hw
      have f0 := (I.1.1.1 r hr').2.2.1 0 (by decide)
      rw [e, if_neg (show ¬ (r : Int) = -6 by omega), Int.toNat_natCast] at p0
      rw [p0, if_neg (show ¬ iI (gF (zD Z) r 0) < iI 0 from (by rw [lt_i (by omega) (by omega) (by omega) (by omega)]; omega))]
      refine f1 X4 (x_printer K X4 I (show ag 0 from ⟨by decide, by decide⟩)) (fun h5 X5 n5 => ?_)
      rw [p0]
      refine f1 X5 (x_ofReceipt K X5 I (show ag (gF (zD Z) r 0) from ⟨by omega, by omega⟩) (show ag 7 from ⟨by decide, by decide⟩)) (fun h6 X6 n6 => ?_)
      rw [rcp_r (rec_of G r3 hr' nn.1), show wRcp (zD Z) r 7 = gF (zD Z) r 5 from rfl, iI_sub, iI_sub]
      have e6 : h6.2 = h.2 := n6.trans (n5.trans e4)
      exact l302 ih hj K X6 I hb St.1 (by unfold FI; rw [prI_of e]) (by rw [hr, St.2.1]) (by rw [e6]; exact b1) (by rw [e6]; exact b2)
  · rw [if_neg (show ¬ iI (gT D 5) < iI (gT (zD Z) 5) from (by rw [lt_i (by omega) (by omega) (by omega) (by omega)]; omega))]
    have eq5 : gT (zD Z) 5 = gT D 5 := by have := St.2.2.1; omega
    exact l302 ih hj K X1 I hb St.1 (by rw [hd, St.2.2.2 eq5]) (by rw [hr, St.2.1]) (by rw [n1]; exact b1) (by rw [n1]; exact b2)
theorem l232 {b L : Nat} {g : Nat → Int32} {B0 S0 f j : Nat} (ih : Nx c x b L g M B0 S0 B S f (j + 1)) (hj : j < 34) (K : Kon c fz) (X : WX fz x Z M h) (I : ZI (2 * ((j + 1 : Nat) : Int)) Z) (hb : fz b = some (.inl (10, L, .inl g))) {D : Dt} {r : Int} {v : Int32} (ar : ag r) (T : RgT D) (St : Stq (if 0 ≤ r ∧ v &&& iI 15 = iI 5 then gT D 1 else 0) D (zD Z)) (g1 : 0 ≤ r ∧ v &&& iI 15 = iI 5 → gT (zD Z) 1 = gT D 1) {d ro : Int} (hd : d = FI D) (hr : ro = SgI D) (b1 : h.2.1 ≤ B0 + 3200 * (j + 1)) (b2 : h.2.2 ≤ S0 + 100000 * (j + 1)) : FnB B S (fL_law_232 c (fL_law_16 c f) h (some b) (some x) (iI d) (iI ro) (iI (j : Int)) (v &&& iI 15) (iI (gT D 5)) (iI r)) := by
  unfold ag at ar
  unfold fL_law_232 fL_law_253
  simp only [iI_l]
  by_cases c1 : r < 0
  · rw [if_pos (show iI r < iI 0 from (by rw [lt_i (by omega) (by omega) (by omega) (by omega)]; omega))]
    rw [if_neg (fun h => by omega)] at St
    exact l254 ih hj K X I hb T St hd (by rw [hr]) b1 b2
  · rw [if_neg (show ¬ iI r < iI 0 from (by rw [lt_i (by omega) (by omega) (by omega) (by omega)]; omega))]
    by_cases c2 : v &&& iI 15 = iI 5
    · rw [if_pos c2]
      rw [if_pos ⟨by omega, c2⟩] at St
      refine f1 X (x_count K X I (show ag 6 from ⟨by decide, by decide⟩)) (fun h1 X1 n1 => ?_)
      rw [show rCnt Z 6 = gT (zD Z) 1 from rfl, g1 ⟨by omega, c2⟩]
      exact l254 ih hj K X1 I hb T St hd (by rw [hr]) (by rw [n1]; exact b1) (by rw [n1]; exact b2)
    · rw [if_neg c2]
      rw [if_neg (fun h => c2 h.2)] at St
      exact l254 ih hj K X I hb T St hd (by rw [hr]) b1 b2
/-- one turn -/
theorem l51 {b L : Nat} {g : Nat → Int32} {B0 S0 f j : Nat} (hL : L ≤ 260) (ih : Nx c x b L g M B0 S0 B S f (j + 1)) (hj : j < 34) (K : Kon c fz) (X : WX fz x Z M h) (I : ZI (2 * ((j : Nat) : Int)) Z) (hb : fz b = some (.inl (10, L, .inl g))) (J : JL (zD Z)) {d ro : Int} (hd : d = FI (zD Z)) (hr : ro = SgI (zD Z)) (b1 : h.2.1 ≤ B0 + 3200 * j) (b2 : h.2.2 ≤ S0 + 100000 * j) (v : Int32) : FnB B S (fL_law_51 c (fL_law_16 c f) h (some b) (some x) (iI d) (iI ro) (iI (j : Int)) v) := by
  have T := I.1.1.2.1
  have T0 := T
  unfold RgT at T0
  have n6 := I.2.1
  have hB : h.1 b = some (.inl (10, L, .inl g)) := by
    obtain ⟨C, k, s, CH, sl, CS, pq, cap, fl, len, row, W, w, Ly0, H, R⟩ := X
    exact H.1.1 _ _ hb
  unfold fL_law_51 fL_law_158 fL_law_163
  simp only [iI_l, iI_mul, iI_add]
  obtain ⟨w, ew⟩ := w_cell (c := c) hB hL (k := 2 * (j : Int) + 1) (by omega) (by omega)
  refine f4 ew ?_
  refine f2 (w_told K X I (by omega)) (fun h1 X1 n1 => ?_)
  refine f1 X1 (x_count K X1 I (show ag 9 from ⟨by decide, by decide⟩)) (fun h2 X2 n2 => ?_)
  refine f1 X2 (x_count K X2 I (show ag 3 from ⟨by decide, by decide⟩)) (fun h3 X3 n3 => ?_)
  rw [show rCnt Z 9 = (zn Z : Int) from rfl, show rCnt Z 3 = gT (zD Z) 5 from rfl]
  have e3 : h3.2 = h.2 := n3.trans (n2.trans n1)
  obtain ⟨r, D', ar, St, rn, rg, act⟩ := w_act (c := c) (n := 2 * ((j : Nat) : Int)) (by omega) J I.1.1 v w
  have ar' := ar
  unfold ag at ar'
  obtain ⟨h4, fz4, Z4, e4, X4, K4, ⟨c1, c2, c3⟩, I4, d4, u4, v4⟩ := act (2 * ((j : Nat) : Int)) (by omega) fz x h3 Z M rfl I X3 K
  have I4' : ZI (2 * ((j + 1 : Nat) : Int)) Z4 := I4.mono (by omega)
  have hb4 := K4.2 _ _ hb
  refine f4 e4 ?_
  refine f2 (w_told K4.1 X4 I4 (by omega)) (fun h5 X5 n5 => ?_)
  rw [d4]
  rw [← d4] at St rg
  have fin : ∀ (h9 : Hp) (fz9 : Nat → Option Cl) (Z9 : Zt), WX fz9 x Z9 M h9 → Kon c fz9 → fz9 b = some (.inl (10, L, .inl g)) → ZI (2 * ((j + 1 : Nat) : Int)) Z9 → zD Z9 = zD Z4 → h9.2.1 ≤ B0 + 3200 * (j + 1) → h9.2.2 ≤ S0 + 100000 * (j + 1) → FnB B S (fL_law_232 c (fL_law_16 c f) h9 (some b) (some x) (iI d) (iI ro) (iI (j : Int)) (v &&& iI 15) (iI (gT (zD Z) 5)) (iI r)) := fun h9 fz9 Z9 X9 K9 hb9 I9 e9 q1 q2 => by
    rw [← e9] at St rg
    exact l232 ih hj K9 X9 I9 hb9 ar T St rg hd hr q1 q2
  rw [e3] at c1 c2 c3
  by_cases r0 : r < 0
  · have eD := rn r0
    rw [if_pos (show iI r < iI 0 from (by rw [lt_i (by omega) (by omega) (by omega) (by omega)]; omega)), eD, lg_same, if_pos (show (0 : Int32) = iI 0 from iI_l 0)]
    refine f1 X5 (x_count K4.1 X5 I4 (show ag 9 from ⟨by decide, by decide⟩)) (fun h6 X6 n6' => ?_)
    have e6 : h6.2 = h4.2 := n6'.trans n5
    have s6 : h6.2.1 = h4.2.1 ∧ h6.2.2 = h4.2.2 := ⟨congrArg Prod.fst e6, congrArg Prod.snd e6⟩
    rw [show rCnt Z4 9 = (zn Z4 : Int) from rfl, u4 r0, if_pos rfl, if_pos (show iI r < iI 0 from (by rw [lt_i (by omega) (by omega) (by omega) (by omega)]; omega))]
    exact fin h6 fz4 Z4 X6 K4.1 hb4 I4' rfl (by omega) (by omega)
  · obtain ⟨v5, v6⟩ := v4 (by omega)
    rw [if_neg (show ¬ iI r < iI 0 from (by rw [lt_i (by omega) (by omega) (by omega) (by omega)]; omega))]
    refine f1 X5 (x_count K4.1 X5 I4 (show ag 9 from ⟨by decide, by decide⟩)) (fun h6 X6 n6' => ?_)
    have e6 : h6.2 = h4.2 := n6'.trans n5
    have s6 : h6.2.1 = h4.2.1 ∧ h6.2.2 = h4.2.2 := ⟨congrArg Prod.fst e6, congrArg Prod.snd e6⟩
    rw [show rCnt Z4 9 = (zn Z4 : Int) from rfl]
    have go : FnB B S (if iI r < iI 0 then fL_law_232 c (fL_law_16 c f) h6 (some b) (some x) (iI d) (iI ro) (iI (j : Int)) (v &&& iI 15) (iI (gT (zD Z) 5)) (iI r) else if shrI v (iI 10) &&& iI 1 = iI 0 then ck h6 (some x) 7 (cc (fX5_count c h6 (some x) (iI 9)) (kI fun h23 x24 => ck h23 (some x) 7 (cc (fX5_undo c h23 (some x)) (kI fun h25 x26 => if x26 = x24 - iI 1 then cc (fL_told c h25 (some x)) (kJ fun h27 y28 => if lg_cmp y28 (toldI (zD Z)) = iI 0 then cc (fL_act c h27 (some x) v w) (kI fun h29 x30 => if x30 = iI r then cc (fL_told c h29 (some x)) (kJ fun h31 y32 => if lg_cmp y32 (toldI D') = iI 0 then fL_law_232 c (fL_law_16 c f) h31 (some b) (some x) (iI d) (iI ro) (iI (j : Int)) (v &&& iI 15) (iI (gT (zD Z) 5)) (iI r) else fL_law_230 c h31) else fL_law_230 c h29) else fL_law_230 c h27) else fL_law_230 c h25)))) else fL_law_232 c (fL_law_16 c f) h6 (some b) (some x) (iI d) (iI ro) (iI (j : Int)) (v &&& iI 15) (iI (gT (zD Z) 5)) (iI r)) := by
      rw [if_neg (show ¬ iI r < iI 0 from (by rw [lt_i (by omega) (by omega) (by omega) (by omega)]; omega))]
      by_cases cu : shrI v (iI 10) &&& iI 1 = iI 0
      · rw [if_pos cu]
        refine f1 X6 (x_count K4.1 X6 I4 (show ag 9 from ⟨by decide, by decide⟩)) (fun h7 X7 n7 => ?_)
        have e7 : h7.2 = h4.2 := n7.trans e6
        obtain ⟨h8, fz8, e8, X8, K8, q1, q2, q3⟩ := x_undo K4.1 X7 I4
        rw [e7] at q1 q2 q3
        have zp4 : ¬ zn Z4 = 0 := by rw [v5]; split <;> omega
        have eu : rUnd Z4 = (zn Z4 : Int) - 1 := if_neg zp4
        have zu : zUnd Z4 = (zH Z4 (zn Z4 - 1), zn Z4 - 1, Z4.2.2) := if_neg zp4
        have eD : zD (zUnd Z4) = zD Z := by rw [zu]; exact v6
        have Iu := ZI_undo I4
        refine f5 X7 e8 ?_
        rw [show rCnt Z4 9 = (zn Z4 : Int) from rfl, iI_sub, if_pos (show iI (rUnd Z4) = iI ((zn Z4 : Int) - 1) by rw [eu])]
        refine f2 (w_told K8.1 X8 Iu (by omega)) (fun h9 X9 n9 => ?_)
        rw [eD, lg_same, if_pos (show (0 : Int32) = iI 0 from iI_l 0)]
        obtain ⟨hA, fzA, ZA, eA, XA, KA, ⟨a1, a2, a3⟩, IA, dA, uA, vA⟩ := act (2 * ((j : Nat) : Int) + 1) (by omega) fz8 x h9 (zUnd Z4) M eD Iu X9 K8.1
        rw [n9] at a1 a2 a3
        refine f4 eA ?_
        rw [if_pos rfl]
        have IA' : ZI (2 * ((j + 1 : Nat) : Int)) ZA := IA.mono (by omega)
        refine f2 (w_told KA.1 XA IA' (by omega)) (fun hC XC nC => ?_)
        have sC : hC.2.1 = hA.2.1 ∧ hC.2.2 = hA.2.2 := ⟨congrArg Prod.fst nC, congrArg Prod.snd nC⟩
        rw [dA, lg_same, if_pos (show (0 : Int32) = iI 0 from iI_l 0)]
        exact fin hC fzA ZA XC KA.1 (KA.2 _ _ (K8.2 _ _ hb4)) IA' (dA.trans d4.symm) (by omega) (by omega)
      · rw [if_neg cu]
        exact fin h6 fz4 Z4 X6 K4.1 hb4 I4' rfl (by omega) (by omega)
    by_cases z6 : zn Z < 6
    · rw [if_pos (show iI (zn Z : Int) < iI 6 from (by rw [lt_i (by omega) (by omega) (by omega) (by omega)]; omega)), iI_add, if_pos (show iI (zn Z4 : Int) = iI ((zn Z : Int) + 1) by rw [v5, if_pos z6]; rfl)]
      exact go
    · rw [if_neg (show ¬ iI (zn Z : Int) < iI 6 from (by rw [lt_i (by omega) (by omega) (by omega) (by omega)]; omega)), if_pos (show iI (zn Z4 : Int) = iI 6 by rw [v5, if_neg z6]; rfl)]
      exact go
/-- all turns -/
theorem law_l {b L : Nat} {g : Nat → Int32} {B0 S0 : Nat} (hL : L ≤ 260) (hB : B0 + 108800 ≤ B) (hS : S0 + 3400000 ≤ S) : ∀ (m fu j : Nat), m < fu → j + m = 34 → Nx c x b L g M B0 S0 B S fu j := by
  intro m
  induction m with
  | zero =>
    intro fu j hf hj h Z fz d ro X I K hb J hd hr b1 b2
    obtain ⟨f, rfl⟩ : ∃ f, fu = f + 1 := ⟨fu - 1, by omega⟩
    unfold fL_law_16
    simp only [iI_l]
    rw [if_neg (show ¬ iI (j : Int) < iI 34 from (by rw [lt_i (by omega) (by omega) (by omega) (by omega)]; omega)), rt_1]
    exact ⟨h, rfl, by omega, by omega⟩
  | succ m ih =>
    intro fu j hf hj h Z fz d ro X I K hb J hd hr b1 b2
    obtain ⟨f, rfl⟩ : ∃ f, fu = f + 1 := ⟨fu - 1, by omega⟩
    have nx := ih f (j + 1) (by omega) (by omega)
    have hB0 : h.1 b = some (.inl (10, L, .inl g)) := by
      obtain ⟨C, k, s, CH, sl, CS, pq, cap, fl, len, row, W, w, Ly0, H, R⟩ := X
      exact H.1.1 _ _ hb
    obtain ⟨v, ev⟩ := w_cell (c := c) hB0 hL (k := 2 * (j : Int)) (by omega) (by omega)
    unfold fL_law_16
    simp only [iI_l, iI_mul]
    rw [if_pos (show iI (j : Int) < iI 34 from (by rw [lt_i (by omega) (by omega) (by omega) (by omega)]; omega))]
    by_cases c3 : iI (j : Int) < iI 3
    · rw [if_pos c3]
      exact f4 ev (l51 hL nx (by omega) K X I hb J hd hr b1 b2 _)
    · rw [if_neg c3]
      exact f4 ev (l51 hL nx (by omega) K X I hb J hd hr b1 b2 _)
end
