/-! THE PAD of the class -/
section
variable {c : Nat → Option Nat} {fz : Nat → Option Cl} {x : Nat} {h h' : Hp} {Z : Zt} {C : Ct} {n s : Nat} {CH : Nat → Ct} {sl : Nat → Option Nat} {CS : Nat → Ct} {pq cap : Nat} {fl : Int32} {len : Nat} {row : Nat → Int32} {W w : Int} {L : Ly} {M : Nat → Nat → Int}
theorem HL.p0 (H : HL fz x h C n s CH sl CS pq cap fl len row W w L M) : h.1 (x + 473) = some (cSB pq fl len) := H.2.2.2.2.1.1
theorem HL.p1 (H : HL fz x h C n s CH sl CS pq cap fl len row W w L M) : h.1 pq = some (.inl (1, cap, .inl row)) := H.2.2.2.2.1.2.1
theorem p_len (H : HL fz x h C n s CH sl CS pq cap fl len row W w L M) : fJ4_length_8abf5 c h (some (x + 473)) = some (h, some (.inl (iI (len : Int)))) := by
  unfold fJ4_length_8abf5 fJ5_length_8abf5
  rw [ck_e H.p0 rfl, rdI_e H.p0 rfl rfl]
  simp only [cc_s, kI_i]
theorem mn_i {a b : Int} (a0 : -2147483648 ≤ a) (a1 : a < 2147483648) (b0 : -2147483648 ≤ b) (b1 : b < 2147483648) : mnI (iI a) (iI b) = iI (if b < a then b else a) := by
  unfold mnI
  by_cases e : b < a
  · rw [if_pos (by rw [lt_i (by omega) (by omega) (by omega) (by omega)]; omega), if_pos e]
  · rw [if_neg (by rw [lt_i (by omega) (by omega) (by omega) (by omega)]; omega), if_neg e]
theorem p_chr (H : HL fz x h C n s CH sl CS pq cap fl len row W w L M) (hc : len ≤ cap) (hc2 : cap ≤ 1000) {i : Nat} (hi : i < len) {v : Int} (hr : row i = iI v) (v0 : 0 ≤ v) (v1 : v < 128) : fJ4_charAt_5068e c h (some (x + 473)) (iI (i : Int)) = some (h, some (.inl (iI v))) := by
  unfold fJ4_charAt_5068e fJ5_charAt_5068e fJ0_checkIndex_df160 fJ3_checkIndex_8e157
  simp only [iI_l]
  rw [ck_e H.p0 rfl, rdI_e H.p0 rfl rfl, rdR_e H.p0 rfl rfl, rdI_e H.p0 rfl rfl, lenA_e H.p1, shr_0 _ (by omega) (by omega), mn_i (by omega) (by omega) (by omega) (by omega), if_neg (show ¬ iI (i : Int) < iI 0 from (by rw [lt_i (by omega) (by omega) (by omega) (by omega)]; omega)), if_neg (show ¬ (cap : Int) < len by omega), if_pos (show iI (i : Int) < iI (len : Int) from (by rw [lt_i (by omega) (by omega) (by omega) (by omega)]; omega))]
  simp only [cc_s, kI_i, kV_n]
  rw [if_pos trivial, aldI_e H.p1 rfl (by omega) (by omega) (by omega), Int.toNat_natCast, hr, (ch_i v0 v1).2.2.2.2.2, (ch_i v0 v1).1, rt_c v0 v1]
  simp only [cc_s, kI_i]
  rw [rt_c v0 v1]
theorem p_ens0 (H : HL fz x h C n s CH sl CS pq cap fl len row W w L M) (hc2 : cap ≤ 1000) {z : Int} (z0 : 0 ≤ z) (z1 : z ≤ cap) : fJ5_ensureCapacityInternal_d00df c h (some (x + 473)) (iI z) = some (h, none) := by
  unfold fJ5_ensureCapacityInternal_d00df fJ5_ensureCapacityInternal_d00df_38
  simp only [iI_l]
  rw [rdR_e H.p0 rfl rfl, lenA_e H.p1, rdI_e H.p0 rfl rfl, shr_0 _ (by omega) (by omega), iI_sub, if_neg (show ¬ iI 0 < iI (z - (cap : Int)) from (by rw [lt_i (by omega) (by omega) (by omega) (by omega)]; omega))]
theorem p_clear (H : HL fz x h C n s CH sl CS pq cap fl len row W w L M) (hc2 : cap ≤ 1000) (hc : len ≤ cap) : ∃ h' fl', fJ4_setLength_d00df c h (some (x + 473)) (iI 0) = some (h', none) ∧ HL fz x h' C n s CH sl CS pq cap fl' 0 row W w L M ∧ h'.2 = h.2 := by
  have e0 := p_ens0 (c := c) H hc2 (z := 0) (by decide) (by omega)
  unfold fJ4_setLength_d00df fJ5_setLength_d00df fJ5_setLength_d00df_76
  simp only [iI_l]
  rw [ck_e H.p0 rfl, if_neg (show ¬ iI 0 < iI 0 by decide), ck_e H.p0 rfl, e0]
  simp only [cc_s, kV_n]
  rw [rdI_e H.p0 rfl rfl, if_neg (show ¬ iI (len : Int) < iI 0 from (by rw [lt_i (by omega) (by omega) (by omega) (by omega)]; omega)), rdI_e H.p0 rfl rfl]
  by_cases e : 0 < len
  · rw [if_pos (show iI 0 < iI (len : Int) from (by rw [lt_i (by omega) (by omega) (by omega) (by omega)]; omega)), wr_e (c := 1) (k := 2) (v := .inl (iI 1)) H.p0 (by decide) (by show 2 < 4; decide) rfl]
    have H1 := HL_sb H (iI 1) len
    have e1 : (upH h (x + 473) (.inr (1, [rfC pq, .inl (iI 0), .inl fl, .inl (iI (len : Int))].set 2 (.inl (iI 1))))) = upH h (x + 473) (cSB pq (iI 1) len) := rfl
    rw [e1, wr_e (c := 1) (k := 3) (v := .inl (iI 0)) H1.p0 (by decide) (by show 3 < 4; decide) rfl]
    exact ⟨_, iI 1, rfl, HL_sb H1 (iI 1) 0, rfl⟩
  · rw [if_neg (show ¬ iI 0 < iI (len : Int) from (by rw [lt_i (by omega) (by omega) (by omega) (by omega)]; omega)), wr_e (c := 1) (k := 3) (v := .inl (iI 0)) H.p0 (by decide) (by show 3 < 4; decide) rfl]
    exact ⟨_, fl, rfl, HL_sb H fl 0, rfl⟩
theorem okB_t {g : Nat → Int32} (hb : ∀ j, byI (g j) = g j) (m : Nat) : okB m g = true := by
  unfold okB
  rw [List.all_eq_true]
  intro j _
  simp [hb j]
theorem cpy_e {H : Hp} {a b n0 n1 : Nat} {g0 g1 : Nat → Int32} {m : Int} {f : Hp → Rs} (e0 : H.1 a = some (.inl (1, n0, .inl g0))) (e1 : H.1 b = some (.inl (1, n1, .inl g1))) (hb : ∀ j, byI (g0 j) = g0 j) (m0 : 0 ≤ m) (m1 : m ≤ n0) (m2 : m ≤ n1) (m3 : m < 100000) : cpyB H (some a) (iI 0) (some b) (iI 0) (iI m) f = f (upH H b (.inl (1, n1, .inl (va_cpy g0 g1 0 0 m.toNat)))) := by
  unfold cpyB ar
  simp only [e0, e1]
  have hc : cpC n0 n1 g0 (iI 0) (iI 0) (iI m) = true := by
    unfold cpC
    rw [okB_t hb, iI_nat (show rg m from ⟨by omega, by omega⟩), show (iI 0).toNatClampNeg = 0 from rfl]
    simp only [iI_l]
    rw [decide_eq_false (show ¬ iI 0 < iI 0 by decide), decide_eq_false (show ¬ iI m < iI 0 from (by rw [lt_i (by omega) (by omega) (by omega) (by omega)]; omega)), Nat.ble_eq.mpr (show 0 + m.toNat ≤ n0 by omega), Nat.ble_eq.mpr (show 0 + m.toNat ≤ n1 by omega)]
    rfl
  rw [hc, iI_nat (show rg m from ⟨by omega, by omega⟩), show (iI 0).toNatClampNeg = 0 from rfl]
  rfl
theorem nwA_e {H : Hp} {k : Nat} {m : Int} {f : Hp → Option Nat → Rs} (m0 : 0 ≤ m) (m1 : m ≤ 1000000) : nwA H k (iI m) f = f (pushH H (.inl (k, m.toNat, .inl (fun _ => 0))) m.toNat) (some H.2.1) := by
  unfold nwA
  rw [iI_nat (show rg m from ⟨by omega, by omega⟩)]
  simp only [iI_l]
  rw [decide_eq_false (show ¬ iI m < iI 0 from (by rw [lt_i (by omega) (by omega) (by omega) (by omega)]; omega)), Nat.ble_eq.mpr (show m.toNat ≤ 1000000 by omega)]
  rfl
/-- a text is made of it -/
theorem p_text (H : HL fz x h C n s CH sl CS pq cap fl len row W w L M) (hc : len ≤ cap) (hc2 : cap ≤ 1000) (hb : ∀ j, byI (row j) = row j) : ∃ h' row', fJ4_toString_0e30d c h (some (x + 473)) = some (h', some (.inr (.inr (some h.2.1)))) ∧ (∀ q, q < h.2.1 → h'.1 q = h.1 q) ∧ h'.1 h.2.1 = some (.inr (0, [.inr (.inr (some (h.2.1 + 1))), .inl (iI 0), .inl (iI 0), .inl (iI 0)])) ∧ h'.1 (h.2.1 + 1) = some (.inl (1, len, .inl row')) ∧ (∀ j, j < len → row' j = row j) ∧ h'.2.1 = h.2.1 + 2 ∧ h'.2.2 ≤ h.2.2 + 1010 := by
  have hx := H.1.2.2.2
  have hpq := H.2.2.2.2.1.2.2.2.1
  have H1 := HL_push H (.inr (0, dfC 0)) 4
  have c1 : (pushH h (.inr (0, dfC 0)) 4).1 h.2.1 = some (.inr (0, dfC 0)) := if_pos rfl
  have H2 := HL_new (h' := upH (pushH h (.inr (0, dfC 0)) 4) h.2.1 (.inr (0, [.inr (.inr none), .inl (iI 0), .inl (iI 0), .inl (iI 0)]))) (N := h.2.1 + 1) H (by omega) (fun q hq => by
    show (if q = h.2.1 then _ else (if q = h.2.1 then _ else h.1 q)) = h.1 q
    rw [if_neg (by omega), if_neg (by omega)]) rfl
  have c2 : (upH (pushH h (.inr (0, dfC 0)) 4) h.2.1 (.inr (0, [.inr (.inr none), .inl (iI 0), .inl (iI 0), .inl (iI 0)]))).1 h.2.1 = some (.inr (0, [.inr (.inr none), .inl (iI 0), .inl (iI 0), .inl (iI 0)])) := if_pos rfl
  have n2 : (upH (pushH h (.inr (0, dfC 0)) 4) h.2.1 (.inr (0, [.inr (.inr none), .inl (iI 0), .inl (iI 0), .inl (iI 0)]))).2 = (h.2.1 + 1, h.2.2 + 4) := rfl
  have o2 : ∀ q, q < h.2.1 → (upH (pushH h (.inr (0, dfC 0)) 4) h.2.1 (.inr (0, [.inr (.inr none), .inl (iI 0), .inl (iI 0), .inl (iI 0)]))).1 q = h.1 q := fun q hq => by
    show (if q = h.2.1 then _ else (if q = h.2.1 then _ else h.1 q)) = h.1 q
    rw [if_neg (by omega), if_neg (by omega)]
  have fin : ∀ (h3 : Hp) (row' : Nat → Int32), (∀ q, q < h.2.1 → h3.1 q = h.1 q) → h3.1 h.2.1 = some (.inr (0, [.inr (.inr none), .inl (iI 0), .inl (iI 0), .inl (iI 0)])) → h3.1 (h.2.1 + 1) = some (.inl (1, len, .inl row')) → (∀ j, j < len → row' j = row j) → h3.2.1 = h.2.1 + 2 → h3.2.2 ≤ h.2.2 + 1010 →
      ∃ h' row', (cc (some (h3, some (.inr (.inr (some (h.2.1 + 1)))))) (kR fun h13 r14 => wr h13 (some h.2.1) 0 0 (.inr (.inr r14)) (fun h15 => fJ0_init_db425_97 c h15)) = some (h', none)) ∧ (∀ q, q < h.2.1 → h'.1 q = h.1 q) ∧ h'.1 h.2.1 = some (.inr (0, [.inr (.inr (some (h.2.1 + 1))), .inl (iI 0), .inl (iI 0), .inl (iI 0)])) ∧ h'.1 (h.2.1 + 1) = some (.inl (1, len, .inl row')) ∧ (∀ j, j < len → row' j = row j) ∧ h'.2.1 = h.2.1 + 2 ∧ h'.2.2 ≤ h.2.2 + 1010 := by
    intro h3 row' a1 a2 a3 a4 a5 a6
    refine ⟨upH h3 h.2.1 (.inr (0, [.inr (.inr (some (h.2.1 + 1))), .inl (iI 0), .inl (iI 0), .inl (iI 0)])), row', ?_, fun q hq => ?_, if_pos rfl, ?_, a4, a5, a6⟩
    · simp only [cc_s, kR_r]
      rw [wr_e (c := 0) (k := 0) (v := .inr (.inr (some (h.2.1 + 1)))) a2 (by decide) (by show 0 < 4; decide) rfl]
      rfl
    · show (if q = h.2.1 then _ else h3.1 q) = h.1 q
      rw [if_neg (by omega)]; exact a1 q hq
    · show (if h.2.1 + 1 = h.2.1 then _ else h3.1 (h.2.1 + 1)) = _
      rw [if_neg (by omega)]; exact a3
  unfold fJ4_toString_0e30d fJ0_init_81219 fJ0_init_db425 fJ5_getValue_6d5f1 fJ5_isLatin1_aae02 fJ5_isLatin1_aae02_18 nwO
  simp only [iI_l, dn, show nmC 0 = 4 from rfl]
  rw [ck_e H1.p0 rfl, rdR_e H1.p0 rfl rfl]
  simp only [cc_s, kR_r]
  rw [ck_e H1.p0 rfl, p_len H1]
  simp only [cc_s, kI_i]
  rw [ck_e H1.p0 rfl, if_neg (show ¬ iI 1 = iI 0 by decide), rdI_e H1.p0 rfl rfl, if_pos rfl, rt_1]
  simp only [cc_s, kI_i]
  rw [if_neg (show ¬ iI 1 = iI 0 by decide), wr_e (c := 0) (k := 1) (v := .inl (iI 0)) c1 (by decide) (by show 1 < 4; decide) (by decide)]
  rw [show ((dfC 0).set 1 (.inl (iI 0))) = [.inr (.inr none), .inl (iI 0), .inl (iI 0), .inl (iI 0)] from rfl]
  unfold fJ7_copyOfRange_39247
  simp only [iI_l]
  rw [if_pos trivial, lenA_e H2.p1]
  by_cases e : len = cap
  · rw [if_pos (show iI (len : Int) = iI (cap : Int) by rw [e])]
    unfold clnB ckB ar
    simp only [H2.p1]
    rw [okB_t hb]
    simp only [beq_self_eq_true, Bool.and_true, if_true]
    have c3 : ∀ (e : Cl) (m : Nat), (pushH (upH (pushH h (.inr (0, dfC 0)) 4) h.2.1 (.inr (0, [.inr (.inr none), .inl (iI 0), .inl (iI 0), .inl (iI 0)]))) e m).1 (h.2.1 + 1) = some e := fun e m => if_pos rfl
    rw [n2]
    simp only [c3]
    simp only [beq_self_eq_true, if_true]
    obtain ⟨h', row', f1, f2⟩ := fin (pushH (upH (pushH h (.inr (0, dfC 0)) 4) h.2.1 (.inr (0, [.inr (.inr none), .inl (iI 0), .inl (iI 0), .inl (iI 0)]))) (.inl (1, cap, .inl row)) cap) row (fun q hq => by
      show (if q = h.2.1 + 1 then _ else _) = _
      rw [if_neg (by omega)]; exact o2 q hq) (by
      show (if h.2.1 = h.2.1 + 1 then _ else _) = _
      rw [if_neg (by omega)]; exact c2) (by rw [e]; exact if_pos rfl) (fun j _ => rfl) rfl (by show h.2.2 + 4 + cap ≤ _; omega)
    refine ⟨h', row', ?_, f2⟩
    rw [f1]
    simp only [cc_s, kV_n]
  · rw [if_neg (show ¬ iI (len : Int) = iI (cap : Int) from (by rw [eq_i (by omega) (by omega) (by omega) (by omega)]; omega))]
    unfold fJ7_copyOfRange_39247_10 fJ7_copyOfRangeByte_39247 fJ7_checkLength_df160
    simp only [iI_l]
    rw [if_neg (show ¬ iI (len : Int) < iI 0 from (by rw [lt_i (by omega) (by omega) (by omega) (by omega)]; omega))]
    simp only [cc_s, kV_n, iI_sub]
    rw [show (len : Int) - 0 = len by omega, nwA_e (by omega) (by omega), n2, Int.toNat_natCast]
    have H3 := HL_push H2 (.inl (1, len, .inl (fun _ => 0))) len
    have c3 : (pushH (upH (pushH h (.inr (0, dfC 0)) 4) h.2.1 (.inr (0, [.inr (.inr none), .inl (iI 0), .inl (iI 0), .inl (iI 0)]))) (.inl (1, len, .inl (fun _ => 0))) len).1 (h.2.1 + 1) = some (.inl (1, len, .inl (fun _ => 0))) := if_pos rfl
    rw [lenA_e H3.p1]
    simp only [iI_sub]
    rw [show (cap : Int) - 0 = cap by omega, mn_i (by omega) (by omega) (by omega) (by omega), if_pos (show (len : Int) < cap by omega), cpy_e H3.p1 c3 hb (by omega) (by omega) (by omega) (by omega), Int.toNat_natCast]
    simp only [cc_s, kR_r]
    obtain ⟨h', row', f1, f2⟩ := fin (upH (pushH (upH (pushH h (.inr (0, dfC 0)) 4) h.2.1 (.inr (0, [.inr (.inr none), .inl (iI 0), .inl (iI 0), .inl (iI 0)]))) (.inl (1, len, .inl (fun _ => 0))) len) (h.2.1 + 1) (.inl (1, len, .inl (va_cpy row (fun _ => 0) 0 0 len)))) (va_cpy row (fun _ => 0) 0 0 len) (fun q hq => by
      show (if q = h.2.1 + 1 then _ else (if q = h.2.1 + 1 then _ else _)) = _
      rw [if_neg (by omega), if_neg (by omega)]; exact o2 q hq) (by
      show (if h.2.1 = h.2.1 + 1 then _ else (if h.2.1 = h.2.1 + 1 then _ else _)) = _
      rw [if_neg (by omega), if_neg (by omega)]; exact c2) (if_pos rfl) (fun j hj => by
      unfold va_cpy
      rw [if_pos (by omega), show 0 + (j - 0) = j by omega]) rfl (by show h.2.2 + 4 + len ≤ _; omega)
    refine ⟨h', row', ?_, f2⟩
    simp only [cc_s, kR_r] at f1
    rw [f1]
    simp only [cc_s, kV_n]
/-- the pad's array is another, new one -/
theorem HL_grow (H : HL fz x h C n s CH sl CS pq cap fl len row W w L M) {e : Cl} {m ncap : Nat} {row' : Nat → Int32} : HL fz x (upH (upH (pushH h e m) h.2.1 (.inl (1, ncap, .inl row'))) (x + 473) (cSB h.2.1 fl len)) C n s CH sl CS h.2.1 ncap fl len row' W w L M := by
  have hx := H.1.2.2.2
  have H2 := HL_new (h' := upH (pushH h e m) h.2.1 (.inl (1, ncap, .inl row'))) (N := h.2.1 + 1) H (by omega) (fun q hq => by
    show (if q = h.2.1 then _ else (if q = h.2.1 then _ else h.1 q)) = h.1 q
    rw [if_neg (by omega), if_neg (by omega)]) rfl
  obtain ⟨f1, f2, f3, f4, f5, f6, f7, f8, f9, f10, f11, f12, f13, f14⟩ := HL_fr (h' := upH (upH (pushH h e m) h.2.1 (.inl (1, ncap, .inl row'))) (x + 473) (cSB h.2.1 fl len)) (lo := x + 473) (hi := x + 473 + 1) H2 upH_A (Nat.le_refl _)
  have dz := HL_in (lo := x + 473) (hi := x + 473 + 1) H2 (by omega) (by omega)
  obtain ⟨⟨a1, a2, a3, a4⟩, b, ⟨c1, c2, c3⟩, ⟨d1, d2, d3⟩, ⟨e1, e2, e3, e4, e5, e6⟩, g1, g2⟩ := H
  have hq : (upH (upH (pushH h e m) h.2.1 (.inl (1, ncap, .inl row'))) (x + 473) (cSB h.2.1 fl len)).1 h.2.1 = some (.inl (1, ncap, .inl row')) := by
    show (if h.2.1 = x + 473 then _ else (if h.2.1 = h.2.1 then _ else _)) = _
    rw [if_neg (by omega), if_pos rfl]
  refine ⟨⟨f1 dz, f2, a3, f3⟩, f4 (by omega), ⟨f5 (by omega), f6 (by omega), fun i hi => f7 i hi (by omega)⟩, ⟨f8 (by omega), fun i q hi hq => ⟨(f9 i q hi hq).1, (f9 i q hi hq).2.1, (d2 i q hi hq).2.2.1, (f9 i q hi hq).2.2 (by have := (f9 i q hi hq).1; omega)⟩, d3⟩, ⟨upH_at, hq, Or.inr hx, by show h.2.1 < h.2.1 + 1; omega, ?_, fun i q hi hq => Or.inr (d2 i q hi hq).2.1⟩, f13 (by omega), f14 (by omega)⟩
  cases hz : fz h.2.1 with
  | none => rfl
  | some e => have := (a2 _ e hz).1; omega
theorem p_ens (H : HL fz x h C n s CH sl CS pq cap fl len row W w L M) (hc : len ≤ cap) (hc2 : cap ≤ 1000) (hl : len < 400) (hb : ∀ j, byI (row j) = row j) : ∃ h' pq' cap' row', fJ5_ensureCapacityInternal_d00df c h (some (x + 473)) (iI ((len : Int) + 1)) = some (h', none) ∧ HL fz x h' C n s CH sl CS pq' cap' fl len row' W w L M ∧ len + 1 ≤ cap' ∧ cap' ≤ 1000 ∧ (∀ j, j < len → row' j = row j) ∧ (∀ j, byI (row' j) = row' j) ∧ h.2.1 ≤ h'.2.1 ∧ h'.2.1 ≤ h.2.1 + 1 ∧ h'.2.2 ≤ h.2.2 + 1000 := by
  by_cases e : len + 1 ≤ cap
  · exact ⟨h, pq, cap, row, p_ens0 H hc2 (by omega) (by omega), H, e, hc2, fun _ _ => rfl, hb, Nat.le_refl _, Nat.le_succ _, Nat.le_add_right _ _⟩
  · have ec : cap = len := by omega
    subst ec
    have H1 := HL_push H (.inl (1, cap + (cap + 2), .inl (fun _ => 0))) (cap + (cap + 2))
    have c1 : (pushH h (.inl (1, cap + (cap + 2), .inl (fun _ => 0))) (cap + (cap + 2))).1 h.2.1 = some (.inl (1, cap + (cap + 2), .inl (fun _ => 0))) := if_pos rfl
    refine ⟨_, h.2.1, cap + (cap + 2), va_cpy row (fun _ => 0) 0 0 cap, ?_, HL_grow (e := .inl (1, cap + (cap + 2), .inl (fun _ => 0))) (m := cap + (cap + 2)) H, by omega, by omega, fun j hj => by unfold va_cpy; rw [if_pos (by omega), show 0 + (j - 0) = j by omega], fun j => ?_, Nat.le_succ _, Nat.le_refl _, by show h.2.2 + (cap + (cap + 2)) ≤ h.2.2 + 1000; omega⟩
    · unfold fJ5_ensureCapacityInternal_d00df fJ5_ensureCapacityInternal_d00df_38 fJ5_newCapacity_0f7a4 fJ8_newLength_cabcc fJ7_copyOf_9075b
      simp only [iI_l]
      rw [rdR_e H.p0 rfl rfl, lenA_e H.p1, rdI_e H.p0 rfl rfl, shr_0 _ (by omega) (by omega), iI_sub, if_pos (show iI 0 < iI ((cap : Int) + 1 - cap) from (by rw [lt_i (by omega) (by omega) (by omega) (by omega)]; omega)), rdR_e H.p0 rfl rfl, ck_e H.p0 rfl, rdR_e H.p0 rfl rfl, lenA_e H.p1, rdI_e H.p0 rfl rfl, rdI_e H.p0 rfl rfl, shl_i (by decide) (by decide), shl_i (by decide) (by decide)]
      simp only [show (0 : Int).toNat = 0 from rfl, Int.pow_zero, Int.mul_one, iI_sub, iI_add]
      rw [mx_i (by omega) (by omega) (by omega) (by omega), if_pos (show (cap : Int) + 1 - cap < (cap : Int) + 2 by omega), iI_add, if_pos (show iI 0 < iI ((cap : Int) + (cap + 2)) from (by rw [lt_i (by omega) (by omega) (by omega) (by omega)]; omega)), if_neg (show ¬ iI 2147483639 < iI ((cap : Int) + (cap + 2)) from (by rw [lt_i (by omega) (by omega) (by omega) (by omega)]; omega))]
      simp only [cc_s, kI_i]
      rw [if_neg (show ¬ iI ((cap : Int) + (cap + 2)) = iI 2147483647 from (by rw [eq_i (by omega) (by omega) (by omega) (by omega)]; omega)), rdI_e H.p0 rfl rfl]
      simp only [cc_s, kI_i]
      rw [shr_0 _ (by omega) (by omega), rdI_e H.p0 rfl rfl, shl_i (by decide) (by decide)]
      simp only [show (0 : Int).toNat = 0 from rfl, Int.pow_zero, Int.mul_one]
      rw [lenA_e H.p1, if_neg (show ¬ iI ((cap : Int) + (cap + 2)) = iI (cap : Int) from (by rw [eq_i (by omega) (by omega) (by omega) (by omega)]; omega)), nwA_e (by omega) (by omega), show ((cap : Int) + (cap + 2)).toNat = cap + (cap + 2) by omega, lenA_e H1.p1, mn_i (by omega) (by omega) (by omega) (by omega), if_neg (show ¬ ((cap : Int) + (cap + 2) < cap) by omega), cpy_e H1.p1 c1 hb (by omega) (by omega) (by omega) (by omega), Int.toNat_natCast]
      simp only [cc_s, kR_r]
      have p0' : (upH (pushH h (.inl (1, cap + (cap + 2), .inl (fun _ => 0))) (cap + (cap + 2))) h.2.1 (.inl (1, cap + (cap + 2), .inl (va_cpy row (fun _ => 0) 0 0 cap)))).1 (x + 473) = some (cSB pq fl cap) := by
        have hx := H.1.2.2.2
        show (if x + 473 = h.2.1 then _ else _) = _
        rw [if_neg (by omega)]
        exact H1.p0
      rw [wr_e (c := 1) (k := 0) (v := .inr (.inr (some h.2.1))) p0' (by decide) (by show 0 < 4; decide) rfl]
      rfl
    · unfold va_cpy
      split
      · exact hb _
      · rfl
theorem p_append (H : HL fz x h C n s CH sl CS pq cap fl len row W w L M) (hc : len ≤ cap) (hc2 : cap ≤ 1000) (hl : len < 400) (hb : ∀ j, byI (row j) = row j) {v : Int} (v0 : 0 ≤ v) (v1 : v < 128) : ∃ h' pq' cap' row', fJ4_append_cf468 c h (some (x + 473)) (iI v) = some (h', some (.inr (.inr (some (x + 473))))) ∧ HL fz x h' C n s CH sl CS pq' cap' fl (len + 1) row' W w L M ∧ len + 1 ≤ cap' ∧ cap' ≤ 1000 ∧ (∀ j, j < len + 1 → row' j = if j = len then iI v else row j) ∧ (∀ j, byI (row' j) = row' j) ∧ h.2.1 ≤ h'.2.1 ∧ h'.2.1 ≤ h.2.1 + 1 ∧ h'.2.2 ≤ h.2.2 + 1000 := by
  obtain ⟨h1, pq', cap', row', e1, H1, k1, k2, k3, k4, k5, k6, k7⟩ := p_ens (c := c) H hc hc2 hl hb
  have H2 := HL_sb H1 fl (len + 1)
  have H3 := HL_row H2 (upd row' len (iI v))
  refine ⟨_, pq', cap', upd row' len (iI v), ?_, H3, k1, k2, fun j hj => ?_, fun j => ?_, k5, k6, k7⟩
  · unfold fJ4_append_cf468 fJ5_append_3fe6f fJ5_isLatin1_aae02 fJ5_isLatin1_aae02_18 fJ1_canEncode_fc78d fJ1_canEncode_fc78d_12
    simp only [iI_l]
    rw [ck_e H.p0 rfl, rdI_e H.p0 rfl rfl, ck_e H.p0 rfl, iI_add, e1]
    simp only [cc_s, kV_n]
    rw [ck_e H1.p0 rfl, if_neg (show ¬ iI 1 = iI 0 by decide), rdI_e H1.p0 rfl rfl, if_pos rfl, rt_1]
    simp only [cc_s, kI_i]
    rw [if_neg (show ¬ iI 1 = iI 0 by decide), if_neg (show ¬ iI 255 < iI v from (by rw [lt_i (by omega) (by omega) (by omega) (by omega)]; omega)), rt_1]
    simp only [cc_s, kI_i]
    rw [if_neg (show ¬ iI 1 = iI 0 by decide), rdR_e H1.p0 rfl rfl, rdI_e H1.p0 rfl rfl, iI_add, wr_e (c := 1) (k := 3) (v := .inl (iI ((len : Int) + 1))) H1.p0 (by decide) (by show 3 < 4; decide) rfl]
    have e2 : (upH h1 (x + 473) (.inr (1, [rfC pq', .inl (iI 0), .inl fl, .inl (iI (len : Int))].set 3 (.inl (iI ((len : Int) + 1)))))) = upH h1 (x + 473) (cSB pq' fl (len + 1)) := rfl
    rw [e2, (ch_i v0 v1).2.2.1, astI_e H2.p1 rfl (by decide) (by omega) (by omega) (by omega), (ch_i v0 v1).2.2.2.1, Int.toNat_natCast]
    simp only [cc_s, kR_r]
  · unfold upd
    split
    · rfl
    · exact k3 j (by omega)
  · unfold upd
    split
    · exact (ch_i v0 v1).2.2.1
    · exact k4 j
end
