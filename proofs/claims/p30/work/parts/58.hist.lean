/-! THE HISTORY of the class -/
section
variable {c : Nat → Option Nat} {fz : Nat → Option Cl} {x : Nat} {h h' : Hp} {Z : Zt} {C : Ct} {n s : Nat} {CH : Nat → Ct} {sl : Nat → Option Nat} {CS : Nat → Ct} {pq cap : Nat} {fl : Int32} {len : Nat} {row : Nat → Int32} {W w : Int} {L : Ly} {M : Nat → Nat → Int}
theorem HL.z (H : HL fz x h C n s CH sl CS pq cap fl len row W w L M) : h.1 x = some (.inr (7, [rfC (x + 1), rfC (x + 68), rfC (x + 472), rfC (x + 473), rfC (x + 475)])) := H.1.1 _ _ H.1.2.2.1
theorem HL.ck (H : HL fz x h C n s CH sl CS pq cap fl len row W w L M) {o : Rs} : Jvm.Pilot.CReceiptRollsLaw_law_r6028_bd9a59.ck h (some x) 7 o = o := ck_e H.z rfl
theorem HL.r0 (H : HL fz x h C n s CH sl CS pq cap fl len row W w L M) {f : Option Nat → Rs} : rdR h (some x) 7 0 f = f (some (x + 1)) := rdR_e H.z rfl rfl
theorem HL.r1 (H : HL fz x h C n s CH sl CS pq cap fl len row W w L M) {f : Option Nat → Rs} : rdR h (some x) 7 1 f = f (some (x + 68)) := rdR_e H.z rfl rfl
theorem HL.r2 (H : HL fz x h C n s CH sl CS pq cap fl len row W w L M) {f : Option Nat → Rs} : rdR h (some x) 7 2 f = f (some (x + 472)) := rdR_e H.z rfl rfl
theorem HL.r3 (H : HL fz x h C n s CH sl CS pq cap fl len row W w L M) {f : Option Nat → Rs} : rdR h (some x) 7 3 f = f (some (x + 473)) := rdR_e H.z rfl rfl
theorem HL.r4 (H : HL fz x h C n s CH sl CS pq cap fl len row W w L M) {f : Option Nat → Rs} : rdR h (some x) 7 4 f = f (some (x + 475)) := rdR_e H.z rfl rfl
theorem HL.st (H : HL fz x h C n s CH sl CS pq cap fl len row W w L M) : hS h (x + 1) C = h := At_S H.2.1
theorem HL.t (H : HL fz x h C n s CH sl CS pq cap fl len row W w L M) : hT h (x + 475) W w L = h := At.eq H.2.2.2.2.2.1
theorem HL.h0 (H : HL fz x h C n s CH sl CS pq cap fl len row W w L M) : h.1 (x + 68) = some (cHi x n) := H.2.2.1.1
theorem HL.h1 (H : HL fz x h C n s CH sl CS pq cap fl len row W w L M) : h.1 (x + 69) = some (cRR 6 6 (hst x s)) := H.2.2.1.2.1
theorem HL.h2 (H : HL fz x h C n s CH sl CS pq cap fl len row W w L M) {i : Nat} (hi : i < 6) : At h (x + 70 + 67 * i) 67 (sC (x + 70 + 67 * i) (CH i)) := H.2.2.1.2.2 i hi
theorem hst_i (x s : Nat) {i : Nat} (hi : i < 6) : hst x s i = some (x + 70 + 67 * ((i + s) % 6)) := if_pos hi
/-- the kept states' order, k - 1 of them moved on -/
def gk (x s k : Nat) : Nat → Option Nat := fun j => if j + 1 < k then hst x s (j + 1) else hst x s j
theorem drop_l (H : HL fz x h C n s CH sl CS pq cap fl len row W w L M) {old : Nat} (ho : old < 6) : ∀ (m fu k : Nat), m < fu → k + m = 6 → 1 ≤ k → fX0_dropOldest_21 c fu (upH h (x + 69) (cRR 6 6 (gk x s k))) (some (x + 68)) (some (x + 70 + 67 * old)) (iI (k : Int)) = some (upH (upH h (x + 69) (cRR 6 6 (va_up (gk x s 6) 5 (some (x + 70 + 67 * old))))) (x + 68) (cHi x 5), none) := by
  have hz : ∀ g, (upH h (x + 69) (cRR 6 6 g)).1 (x + 68) = some (cHi x n) := fun g => (if_neg (by omega)).trans H.h0
  have ha : ∀ g, (upH h (x + 69) (cRR 6 6 g)).1 (x + 69) = some (cRR 6 6 g) := fun g => if_pos rfl
  have rr : ∀ g (f : Option Nat → Rs), rdR (upH h (x + 69) (cRR 6 6 g)) (some (x + 68)) 2 1 f = f (some (x + 69)) := fun g f => rdR_e (hz g) rfl rfl
  have ll : ∀ g (f : Int32 → Rs), lenA (upH h (x + 69) (cRR 6 6 g)) (some (x + 69)) f = f (iI 6) := fun g f => lenA_e (ha g)
  have uu : ∀ g e, upH (upH h (x + 69) (cRR 6 6 g)) (x + 69) e = upH h (x + 69) e := fun g e => by
    refine Prod.ext (funext fun q => ?_) rfl
    show (if q = x + 69 then some e else if q = x + 69 then some (cRR 6 6 g) else h.1 q) = if q = x + 69 then some e else h.1 q
    split <;> rfl
  have el : ∀ g j, j < 6 → isEl (upH h (x + 69) (cRR 6 6 g)) 6 (some (x + 70 + 67 * j)) = true := fun g j hj => by
    have e : (upH h (x + 69) (cRR 6 6 g)).1 (x + 70 + 67 * j) = some (.inr (6, fS (x + 70 + 67 * j) (cF (CH j)))) := (if_neg (by omega)).trans ((H.h2 hj) 0 (by decide))
    unfold isEl
    simp only [e]
    rfl
  intro m
  induction m with
  | zero =>
    intro fu k hf hk h1
    obtain ⟨f, rfl⟩ : ∃ f, fu = f + 1 := ⟨fu - 1, by omega⟩
    have ek : k = 6 := by omega
    subst ek
    unfold fX0_dropOldest_21 fX0_dropOldest_78
    rw [rr, ll, if_neg (show ¬ iI ((6 : Nat) : Int) < iI 6 by decide)]
    simp only [ifN, iI_l, iI_sub]
    rw [rr, rr, ll]
    simp only [iI_l, iI_sub]
    rw [astR_e (ha _) (by decide) (by decide) (by decide) (by decide) (by decide) (el _ old ho)]
    rw [show (.inl (6, 6, .inr (.inr (.inr (.inr (va_up (gk x s 6) (6 - 1 : Int).toNat (some (x + 70 + 67 * old))))))) : Cl) = cRR 6 6 (va_up (gk x s 6) 5 (some (x + 70 + 67 * old))) from rfl, uu, rr, ll, iI_sub]
    rw [wr_e (c := 2) (k := 0) (v := .inl (iI (6 - 1))) (hz _) (by decide) (Nat.zero_lt_succ _) rfl]
    rfl
  | succ m ih =>
    intro fu k hf hk h1
    obtain ⟨f, rfl⟩ : ∃ f, fu = f + 1 := ⟨fu - 1, by omega⟩
    have e1 : (upH h (x + 69) (cRR 6 6 (gk x s k))).1 (x + 69) = some (.inl (6, 6, .inr (.inr (.inr (.inr (gk x s k)))))) := ha _
    have g1 : gk x s k k = some (x + 70 + 67 * ((k + s) % 6)) := by unfold gk; rw [if_neg (by omega)]; exact hst_i x s (by omega)
    rw [fX0_dropOldest_21]
    rw [rr, ll, if_pos (show iI (k : Int) < iI 6 from (by rw [lt_i (by omega) (by omega) (by omega) (by omega)]; omega)), rr, rr]
    rw [aldR_e e1 (by decide) (by decide) (by omega) (by omega) (by decide), Int.toNat_natCast, g1]
    simp only [iI_l, iI_sub]
    rw [astR_e e1 (by decide) (by decide) (by omega) (by omega) (by decide) (el _ _ (by omega))]
    rw [show (.inl (6, 6, .inr (.inr (.inr (.inr (va_up (gk x s k) ((k : Int) - 1).toNat (some (x + 70 + 67 * ((k + s) % 6)))))))) : Cl) = cRR 6 6 (va_up (gk x s k) ((k : Int) - 1).toNat (some (x + 70 + 67 * ((k + s) % 6)))) from rfl, uu]
    have e2 : va_up (gk x s k) ((k : Int) - 1).toNat (some (x + 70 + 67 * ((k + s) % 6))) = gk x s (k + 1) := by
      funext j
      unfold va_up
      rw [show ((k : Int) - 1).toNat = k - 1 by omega]
      by_cases e : j = k - 1
      · rw [if_pos e]; unfold gk; rw [if_pos (by omega), e, show k - 1 + 1 = k by omega]; exact (hst_i x s (by omega)).symm
      · rw [if_neg e]; unfold gk
        by_cases e3 : j + 1 < k
        · rw [if_pos e3, if_pos (by omega)]
        · rw [if_neg e3, if_neg (by omega)]
    rw [e2, iI_add, iI_k1]
    exact ih f (k + 1) (by omega) (by omega) (by omega)
theorem w_drop (H : HL fz x h C n s CH sl CS pq cap fl len row W w L M) (hs : s < 6) : ∃ h', fX0_dropOldest c h (some (x + 68)) = some (h', none) ∧ HL fz x h' C 5 ((s + 1) % 6) CH sl CS pq cap fl len row W w L M ∧ h'.2 = h.2 := by
  have e0 : upH h (x + 69) (cRR 6 6 (gk x s 1)) = h := by
    refine Prod.ext (funext fun q => ?_) rfl
    show (if q = x + 69 then _ else h.1 q) = h.1 q
    split
    · next e =>
      rw [e, H.h1]
      have : gk x s 1 = hst x s := funext fun j => if_neg (by omega)
      rw [this]
    · rfl
  have key := drop_l (c := c) H (old := (0 + s) % 6) (by omega) 5 FU 1 (by decide) (by decide) (by decide)
  rw [e0, show ((1 : Nat) : Int) = 1 from rfl] at key
  refine ⟨_, ?_, HL_kept (HL_order (s' := (s + 1) % 6) H) 5, rfl⟩
  unfold fX0_dropOldest fX0_dropOldest_18
  simp only [iI_l]
  rw [rdR_e H.h0 rfl rfl, lenA_e H.h1, if_neg (show ¬ iI ((6 : Nat) : Int) = iI 0 by decide), rdR_e H.h0 rfl rfl, aldR_e H.h1 (by decide) (by decide) (by decide) (by decide) (by decide), show (0 : Int).toNat = 0 from rfl, hst_i x s (by decide), key]
  have : va_up (gk x s 6) 5 (some (x + 70 + 67 * ((0 + s) % 6))) = hst x ((s + 1) % 6) := by
    funext j
    unfold va_up
    by_cases e : j = 5
    · rw [if_pos e, e, hst_i x _ (by decide), show (5 + (s + 1) % 6) % 6 = (0 + s) % 6 by omega]
    · rw [if_neg e]; unfold gk
      by_cases e3 : j + 1 < 6
      · rw [if_pos e3, hst_i x s e3, hst_i x _ (by omega), show (j + 1 + s) % 6 = (j + (s + 1) % 6) % 6 by omega]
      · rw [if_neg e3]; unfold hst; rw [if_neg (by omega), if_neg (by omega)]
  rw [this]
theorem w_rem16 (H : HL fz x h C n s CH sl CS pq cap fl len row W w L M) (hs : s < 6) (hn : n ≤ 5) {D : Dt} (Q : CD fz C D) (G : RgI D) : ∃ h' C', fX0_remember_16 c h (some (x + 68)) (some (x + 1)) = some (h', none) ∧ HL fz x h' C (n + 1) s (fun j => if j = (n + s) % 6 then C' else CH j) sl CS pq cap fl len row W w L M ∧ h'.2 = h.2 ∧ CD fz C' D := by
  have hi : (n + s) % 6 < 6 := Nat.mod_lt _ (by decide)
  have HH := fun C' => HL_hist H hi C'
  obtain ⟨C', e, Q'⟩ := cp_state (c := c) (h := h) (fz := fz) (b := x + 70 + 67 * ((n + s) % 6)) (C := CH ((n + s) % 6)) (b2 := x + 1) (fun C' => (HH C').1.1) (fun C' => (HH C').2.1) Q G
  rw [At_S (H.h2 hi)] at e
  have H1 := HH C'
  refine ⟨_, C', ?_, HL_kept H1 (n + 1), rfl, Q'⟩
  have o : h.1 (x + 70 + 67 * ((n + s) % 6)) = some (.inr (6, fS (x + 70 + 67 * ((n + s) % 6)) (cF (CH ((n + s) % 6))))) := H.h2 hi 0 (by decide)
  unfold fX0_remember_16 fX0_remember_70
  simp only [iI_l]
  rw [rdI_e H.h0 rfl rfl, if_neg (show ¬ iI (n : Int) < iI 0 from (by rw [lt_i (by omega) (by omega) (by omega) (by omega)]; omega)), rdI_e H.h0 rfl rfl, rdR_e H.h0 rfl rfl, lenA_e H.h1, if_pos (show iI (n : Int) < iI ((6 : Nat) : Int) from (by rw [lt_i (by omega) (by omega) (by omega) (by omega)]; omega)), rdR_e H.h0 rfl rfl, rdI_e H.h0 rfl rfl, aldR_e H.h1 (by decide) (by decide) (by omega) (by omega) (by decide), Int.toNat_natCast, hst_i x s (by omega)]
  simp only [ifN]
  rw [rdR_e H.h0 rfl rfl, rdI_e H.h0 rfl rfl, aldR_e H.h1 (by decide) (by decide) (by omega) (by omega) (by decide), Int.toNat_natCast, hst_i x s (by omega), ck_e o rfl, e]
  simp only [cc_s, kV_n]
  rw [rdI_e H1.h0 rfl rfl, iI_add, wr_e (c := 2) (k := 0) (v := .inl (iI ((n : Int) + 1))) H1.h0 (by decide) (Nat.zero_lt_succ _) rfl]
  rfl
theorem w_remember (H : HL fz x h C n s CH sl CS pq cap fl len row W w L M) (R : RZ fz Z C n s CH sl CS cap len row) (G : RgI (zD Z)) : ∃ h' n' s' CH', fX0_remember c h (some (x + 68)) (some (x + 1)) = some (h', none) ∧ HL fz x h' C n' s' CH' sl CS pq cap fl len row W w L M ∧ RZ fz (zRec Z) C n' s' CH' sl CS cap len row ∧ h'.2 = h.2 := by
  obtain ⟨q, ⟨r1, r2, r3, r4⟩, r5, r6⟩ := R
  unfold fX0_remember
  rw [rdI_e H.h0 rfl rfl, rdR_e H.h0 rfl rfl, lenA_e H.h1]
  by_cases e6 : n = 6
  · obtain ⟨h1, e1, H1, s1⟩ := w_drop (c := c) H r3
    obtain ⟨h2, C', e2, H2, s2, Q'⟩ := w_rem16 (c := c) H1 (by omega) (by decide) q G
    rw [if_neg (show ¬ iI (n : Int) < iI ((6 : Nat) : Int) from (by rw [lt_i (by omega) (by omega) (by omega) (by omega)]; omega)), ck_e H.h0 rfl, e1]
    simp only [cc_s, kV_n]
    refine ⟨h2, 5 + 1, (s + 1) % 6, _, e2, H2, ?_, s2.trans s1⟩
    unfold zRec
    rw [if_pos (by omega)]
    refine ⟨q, ⟨rfl, by decide, by omega, fun k hk => ?_⟩, r5, r6⟩
    show CD fz (if (k + (s + 1) % 6) % 6 = (5 + (s + 1) % 6) % 6 then C' else CH ((k + (s + 1) % 6) % 6)) (if k = 5 then zD Z else zH Z (k + 1))
    by_cases ek : k = 5
    · rw [if_pos (by rw [ek]), if_pos ek]; exact Q'
    · rw [if_neg (by omega), if_neg ek, show (k + (s + 1) % 6) % 6 = (k + 1 + s) % 6 by omega]
      exact r4 (k + 1) (by omega)
  · obtain ⟨h2, C', e2, H2, s2, Q'⟩ := w_rem16 (c := c) H r3 (by omega) q G
    rw [if_pos (show iI (n : Int) < iI ((6 : Nat) : Int) from (by rw [lt_i (by omega) (by omega) (by omega) (by omega)]; omega))]
    refine ⟨h2, n + 1, s, _, e2, H2, ?_, s2⟩
    unfold zRec
    rw [if_neg (by omega)]
    refine ⟨q, ⟨by show n + 1 = zn Z + 1; omega, by omega, r3, fun k hk => ?_⟩, r5, r6⟩
    show CD fz (if (k + s) % 6 = (n + s) % 6 then C' else CH ((k + s) % 6)) (if k = zn Z then zD Z else zH Z k)
    by_cases ek : k = n
    · rw [if_pos (by rw [ek]), if_pos (by omega)]; exact Q'
    · rw [if_neg (by omega), if_neg (by omega)]
      exact r4 k (by omega)
theorem w_giveBack (H : HL fz x h C n s CH sl CS pq cap fl len row W w L M) (hs : s < 6) (h0 : 1 ≤ n) (h6 : n ≤ 6) {D : Dt} (Q : CD fz (CH ((n - 1 + s) % 6)) D) (G : RgI D) : ∃ h' C', fX0_giveBack c h (some (x + 68)) (some (x + 1)) = some (h', none) ∧ HL fz x h' C' (n - 1) s CH sl CS pq cap fl len row W w L M ∧ h'.2 = h.2 ∧ CD fz C' D := by
  have hi : (n - 1 + s) % 6 < 6 := Nat.mod_lt _ (by decide)
  have HH := fun C' => HL_now H C'
  obtain ⟨C', e, Q'⟩ := cp_state (c := c) (h := h) (fz := fz) (b := x + 1) (C := C) (b2 := x + 70 + 67 * ((n - 1 + s) % 6)) (fun C' => (HH C').1.1) (fun C' => (HH C').h2 hi) Q G
  rw [H.st] at e
  have H1 := HH C'
  refine ⟨_, C', ?_, HL_kept H1 (n - 1), rfl, Q'⟩
  have o : h.1 (x + 1) = some (.inr (6, fS (x + 1) (cF C))) := H.2.1 0 (by decide)
  unfold fX0_giveBack fX0_giveBack_44
  simp only [iI_l]
  rw [rdI_e H.h0 rfl rfl]
  simp only [iI_sub]
  rw [if_neg (show ¬ iI ((n : Int) - 1) < iI 0 from (by rw [lt_i (by omega) (by omega) (by omega) (by omega)]; omega)), rdR_e H.h0 rfl rfl, lenA_e H.h1, if_pos (show iI ((n : Int) - 1) < iI ((6 : Nat) : Int) from (by rw [lt_i (by omega) (by omega) (by omega) (by omega)]; omega)), rdR_e H.h0 rfl rfl, aldR_e H.h1 (by decide) (by decide) (by omega) (by omega) (by decide), show ((n : Int) - 1).toNat = n - 1 by omega, hst_i x s (by omega)]
  simp only [ifN]
  rw [rdR_e H.h0 rfl rfl, aldR_e H.h1 (by decide) (by decide) (by omega) (by omega) (by decide), show ((n : Int) - 1).toNat = n - 1 by omega, hst_i x s (by omega), ck_e o rfl, e]
  simp only [cc_s, kV_n]
  rw [wr_e (c := 2) (k := 0) (v := .inl (iI ((n : Int) - 1))) H1.h0 (by decide) (Nat.zero_lt_succ _) rfl, show (n : Int) - 1 = ((n - 1 : Nat) : Int) by omega]
  rfl
end
