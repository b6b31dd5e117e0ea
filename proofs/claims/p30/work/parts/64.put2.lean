/-! THE CLASS'S CALLS: put -/
theorem pcL_no {u : Nat} : ∀ (m k : Nat), (pcL u k m false).2 = false
  | 0, _ => rfl
  | m + 1, k => by
    rw [pcL]
    split
    · rfl
    · exact pcL_no m (k + 1)
section
variable {c : Nat → Option Nat} {fz : Nat → Option Cl} {x : Nat} {h h' : Hp} {Z : Zt} {C : Ct} {k s : Nat} {CH : Nat → Ct} {sl : Nat → Option Nat} {CS : Nat → Ct} {pq cap : Nat} {fl : Int32} {len : Nat} {row : Nat → Int32} {W w : Int} {L : Ly} {M : Nat → Nat → Int} {n : Int}
theorem x_shr {u q : Nat} (hu : u < 2 ^ 64) (hq : q < 8) : ushrL (lL u) (iI 8 * iI (q : Int)) = lL (u / 2 ^ (8 * q)) := by
  rw [iI_mul, show (8 * (q : Int)) = ((8 * q : Nat) : Int) by omega, lL_shr hu (by omega)]
theorem x_codeAt {u q : Nat} (hu : u < 2 ^ 64) (hq : q < 8) : fX5_codeAt c h (lL u) (iI (q : Int)) = some (h, some (.inl (iI (byP u q : Int)))) := by
  unfold fX5_codeAt
  simp only [iI_l, lL_255]
  rw [x_shr hu hq, lL_and, lL_int (by omega)]
  rfl
theorem byP_lt (u q : Nat) : byP u q < 256 := Nat.mod_lt _ (by decide)
theorem x_len_l {u : Nat} (hu : u < 2 ^ 64) : ∀ (m fu q : Nat), m < fu → q + m = 8 → fX5_lengthOf_2 c fu h (lL u) (iI (q : Int)) = some (h, some (.inl (iI ((if (pcL u q m true).2 ≠ true ∨ u / 2 ^ (8 * (pcL u q m true).1) ≠ 0 then 0 else (pcL u q m true).1 : Nat) : Int)))) := by
  intro m
  induction m with
  | zero =>
    intro fu q hf hk
    obtain ⟨f, rfl⟩ : ∃ f, fu = f + 1 := ⟨fu - 1, by omega⟩
    have e8 : q = 8 := by omega
    subst e8
    unfold fX5_lengthOf_2 fX5_lengthOf_42 fX5_lengthOf_63 fX5_lengthOf_64 fX5_lengthOf_74
    simp only [iI_l]
    rw [if_neg (show ¬ iI ((8 : Nat) : Int) < iI 8 by decide), if_neg (show ¬ iI ((8 : Nat) : Int) < iI 8 by decide), if_pos trivial, pcL]
    have : u / 2 ^ (8 * 8) = 0 := Nat.div_eq_of_lt hu
    rw [if_neg (by simp [this])]
  | succ m ih =>
    intro fu q hf hk
    obtain ⟨f, rfl⟩ : ∃ f, fu = f + 1 := ⟨fu - 1, by omega⟩
    have b := byP_lt u q
    unfold fX5_lengthOf_2 fX5_lengthOf_42 fX5_lengthOf_63 fX5_lengthOf_64 fX5_lengthOf_74 fX5_lengthOf_34
    simp only [iI_l, lL_0]
    rw [if_pos (show iI (q : Int) < iI 8 from (by rw [lt_i (by omega) (by omega) (by omega) (by omega)]; omega)), x_codeAt hu (by omega)]
    simp only [cc_s, kI_i]
    rw [pcL]
    by_cases e0 : byP u q = 0
    · rw [if_pos (show iI (byP u q : Int) = iI 0 by rw [e0]; rfl), if_pos e0, if_pos (show iI (q : Int) < iI 8 from (by rw [lt_i (by omega) (by omega) (by omega) (by omega)]; omega)), x_shr hu (by omega)]
      have d64 : u / 2 ^ (8 * q) < 2 ^ 64 := Nat.lt_of_le_of_lt (Nat.div_le_self _ _) hu
      by_cases e1 : u / 2 ^ (8 * q) = 0
      · rw [if_pos (by rw [lL_cmp d64]; exact e1), if_pos trivial, if_neg (by simp [e1])]
      · rw [if_neg (by rw [lL_cmp d64]; exact e1), if_neg (show ¬ iI 1 = iI 0 by decide), if_pos (Or.inr e1)]
        rfl
    · rw [if_neg (show ¬ iI (byP u q : Int) = iI 0 from (by rw [eq_i (by omega) (by omega) (by omega) (by omega)]; omega)), if_neg e0, x_codeAt hu (by omega)]
      simp only [cc_s, kI_i]
      by_cases e1 : byP u q < 33
      · rw [if_pos (show iI (byP u q : Int) < iI 33 from (by rw [lt_i (by omega) (by omega) (by omega) (by omega)]; omega)), decide_eq_false (show ¬ (33 ≤ byP u q ∧ byP u q ≤ 126) by omega), Bool.and_false, if_pos (Or.inl (by rw [pcL_no]; decide))]
        rfl
      · rw [if_neg (show ¬ iI (byP u q : Int) < iI 33 from (by rw [lt_i (by omega) (by omega) (by omega) (by omega)]; omega))]
        by_cases e2 : 126 < byP u q
        · rw [if_pos (show iI 126 < iI (byP u q : Int) from (by rw [lt_i (by omega) (by omega) (by omega) (by omega)]; omega)), decide_eq_false (show ¬ (33 ≤ byP u q ∧ byP u q ≤ 126) by omega), Bool.and_false, if_pos (Or.inl (by rw [pcL_no]; decide))]
          rfl
        · rw [if_neg (show ¬ iI 126 < iI (byP u q : Int) from (by rw [lt_i (by omega) (by omega) (by omega) (by omega)]; omega)), decide_eq_true (show 33 ≤ byP u q ∧ byP u q ≤ 126 by omega), Bool.and_true, iI_add, iI_k1, ih f (q + 1) (by omega) (by omega)]
theorem x_put_l {u : Nat} (hu : u < 2 ^ 64) : ∀ (m fu : Nat) (h : Hp) (pq cap len : Nat) (row : Nat → Int32), HL fz x h C k s CH sl CS pq cap fl len row W w L M → m < fu → m ≤ 8 → (∀ j, j < m → 33 ≤ byP u j ∧ byP u j ≤ 126) → len ≤ cap → cap ≤ 1000 → len + m ≤ 80 → (∀ j, byI (row j) = row j) → ∃ h' pq' cap' row', fX5_put_35 c fu h (some x) (lL u) (iI ((m : Int) - 1)) = some (h', some (.inl (iI ((len + m : Nat) : Int)))) ∧ HL fz x h' C k s CH sl CS pq' cap' fl (len + m) row' W w L M ∧ len + m ≤ cap' ∧ cap' ≤ 1000 ∧ (∀ j, j < len + m → row' j = if len ≤ j then iI (byP u (m - 1 - (j - len)) : Int) else row j) ∧ (∀ j, byI (row' j) = row' j) ∧ h.2.1 ≤ h'.2.1 ∧ h'.2.1 ≤ h.2.1 + m ∧ h'.2.2 ≤ h.2.2 + 1000 * m := by
  intro m
  induction m with
  | zero =>
    intro fu h pq cap len row H hf hm ok hc hc2 hl hb
    obtain ⟨f, rfl⟩ : ∃ f, fu = f + 1 := ⟨fu - 1, by omega⟩
    have pl := p_len (c := c) H
    refine ⟨h, pq, cap, row, ?_, H, hc, hc2, fun j hj => by rw [if_neg (by omega)], hb, Nat.le_refl _, Nat.le_refl _, Nat.le_refl _⟩
    unfold fX5_put_35
    simp only [iI_l]
    rw [if_pos (show iI (((0 : Nat) : Int) - 1) < iI 0 by decide), H.r3, ck_e H.p0 rfl, pl]
    simp only [cc_s, kI_i]
    rfl
  | succ m ih =>
    intro fu h pq cap len row H hf hm ok hc hc2 hl hb
    obtain ⟨f, rfl⟩ : ∃ f, fu = f + 1 := ⟨fu - 1, by omega⟩
    have o := ok m (by omega)
    obtain ⟨h1, pq1, cap1, row1, e1, H1, k1, k2, k3, k4, k5, k6, k7⟩ := p_append (c := c) H hc hc2 (by omega) hb (v := (byP u m : Int)) (by omega) (by omega)
    obtain ⟨h2, pq2, cap2, row2, e2, H2, l1, l2, l3, l4, l5, l6, l7⟩ := ih f h1 pq1 cap1 (len + 1) row1 H1 (by omega) (by omega) (fun j hj => ok j (by omega)) k1 k2 (by omega) k4
    rw [show len + 1 + m = len + (m + 1) by omega] at e2 H2 l1 l3
    refine ⟨h2, pq2, cap2, row2, ?_, H2, l1, l2, fun j hj => ?_, l4, by omega, by omega, by omega⟩
    · unfold fX5_put_35
      simp only [iI_l, iI_neg]
      rw [if_neg (show ¬ iI (((m + 1 : Nat) : Int) - 1) < iI 0 from (by rw [lt_i (by omega) (by omega) (by omega) (by omega)]; omega)), H.r3, show (((m + 1 : Nat) : Int) - 1) = (m : Int) by omega, x_codeAt hu (by omega)]
      simp only [cc_s, kI_i]
      rw [ck_e H.p0 rfl, (ch_i (show (0 : Int) ≤ (byP u m : Int) by omega) (by omega)).1, e1]
      simp only [cc_s, kR_r, iI_add]
      rw [show (m : Int) + -1 = (m : Int) - 1 by omega, e2]
    · rw [l3 j hj]
      by_cases ej : len + 1 ≤ j
      · rw [if_pos ej, if_pos (by omega), show m - 1 - (j - (len + 1)) = m + 1 - 1 - (j - len) by omega]
      · rw [if_neg ej, k3 j (by omega)]
        by_cases ej2 : j = len
        · rw [if_pos ej2, if_pos (by omega), show m + 1 - 1 - (j - len) = m by omega]
        · rw [if_neg ej2, if_neg (by omega)]
theorem x_put (K : Kon c fz) (X : WX fz x Z M h) (I : ZI n Z) {u : Nat} (hu : u < 2 ^ 64) : Rb (1000 * (pcI u).1) c fz x M h (fX5_put c h (some x) (lL u)) (rPut Z u) (zPut Z u) := by
  have X' := X
  obtain ⟨C, k, s, CH, sl, CS, pq, cap, fl, len, row, W, w, L, H, R⟩ := X
  have pl := p_len (c := c) H
  have key := x_len_l (c := c) (h := h) hu 8 FU 0 (by decide) (by decide)
  rw [show ((0 : Nat) : Int) = 0 from rfl] at key
  have p8 := pcL_le (u := u) 8 0 true
  have ek : pcL u 0 8 true = pcI u := rfl
  rw [ek] at key p8
  obtain ⟨r0, r1, r2, r3, r4, r5, r6, r7⟩ := R
  unfold fX5_put fX5_lengthOf rPut zPut
  simp only [iI_l, iI_neg]
  rw [key]
  simp only [cc_s, kI_i]
  by_cases e0 : (pcI u).1 = 0 ∨ (pcI u).2 ≠ true ∨ u / 2 ^ (8 * (pcI u).1) ≠ 0
  · rw [if_pos e0, if_pos e0]
    have z : (if (pcI u).2 ≠ true ∨ u / 2 ^ (8 * (pcI u).1) ≠ 0 then 0 else (pcI u).1) = 0 := by
      split
      · rfl
      · next h => rcases e0 with h1 | h1; exact h1; exact absurd h1 h
    rw [z, if_pos (show iI ((0 : Nat) : Int) < iI 1 by decide)]
    exact Rb_same K X' rfl
  · have e1 : ¬ ((pcI u).2 ≠ true ∨ u / 2 ^ (8 * (pcI u).1) ≠ 0) := fun h => e0 (Or.inr h)
    have e2 : (pcI u).1 ≠ 0 := fun h => e0 (Or.inl h)
    rw [if_neg e0, if_neg e0, if_neg e1, if_neg (show ¬ iI ((pcI u).1 : Int) < iI 1 from (by rw [lt_i (by omega) (by omega) (by omega) (by omega)]; omega)), H.r3, ck_e H.p0 rfl, pl]
    simp only [cc_s, kI_i, iI_add, iI_sub]
    have l80 := I.2.2.1
    by_cases e3 : 80 < zl Z + (pcI u).1
    · rw [if_pos (show iI 80 < iI ((len : Int) + (pcI u).1) from (by rw [lt_i (by omega) (by omega) (by omega) (by omega)]; omega)), if_pos e3, if_pos e3]
      exact Rb_same K X' rfl
    · have ok := (pcL_ok (u := u) 8 0 true (by
        by_cases e : (pcI u).2 = true
        · exact e
        · exact absurd (Or.inl e) e1)).2
      obtain ⟨h1, pq1, cap1, row1, p1, H1, l1, l2, l3, l4, l5, l6, l7⟩ := x_put_l (c := c) hu (pcI u).1 FU h pq cap len row H (by unfold FU; omega) (by omega) (fun j hj => ok j (Nat.zero_le j) hj) r4 r5 (by omega) r7
      rw [if_neg (show ¬ iI 80 < iI ((len : Int) + (pcI u).1) from (by rw [lt_i (by omega) (by omega) (by omega) (by omega)]; omega)), if_neg e3, if_neg e3, p1]
      refine ⟨h1, fz, ?_, ⟨C, k, s, CH, sl, CS, pq1, cap1, fl, len + (pcI u).1, row1, W, w, L, H1, ⟨r0, r1, r2, ?_, l1, l2, fun j hj => ?_, l4⟩⟩, ⟨K, fun _ _ e => e⟩, l5, by omega, by omega⟩
      · rw [r3, show ((zl Z + (pcI u).1 : Nat) : Int) = (zl Z : Int) + (pcI u).1 by omega]
      · show len + (pcI u).1 = zl Z + (pcI u).1; rw [r3]
      · rw [l3 j hj]
        show _ = iI (putP Z u (pcI u).1 j)
        unfold putP
        by_cases ej : len ≤ j
        · rw [if_pos ej, if_pos (by omega), r3]
        · rw [if_neg ej, if_neg (by omega), r6 j (by omega)]
end
