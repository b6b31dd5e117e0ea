/-! THE CLASS'S CALLS: save -/
section
variable {c : Nat → Option Nat} {fz : Nat → Option Cl} {x : Nat} {h h' h2 : Hp} {Z : Zt} {C : Ct} {k s : Nat} {CH : Nat → Ct} {sl : Nat → Option Nat} {CS : Nat → Ct} {pq cap : Nat} {fl : Int32} {len : Nat} {row : Nat → Int32} {W w : Int} {L : Ly} {M : Nat → Nat → Int} {n : Int}
theorem HL_slot (H : HL fz x h C k s CH sl CS pq cap fl len row W w L M) (hA : ∀ a, a < h.2.1 → h2.1 a = h.1 a) (hN : h2.2.1 = h.2.1 + 67) (hAt : At h2 h.2.1 67 (sC h.2.1 C0)) {i : Nat} (hi : i < 2) : HL fz x (upH h2 (x + 472) (cRR 6 2 (va_up sl i (some h.2.1)))) C k s CH (va_up sl i (some h.2.1)) (fun j => if j = i then C0 else CS j) pq cap fl len row W w L M := by
  have Hn := HL_new (h' := h2) H (show h.2.1 ≤ h2.2.1 by omega) hA rfl
  obtain ⟨f1, f2, f3, f4, f5, f6, f7, f8, f9, f10, f11, f12, f13, f14⟩ := HL_fr (h' := upH h2 (x + 472) (cRR 6 2 (va_up sl i (some h.2.1)))) (lo := x + 472) (hi := x + 472 + 1) Hn upH_A (Nat.le_refl _)
  have dz := HL_in (lo := x + 472) (hi := x + 472 + 1) Hn (by omega) (by omega)
  obtain ⟨⟨a1, a2, a3, a4⟩, b, ⟨c1, c2, c3⟩, ⟨d1, d2, d3⟩, ⟨e1, e2, e3, e4, e5, e6⟩, g1, g2⟩ := H
  refine ⟨⟨f1 dz, f2, a3, f3⟩, f4 (by omega), ⟨f5 (by omega), f6 (by omega), fun i hi => f7 i hi (by omega)⟩, ⟨upH_at, fun j q hj hq => ?_, fun q0 q1 h0 h1 => ?_⟩, ⟨f10 (by omega), f11 (by omega), e3, f12, e5, fun j q hj hq => ?_⟩, f13 (by omega), f14 (by omega)⟩
  · unfold va_up at hq
    show x + 485 ≤ q ∧ q + 67 ≤ h2.2.1 ∧ (∀ k, k < 67 → fz (q + k) = none) ∧ At _ q 67 (sC q (if j = i then C0 else CS j))
    by_cases e : j = i
    · rw [if_pos e] at hq
      cases hq
      rw [if_pos e]
      refine ⟨a4, by omega, fun k hk => ?_, hAt.fr (fun q p1 p2 => upH_A (h := h2) (b := x + 472) q (by omega) (by omega))⟩
      cases hz : fz (h.2.1 + k) with
      | none => rfl
      | some e => have := (a2 _ e hz).1; omega
    · rw [if_neg e] at hq
      rw [if_neg e]
      exact ⟨(f9 j q hj hq).1, (f9 j q hj hq).2.1, (d2 j q hj hq).2.2.1, (f9 j q hj hq).2.2 (by have := (f9 j q hj hq).1; omega)⟩
  · unfold va_up at h0 h1
    rcases (show i = 0 ∨ i = 1 by omega) with rfl | rfl
    · rw [if_pos rfl] at h0
      rw [if_neg (by decide)] at h1
      cases h0
      have := (d2 1 q1 (by decide) h1).2.1
      exact Or.inr this
    · rw [if_neg (by decide)] at h0
      rw [if_pos rfl] at h1
      cases h1
      have := (d2 0 q0 (by decide) h0).2.1
      exact Or.inl this
  · unfold va_up at hq
    by_cases e : j = i
    · rw [if_pos e] at hq
      cases hq
      exact Or.inl e4
    · rw [if_neg e] at hq
      exact e6 j q hj hq
theorem x_save_38 (K : Kon c fz) (H : HL fz x h C k s CH sl CS pq cap fl len row W w L M) (Q : CD fz C (zD Z)) (G : RgI (zD Z)) {i q : Nat} (hi : i < 2) (hq : sl i = some q) : ∃ C', fX5_save_38 c h (some x) (iI (i : Int)) = some (hS h q C', some (.inl (iI (gT (zD Z) 4)))) ∧ CD fz C' (zD Z) ∧ HL fz x (hS h q C') C k s CH sl (fun j => if j = i then C' else CS j) pq cap fl len row W w L M := by
  have HH := fun C' => HL_saved H hi hq C'
  have d2 := (H.2.2.2.1.2.1 i q hi hq).2.2.2
  obtain ⟨C', e5, Q'⟩ := cp_state (c := c) (h := h) (fz := fz) (b := q) (C := CS i) (b2 := x + 1) (C2 := C) (fun C' => (HH C').1.1) (fun C' => (HH C').2.1) Q G
  rw [At_S d2] at e5
  have o : h.1 q = some (.inr (6, fS q (cF (CS i)))) := d2 0 (by decide)
  have d1 := H.2.2.2.1.1
  have H2 := HH C'
  have c6 : cF C 6 = gT (zD Z) 4 := CD_F Q 6 (by decide)
  refine ⟨C', ?_, Q', H2⟩
  unfold fX5_save_38
  rw [H.r2, aldR_e d1 (by decide) (by decide) (by omega) (by omega) (by decide), Int.toNat_natCast, hq, H.r0, ck_e o rfl, e5]
  simp only [cc_s, kV_n]
  rw [H2.r0, H2.rS (by decide), c6]
theorem x_save (K : Kon c fz) (X : WX fz x Z M h) (I : ZI n Z) {y : Int} (hy : ag y) : Rz c fz x M h (fX5_save c h (some x) (iI y)) (rSav (zD Z) y) (zSav Z y) := by
  have X' := X
  obtain ⟨C, k, s, CH, sl, CS, pq, cap, fl, len, row, W, w, L, H, R⟩ := X
  unfold ag at hy
  have d1 := H.2.2.2.1.1
  have G := I.1.1.ok.1
  unfold fX5_save fX5_save_13 rSav zSav
  simp only [iI_l, iI_neg]
  by_cases e0 : y < 0
  · rw [if_pos (show iI y < iI 0 from (by rw [lt_i (by omega) (by omega) (by omega) (by omega)]; omega)), if_neg (show ¬ (0 ≤ y ∧ y ≤ 1) by omega), if_neg (show ¬ (0 ≤ y ∧ y ≤ 1) by omega)]
    exact Rz_same K X' rfl
  rw [if_neg (show ¬ iI y < iI 0 from (by rw [lt_i (by omega) (by omega) (by omega) (by omega)]; omega)), H.r2, lenA_e d1]
  by_cases e1 : y ≤ 1
  · obtain ⟨i, rfl⟩ : ∃ i : Nat, y = i := ⟨y.toNat, by omega⟩
    have hi : i < 2 := by omega
    obtain ⟨r0, r1, r2, r3⟩ := R
    rw [if_pos (show iI (i : Int) < iI ((2 : Nat) : Int) from (by rw [lt_i (by omega) (by omega) (by omega) (by omega)]; omega)), if_pos (show 0 ≤ (i : Int) ∧ (i : Int) ≤ 1 by omega), if_pos (show 0 ≤ (i : Int) ∧ (i : Int) ≤ 1 by omega), H.r2, aldR_e d1 (by decide) (by decide) (by omega) (by omega) (by decide), Int.toNat_natCast]
    have fin : ∀ {h3 : Hp} {sl' : Nat → Option Nat} {CS' : Nat → Ct} {q : Nat}, HL fz x h3 C k s CH sl' CS' pq cap fl len row W w L M → sl' i = some q → (∀ j, j < 2 → j ≠ i → sl' j = sl j ∧ CS' j = CS j) → h.2.1 ≤ h3.2.1 → h3.2.1 ≤ h.2.1 + 100 → h3.2.2 ≤ h.2.2 + 10000 → Rz c fz x M h (fX5_save_38 c h3 (some x) (iI (i : Int))) (gT (zD Z) 4) (Z.1, Z.2.1, Z.2.2.1, (fun j => if j = i then true else zh Z j), (fun j => if j = i then zD Z else zS Z j), Z.2.2.2.2.2) := by
      intro h3 sl' CS' q H3 hq ho b1 b2 b3
      obtain ⟨C', e4, Q4, H4⟩ := x_save_38 K H3 (Z := Z) r0 G hi hq
      refine ⟨_, fz, e4, ⟨C, k, s, CH, sl', _, pq, cap, fl, len, row, W, w, L, H4, ⟨r0, r1, fun j hj => ?_, r3⟩⟩, ⟨K, fun _ _ e => e⟩, b1, b2, b3⟩
      show ((if j = i then true else zh Z j) = true → ∃ q, sl' j = some q) ∧ ((if j = i then true else zh Z j) ≠ true → sl' j = none) ∧ ((if j = i then true else zh Z j) = true → CD fz (if j = i then C' else CS' j) (if j = i then zD Z else zS Z j))
      by_cases e : j = i
      · rw [if_pos e, if_pos e, if_pos e, e]
        exact ⟨fun _ => ⟨q, hq⟩, fun h => absurd rfl h, fun _ => Q4⟩
      · rw [if_neg e, if_neg e, if_neg e, (ho j hj e).1, (ho j hj e).2]
        exact r2 j hj
    cases hs : sl i with
    | none =>
      have hst := i_state (c := c) (h := h)
      have hA : ∀ a, a < h.2.1 → (hB h h.2.1 67 (sC h.2.1 C0) (h.2.2 + 1087)).1 a = h.1 a := fun a ha => hB_lo ha
      have hAt : At (hB h h.2.1 67 (sC h.2.1 C0) (h.2.2 + 1087)) h.2.1 67 (sC h.2.1 C0) := fun k hk => hB_at hk
      have H3 := HL_slot H hA rfl hAt hi
      have d1' : (hB h h.2.1 67 (sC h.2.1 C0) (h.2.2 + 1087)).1 (x + 472) = some (cRR 6 2 sl) := (hA _ (by have := H.1.2.2.2; omega)).trans d1
      simp only [ifN]
      unfold nwO
      rw [show nmC 6 = 13 from rfl, H.r2]
      simp only [dn]
      rw [hst]
      simp only [cc_s, kV_n]
      rw [astR_e d1' (by decide) (by decide) (by omega) (by omega) (by decide) (isEl_o (show (hB h h.2.1 67 (sC h.2.1 C0) (h.2.2 + 1087)).1 h.2.1 = some (.inr (6, fS h.2.1 (cF C0))) from hAt 0 (by decide)) rfl), Int.toNat_natCast]
      exact fin H3 (by unfold va_up; exact if_pos rfl) (fun j hj e => ⟨by unfold va_up; exact if_neg e, if_neg e⟩) (by show h.2.1 ≤ h.2.1 + 67; omega) (by show h.2.1 + 67 ≤ _; omega) (by show h.2.2 + 1087 ≤ _; omega)
    | some q =>
      simp only [ifN]
      exact fin H hs (fun j _ _ => ⟨rfl, rfl⟩) (Nat.le_refl _) (by omega) (by omega)
  · rw [if_neg (show ¬ iI y < iI ((2 : Nat) : Int) from (by rw [lt_i (by omega) (by omega) (by omega) (by omega)]; omega)), if_neg (show ¬ (0 ≤ y ∧ y ≤ 1) by omega), if_neg (show ¬ (0 ≤ y ∧ y ≤ 1) by omega)]
    exact Rz_same K X' rfl
end
