/-! THE CLASS'S CALLS: save -/
section
variable {c : Nat → Option Nat} {fz : Nat → Option Cl} {x : Nat} {h h' h2 : Hp} {Z : Zt} {C : Ct} {k s : Nat} {CH : Nat → Ct} {sl : Nat → Option Nat} {CS : Nat → Ct} {pq cap : Nat} {fl : Int32} {len : Nat} {row : Nat → Int32} {W w : Int} {L : Ly} {M : Nat → Nat → Int} {n : Int}
theorem HL_slot (H : HL fz x h C k s CH sl CS pq cap fl len row W w L M) (hA : ∀ a, a < h.2.1 → h2.1 a = h.1 a) (hN : h2.2.1 = h.2.1 + 67) (hAt : At h2 h.2.1 67 (sC h.2.1 C0)) {i : Nat} (hi : i < 2) : HL fz x (upH h2 (x + 472) (cRR 6 2 (va_up sl i (some h.2.1)))) C k s CH (va_up sl i (some h.2.1)) (fun j => if j = i then C0 else CS j) pq cap fl len row W w L M := by
  have Hn := HL_new (h' := h2) H (show h.2.1 ≤ h2.2.1 by omega) hA rfl
  obtain ⟨f1, f2, f3, f4, f5, f6, f7, f8, f9, f10, f11, f12, f13, f14⟩ := HL_fr (h' := upH h2 (x + 472) (cRR 6 2 (va_up sl i (some h.2.1)))) (lo := x + 472) (hi := x + 472 + 1) Hn upH_A (Nat.le_refl _)
  have dz := HL_in (lo := x + 472) (hi := x + 472 + 1) Hn (by omega) (by omega)
  obtain ⟨⟨a1, a2, a3, a4⟩, b, ⟨c1, c2, c3⟩, ⟨d1, d2, d3⟩, ⟨e1, e2, e3, e4, e5, e6⟩, g1, g2⟩ := H
  refine ⟨⟨f1 dz, f2, a3, f3⟩, f4 (by omega), ⟨f5 (by omega), f6 (by omega), fun i hi => f7 i hi (by omega)⟩, ⟨upH_at, fun j q hj hq => ?_, fun q0 q1 h0 h1 => ?_⟩, ⟨f10 (by omega), f11 (by omega), e3, f12, e5, fun j q hj hq => ?_⟩, f13 (by omega), f14 (by omega)⟩
  · unfold va_up at hq
    show x + 477 ≤ q ∧ q + 67 ≤ h2.2.1 ∧ (∀ k, k < 67 → fz (q + k) = none) ∧ At _ q 67 (sC q (if j = i then C0 else CS j))
    by_cases e : j = i
    · rw [if_pos e] at hq
      cases hq
      rw [if_pos e]
      refine ⟨a4, by omega, fun k hk => ?_, hAt.fr (fun q p1 p2 => upH_A (h := h2) (b := x + 472) q (by omega) (by omega))⟩
      cases hz : fz (h.2.1 + k) with
      | none => rfl
      | some e => have := (a2 _ e hz).1; omega
    · rw [if_neg e] at hq
      rw [if_neg e]
      exact ⟨(f9 j q hj hq).1, (f9 j q hj hq).2.1, (d2 j q hj hq).2.2.1, (f9 j q hj hq).2.2 (by have := (f9 j q hj hq).1; omega)⟩
  · unfold va_up at h0 h1
    rcases (show i = 0 ∨ i = 1 by omega) with rfl | rfl
    · rw [if_pos rfl] at h0
      rw [if_neg (by decide)] at h1
      cases h0
      have := (d2 1 q1 (by decide) h1).2.1
      exact Or.inr this
    · rw [if_neg (by decide)] at h0
      rw [if_pos rfl] at h1
      cases h1
      have := (d2 0 q0 (by decide) h0).2.1
      exact Or.inl this
  · unfold va_up at hq
    by_cases e : j = i
    · rw [if_pos e] at hq
      cases hq
      exact Or.inl e4
    · rw [if_neg e] at hq
      exact e6 j q hj hq
end
