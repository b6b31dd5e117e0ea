/-! THE WHOLE HEAP: where everything is -/
def rfC (q : Nat) : AV := .inr (.inr (some q))
/-- the states that are kept, in their order -/
def hst (x s : Nat) : Nat → Option Nat := fun i => if i < 6 then some (x + 70 + 67 * ((i + s) % 6)) else none
def cRR (k n : Nat) (g : Nat → Option Nat) : Cl := .inl (k, n, .inr (.inr (.inr (.inr g))))
def cHi (x n : Nat) : Cl := .inr (2, [.inl (iI (n : Int)), rfC (x + 69)])
def cSB (pq : Nat) (fl : Int32) (len : Nat) : Cl := .inr (1, [rfC pq, .inl (iI 0), .inl fl, .inl (iI (len : Int))])
def HL (fz : Nat → Option Cl) (x : Nat) (h : Hp) (C : Ct) (n s : Nat) (CH : Nat → Ct) (sl : Nat → Option Nat) (CS : Nat → Ct) (pq cap : Nat) (fl : Int32) (len : Nat) (row : Nat → Int32) (W w : Int) (L : Ly) (M : Nat → Nat → Int) : Prop :=
  (FZ h fz ∧ (∀ q e, fz q = some e → q < h.2.1 ∧ (q ≤ x ∨ x + 477 ≤ q)) ∧ fz x = some (.inr (7, [rfC (x + 1), rfC (x + 68), rfC (x + 472), rfC (x + 473), rfC (x + 475)])) ∧ x + 477 ≤ h.2.1) ∧
  At h (x + 1) 67 (sC (x + 1) C) ∧
  (h.1 (x + 68) = some (cHi x n) ∧ h.1 (x + 69) = some (cRR 6 6 (hst x s)) ∧ ∀ i, i < 6 → At h (x + 70 + 67 * i) 67 (sC (x + 70 + 67 * i) (CH i))) ∧
  (h.1 (x + 472) = some (cRR 6 2 sl) ∧ (∀ i q, i < 2 → sl i = some q → x + 477 ≤ q ∧ q + 67 ≤ h.2.1 ∧ (∀ k, k < 67 → fz (q + k) = none) ∧ At h q 67 (sC q (CS i))) ∧ ∀ q0 q1, sl 0 = some q0 → sl 1 = some q1 → q0 + 67 ≤ q1 ∨ q1 + 67 ≤ q0) ∧
  (h.1 (x + 473) = some (cSB pq fl len) ∧ h.1 pq = some (.inl (1, cap, .inl row)) ∧ (pq = x + 474 ∨ x + 477 ≤ pq) ∧ pq < h.2.1 ∧ fz pq = none ∧ ∀ i q, i < 2 → sl i = some q → pq < q ∨ q + 67 ≤ pq) ∧
  At h (x + 475) 2 (tC (x + 475) W w L) ∧ At h (x + 477) 0 (mC (x + 477) M)
section
variable {fz : Nat → Option Cl} {x : Nat} {h h' : Hp} {C : Ct} {n s : Nat} {CH : Nat → Ct} {sl : Nat → Option Nat} {CS : Nat → Ct} {pq cap : Nat} {fl : Int32} {len : Nat} {row : Nat → Int32} {W w : Int} {L : Ly} {M : Nat → Nat → Int}
theorem HL_fr (H : HL fz x h C n s CH sl CS pq cap fl len row W w L M) {lo hi : Nat} (A : ∀ q, q < lo ∨ hi ≤ q → q < h.2.1 → h'.1 q = h.1 q) (S : h.2.1 ≤ h'.2.1) :
    ((∀ q e, fz q = some e → q < lo ∨ hi ≤ q) → FZ h' fz) ∧ (∀ q e, fz q = some e → q < h'.2.1 ∧ (q ≤ x ∨ x + 477 ≤ q)) ∧ x + 477 ≤ h'.2.1 ∧
    (x + 68 ≤ lo ∨ hi ≤ x + 1 → At h' (x + 1) 67 (sC (x + 1) C)) ∧ (x + 68 < lo ∨ hi ≤ x + 68 → h'.1 (x + 68) = some (cHi x n)) ∧ (x + 69 < lo ∨ hi ≤ x + 69 → h'.1 (x + 69) = some (cRR 6 6 (hst x s))) ∧
    (∀ i, i < 6 → x + 70 + 67 * i + 67 ≤ lo ∨ hi ≤ x + 70 + 67 * i → At h' (x + 70 + 67 * i) 67 (sC (x + 70 + 67 * i) (CH i))) ∧ (x + 472 < lo ∨ hi ≤ x + 472 → h'.1 (x + 472) = some (cRR 6 2 sl)) ∧
    (∀ i q, i < 2 → sl i = some q → x + 477 ≤ q ∧ q + 67 ≤ h'.2.1 ∧ (q + 67 ≤ lo ∨ hi ≤ q → At h' q 67 (sC q (CS i)))) ∧ (x + 473 < lo ∨ hi ≤ x + 473 → h'.1 (x + 473) = some (cSB pq fl len)) ∧ (pq < lo ∨ hi ≤ pq → h'.1 pq = some (.inl (1, cap, .inl row))) ∧ pq < h'.2.1 ∧
    (x + 477 ≤ lo ∨ hi ≤ x + 475 → At h' (x + 475) 2 (tC (x + 475) W w L)) ∧ (x + 477 ≤ lo ∨ hi ≤ x + 477 → At h' (x + 477) 0 (mC (x + 477) M)) := by
  obtain ⟨⟨a1, a2, a3, a4⟩, b, ⟨c1, c2, c3⟩, ⟨d1, d2, d3⟩, ⟨e1, e2, e3, e4, e5, e6⟩, g1, g2⟩ := H
  refine ⟨fun D q e he => ?_, fun q e he => ?_, by omega, fun D => b.fr (fun q p1 p2 => A q (by omega) (by omega)), fun D => (A _ (by omega) (by omega)).trans c1, fun D => (A _ (by omega) (by omega)).trans c2, fun i hi D => (c3 i hi).fr (fun q p1 p2 => A q (by omega) (by omega)), fun D => (A _ (by omega) (by omega)).trans d1, fun i q hi hq => ?_, fun D => (A _ (by omega) (by omega)).trans e1, fun D => (A _ (by omega) e4).trans e2, by omega, fun D => g1.fr (fun q p1 p2 => A q (by omega) (by omega)), fun D => g2.fr (fun q p1 p2 => A q (by omega) (by omega))⟩
  · exact (A q (D q e he) (a2 q e he).1).trans (a1 q e he)
  · have := a2 q e he; omega
  · obtain ⟨f1, f2, f3, f4⟩ := d2 i q hi hq
    exact ⟨f1, by omega, fun D => f4.fr (fun q p1 p2 => A q (by omega) (by omega))⟩
/-- a stretch between x and x + 477 is no frozen one -/
theorem HL_in (H : HL fz x h C n s CH sl CS pq cap fl len row W w L M) {lo hi : Nat} (h1 : x < lo) (h2 : hi ≤ x + 477) : ∀ q e, fz q = some e → q < lo ∨ hi ≤ q := fun q e he => by
  have := H.1.2.1 q e he; omega
theorem ovl_A {b m : Nat} {f : Nat → Option Cl} : ∀ q, q < b ∨ b + m ≤ q → q < h.2.1 → (ovl h b m f).1 q = h.1 q := fun q e _ => ovl_ne e
theorem upH_A {b : Nat} {e : Cl} : ∀ q, q < b ∨ b + 1 ≤ q → q < h.2.1 → (upH h b e).1 q = h.1 q := fun q e _ => if_neg (by omega)
theorem upH_at {b : Nat} {e : Cl} : (upH h b e).1 b = some e := if_pos rfl
theorem pushH_A {e : Cl} {m : Nat} : ∀ q, q < h.2.1 ∨ h.2.1 ≤ q → q < h.2.1 → (pushH h e m).1 q = h.1 q := fun q _ hq => if_neg (by omega)
theorem HL_now (H : HL fz x h C n s CH sl CS pq cap fl len row W w L M) (C' : Ct) : HL fz x (hS h (x + 1) C') C' n s CH sl CS pq cap fl len row W w L M := by
  obtain ⟨f1, f2, f3, f4, f5, f6, f7, f8, f9, f10, f11, f12, f13, f14⟩ := HL_fr (h' := hS h (x + 1) C') (lo := x + 1) (hi := x + 1 + 67) H ovl_A (Nat.le_refl _)
  have dz := HL_in (lo := x + 1) (hi := x + 1 + 67) H (by omega) (by omega)
  obtain ⟨⟨a1, a2, a3, a4⟩, b, ⟨c1, c2, c3⟩, ⟨d1, d2, d3⟩, ⟨e1, e2, e3, e4, e5, e6⟩, g1, g2⟩ := H
  exact ⟨⟨f1 dz, f2, a3, f3⟩, At.ovl, ⟨f5 (by omega), f6 (by omega), fun i hi => f7 i hi (by omega)⟩, ⟨f8 (by omega), fun i q hi hq => ⟨(f9 i q hi hq).1, (f9 i q hi hq).2.1, (d2 i q hi hq).2.2.1, (f9 i q hi hq).2.2 (by have := (f9 i q hi hq).1; omega)⟩, d3⟩, ⟨f10 (by omega), f11 (by omega), e3, f12, e5, e6⟩, f13 (by omega), f14 (by omega)⟩
theorem HL_sheet (H : HL fz x h C n s CH sl CS pq cap fl len row W w L M) (W' w' : Int) (L' : Ly) : HL fz x (hT h (x + 475) W' w' L') C n s CH sl CS pq cap fl len row W' w' L' M := by
  obtain ⟨f1, f2, f3, f4, f5, f6, f7, f8, f9, f10, f11, f12, f13, f14⟩ := HL_fr (h' := hT h (x + 475) W' w' L') (lo := x + 475) (hi := x + 475 + 2) H ovl_A (Nat.le_refl _)
  have dz := HL_in (lo := x + 475) (hi := x + 475 + 2) H (by omega) (by omega)
  obtain ⟨⟨a1, a2, a3, a4⟩, b, ⟨c1, c2, c3⟩, ⟨d1, d2, d3⟩, ⟨e1, e2, e3, e4, e5, e6⟩, g1, g2⟩ := H
  exact ⟨⟨f1 dz, f2, a3, f3⟩, f4 (by omega), ⟨f5 (by omega), f6 (by omega), fun i hi => f7 i hi (by omega)⟩, ⟨f8 (by omega), fun i q hi hq => ⟨(f9 i q hi hq).1, (f9 i q hi hq).2.1, (d2 i q hi hq).2.2.1, (f9 i q hi hq).2.2 (by have := (f9 i q hi hq).1; omega)⟩, d3⟩, ⟨f10 (by omega), f11 (by omega), e3, f12, e5, e6⟩, At.ovl, f14 (by omega)⟩
theorem HL_hist (H : HL fz x h C n s CH sl CS pq cap fl len row W w L M) {i : Nat} (hi : i < 6) (C' : Ct) : HL fz x (hS h (x + 70 + 67 * i) C') C n s (fun j => if j = i then C' else CH j) sl CS pq cap fl len row W w L M := by
  obtain ⟨f1, f2, f3, f4, f5, f6, f7, f8, f9, f10, f11, f12, f13, f14⟩ := HL_fr (h' := hS h (x + 70 + 67 * i) C') (lo := x + 70 + 67 * i) (hi := x + 70 + 67 * i + 67) H ovl_A (Nat.le_refl _)
  have dz := HL_in (lo := x + 70 + 67 * i) (hi := x + 70 + 67 * i + 67) H (by omega) (by omega)
  obtain ⟨⟨a1, a2, a3, a4⟩, b, ⟨c1, c2, c3⟩, ⟨d1, d2, d3⟩, ⟨e1, e2, e3, e4, e5, e6⟩, g1, g2⟩ := H
  refine ⟨⟨f1 dz, f2, a3, f3⟩, f4 (by omega), ⟨f5 (by omega), f6 (by omega), fun j hj => ?_⟩, ⟨f8 (by omega), fun i q hi hq => ⟨(f9 i q hi hq).1, (f9 i q hi hq).2.1, (d2 i q hi hq).2.2.1, (f9 i q hi hq).2.2 (by have := (f9 i q hi hq).1; omega)⟩, d3⟩, ⟨f10 (by omega), f11 (by omega), e3, f12, e5, e6⟩, f13 (by omega), f14 (by omega)⟩
  show At _ _ _ (sC _ (if j = i then C' else CH j))
  by_cases e : j = i
  · rw [if_pos e, e]; exact At.ovl
  · rw [if_neg e]; exact f7 j hj (by omega)
theorem HL_kept (H : HL fz x h C n s CH sl CS pq cap fl len row W w L M) (n' : Nat) : HL fz x (upH h (x + 68) (cHi x n')) C n' s CH sl CS pq cap fl len row W w L M := by
  obtain ⟨f1, f2, f3, f4, f5, f6, f7, f8, f9, f10, f11, f12, f13, f14⟩ := HL_fr (h' := upH h (x + 68) (cHi x n')) (lo := x + 68) (hi := x + 68 + 1) H upH_A (Nat.le_refl _)
  have dz := HL_in (lo := x + 68) (hi := x + 68 + 1) H (by omega) (by omega)
  obtain ⟨⟨a1, a2, a3, a4⟩, b, ⟨c1, c2, c3⟩, ⟨d1, d2, d3⟩, ⟨e1, e2, e3, e4, e5, e6⟩, g1, g2⟩ := H
  exact ⟨⟨f1 dz, f2, a3, f3⟩, f4 (by omega), ⟨upH_at, f6 (by omega), fun i hi => f7 i hi (by omega)⟩, ⟨f8 (by omega), fun i q hi hq => ⟨(f9 i q hi hq).1, (f9 i q hi hq).2.1, (d2 i q hi hq).2.2.1, (f9 i q hi hq).2.2 (by have := (f9 i q hi hq).1; omega)⟩, d3⟩, ⟨f10 (by omega), f11 (by omega), e3, f12, e5, e6⟩, f13 (by omega), f14 (by omega)⟩
theorem HL_order (H : HL fz x h C n s CH sl CS pq cap fl len row W w L M) (s' : Nat) : HL fz x (upH h (x + 69) (cRR 6 6 (hst x s'))) C n s' CH sl CS pq cap fl len row W w L M := by
  obtain ⟨f1, f2, f3, f4, f5, f6, f7, f8, f9, f10, f11, f12, f13, f14⟩ := HL_fr (h' := upH h (x + 69) (cRR 6 6 (hst x s'))) (lo := x + 69) (hi := x + 69 + 1) H upH_A (Nat.le_refl _)
  have dz := HL_in (lo := x + 69) (hi := x + 69 + 1) H (by omega) (by omega)
  obtain ⟨⟨a1, a2, a3, a4⟩, b, ⟨c1, c2, c3⟩, ⟨d1, d2, d3⟩, ⟨e1, e2, e3, e4, e5, e6⟩, g1, g2⟩ := H
  exact ⟨⟨f1 dz, f2, a3, f3⟩, f4 (by omega), ⟨f5 (by omega), upH_at, fun i hi => f7 i hi (by omega)⟩, ⟨f8 (by omega), fun i q hi hq => ⟨(f9 i q hi hq).1, (f9 i q hi hq).2.1, (d2 i q hi hq).2.2.1, (f9 i q hi hq).2.2 (by have := (f9 i q hi hq).1; omega)⟩, d3⟩, ⟨f10 (by omega), f11 (by omega), e3, f12, e5, e6⟩, f13 (by omega), f14 (by omega)⟩
theorem HL_saved (H : HL fz x h C n s CH sl CS pq cap fl len row W w L M) {i q : Nat} (hi : i < 2) (hq : sl i = some q) (C' : Ct) : HL fz x (hS h q C') C n s CH sl (fun j => if j = i then C' else CS j) pq cap fl len row W w L M := by
  obtain ⟨f1, f2, f3, f4, f5, f6, f7, f8, f9, f10, f11, f12, f13, f14⟩ := HL_fr (h' := hS h q C') (lo := q) (hi := q + 67) H ovl_A (Nat.le_refl _)
  obtain ⟨⟨a1, a2, a3, a4⟩, b, ⟨c1, c2, c3⟩, ⟨d1, d2, d3⟩, ⟨e1, e2, e3, e4, e5, e6⟩, g1, g2⟩ := H
  have dq := d2 i q hi hq
  have dz : ∀ r e, fz r = some e → r < q ∨ q + 67 ≤ r := fun r e he => by
    rcases Nat.lt_or_ge r q with h1 | h1
    · exact Or.inl h1
    · rcases Nat.lt_or_ge r (q + 67) with h2 | h2
      · have := dq.2.2.1 (r - q) (by omega)
        rw [show q + (r - q) = r by omega, he] at this
        exact absurd this (by simp)
      · exact Or.inr h2
  refine ⟨⟨f1 dz, f2, a3, f3⟩, f4 (by omega), ⟨f5 (by omega), f6 (by omega), fun i hi => f7 i hi (by omega)⟩, ⟨f8 (by omega), fun j r hj hr => ⟨(f9 j r hj hr).1, (f9 j r hj hr).2.1, (d2 j r hj hr).2.2.1, ?_⟩, d3⟩, ⟨f10 (by omega), f11 (by have := e6 i q hi hq; omega), e3, f12, e5, e6⟩, f13 (by omega), f14 (by omega)⟩
  show At _ _ _ (sC _ (if j = i then C' else CS j))
  by_cases e : j = i
  · rw [if_pos e]; rw [e, hq] at hr; cases hr; exact At.ovl
  · rw [if_neg e]
    refine (f9 j r hj hr).2.2 ?_
    rcases (show (i = 0 ∧ j = 1) ∨ (i = 1 ∧ j = 0) by omega) with ⟨rfl, rfl⟩ | ⟨rfl, rfl⟩
    · have := d3 q r hq hr; omega
    · have := d3 r q hr hq; omega
theorem HL_sb (H : HL fz x h C n s CH sl CS pq cap fl len row W w L M) (fl' : Int32) (len' : Nat) : HL fz x (upH h (x + 473) (cSB pq fl' len')) C n s CH sl CS pq cap fl' len' row W w L M := by
  obtain ⟨f1, f2, f3, f4, f5, f6, f7, f8, f9, f10, f11, f12, f13, f14⟩ := HL_fr (h' := upH h (x + 473) (cSB pq fl' len')) (lo := x + 473) (hi := x + 473 + 1) H upH_A (Nat.le_refl _)
  have dz := HL_in (lo := x + 473) (hi := x + 473 + 1) H (by omega) (by omega)
  obtain ⟨⟨a1, a2, a3, a4⟩, b, ⟨c1, c2, c3⟩, ⟨d1, d2, d3⟩, ⟨e1, e2, e3, e4, e5, e6⟩, g1, g2⟩ := H
  exact ⟨⟨f1 dz, f2, a3, f3⟩, f4 (by omega), ⟨f5 (by omega), f6 (by omega), fun i hi => f7 i hi (by omega)⟩, ⟨f8 (by omega), fun i q hi hq => ⟨(f9 i q hi hq).1, (f9 i q hi hq).2.1, (d2 i q hi hq).2.2.1, (f9 i q hi hq).2.2 (by have := (f9 i q hi hq).1; omega)⟩, d3⟩, ⟨upH_at, f11 (by omega), e3, f12, e5, e6⟩, f13 (by omega), f14 (by omega)⟩
theorem HL_row (H : HL fz x h C n s CH sl CS pq cap fl len row W w L M) (row' : Nat → Int32) : HL fz x (upH h pq (.inl (1, cap, .inl row'))) C n s CH sl CS pq cap fl len row' W w L M := by
  obtain ⟨f1, f2, f3, f4, f5, f6, f7, f8, f9, f10, f11, f12, f13, f14⟩ := HL_fr (h' := upH h pq (.inl (1, cap, .inl row'))) (lo := pq) (hi := pq + 1) H upH_A (Nat.le_refl _)
  obtain ⟨⟨a1, a2, a3, a4⟩, b, ⟨c1, c2, c3⟩, ⟨d1, d2, d3⟩, ⟨e1, e2, e3, e4, e5, e6⟩, g1, g2⟩ := H
  have dz : ∀ r e, fz r = some e → r < pq ∨ pq + 1 ≤ r := fun r e he => by
    by_cases h1 : r = pq
    · rw [h1, e5] at he; exact absurd he (by simp)
    · omega
  exact ⟨⟨f1 dz, f2, a3, f3⟩, f4 (by omega), ⟨f5 (by omega), f6 (by omega), fun i hi => f7 i hi (by omega)⟩, ⟨f8 (by omega), fun i q hi hq => ⟨(f9 i q hi hq).1, (f9 i q hi hq).2.1, (d2 i q hi hq).2.2.1, (f9 i q hi hq).2.2 (by have := e6 i q hi hq; omega)⟩, d3⟩, ⟨f10 (by omega), upH_at, e3, f12, e5, e6⟩, f13 (by omega), f14 (by omega)⟩
/-- a new cell, of no account yet -/
theorem HL_push (H : HL fz x h C n s CH sl CS pq cap fl len row W w L M) (e : Cl) (m : Nat) : HL fz x (pushH h e m) C n s CH sl CS pq cap fl len row W w L M := by
  obtain ⟨f1, f2, f3, f4, f5, f6, f7, f8, f9, f10, f11, f12, f13, f14⟩ := HL_fr (h' := pushH h e m) (lo := h.2.1) (hi := h.2.1) H pushH_A (Nat.le_succ _)
  obtain ⟨⟨a1, a2, a3, a4⟩, b, ⟨c1, c2, c3⟩, ⟨d1, d2, d3⟩, ⟨e1, e2, e3, e4, e5, e6⟩, g1, g2⟩ := H
  exact ⟨⟨f1 (fun q e he => by omega), f2, a3, f3⟩, f4 (by omega), ⟨f5 (by omega), f6 (by omega), fun i hi => f7 i hi (by omega)⟩, ⟨f8 (by omega), fun i q hi hq => ⟨(f9 i q hi hq).1, (f9 i q hi hq).2.1, (d2 i q hi hq).2.2.1, (f9 i q hi hq).2.2 (by have := (d2 i q hi hq).2.1; omega)⟩, d3⟩, ⟨f10 (by omega), f11 (by omega), e3, f12, e5, e6⟩, f13 (by omega), f14 (by omega)⟩
/-- the newest cells are of no account: they may be others -/
theorem HL_new (H : HL fz x h C n s CH sl CS pq cap fl len row W w L M) {N : Nat} (hN : h.2.1 ≤ N) (hA : ∀ q, q < h.2.1 → h'.1 q = h.1 q) (hS' : h'.2.1 = N) : HL fz x h' C n s CH sl CS pq cap fl len row W w L M := by
  obtain ⟨f1, f2, f3, f4, f5, f6, f7, f8, f9, f10, f11, f12, f13, f14⟩ := HL_fr (h' := h') (lo := h.2.1) (hi := h.2.1) H (fun q _ hq => hA q hq) (by omega)
  obtain ⟨⟨a1, a2, a3, a4⟩, b, ⟨c1, c2, c3⟩, ⟨d1, d2, d3⟩, ⟨e1, e2, e3, e4, e5, e6⟩, g1, g2⟩ := H
  exact ⟨⟨f1 (fun q e he => by omega), f2, a3, f3⟩, f4 (by omega), ⟨f5 (by omega), f6 (by omega), fun i hi => f7 i hi (by omega)⟩, ⟨f8 (by omega), fun i q hi hq => ⟨(f9 i q hi hq).1, (f9 i q hi hq).2.1, (d2 i q hi hq).2.2.1, (f9 i q hi hq).2.2 (by have := (d2 i q hi hq).2.1; omega)⟩, d3⟩, ⟨f10 (by omega), f11 (by omega), e3, f12, e5, e6⟩, f13 (by omega), f14 (by omega)⟩
/-- what is told of it -/
def RZ (fz : Nat → Option Cl) (Z : Zt) (C : Ct) (n s : Nat) (CH : Nat → Ct) (sl : Nat → Option Nat) (CS : Nat → Ct) (cap len : Nat) (row : Nat → Int32) : Prop :=
  CD fz C (zD Z) ∧ (n = zn Z ∧ n ≤ 6 ∧ s < 6 ∧ ∀ k, k < n → CD fz (CH ((k + s) % 6)) (zH Z k)) ∧ (∀ i, i < 2 → (zh Z i = true → ∃ q, sl i = some q) ∧ (zh Z i ≠ true → sl i = none) ∧ (zh Z i = true → CD fz (CS i) (zS Z i))) ∧ len = zl Z ∧ len ≤ cap ∧ cap ≤ 1000 ∧ (∀ j, j < len → row j = iI (zp Z j)) ∧ ∀ j, byI (row j) = row j
/-- the whole -/
def WX (fz : Nat → Option Cl) (x : Nat) (Z : Zt) (M : Nat → Nat → Int) (h : Hp) : Prop := ∃ C n s CH sl CS pq cap fl len row W w L, HL fz x h C n s CH sl CS pq cap fl len row W w L M ∧ RZ fz Z C n s CH sl CS cap len row
end
