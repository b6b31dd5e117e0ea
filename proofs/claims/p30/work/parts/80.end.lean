/-! THE LAW HOLDS -/
def fz0 (h : Hp) (x : Nat) : Nat → Option Cl := fun q => if q < x then h.1 q else if q = x then some (.inr (7, [rfC (x + 1), rfC (x + 68), rfC (x + 472), rfC (x + 473), rfC (x + 475)])) else none
section
variable {c : Nat → Option Nat} {h hF : Hp} {b L x : Nat}
theorem HL_first (hx : x = h.2.1) (lo : ∀ a e, h.1 a = some e → a < x) (c1 : ∀ q, q < x → hF.1 q = h.1 q) (c2 : ∀ i, i < 477 → hF.1 (x + i) = GX x i) (n1 : hF.2.1 = x + 477) : WX (fz0 h x) x Z0 (fun _ _ => 0) hF := by
  have g1 : ∀ i, 1 ≤ i → i < 472 → GX x i = FX x 6 i := fun i h1 h2 => by
    unfold GX
    rw [if_neg (by omega), if_neg (by omega), if_neg (by omega), if_neg (by omega), if_neg (by omega), if_neg (by omega)]
  have f0 : fz0 h x x = some (.inr (7, [rfC (x + 1), rfC (x + 68), rfC (x + 472), rfC (x + 473), rfC (x + 475)])) := (if_neg (by omega)).trans (if_pos rfl)
  have fb : ∀ q e, fz0 h x q = some e → q ≤ x := fun q e he => by
    unfold fz0 at he
    by_cases h1 : q < x
    · omega
    · rw [if_neg h1] at he
      by_cases h2 : q = x
      · omega
      · rw [if_neg h2] at he; exact absurd he (by simp)
  refine ⟨C0, 0, 0, fun _ => C0, fun _ => none, fun _ => C0, x + 474, 16, iI 0, 0, fun _ => 0, 0, 0, (0, 0, 0, fun _ => 0), ⟨⟨fun q e he => ?_, fun q e he => ?_, f0, by omega⟩, fun k hk => ?_, ⟨?_, ?_, fun i hi k hk => ?_⟩, ⟨?_, fun i q hi hq => absurd hq (by simp), fun q0 q1 h0 _ => absurd h0 (by simp)⟩, ⟨?_, ?_, Or.inl rfl, by omega, ?_, fun i q hi hq => absurd hq (by simp)⟩, fun k hk => ?_, fun k hk => absurd hk (Nat.not_lt_zero k)⟩, ⟨CD_0 _, ⟨rfl, by decide, by decide, fun k hk => absurd hk (Nat.not_lt_zero k)⟩, fun i hi => ⟨fun e => absurd e Bool.false_ne_true, fun _ => rfl, fun e => absurd e Bool.false_ne_true⟩, rfl, by decide, by decide, fun j hj => absurd hj (Nat.not_lt_zero j), fun _ => rfl⟩⟩
  · have q1 := fb q e he
    by_cases h1 : q < x
    · rw [c1 q h1]
      unfold fz0 at he
      rw [if_pos h1] at he; exact he
    · have : q = x := by omega
      subst this
      rw [f0] at he
      have := c2 0 (by decide)
      rw [Nat.add_zero] at this
      rw [this, ← he]
      rfl
  · have := fb q e he; omega
  · rw [Nat.add_assoc, c2 (1 + k) (by omega), g1 _ (by omega) (by omega)]
    unfold FX
    rw [if_neg (by omega), if_pos (by omega), show 1 + k - 1 = k by omega]
  · exact c2 68 (by decide)
  · rw [c2 69 (by decide)]
    show some (cRR 6 6 _) = some (cRR 6 6 _)
    congr 2
    congr 5
    funext k
    unfold hst
    by_cases e : k < 6
    · rw [if_pos (by omega), if_pos e, show (k + 0) % 6 = k by omega]
    · rw [if_neg (by omega), if_neg e]
  · rw [show x + 70 + 67 * i + k = x + (70 + 67 * i + k) by omega, c2 _ (by omega), g1 _ (by omega) (by omega)]
    unfold FX
    rw [if_neg (by omega), if_neg (by omega), if_neg (by omega), if_neg (by omega), show (70 + 67 * i + k - 70) / 67 = i by omega, show (70 + 67 * i + k - 70) % 67 = k by omega]
  · exact c2 472 (by decide)
  · exact c2 473 (by decide)
  · exact c2 474 (by decide)
  · unfold fz0; rw [if_neg (by omega), if_neg (by omega)]
  · rw [Nat.add_assoc, c2 (475 + k) (by omega)]
    obtain rfl | rfl : k = 0 ∨ k = 1 := by omega
    · rfl
    · rfl
theorem Kon_first (St : Start c h b L) (hx : x = h.2.1) (hlo : ∀ a e, h.1 a = some e → a < x) : Kon c (fz0 h x) := by
  obtain ⟨-, ⟨t0, f0, a0, b0, p0, p1, p2⟩, ⟨t1, f1, a1, b1, q0, q1, q2⟩, ⟨t2, f2, a2, b2, r0, r1, r2⟩, ⟨s4, u4, g4, d4, e4, k4, v4⟩, ⟨s5, u5, g5, d5, e5, k5, v50, v51, v52, v53, v54⟩, ⟨s6, u6, g6, d6, e6, k6, v60, v61, v62⟩, ⟨s7, u7, g7, d7, e7, k7, v70, v71, v72, v73⟩, -⟩ := St
  have up : ∀ {a : Nat} {e : Cl}, h.1 a = some e → fz0 h x a = some e := fun {a e} he => (if_pos (hlo a e he)).trans he
  refine ⟨⟨t0, f0, a0, up b0, fun i hi => ?_⟩, ⟨t1, f1, a1, up b1, fun i hi => ?_⟩, ⟨t2, f2, a2, up b2, fun i hi => ?_⟩, ⟨s4, d4, 10, u4, 11, g4, [], Or.inr rfl, up e4, up k4, Or.inr rfl, by decide, fun i hi => ?_⟩, ⟨s5, d5, 10, u5, 11, g5, [], Or.inr rfl, up e5, up k5, Or.inr rfl, by decide, fun i hi => ?_⟩, ⟨s6, d6, 10, u6, 11, g6, [], Or.inr rfl, up e6, up k6, Or.inr rfl, by decide, fun i hi => ?_⟩, ⟨s7, d7, 10, u7, 11, g7, [], Or.inr rfl, up e7, up k7, Or.inr rfl, by decide, fun i hi => ?_⟩⟩
  · obtain rfl | rfl | rfl : i = 0 ∨ i = 1 ∨ i = 2 := by omega
    · rw [p0]; rfl
    · rw [p1]; rfl
    · rw [p2]; rfl
  · obtain rfl | rfl | rfl : i = 0 ∨ i = 1 ∨ i = 2 := by omega
    · rw [q0]; rfl
    · rw [q1]; rfl
    · rw [q2]; rfl
  · obtain rfl | rfl | rfl : i = 0 ∨ i = 1 ∨ i = 2 := by omega
    · rw [r0]; rfl
    · rw [r1]; rfl
    · rw [r2]; rfl
  · obtain rfl : i = 0 := by omega
    rw [v4]; exact ⟨rfl, by decide, by decide⟩
  · obtain rfl | rfl | rfl | rfl | rfl : i = 0 ∨ i = 1 ∨ i = 2 ∨ i = 3 ∨ i = 4 := by omega
    · rw [v50]; exact ⟨rfl, by decide, by decide⟩
    · rw [v51]; exact ⟨rfl, by decide, by decide⟩
    · rw [v52]; exact ⟨rfl, by decide, by decide⟩
    · rw [v53]; exact ⟨rfl, by decide, by decide⟩
    · rw [v54]; exact ⟨rfl, by decide, by decide⟩
  · obtain rfl | rfl | rfl : i = 0 ∨ i = 1 ∨ i = 2 := by omega
    · rw [v60]; exact ⟨rfl, by decide, by decide⟩
    · rw [v61]; exact ⟨rfl, by decide, by decide⟩
    · rw [v62]; exact ⟨rfl, by decide, by decide⟩
  · obtain rfl | rfl | rfl | rfl : i = 0 ∨ i = 1 ∨ i = 2 ∨ i = 3 := by omega
    · rw [v70]; exact ⟨rfl, by decide, by decide⟩
    · rw [v71]; exact ⟨rfl, by decide, by decide⟩
    · rw [v72]; exact ⟨rfl, by decide, by decide⟩
    · rw [v73]; exact ⟨rfl, by decide, by decide⟩
end
theorem JL_0 : JL D0 := fun r _ _ => ⟨fun h => by rw [D0_hw] at h; exact absurd h Bool.false_ne_true, fun h => by rw [D0_hw] at h; exact absurd h Bool.false_ne_true⟩
theorem FI_0 : FI D0 = 0 := by
  unfold FI
  rw [prI_no (fF_no 18 3 (fun i _ _ => D0_hw 1 i))]
  rfl
theorem SgI_0 : SgI D0 = 40 := rfl
theorem pure_law : PureLaw := by
  intro c h b L hL St
  obtain ⟨x, hx⟩ : ∃ x, x = h.2.1 := ⟨_, rfl⟩
  have hlo : ∀ a e, h.1 a = some e → a < x := fun a e he => by
    have := (St.2.2.2.2.2.2.2.2.1 a e he).1; omega
  have hz : h.2.2 = 0 := St.2.2.2.2.2.2.2.2.2
  obtain ⟨g, hg⟩ := St.1
  have K := Kon_first St hx hlo
  obtain ⟨H, eH⟩ : ∃ H, H = hB h x 477 (GX x) (h.2.2 + 7690) := ⟨_, rfl⟩
  have H1 : H.2.1 = x + 477 := by rw [eH]; rfl
  have H2 : H.2.2 = h.2.2 + 7690 := by rw [eH]; rfl
  have birth := x_birth (c := c) (h := h)
  rw [← hx, ← eH] at birth
  have W := HL_first (hF := H) hx hlo (fun q hq => by rw [eH]; exact hB_lo hq) (fun i hi => by rw [eH]; exact hB_at hi) H1
  have fb : fz0 h x b = some (.inl (10, L, .inl g)) := (if_pos (hlo b _ hg)).trans hg
  have I0 : ZI (2 * ((0 : Nat) : Int)) Z0 := ZI_0
  obtain ⟨hf, f1, f2, f3⟩ := law_l (c := c) (x := x) (b := b) (L := L) (g := g) (M := fun _ _ => 0) (B0 := x + 477) (S0 := 7690) (B := h.2.1 + 600000) (S := 7302250) hL (by omega) (by omega) 34 FU 0 (by unfold FU; omega) (by omega) H Z0 (fz0 h x) 0 40 W I0 K fb JL_0 FI_0.symm SgI_0.symm (by omega) (by omega)
  refine ⟨hf, ?_, f2, f3⟩
  rw [show ((0 : Nat) : Int) = 0 from rfl] at f1
  unfold fL_law nwO
  rw [show nmC 7 = 5 from rfl]
  simp only [dn, iI_l]
  rw [← hx, birth]
  simp only [cc_s, kV_n]
  exact f1
