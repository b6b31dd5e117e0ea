/-! THE CLASS'S CONSTRUCTOR -/
def nlC : AV := .inr (.inr none)
def FX (x j i : Nat) : Option Cl := if i = 0 then some (.inr (7, [rfC (x + 1), nlC, nlC, nlC, nlC])) else if i < 68 then sC (x + 1) C0 (i - 1) else if i = 68 then some (.inr (2, [.inl (iI 0), rfC (x + 69)])) else if i = 69 then some (cRR 6 6 (fun k => if k < 6 ∧ k < j then some (x + 70 + 67 * k) else none)) else sC (x + 70 + 67 * ((i - 70) / 67)) C0 ((i - 70) % 67)
def GX (x i : Nat) : Option Cl := if i = 0 then some (.inr (7, [rfC (x + 1), rfC (x + 68), rfC (x + 472), rfC (x + 473), rfC (x + 475)])) else if i = 472 then some (cRR 6 2 (fun _ => none)) else if i = 473 then some (cSB (x + 474) (iI 0) 0) else if i = 474 then some (.inl (1, 16, .inl (fun _ => 0))) else if i = 475 then some (.inr (5, fT (x + 475) 0 0 (0, 0, 0, fun _ => 0))) else if i = 476 then some (.inl (3, 40, .inl (fun _ => 0))) else FX x 6 i
theorem hB_hB {h : Hp} {q n k m m' : Nat} {f g : Nat → Option Cl} : hB (hB h q n f m) (q + n) k g m' = hB h q (n + k) (fun i => if i < n then f i else g (i - n)) m' := by
  refine Prod.ext (funext fun a => ?_) ?_
  · show (if q + n ≤ a ∧ a < q + n + k then g (a - (q + n)) else if q ≤ a ∧ a < q + n then f (a - q) else h.1 a) = if q ≤ a ∧ a < q + (n + k) then (if a - q < n then f (a - q) else g (a - q - n)) else h.1 a
    by_cases h1 : q + n ≤ a ∧ a < q + n + k
    · rw [if_pos h1, if_pos (by omega), if_neg (by omega), show a - q - n = a - (q + n) by omega]
    · rw [if_neg h1]
      by_cases h2 : q ≤ a ∧ a < q + n
      · rw [if_pos h2, if_pos (by omega), if_pos (by omega)]
      · rw [if_neg h2, if_neg (by omega)]
  · show (q + n + k, m') = (q + (n + k), m')
    rw [Nat.add_assoc]
section
variable {c : Nat → Option Nat} {h : Hp} {x : Nat}
theorem i_state2 {n m : Nat} {F : Nat → Option Cl} : fX4_init c (pushH (hB h x n F m) (.inr (6, dfC 6)) 13) (some (x + n)) = some (hB h x (n + 67) (fun i => if i < n then F i else sC (x + n) C0 (i - n)) (m + 1087), none) := by
  have := i_state (c := c) (h := hB h x n F m)
  rw [show (hB h x n F m).2.1 = x + n from rfl, hB_hB] at this
  exact this
theorem x_hist : ∀ (d fu j m : Nat), d < fu → j + d = 6 → fX0_init_15 c fu (hB h x (70 + 67 * j) (FX x j) m) (some (x + 68)) (iI (j : Int)) = some (hB h x 472 (FX x 6) (m + 1087 * d), none) := by
  intro d
  induction d with
  | zero =>
    intro fu j m hf hk
    obtain ⟨f, rfl⟩ : ∃ f, fu = f + 1 := ⟨fu - 1, by omega⟩
    have ej : j = 6 := by omega
    subst ej
    have c0 : (hB h x (70 + 67 * 6) (FX x 6) m).1 (x + 68) = some (.inr (2, [.inl (iI 0), rfC (x + 69)])) := (hB_at (i := 68) (by decide)).trans rfl
    have c1 : (hB h x (70 + 67 * 6) (FX x 6) m).1 (x + 69) = some (cRR 6 6 (fun k => if k < 6 ∧ k < 6 then some (x + 70 + 67 * k) else none)) := (hB_at (i := 69) (by decide)).trans rfl
    unfold fX0_init_15
    rw [rdR_e c0 rfl rfl, lenA_e c1, if_neg (show ¬ iI ((6 : Nat) : Int) < iI ((6 : Nat) : Int) by decide)]
    rfl
  | succ d ih =>
    intro fu j m hf hk
    obtain ⟨f, rfl⟩ : ∃ f, fu = f + 1 := ⟨fu - 1, by omega⟩
    have c0 : (hB h x (70 + 67 * j) (FX x j) m).1 (x + 68) = some (.inr (2, [.inl (iI 0), rfC (x + 69)])) := (hB_at (i := 68) (by omega)).trans rfl
    have c1 : (hB h x (70 + 67 * j) (FX x j) m).1 (x + 69) = some (cRR 6 6 (fun k => if k < 6 ∧ k < j then some (x + 70 + 67 * k) else none)) := (hB_at (i := 69) (by omega)).trans rfl
    have c2 : (hB h x (70 + 67 * j + 67) (fun i => if i < 70 + 67 * j then FX x j i else sC (x + (70 + 67 * j)) C0 (i - (70 + 67 * j))) (m + 1087)).1 (x + 69) = some (cRR 6 6 (fun k => if k < 6 ∧ k < j then some (x + 70 + 67 * k) else none)) := (hB_at (i := 69) (by omega)).trans ((if_pos (by omega)).trans rfl)
    have e6 : isEl (hB h x (70 + 67 * j + 67) (fun i => if i < 70 + 67 * j then FX x j i else sC (x + (70 + 67 * j)) C0 (i - (70 + 67 * j))) (m + 1087)) 6 (some (x + (70 + 67 * j))) = true := by
      have : (hB h x (70 + 67 * j + 67) (fun i => if i < 70 + 67 * j then FX x j i else sC (x + (70 + 67 * j)) C0 (i - (70 + 67 * j))) (m + 1087)).1 (x + (70 + 67 * j)) = some (.inr (6, fS (x + (70 + 67 * j)) (cF C0))) := (hB_at (by omega)).trans ((if_neg (by omega)).trans (by rw [Nat.sub_self]; rfl))
      exact isEl_o this rfl
    unfold fX0_init_15 nwO
    simp only [iI_l]
    rw [rdR_e c0 rfl rfl, lenA_e c1, if_pos (show iI (j : Int) < iI ((6 : Nat) : Int) from (by rw [lt_i (by omega) (by omega) (by omega) (by omega)]; omega)), rdR_e c0 rfl rfl, show nmC 6 = 13 from rfl, show (hB h x (70 + 67 * j) (FX x j) m).2.1 = x + (70 + 67 * j) from rfl]
    simp only [dn]
    rw [i_state2]
    simp only [cc_s, kV_n]
    rw [astR_e c2 (by decide) (by decide) (by omega) (by omega) (by decide) e6, hB_up (by omega), Int.toNat_natCast, iI_add, iI_k1]
    have e : hB h x (70 + 67 * j + 67) (fun i => if i = 69 then some (.inl (6, 6, .inr (.inr (.inr (.inr (va_up (fun k => if k < 6 ∧ k < j then some (x + 70 + 67 * k) else none) j (some (x + (70 + 67 * j))))))))) else if i < 70 + 67 * j then FX x j i else sC (x + (70 + 67 * j)) C0 (i - (70 + 67 * j))) (m + 1087) = hB h x (70 + 67 * (j + 1)) (FX x (j + 1)) (m + 1087) := by
      rw [show 70 + 67 * j + 67 = 70 + 67 * (j + 1) by omega]
      refine hB_cg fun i hi => ?_
      by_cases e0 : i = 69
      · rw [if_pos e0, e0]
        show some (cRR 6 6 _) = some (cRR 6 6 _)
        congr 2
        congr 5
        funext a
        unfold va_up
        by_cases ea : a = j
        · rw [if_pos ea, if_pos (by omega), ea, Nat.add_assoc]
        · rw [if_neg ea]
          show (if a < 6 ∧ a < j then some (x + 70 + 67 * a) else none) = _
          by_cases eb : a < 6 ∧ a < j
          · rw [if_pos eb, if_pos (by omega)]
          · rw [if_neg eb, if_neg (by omega)]
      · rw [if_neg e0]
        have eF : FX x (j + 1) i = FX x j i := by
          unfold FX
          simp only [if_neg e0]
        rw [eF]
        by_cases e1 : i < 70 + 67 * j
        · rw [if_pos e1]
        · rw [if_neg e1]
          unfold FX
          rw [if_neg (by omega), if_neg (by omega), if_neg (by omega), if_neg e0, show (i - 70) / 67 = j by omega, show (i - 70) % 67 = i - (70 + 67 * j) by omega, Nat.add_assoc]
    rw [e, ih f (j + 1) (m + 1087) (by omega) (by omega), show m + 1087 + 1087 * d = m + 1087 * (d + 1) by omega]
theorem x_birth : fX5_init c (pushH h (.inr (7, dfC 7)) 5) (some h.2.1) = some (hB h h.2.1 477 (GX h.2.1) (h.2.2 + 7690), none) := by
  have at0 : ∀ {n m : Nat} {F : Nat → Option Cl} {e : Option Cl}, 0 < n → F 0 = e → (hB h h.2.1 n F m).1 h.2.1 = e := fun hn hF => (hB_at (i := 0) hn).trans hF
  have up0 : ∀ {n m : Nat} {F : Nat → Option Cl} {e : Cl}, 0 < n → upH (hB h h.2.1 n F m) h.2.1 e = hB h h.2.1 n (fun j => if j = 0 then some e else F j) m := fun hn => hB_up (i := 0) hn
  have nx : ∀ {n m : Nat} {F : Nat → Option Cl}, (hB h h.2.1 n F m).2.1 = h.2.1 + n := rfl
  have att : ∀ {n m i : Nat} {F : Nat → Option Cl} {e : Option Cl}, i < n → F i = e → (hB h h.2.1 n F m).1 (h.2.1 + i) = e := fun hn hF => (hB_at hn).trans hF
  unfold fX5_init nwO
  simp only [dn, iI_l, show nmC 6 = 13 from rfl, show nmC 2 = 2 from rfl, show nmC 1 = 4 from rfl, show nmC 5 = 6 from rfl]
  rw [push_hB h (.inr (7, dfC 7)) 5, nx, i_state2]
  simp only [cc_s, kV_n]
  rw [wr_e (c := 7) (k := 0) (v := .inr (.inr (some (h.2.1 + 1)))) (fs := dfC 7) (at0 (by decide) ((if_pos (by decide)).trans rfl)) (by decide) (by show 0 < 5; decide) rfl, up0 (by decide)]
  rw [nx, hB_push]
  have hi : fX0_init c (hB h h.2.1 (1 + 67 + 1) (fun i => if i = 1 + 67 then some (.inr (2, dfC 2)) else if i = 0 then some (.inr (7, (dfC 7).set 0 (.inr (.inr (some (h.2.1 + 1)))))) else if i < 1 then some (.inr (7, dfC 7)) else sC (h.2.1 + 1) C0 (i - 1)) (h.2.2 + 5 + 1087 + 2)) (some (h.2.1 + (1 + 67))) = some (hB h h.2.1 472 (FX h.2.1 6) (h.2.2 + 5 + 1087 + 2 + 6 + 1087 * 6), none) := by
    unfold fX0_init
    simp only [dn, iI_l]
    rw [nwR_e (by decide) (by decide), nx, show (6 : Int).toNat = 6 from rfl, hB_push]
    rw [wr_e (c := 2) (k := 1) (v := .inr (.inr (some (h.2.1 + (1 + 67 + 1))))) (fs := dfC 2) (att (by decide) ((if_neg (by decide)).trans (if_pos rfl))) (by decide) (by show 1 < 2; decide) rfl, hB_up (by decide)]
    have key := x_hist (c := c) (h := h) (x := h.2.1) 6 FU 0 (h.2.2 + 5 + 1087 + 2 + 6) (by decide) (by decide)
    rw [show ((0 : Nat) : Int) = 0 from rfl] at key
    rw [← key]
    congr 1
    refine hB_cg (n := 70) fun i hi => ?_
    unfold FX
    by_cases e0 : i = 0
    · rw [e0]; rfl
    · by_cases e1 : i < 68
      · simp only [if_neg (show ¬ i = 1 + 67 by omega), if_neg (show ¬ i = 1 + 67 + 1 by omega), if_neg e0, if_neg (show ¬ i < 1 by omega), if_pos e1]
      · by_cases e2 : i = 68
        · rw [e2]; rfl
        · have e3 : i = 69 := by omega
          rw [e3]
          show some (cRR 6 6 (fun _ => none)) = some (cRR 6 6 (fun k => if k < 6 ∧ k < 0 then _ else none))
          congr 2
          congr 5
          funext k
          rw [if_neg (by omega)]
  rw [hi]
  simp only [cc_s, kV_n]
  rw [wr_e (c := 7) (k := 1) (v := .inr (.inr (some (h.2.1 + (1 + 67))))) (fs := [rfC (h.2.1 + 1), nlC, nlC, nlC, nlC]) (at0 (by decide) rfl) (by decide) (by show 1 < 5; decide) rfl, up0 (by decide)]
  rw [nwR_e (by decide) (by decide), nx, show (2 : Int).toNat = 2 from rfl, hB_push]
  rw [wr_e (c := 7) (k := 2) (v := .inr (.inr (some (h.2.1 + 472)))) (fs := [rfC (h.2.1 + 1), nlC, nlC, nlC, nlC].set 1 (.inr (.inr (some (h.2.1 + (1 + 67)))))) (at0 (by decide) rfl) (by decide) (by show 2 < 5; decide) rfl, up0 (by decide)]
  rw [nx, hB_push]
  unfold fJ4_init_da8c8 fJ5_init_d00df fX3_init
  simp only [dn, iI_l]
  rw [if_neg (show ¬ iI 1 = iI 0 by decide), nwA_e (by decide) (by decide), nx, show (16 : Int).toNat = 16 from rfl, hB_push]
  rw [wr_e (c := 1) (k := 0) (v := .inr (.inr (some (h.2.1 + (472 + 1 + 1))))) (fs := dfC 1) (att (by decide) rfl) (by decide) (by show 0 < 4; decide) rfl, hB_up (by decide)]
  rw [wr_e (c := 1) (k := 1) (v := .inl (iI 0)) (fs := (dfC 1).set 0 (.inr (.inr (some (h.2.1 + (472 + 1 + 1)))))) (att (by decide) rfl) (by decide) (by show 1 < 4; decide) (by decide), hB_up (by decide)]
  simp only [cc_s, kV_n]
  rw [wr_e (c := 7) (k := 3) (v := .inr (.inr (some (h.2.1 + (472 + 1))))) (fs := ([rfC (h.2.1 + 1), nlC, nlC, nlC, nlC].set 1 (.inr (.inr (some (h.2.1 + (1 + 67)))))).set 2 (.inr (.inr (some (h.2.1 + 472))))) (at0 (by decide) rfl) (by decide) (by show 3 < 5; decide) rfl, up0 (by decide)]
  rw [nx, hB_push, nwA_e (by decide) (by decide), nx, show (40 : Int).toNat = 40 from rfl, hB_push]
  rw [wr_e (c := 5) (k := 5) (v := .inr (.inr (some (h.2.1 + (472 + 1 + 1 + 1 + 1))))) (fs := dfC 5) (att (by decide) rfl) (by decide) (by show 5 < 6; decide) rfl, hB_up (by decide)]
  simp only [cc_s, kV_n]
  rw [wr_e (c := 7) (k := 4) (v := .inr (.inr (some (h.2.1 + (472 + 1 + 1 + 1))))) (fs := (([rfC (h.2.1 + 1), nlC, nlC, nlC, nlC].set 1 (.inr (.inr (some (h.2.1 + (1 + 67)))))).set 2 (.inr (.inr (some (h.2.1 + 472))))).set 3 (.inr (.inr (some (h.2.1 + (472 + 1)))))) (at0 (by decide) rfl) (by decide) (by show 4 < 5; decide) rfl, up0 (by decide)]
  rw [show h.2.2 + 5 + 1087 + 2 + 6 + 1087 * 6 + 2 + 4 + 16 + 6 + 40 = h.2.2 + 7690 by omega]
  have fin : ∀ F : Nat → Option Cl, (∀ i, i < 477 → F i = GX h.2.1 i) → (some (hB h h.2.1 477 F (h.2.2 + 7690), none) : Rs) = some (hB h h.2.1 477 (GX h.2.1) (h.2.2 + 7690), none) := fun F hF => by rw [hB_cg hF]
  refine fin _ fun i hi => ?_
  by_cases e0 : i = 0
  · rw [e0]; rfl
  · by_cases e1 : i < 472
    · unfold GX
      simp only [if_neg e0, if_neg (show ¬ i = 472 by omega), if_neg (show ¬ i = 473 by omega), if_neg (show ¬ i = 474 by omega), if_neg (show ¬ i = 475 by omega), if_neg (show ¬ i = 476 by omega), if_neg (show ¬ i = 472 + 1 by omega), if_neg (show ¬ i = 472 + 1 + 1 by omega), if_neg (show ¬ i = 472 + 1 + 1 + 1 by omega), if_neg (show ¬ i = 472 + 1 + 1 + 1 + 1 by omega)]
    · obtain rfl | rfl | rfl | rfl | rfl : i = 472 ∨ i = 473 ∨ i = 474 ∨ i = 475 ∨ i = 476 := by omega
      all_goals rfl
end
