/-! A NEW STATE of the class; save -/
theorem isEl_o {H : Hp} {a ci k : Nat} {fs : List AV} (e : H.1 a = some (.inr (ci, fs))) (h : ci = ecl k) : isEl H k (some a) = true := by
  unfold isEl
  simp only [e]
  rw [h]
  exact beq_self_eq_true _
/-- n cells at q, the newest ones -/
def hB (h : Hp) (q n : Nat) (f : Nat → Option Cl) (m : Nat) : Hp := (fun a => if q ≤ a ∧ a < q + n then f (a - q) else h.1 a, q + n, m)
section
variable {h : Hp} {q n m : Nat} {f g : Nat → Option Cl} {e : Cl}
theorem hB_cg (H : ∀ i, i < n → f i = g i) : hB h q n f m = hB h q n g m := by
  refine Prod.ext (funext fun a => ?_) rfl
  show (if q ≤ a ∧ a < q + n then f (a - q) else h.1 a) = if q ≤ a ∧ a < q + n then g (a - q) else h.1 a
  split
  · rw [H (a - q) (by omega)]
  · rfl
theorem hB_at {i : Nat} (hi : i < n) : (hB h q n f m).1 (q + i) = f i := by
  show (if q ≤ q + i ∧ q + i < q + n then f (q + i - q) else h.1 (q + i)) = f i
  rw [if_pos (by omega), Nat.add_sub_cancel_left]
theorem hB_lo {a : Nat} (ha : a < q) : (hB h q n f m).1 a = h.1 a := by
  show (if q ≤ a ∧ a < q + n then f (a - q) else h.1 a) = h.1 a
  rw [if_neg (by omega)]
theorem hB_push (k : Nat) : pushH (hB h q n f m) e k = hB h q (n + 1) (fun i => if i = n then some e else f i) (m + k) := by
  refine Prod.ext (funext fun a => ?_) rfl
  show (if a = q + n then some e else if q ≤ a ∧ a < q + n then f (a - q) else h.1 a) = if q ≤ a ∧ a < q + (n + 1) then (if a - q = n then some e else f (a - q)) else h.1 a
  by_cases h1 : a = q + n
  · rw [if_pos h1, if_pos (by omega), if_pos (by omega)]
  · rw [if_neg h1]
    by_cases h2 : q ≤ a ∧ a < q + n
    · rw [if_pos h2, if_pos (by omega), if_neg (by omega)]
    · rw [if_neg h2, if_neg (by omega)]
theorem hB_up {i : Nat} (hi : i < n) : upH (hB h q n f m) (q + i) e = hB h q n (fun j => if j = i then some e else f j) m := by
  refine Prod.ext (funext fun a => ?_) rfl
  show (if a = q + i then some e else if q ≤ a ∧ a < q + n then f (a - q) else h.1 a) = if q ≤ a ∧ a < q + n then (if a - q = i then some e else f (a - q)) else h.1 a
  by_cases h1 : a = q + i
  · rw [if_pos h1, if_pos (by omega), if_pos (by omega)]
  · rw [if_neg h1]
    by_cases h2 : q ≤ a ∧ a < q + n
    · rw [if_pos h2, if_pos h2, if_neg (by omega)]
    · rw [if_neg h2, if_neg h2]
theorem push_hB (h : Hp) (e : Cl) (k : Nat) : pushH h e k = hB h h.2.1 1 (fun _ => some e) (h.2.2 + k) := by
  refine Prod.ext (funext fun a => ?_) rfl
  show (if a = h.2.1 then some e else h.1 a) = if h.2.1 ≤ a ∧ a < h.2.1 + 1 then some e else h.1 a
  by_cases h1 : a = h.2.1
  · rw [if_pos h1, if_pos (by omega)]
  · rw [if_neg h1, if_neg (by omega)]
theorem nwR_e {H : Hp} {k : Nat} {z : Int} {f : Hp → Option Nat → Rs} (m0 : 0 ≤ z) (m1 : z ≤ 1000000) : nwR H k (iI z) f = f (pushH H (cRR k z.toNat (fun _ => none)) z.toNat) (some H.2.1) := by
  unfold nwR
  rw [iI_nat (show rg z from ⟨by omega, by omega⟩)]
  simp only [iI_l]
  rw [decide_eq_false (show ¬ iI z < iI 0 from (by rw [lt_i (by omega) (by omega) (by omega) (by omega)]; omega)), Nat.ble_eq.mpr (show z.toNat ≤ 1000000 by omega)]
  rfl
end
/-- a new state -/
def C0 : Ct := (st (st (fun _ => 0) 0 40) 3 1, st (st (st (fun _ => 0) 0 24) 1 40) 2 2, (fun _ _ => 0), (fun _ _ => none), fun _ _ => 0)
/-- j receipts of it are made -/
def pS (q j i : Nat) : Option Cl := if i = 0 then some (.inr (6, fS q (cF C0))) else if i = 1 then some (.inl (0, 3, .inl (fun k => iI (cT C0 k)))) else if i = 2 then some (cRR 5 3 (fun k => if k < 3 ∧ k < j then some (q + 4 + 3 * k) else none)) else if i = 3 then some (cRR 5 18 (fun k => if k < 18 ∧ k + 3 < j then some (q + 4 + 3 * (k + 3)) else none)) else if (i - 4) % 3 = 0 then some (.inr (4, fR (q + i) (fun _ => 0))) else if (i - 4) % 3 = 1 then some (cRR 4 12 (fun _ => none)) else some (.inl (0, 24, .inl (fun _ => 0)))
section
variable {c : Nat → Option Nat} {h : Hp} {q m : Nat}
theorem i_rcp {N : Nat} {f : Nat → Option Cl} : fX2_init c (hB h q (N + 1) (fun i => if i = N then some (.inr (4, dfC 4)) else f i) (m + 14)) (some (q + N)) = some (hB h q (N + 3) (fun i => if i = N then some (.inr (4, fR (q + N) (fun _ => 0))) else if i = N + 1 then some (cRR 4 12 (fun _ => none)) else if i = N + 2 then some (.inl (0, 24, .inl (fun _ => 0))) else f i) (m + 50), none) := by
  have n1 : (hB h q (N + 1) (fun i => if i = N then some (.inr (4, dfC 4)) else f i) (m + 14)).2.1 = q + (N + 1) := rfl
  unfold fX2_init
  simp only [dn, iI_l]
  have nx : ∀ {n m : Nat} {F : Nat → Option Cl}, (hB h q n F m).2.1 = q + n := rfl
  rw [nwR_e (by decide) (by decide), n1, show (12 : Int).toNat = 12 from rfl, hB_push]
  rw [wr_e (c := 4) (k := 12) (v := .inr (.inr (some (q + (N + 1))))) (fs := dfC 4) ((hB_at (by omega)).trans ((if_neg (by omega)).trans (if_pos rfl))) (by decide) (by show 12 < 14; decide) rfl, hB_up (by omega)]
  rw [nwA_e (by decide) (by decide), nx, show (24 : Int).toNat = 24 from rfl, hB_push]
  rw [wr_e (c := 4) (k := 13) (v := .inr (.inr (some (q + (N + 1 + 1))))) (fs := (dfC 4).set 12 (.inr (.inr (some (q + (N + 1)))))) ((hB_at (by omega)).trans ((if_neg (by omega)).trans (if_pos rfl))) (by decide) (by show 13 < 14; decide) rfl, hB_up (by omega)]
  have e : m + 14 + 12 + 24 = m + 50 := by omega
  rw [e]
  congr 2
  refine hB_cg fun i hi => ?_
  by_cases h0 : i = N
  · rw [if_pos h0, if_pos h0]; rfl
  · rw [if_neg h0, if_neg h0]
    by_cases h1 : i = N + 1
    · simp only [if_neg (show ¬ i = N + 1 + 1 by omega), if_neg h0, if_pos h1]
    · by_cases h2 : i = N + 2
      · simp only [if_pos (show i = N + 1 + 1 by omega), if_neg h0, if_neg h1, if_pos h2] <;> rfl
      · simp only [if_neg (show ¬ i = N + 1 + 1 by omega), if_neg h0, if_neg h1, if_neg h2]
theorem pS_g {j i : Nat} (h4 : 4 ≤ i) : pS q (j + 1) i = pS q j i := by
  unfold pS
  simp only [if_neg (show ¬ i = 0 by omega), if_neg (show ¬ i = 1 by omega), if_neg (show ¬ i = 2 by omega), if_neg (show ¬ i = 3 by omega)]
/-- the next receipt -/
theorem i_next {j : Nat} {o k : Nat} (ho : (o = 2 ∧ k = j ∧ j < 3) ∨ (o = 3 ∧ j = k + 3 ∧ j < 21)) {n2 : Nat} (hn : n2 = if o = 2 then 3 else 18) : ∃ g, pS q j o = some (cRR 5 n2 g) ∧ hB h q (4 + 3 * j + 3) (fun i => if i = o then some (cRR 5 n2 (va_up g k (some (q + (4 + 3 * j))))) else if i = 4 + 3 * j then some (.inr (4, fR (q + (4 + 3 * j)) (fun _ => 0))) else if i = 4 + 3 * j + 1 then some (cRR 4 12 (fun _ => none)) else if i = 4 + 3 * j + 2 then some (.inl (0, 24, .inl (fun _ => 0))) else pS q j i) m = hB h q (4 + 3 * (j + 1)) (pS q (j + 1)) m := by
  rcases ho with ⟨rfl, rfl, h3⟩ | ⟨rfl, rfl, h3⟩
  · rw [if_pos rfl] at hn
    subst hn
    refine ⟨_, rfl, ?_⟩
    rw [show 4 + 3 * (k + 1) = 4 + 3 * k + 3 by omega]
    refine hB_cg fun i hi => ?_
    by_cases e0 : i = 2
    · rw [if_pos e0, e0]
      unfold pS
      rw [if_neg (by decide), if_neg (by decide), if_pos rfl]
      congr 2
      congr 5
      funext a
      unfold va_up
      by_cases ea : a = k
      · rw [if_pos ea, if_pos (by omega), ea, Nat.add_assoc]
      · rw [if_neg ea]
        show (if a < 3 ∧ a < k then some (q + 4 + 3 * a) else none) = _
        by_cases eb : a < 3 ∧ a < k
        · rw [if_pos eb, if_pos (by omega)]
        · rw [if_neg eb, if_neg (by omega)]
    · rw [if_neg e0]
      by_cases h4 : 4 ≤ i
      · rw [pS_g (j := k) h4]
        by_cases e1 : i = 4 + 3 * k
        · rw [if_pos e1, e1]; unfold pS; rw [if_neg (by omega), if_neg (by omega), if_neg (by omega), if_neg (by omega), if_pos (by omega)]
        · rw [if_neg e1]
          by_cases e2 : i = 4 + 3 * k + 1
          · rw [if_pos e2, e2]; unfold pS; rw [if_neg (by omega), if_neg (by omega), if_neg (by omega), if_neg (by omega), if_neg (by omega), if_pos (by omega)]
          · rw [if_neg e2]
            by_cases e3 : i = 4 + 3 * k + 2
            · rw [if_pos e3, e3]; unfold pS; rw [if_neg (by omega), if_neg (by omega), if_neg (by omega), if_neg (by omega), if_neg (by omega), if_neg (by omega)]
            · rw [if_neg e3]
      · rw [if_neg (by omega), if_neg (by omega), if_neg (by omega)]
        obtain rfl | rfl | rfl : i = 0 ∨ i = 1 ∨ i = 3 := by omega
        · rfl
        · rfl
        · unfold pS
          rw [if_neg (by decide), if_neg (by decide), if_neg (by decide), if_pos rfl, if_neg (by decide), if_neg (by decide), if_neg (by decide), if_pos rfl]
          congr 2
          congr 5
          funext a
          rw [if_neg (by omega), if_neg (by omega)]
  · rw [if_neg (by decide)] at hn
    subst hn
    refine ⟨_, rfl, ?_⟩
    rw [show 4 + 3 * (k + 3 + 1) = 4 + 3 * (k + 3) + 3 by omega]
    refine hB_cg fun i hi => ?_
    by_cases e0 : i = 3
    · rw [if_pos e0, e0]
      unfold pS
      rw [if_neg (by decide), if_neg (by decide), if_neg (by decide), if_pos rfl]
      congr 2
      congr 5
      funext a
      unfold va_up
      by_cases ea : a = k
      · rw [if_pos ea, if_pos (by omega), ea, Nat.add_assoc]
      · rw [if_neg ea]
        show (if a < 18 ∧ a + 3 < k + 3 then some (q + 4 + 3 * (a + 3)) else none) = _
        by_cases eb : a < 18 ∧ a + 3 < k + 3
        · rw [if_pos eb, if_pos (by omega)]
        · rw [if_neg eb, if_neg (by omega)]
    · rw [if_neg e0]
      by_cases h4 : 4 ≤ i
      · rw [pS_g (j := k + 3) h4]
        by_cases e1 : i = 4 + 3 * (k + 3)
        · rw [if_pos e1, e1]; unfold pS; rw [if_neg (by omega), if_neg (by omega), if_neg (by omega), if_neg (by omega), if_pos (by omega)]
        · rw [if_neg e1]
          by_cases e2 : i = 4 + 3 * (k + 3) + 1
          · rw [if_pos e2, e2]; unfold pS; rw [if_neg (by omega), if_neg (by omega), if_neg (by omega), if_neg (by omega), if_neg (by omega), if_pos (by omega)]
          · rw [if_neg e2]
            by_cases e3 : i = 4 + 3 * (k + 3) + 2
            · rw [if_pos e3, e3]; unfold pS; rw [if_neg (by omega), if_neg (by omega), if_neg (by omega), if_neg (by omega), if_neg (by omega), if_neg (by omega)]
            · rw [if_neg e3]
      · rw [if_neg (by omega), if_neg (by omega), if_neg (by omega)]
        obtain rfl | rfl | rfl : i = 0 ∨ i = 1 ∨ i = 2 := by omega
        · rfl
        · rfl
        · unfold pS
          rw [if_neg (by decide), if_neg (by decide), if_pos rfl, if_neg (by decide), if_neg (by decide), if_pos rfl]
          congr 2
          congr 5
          funext a
          by_cases eb : a < 3
          · rw [if_pos (by omega), if_pos (by omega)]
          · rw [if_neg (by omega), if_neg (by omega)]
theorem i_ledger : ∀ (d fu k m : Nat), d < fu → k + d = 18 → fX4_init_85 c fu (hB h q (4 + 3 * (k + 3)) (pS q (k + 3)) m) (some q) (iI (k : Int)) = some (hB h q 67 (pS q 21) (m + 50 * d), none) := by
  intro d
  induction d with
  | zero =>
    intro fu k m hf hk
    obtain ⟨f, rfl⟩ : ∃ f, fu = f + 1 := ⟨fu - 1, by omega⟩
    have ek : k = 18 := by omega
    subst ek
    have c0 : (hB h q (4 + 3 * (18 + 3)) (pS q (18 + 3)) m).1 q = some (.inr (6, fS q (cF C0))) := hB_at (i := 0) (by decide)
    have c3 : (hB h q (4 + 3 * (18 + 3)) (pS q (18 + 3)) m).1 (q + 3) = some (cRR 5 18 _) := (hB_at (i := 3) (by decide)).trans rfl
    unfold fX4_init_85
    rw [rdR_e c0 rfl rfl, lenA_e c3, if_neg (show ¬ iI ((18 : Nat) : Int) < iI ((18 : Nat) : Int) by decide)]
    rfl
  | succ d ih =>
    intro fu k m hf hk
    obtain ⟨f, rfl⟩ : ∃ f, fu = f + 1 := ⟨fu - 1, by omega⟩
    obtain ⟨g, g1, g2⟩ := i_next (h := h) (q := q) (m := m + 50) (j := k + 3) (o := 3) (k := k) (Or.inr ⟨rfl, rfl, by omega⟩) (n2 := 18) rfl
    have c0 : (hB h q (4 + 3 * (k + 3)) (pS q (k + 3)) m).1 q = some (.inr (6, fS q (cF C0))) := hB_at (i := 0) (by omega)
    have c3 : (hB h q (4 + 3 * (k + 3)) (pS q (k + 3)) m).1 (q + 3) = some (cRR 5 18 g) := (hB_at (i := 3) (by omega)).trans g1
    have n0 : (hB h q (4 + 3 * (k + 3)) (pS q (k + 3)) m).2.1 = q + (4 + 3 * (k + 3)) := rfl
    unfold fX4_init_85 nwO
    simp only [iI_l]
    rw [rdR_e c0 rfl rfl, lenA_e c3, if_pos (show iI (k : Int) < iI ((18 : Nat) : Int) from (by rw [lt_i (by omega) (by omega) (by omega) (by omega)]; omega)), rdR_e c0 rfl rfl, show nmC 4 = 14 from rfl, hB_push, n0]
    simp only [dn]
    rw [i_rcp]
    simp only [cc_s, kV_n]
    have c3' : ∀ F : Nat → Option Cl, F 3 = some (cRR 5 18 g) → (hB h q (4 + 3 * (k + 3) + 3) F (m + 50)).1 (q + 3) = some (cRR 5 18 g) := fun F hF => (hB_at (i := 3) (by omega)).trans hF
    have e5 : isEl (hB h q (4 + 3 * (k + 3) + 3) (fun i => if i = 4 + 3 * (k + 3) then some (.inr (4, fR (q + (4 + 3 * (k + 3))) (fun _ => 0))) else if i = 4 + 3 * (k + 3) + 1 then some (cRR 4 12 (fun _ => none)) else if i = 4 + 3 * (k + 3) + 2 then some (.inl (0, 24, .inl (fun _ => 0))) else pS q (k + 3) i) (m + 50)) 5 (some (q + (4 + 3 * (k + 3)))) = true := by
      exact isEl_o ((hB_at (by omega)).trans (if_pos rfl)) rfl
    rw [astR_e (c3' _ (by rw [if_neg (by omega), if_neg (by omega), if_neg (by omega)]; exact g1)) (by decide) (by decide) (by omega) (by omega) (by decide) e5, hB_up (by omega), Int.toNat_natCast]
    rw [show (.inl (5, 18, .inr (.inr (.inr (.inr (va_up g k (some (q + (4 + 3 * (k + 3)))))))))) = cRR 5 18 (va_up g k (some (q + (4 + 3 * (k + 3))))) from rfl, g2, iI_add, iI_k1, show k + 3 + 1 = k + 1 + 3 by omega, ih f (k + 1) (m + 50) (by omega) (by omega), show m + 50 + 50 * d = m + 50 * (d + 1) by omega]
theorem i_open : ∀ (d fu k m : Nat), d < fu → k + d = 3 → fX4_init_55 c fu (hB h q (4 + 3 * k) (pS q k) m) (some q) (iI (k : Int)) = some (hB h q 67 (pS q 21) (m + 50 * d + 900), none) := by
  intro d
  induction d with
  | zero =>
    intro fu k m hf hk
    obtain ⟨f, rfl⟩ : ∃ f, fu = f + 1 := ⟨fu - 1, by omega⟩
    have ek : k = 3 := by omega
    subst ek
    have c0 : (hB h q (4 + 3 * 3) (pS q 3) m).1 q = some (.inr (6, fS q (cF C0))) := hB_at (i := 0) (by decide)
    have c3 : (hB h q (4 + 3 * 3) (pS q 3) m).1 (q + 2) = some (cRR 5 3 _) := (hB_at (i := 2) (by decide)).trans rfl
    unfold fX4_init_55
    simp only [iI_l]
    rw [rdR_e c0 rfl rfl, lenA_e c3, if_neg (show ¬ iI ((3 : Nat) : Int) < iI ((3 : Nat) : Int) by decide)]
    have key := i_ledger (c := c) (h := h) (q := q) 18 FU 0 m (by decide) (by decide)
    rw [show ((0 : Nat) : Int) = 0 from rfl] at key
    rw [key]
  | succ d ih =>
    intro fu k m hf hk
    obtain ⟨f, rfl⟩ : ∃ f, fu = f + 1 := ⟨fu - 1, by omega⟩
    obtain ⟨g, g1, g2⟩ := i_next (h := h) (q := q) (m := m + 50) (j := k) (o := 2) (k := k) (Or.inl ⟨rfl, rfl, by omega⟩) (n2 := 3) rfl
    have c0 : (hB h q (4 + 3 * k) (pS q k) m).1 q = some (.inr (6, fS q (cF C0))) := hB_at (i := 0) (by omega)
    have c3 : (hB h q (4 + 3 * k) (pS q k) m).1 (q + 2) = some (cRR 5 3 g) := (hB_at (i := 2) (by omega)).trans g1
    have n0 : (hB h q (4 + 3 * k) (pS q k) m).2.1 = q + (4 + 3 * k) := rfl
    unfold fX4_init_55 nwO
    simp only [iI_l]
    rw [rdR_e c0 rfl rfl, lenA_e c3, if_pos (show iI (k : Int) < iI ((3 : Nat) : Int) from (by rw [lt_i (by omega) (by omega) (by omega) (by omega)]; omega)), rdR_e c0 rfl rfl, show nmC 4 = 14 from rfl, hB_push, n0]
    simp only [dn]
    rw [i_rcp]
    simp only [cc_s, kV_n]
    have c3' : ∀ F : Nat → Option Cl, F 2 = some (cRR 5 3 g) → (hB h q (4 + 3 * k + 3) F (m + 50)).1 (q + 2) = some (cRR 5 3 g) := fun F hF => (hB_at (i := 2) (by omega)).trans hF
    have e5 : isEl (hB h q (4 + 3 * k + 3) (fun i => if i = 4 + 3 * k then some (.inr (4, fR (q + (4 + 3 * k)) (fun _ => 0))) else if i = 4 + 3 * k + 1 then some (cRR 4 12 (fun _ => none)) else if i = 4 + 3 * k + 2 then some (.inl (0, 24, .inl (fun _ => 0))) else pS q k i) (m + 50)) 5 (some (q + (4 + 3 * k))) = true := by
      exact isEl_o ((hB_at (by omega)).trans (if_pos rfl)) rfl
    rw [astR_e (c3' _ (by rw [if_neg (by omega), if_neg (by omega), if_neg (by omega)]; exact g1)) (by decide) (by decide) (by omega) (by omega) (by decide) e5, hB_up (by omega), Int.toNat_natCast]
    rw [show (.inl (5, 3, .inr (.inr (.inr (.inr (va_up g k (some (q + (4 + 3 * k))))))))) = cRR 5 3 (va_up g k (some (q + (4 + 3 * k)))) from rfl, g2, iI_add, iI_k1, ih f (k + 1) (m + 50) (by omega) (by omega), show m + 50 + 50 * d + 900 = m + 50 * (d + 1) + 900 by omega]
theorem pS_sC (i : Nat) (hi : i < 67) : pS q 21 i = sC q C0 i := by
  unfold pS sC
  by_cases e0 : i = 0
  · rw [if_pos e0, if_pos e0]
  rw [if_neg e0, if_neg e0]
  by_cases e1 : i = 1
  · rw [if_pos e1, if_pos e1]
  rw [if_neg e1, if_neg e1]
  by_cases e2 : i = 2
  · rw [if_pos e2, if_pos e2]
    have : (fun k => if k < 3 ∧ k < 21 then some (q + 4 + 3 * k) else none) = opn q 3 0 := by
      funext k
      unfold opn
      by_cases e : k < 3
      · rw [if_pos (by omega), if_pos e]; rfl
      · rw [if_neg (by omega), if_neg e]
    rw [this]; rfl
  rw [if_neg e2, if_neg e2]
  by_cases e3 : i = 3
  · rw [if_pos e3, if_pos e3]
    have : (fun k => if k < 18 ∧ k + 3 < 21 then some (q + 4 + 3 * (k + 3)) else none) = opn q 18 3 := by
      funext k
      unfold opn
      by_cases e : k < 18
      · rw [if_pos (by omega), if_pos e]
      · rw [if_neg (by omega), if_neg e]
    rw [this]; rfl
  rw [if_neg e3, if_neg e3]
  rfl
theorem i_state : fX4_init c (pushH h (.inr (6, dfC 6)) 13) (some h.2.1) = some (hB h h.2.1 67 (sC h.2.1 C0) (h.2.2 + 1087), none) := by
  have at0 : ∀ {n m : Nat} {F : Nat → Option Cl} {e : Option Cl}, 0 < n → F 0 = e → (hB h h.2.1 n F m).1 h.2.1 = e := fun hn hF => (hB_at (i := 0) hn).trans hF
  have up0 : ∀ {n m : Nat} {F : Nat → Option Cl} {e : Cl}, 0 < n → upH (hB h h.2.1 n F m) h.2.1 e = hB h h.2.1 n (fun j => if j = 0 then some e else F j) m := fun hn => hB_up (i := 0) hn
  have nx : ∀ {n m : Nat} {F : Nat → Option Cl}, (hB h h.2.1 n F m).2.1 = h.2.1 + n := rfl
  unfold fX4_init
  simp only [dn, iI_l]
  rw [push_hB]
  rw [wr_e (c := 6) (k := 0) (v := .inl (iI 40)) (at0 (by decide) rfl) (by decide) (by show 0 < 13; decide) rfl, up0 (by decide)]
  rw [wr_e (c := 6) (k := 3) (v := .inl (iI 1)) (fs := (dfC 6).set 0 (.inl (iI 40))) (at0 (by decide) rfl) (by decide) (by show 3 < 13; decide) rfl, up0 (by decide)]
  rw [nwA_e (by decide) (by decide), nx, show (3 : Int).toNat = 3 from rfl, hB_push]
  have a1 : ∀ {n m : Nat} {F : Nat → Option Cl} {e : Option Cl}, 1 < n → F 1 = e → (hB h h.2.1 n F m).1 (h.2.1 + 1) = e := fun hn hF => (hB_at (i := 1) hn).trans hF
  have z0 : (fun _ => 0 : Nat → Int32) = fun j => iI ((fun _ => 0 : Nat → Int) j) := rfl
  rw [astI_e (k := 0) (n := 3) (g := fun j => iI ((fun _ => 0 : Nat → Int) j)) (a1 (by decide) rfl) rfl (by decide) (by decide) (by decide) (by decide), show nar 0 (iI 24) = iI 24 from rfl, show (0 : Int).toNat = 0 from rfl, upd_row, hB_up (by decide)]
  rw [astI_e (k := 0) (n := 3) (g := fun j => iI (st (fun _ => 0) 0 24 j)) (a1 (by decide) rfl) rfl (by decide) (by decide) (by decide) (by decide), show nar 0 (iI 40) = iI 40 from rfl, show (1 : Int).toNat = 1 from rfl, upd_row, hB_up (by decide)]
  rw [astI_e (k := 0) (n := 3) (g := fun j => iI (st (st (fun _ => 0) 0 24) 1 40 j)) (a1 (by decide) rfl) rfl (by decide) (by decide) (by decide) (by decide), show nar 0 (iI 2) = iI 2 from rfl, show (2 : Int).toNat = 2 from rfl, upd_row, hB_up (by decide)]
  rw [wr_e (c := 6) (k := 10) (v := .inr (.inr (some (h.2.1 + 1)))) (fs := ((dfC 6).set 0 (.inl (iI 40))).set 3 (.inl (iI 1))) (at0 (by decide) rfl) (by decide) (by show 10 < 13; decide) rfl, up0 (by decide)]
  rw [nwR_e (by decide) (by decide), nx, show (3 : Int).toNat = 3 from rfl, hB_push]
  rw [wr_e (c := 6) (k := 11) (v := .inr (.inr (some (h.2.1 + (1 + 1))))) (fs := (((dfC 6).set 0 (.inl (iI 40))).set 3 (.inl (iI 1))).set 10 (.inr (.inr (some (h.2.1 + 1))))) (at0 (by decide) rfl) (by decide) (by show 11 < 13; decide) rfl, up0 (by decide)]
  rw [nwR_e (by decide) (by decide), nx, show (18 : Int).toNat = 18 from rfl, hB_push]
  rw [wr_e (c := 6) (k := 12) (v := .inr (.inr (some (h.2.1 + (1 + 1 + 1))))) (fs := ((((dfC 6).set 0 (.inl (iI 40))).set 3 (.inl (iI 1))).set 10 (.inr (.inr (some (h.2.1 + 1))))).set 11 (.inr (.inr (some (h.2.1 + (1 + 1)))))) (at0 (by decide) rfl) (by decide) (by show 12 < 13; decide) rfl, up0 (by decide)]
  have key := i_open (c := c) (h := h) (q := h.2.1) 3 FU 0 (h.2.2 + 13 + 3 + 3 + 18) (by decide) (by decide)
  rw [show ((0 : Nat) : Int) = 0 from rfl, show h.2.2 + 13 + 3 + 3 + 18 + 50 * 3 + 900 = h.2.2 + 1087 by omega, hB_cg (f := pS h.2.1 21) (g := sC h.2.1 C0) (fun i hi => pS_sC i hi)] at key
  rw [← key]
  congr 1
  refine hB_cg (n := 4) fun i hi => ?_
  obtain rfl | rfl | rfl | rfl : i = 0 ∨ i = 1 ∨ i = 2 ∨ i = 3 := by omega
  · rfl
  · rfl
  · show some (cRR 5 3 (fun _ => none)) = some (cRR 5 3 (fun k => if k < 3 ∧ k < 0 then _ else none))
    congr 2
    congr 5
    funext k
    rw [if_neg (by omega)]
  · show some (cRR 5 18 (fun _ => none)) = some (cRR 5 18 (fun k => if k < 18 ∧ k + 3 < 0 then _ else none))
    congr 2
    congr 5
    funext k
    rw [if_neg (by omega)]
end
