/-! THE FIRST STATE, of both sides -/
def t0 (k : Nat) : Int := if k = 0 then 24 else if k = 1 then 40 else if k = 2 then 2 else if k = 7 then 40 else if k = 10 then 1 else 0
def f0 (r k : Nat) : Int := if r < 3 ∧ k = 1 then (r : Int) else 0
def D0 : Dt := (t0, f0, (fun _ _ _ => 0), (fun _ _ _ => 0), fun _ _ => 0)
def Z0 : Zt := (D0, 0, (fun _ => D0), (fun _ => false), (fun _ => D0), 0, fun _ => 0)
theorem D0_F {r k : Nat} (h : k ≠ 1) : gF D0 r k = 0 := if_neg (fun e => h e.2)
theorem D0_hw (w : Int) (r : Nat) : hwP D0 w r = false := Bool.eq_false_iff.mpr (fun e => by have := hwP_t.mp e; rw [D0_F (by decide)] at this; omega)
theorem D0_many (w : Int) : manyI D0 w = 0 := by
  have : ∀ (m k : Nat), sF (fun r => bI (hwP D0 w r = true)) k m = 0 := by
    intro m
    induction m with
    | zero => intro k; rfl
    | succ m ih => intro k; simp only [sF]; rw [ih, bI_f (by rw [D0_hw]; decide)]; rfl
  exact this 18 3
theorem D0_n (r : Nat) : nIt D0 r = 0 ∧ nEt D0 r = 0 ∧ struckI D0 r = 0 := by
  have e1 : nIt D0 r = 0 := by unfold nIt; rw [D0_F (by decide)]; rfl
  exact ⟨e1, by unfold nEt; rw [D0_F (by decide)]; rfl, by unfold struckI; rw [e1]; rfl⟩
theorem Iv_0 : Iv 0 D0 := by
  refine ⟨fun r hr => ⟨⟨?_, fun i => ?_, fun _ _ => ?_, fun _ => ?_⟩, fun i h => ?_, fun k hk => ?_, fun k h => ?_, fun _ h => ?_, fun i _ => ⟨rfl, rfl⟩, fun _ _ => rfl, ?_, fun h3 => ⟨D0_F (by decide), ?_, fun k k2 k8 => D0_F (by omega)⟩, fun _ => ⟨?_, fun h => ?_⟩⟩, ?_, ⟨⟨fun r q _ _ _ _ n _ => ?_, fun r _ _ n => ?_, fun r q _ _ _ _ e _ => ?_⟩, ?_, fun r _ _ e => ?_, fun v v1 v2 v3 => ?_, fun r q _ _ _ _ e _ _ => ?_⟩, ?_⟩
  · rw [D0_F (by decide), D0_F (by decide)]; decide
  · show pRg (fun _ => 0); unfold pRg; dsimp only; decide
  · show 0 ≤ (0 : Int) ∧ (0 : Int) ≤ 27; decide
  · show 0 ≤ (0 : Int) ∧ (0 : Int) < 32; decide
  · rw [(D0_n r).1] at h; omega
  · show 0 ≤ f0 r k ∧ f0 r k < 1000000
    unfold f0; split <;> omega
  · rw [(D0_n r).2.1] at h; omega
  · rw [D0_F (by decide)] at h; omega
  · rw [D0_F (by decide), D0_F (by decide), (D0_n r).2.2]; rfl
  · exact if_pos ⟨h3, rfl⟩
  · rw [D0_F (by decide)]; decide
  · rw [D0_F (by decide)] at h; omega
  · unfold RgT; show _ ∧ _; decide
  · rw [D0_F (by decide)] at n; omega
  · rw [D0_F (by decide)] at n; omega
  · rw [D0_hw] at e; exact absurd e (by decide)
  · rw [D0_many, D0_many, D0_many]; decide
  · rw [D0_hw] at e; exact absurd e (by decide)
  · change v ≤ 0 at v3; omega
  · rw [D0_hw] at e; exact absurd e (by decide)
  · decide
theorem ZI_0 : ZI 0 Z0 := ⟨⟨Iv_0, fun k hk => absurd hk (Nat.not_lt_zero k), fun i _ h => absurd h Bool.false_ne_true⟩, by decide, by decide, fun j hj => absurd hj (Nat.not_lt_zero j)⟩
theorem pn_0 : pnI D0 = 0 := pn_no (fF_no 18 3 (fun i _ _ => D0_hw 1 i))
theorem CD_0 (fz : Nat → Option Cl) : CD fz C0 D0 := by
  refine ⟨fun k hk => ?_, ⟨rfl, rfl, rfl, rfl, rfl, rfl, rfl, rfl, rfl, pn_0.symm, fun _ _ _ _ => Or.inl rfl⟩, fun r _ => (D0_F (by decide)).symm, fun r hr => ⟨⟨(D0_F (by decide)).symm, (D0_F (by decide)).symm, rfl⟩, fun i hi => ?_, fun k hk => ?_⟩, fun r _ _ n => ?_⟩
  · obtain rfl | rfl | rfl : k = 0 ∨ k = 1 ∨ k = 2 := by omega
    all_goals rfl
  · rw [(D0_n r).1] at hi; omega
  · rw [(D0_n r).2.1] at hk; omega
  · rw [D0_F (by decide)] at n; omega
/-- the reference's memory as it is made -/
def MI0 : Nat → Nat → Int := mset (mset (mset M0 1 13 0) 1 99 1) 1 185 2
theorem MI0_1 (j : Nat) : MI0 1 j = if j = 185 then 2 else if j = 99 then 1 else if j = 13 then 0 else if j = 10 then 1 else if j = 7 then 40 else if j = 2 then 2 else if j = 1 then 40 else if j = 0 then 24 else 0 := by
  unfold MI0 M0
  rw [mset_at, mset_at, mset_at, mset_at, mset_at, mset_at, mset_at, mset_at]
theorem MI0_o {p : Nat} (hp : p ≠ 1) (j : Nat) : MI0 p j = 0 := by
  unfold MI0 M0
  rw [mset_ne hp, mset_ne hp, mset_ne hp, mset_ne hp, mset_ne hp, mset_ne hp, mset_ne hp, mset_ne hp]
theorem six_0 (w : Nat) : six (fun _ => 0) w = 0 := rfl
theorem MI0_r {r k : Nat} (hr : r < 21) (hk : k < 86) : MI0 1 (12 + 86 * r + k) = f0 r k := by
  rw [MI0_1]
  unfold f0
  by_cases h2 : r = 2 ∧ k = 1
  · obtain ⟨rfl, rfl⟩ := h2; rfl
  · rw [if_neg (by omega)]
    by_cases h1 : r = 1 ∧ k = 1
    · obtain ⟨rfl, rfl⟩ := h1; rfl
    · rw [if_neg (by omega)]
      by_cases h0 : r = 0 ∧ k = 1
      · obtain ⟨rfl, rfl⟩ := h0; rfl
      · simp only [if_neg (show ¬ (r < 3 ∧ k = 1) by omega)]
        rw [if_neg (by omega), if_neg (by omega), if_neg (by omega), if_neg (by omega), if_neg (by omega), if_neg (by omega)]
section
variable {c : Nat → Option Nat} {h : Hp} {a n : Nat}
end
