/-! THE FIRST STATE, of both sides -/
def t0 (k : Nat) : Int := if k = 0 then 24 else if k = 1 then 40 else if k = 2 then 2 else if k = 7 then 40 else if k = 10 then 1 else 0
def f0 (r k : Nat) : Int := if r < 3 ∧ k = 1 then (r : Int) else 0
def D0 : Dt := (t0, f0, (fun _ _ _ => 0), (fun _ _ _ => 0), fun _ _ => 0)
def Z0 : Zt := (D0, 0, (fun _ => D0), (fun _ => false), (fun _ => D0), 0, fun _ => 0)
theorem D0_F {r k : Nat} (h : k ≠ 1) : gF D0 r k = 0 := if_neg (fun e => h e.2)
theorem D0_hw (w : Int) (r : Nat) : hwP D0 w r = false := Bool.eq_false_iff.mpr (fun e => by have := hwP_t.mp e; rw [D0_F (by decide)] at this; omega)
theorem D0_many (w : Int) : manyI D0 w = 0 := by
  have : ∀ (m k : Nat), sF (fun r => bI (hwP D0 w r = true)) k m = 0 := by
    intro m
    induction m with
    | zero => intro k; rfl
    | succ m ih => intro k; simp only [sF]; rw [ih, bI_f (by rw [D0_hw]; decide)]; rfl
  exact this 18 3
theorem D0_n (r : Nat) : nIt D0 r = 0 ∧ nEt D0 r = 0 ∧ struckI D0 r = 0 := by
  have e1 : nIt D0 r = 0 := by unfold nIt; rw [D0_F (by decide)]; rfl
  exact ⟨e1, by unfold nEt; rw [D0_F (by decide)]; rfl, by unfold struckI; rw [e1]; rfl⟩
theorem Iv_0 : Iv 0 D0 := by
  refine ⟨fun r hr => ⟨⟨?_, fun i => ?_, fun _ _ => ?_, fun _ => ?_⟩, fun i h => ?_, fun k hk => ?_, fun k h => ?_, fun _ h => ?_, fun i _ => ⟨rfl, rfl⟩, fun _ _ => rfl, ?_, fun h3 => ⟨D0_F (by decide), ?_, fun k k2 k8 => D0_F (by omega)⟩, fun _ => ⟨?_, fun h => ?_⟩⟩, ?_, ⟨⟨fun r q _ _ _ _ n _ => ?_, fun r _ _ n => ?_, fun r q _ _ _ _ e _ => ?_⟩, ?_, fun r _ _ e => ?_, fun v v1 v2 v3 => ?_, fun r q _ _ _ _ e _ _ => ?_⟩, ?_⟩
  · rw [D0_F (by decide), D0_F (by decide)]; decide
  · show pRg (fun _ => 0); unfold pRg; dsimp only; decide
  · show 0 ≤ (0 : Int) ∧ (0 : Int) ≤ 27; decide
  · show 0 ≤ (0 : Int) ∧ (0 : Int) < 32; decide
  · rw [(D0_n r).1] at h; omega
  · show 0 ≤ f0 r k ∧ f0 r k < 1000000
    unfold f0; split <;> omega
  · rw [(D0_n r).2.1] at h; omega
  · rw [D0_F (by decide)] at h; omega
  · rw [D0_F (by decide), D0_F (by decide), (D0_n r).2.2]; rfl
  · exact if_pos ⟨h3, rfl⟩
  · rw [D0_F (by decide)]; decide
  · rw [D0_F (by decide)] at h; omega
  · unfold RgT; show _ ∧ _; decide
  · rw [D0_F (by decide)] at n; omega
  · rw [D0_F (by decide)] at n; omega
  · rw [D0_hw] at e; exact absurd e (by decide)
  · rw [D0_many, D0_many, D0_many]; decide
  · rw [D0_hw] at e; exact absurd e (by decide)
  · change v ≤ 0 at v3; omega
  · rw [D0_hw] at e; exact absurd e (by decide)
  · decide
theorem ZI_0 : ZI 0 Z0 := ⟨⟨Iv_0, fun k hk => absurd hk (Nat.not_lt_zero k), fun i _ h => absurd h Bool.false_ne_true⟩, by decide, by decide, fun j hj => absurd hj (Nat.not_lt_zero j)⟩
theorem pn_0 : pnI D0 = 0 := pn_no (fF_no 18 3 (fun i _ _ => D0_hw 1 i))
theorem CD_0 (fz : Nat → Option Cl) : CD fz C0 D0 := by
  refine ⟨fun k hk => ?_, ⟨rfl, rfl, rfl, rfl, rfl, rfl, rfl, rfl, rfl, pn_0.symm, fun _ _ _ _ => Or.inl rfl⟩, fun r _ => (D0_F (by decide)).symm, fun r hr => ⟨⟨(D0_F (by decide)).symm, (D0_F (by decide)).symm, rfl⟩, fun i hi => ?_, fun k hk => ?_⟩, fun r _ _ n => ?_⟩
  · obtain rfl | rfl | rfl : k = 0 ∨ k = 1 ∨ k = 2 := by omega
    all_goals rfl
  · rw [(D0_n r).1] at hi; omega
  · rw [(D0_n r).2.1] at hk; omega
  · rw [D0_F (by decide)] at n; omega
/-- the reference's memory as it is made -/
def MI0 : Nat → Nat → Int := mset (mset (mset M0 1 13 0) 1 99 1) 1 185 2
theorem MI0_1 (j : Nat) : MI0 1 j = if j = 185 then 2 else if j = 99 then 1 else if j = 13 then 0 else if j = 10 then 1 else if j = 7 then 40 else if j = 2 then 2 else if j = 1 then 40 else if j = 0 then 24 else 0 := by
  unfold MI0 M0
  rw [mset_at, mset_at, mset_at, mset_at, mset_at, mset_at, mset_at, mset_at]
theorem MI0_o {p : Nat} (hp : p ≠ 1) (j : Nat) : MI0 p j = 0 := by
  unfold MI0 M0
  rw [mset_ne hp, mset_ne hp, mset_ne hp, mset_ne hp, mset_ne hp, mset_ne hp, mset_ne hp, mset_ne hp]
theorem six_0 (w : Nat) : six (fun _ => 0) w = 0 := rfl
theorem MI0_r {r k : Nat} (hr : r < 21) (hk : k < 86) : MI0 1 (12 + 86 * r + k) = f0 r k := by
  rw [MI0_1]
  unfold f0
  by_cases h2 : r = 2 ∧ k = 1
  · obtain ⟨rfl, rfl⟩ := h2; rfl
  · rw [if_neg (by omega)]
    by_cases h1 : r = 1 ∧ k = 1
    · obtain ⟨rfl, rfl⟩ := h1; rfl
    · rw [if_neg (by omega)]
      by_cases h0 : r = 0 ∧ k = 1
      · obtain ⟨rfl, rfl⟩ := h0; rfl
      · simp only [if_neg (show ¬ (r < 3 ∧ k = 1) by omega)]
        rw [if_neg (by omega), if_neg (by omega), if_neg (by omega), if_neg (by omega), if_neg (by omega), if_neg (by omega)]
theorem MZ_MI0 : MZ MI0 Z0 := by
  have z : ∀ {r k : Nat}, r < 21 → 10 ≤ k → k < 86 → MI0 1 (12 + 86 * r + k) = 0 := fun hr h1 h2 => by rw [MI0_r hr h2]; exact if_neg (by omega)
  refine ⟨⟨fun k hk => ?_, fun r hr => ⟨fun k hk => MI0_r hr (by omega), fun w hw => ?_, fun i hi => ⟨?_, fun w hw => ?_⟩⟩⟩, ⟨MI0_o (by decide) 3, by decide⟩, fun k hk => absurd hk (Nat.not_lt_zero k), fun i _ => MI0_o (by decide) i, fun i _ h => absurd h Bool.false_ne_true, ⟨MI0_o (by decide) 7, by decide⟩, fun j hj => absurd hj (Nat.not_lt_zero j)⟩
  · rw [MI0_1]
    show _ = t0 k
    unfold t0
    obtain rfl | rfl | rfl | rfl | rfl | rfl | rfl | rfl | rfl | rfl | rfl | rfl : k = 0 ∨ k = 1 ∨ k = 2 ∨ k = 3 ∨ k = 4 ∨ k = 5 ∨ k = 6 ∨ k = 7 ∨ k = 8 ∨ k = 9 ∨ k = 10 ∨ k = 11 := by omega
    all_goals rfl
  · rw [Nat.add_assoc, z hr (by omega) (by omega)]; exact (six_0 w).symm
  · rw [Nat.add_assoc, z hr (by omega) (by omega)]; rfl
  · rw [show 12 + 86 * r + 15 + 6 * i + w = 12 + 86 * r + (15 + 6 * i + w) by omega, z hr (by omega) (by omega)]; exact (six_0 w).symm
section
variable {c : Nat → Option Nat} {h : Hp} {a n : Nat}
theorem m_initA (K : Hp → Rs) {N : Nat} (hN : N = n + 1818 + 10908 + 3636 + 2 + 80 + 40 + 30) : (nwA (hh h a [.inr (8, dfC 8)] n) 0 (iI 1818) (fun h2 r3 => wr h2 (some a) 8 1 (.inr (.inr r3)) (fun h4 => nwA h4 0 (iI 10908) (fun h5 r6 => wr h5 (some a) 8 2 (.inr (.inr r6)) (fun h7 => nwA h7 0 (iI 3636) (fun h8 r9 => wr h8 (some a) 8 4 (.inr (.inr r9)) (fun h10 => nwA h10 2 (iI 2) (fun h11 r12 => wr h11 (some a) 8 5 (.inr (.inr r12)) (fun h13 => nwA h13 0 (iI 80) (fun h14 r15 => wr h14 (some a) 8 6 (.inr (.inr r15)) (fun h16 => nwA h16 0 (iI 40) (fun h17 r18 => wr h17 (some a) 8 8 (.inr (.inr r18)) (fun h19 => nwA h19 0 (iI 30) (fun h20 r21 => wr h20 (some a) 8 13 (.inr (.inr r21)) (fun h22 => wr h22 (some a) 8 0 (.inl (iI 0)) (fun h23 => K h23)))))))))))))))) = K (hM (h.1, a + 8, N) a (fun _ _ => 0)) := by
  have hN' : n + (1818 : Int).toNat + (10908 : Int).toNat + (3636 : Int).toNat + (2 : Int).toNat + (80 : Int).toNat + (40 : Int).toNat + (30 : Int).toNat = N := by omega
  rw [nwA_l (by decide) (by decide), List.cons_append, wr_hh rfl rfl]
  rw [nwA_l (by decide) (by decide), List.cons_append, wr_hh rfl rfl]
  rw [nwA_l (by decide) (by decide), List.cons_append, wr_hh rfl rfl]
  rw [nwA_l (by decide) (by decide), List.cons_append, wr_hh rfl rfl]
  rw [nwA_l (by decide) (by decide), List.cons_append, wr_hh rfl rfl]
  rw [nwA_l (by decide) (by decide), List.cons_append, wr_hh rfl rfl]
  rw [nwA_l (by decide) (by decide), List.cons_append, wr_hh rfl rfl, wr_hh rfl rfl]
  have e := hh_hM h a (n + (1818 : Int).toNat + (10908 : Int).toNat + (3636 : Int).toNat + (2 : Int).toNat + (80 : Int).toNat + (40 : Int).toNat + (30 : Int).toNat)
  rw [hN'] at e
  rw [hN']
  exact congrArg K e
theorem m_initB (K : Hp → Rs) {M : Nat → Nat → Int} : rdR (hM h a M) (some a) 8 1 (fun r24 => astI (hM h a M) r24 [0] (iI 0) (iI 24) (fun h25 => rdR h25 (some a) 8 1 (fun r26 => astI h25 r26 [0] (iI 1) (iI 40) (fun h27 => rdR h27 (some a) 8 1 (fun r28 => astI h27 r28 [0] (iI 2) (iI 2) (fun h29 => rdR h29 (some a) 8 1 (fun r30 => astI h29 r30 [0] (iI 7) (iI 40) (fun h31 => rdR h31 (some a) 8 1 (fun r32 => astI h31 r32 [0] (iI 10) (iI 1) (fun h33 => K h33)))))))))) = K (hM h a (mset (mset (mset (mset (mset M 1 0 24) 1 1 40) 1 2 2) 1 7 40) 1 10 1)) := by
  rw [rdR_M1, ast_M1 (by decide) (by decide), rdR_M1, ast_M1 (by decide) (by decide), rdR_M1, ast_M1 (by decide) (by decide), rdR_M1, ast_M1 (by decide) (by decide), rdR_M1, ast_M1 (by decide) (by decide)]
  rfl
theorem m_init : fX6_init c (hh h a [.inr (8, dfC 8)] n) (some a) = some (hM (h.1, a + 8, n + 16514) a MI0, none) := by
  obtain ⟨M', e2, e3⟩ := m_init_109 (c := c) (a := a) (h := (h.1, a + 8, n + 16514)) (M := M0)
  have A := m_initA (h := h) (a := a) (n := n) (N := n + 16514) (hN := by omega) (fun h23 => rdR h23 (some a) 8 1 (fun r24 => astI h23 r24 [0] (iI 0) (iI 24) (fun h25 => rdR h25 (some a) 8 1 (fun r26 => astI h25 r26 [0] (iI 1) (iI 40) (fun h27 => rdR h27 (some a) 8 1 (fun r28 => astI h27 r28 [0] (iI 2) (iI 2) (fun h29 => rdR h29 (some a) 8 1 (fun r30 => astI h29 r30 [0] (iI 7) (iI 40) (fun h31 => rdR h31 (some a) 8 1 (fun r32 => astI h31 r32 [0] (iI 10) (iI 1) (fun h33 => fX6_init_109 c FU h33 (some a) (iI 0))))))))))))
  have B := m_initB (h := (h.1, a + 8, n + 16514)) (a := a) (M := fun _ _ => 0) (fun h33 => fX6_init_109 c FU h33 (some a) (iI 0))
  unfold fX6_init dn
  simp only [iI_l]
  rw [A, B]
  rw [show mset (mset (mset (mset (mset (fun _ _ => 0) 1 0 24) 1 1 40) 1 2 2) 1 7 40) 1 10 1 = M0 from rfl, e2, e3]
  rfl
end
