/-! RECEIPTS BY THEIR NUMBERS, AND BY THEIR PLACES -/
theorem sF_0 {f : Nat → Int} : ∀ (m k : Nat), (∀ i, k ≤ i → i < k + m → f i = 0) → sF f k m = 0
  | 0, _, _ => rfl
  | m + 1, k, h => by
    rw [sF, h k (Nat.le_refl k) (by omega), sF_0 m (k + 1) (fun i a b => h i (by omega) (by omega))]
    rfl
theorem sF_one {f : Nat → Int} {r m k : Nat} (h1 : k ≤ r) (h2 : r < k + m) (h : ∀ i, k ≤ i → i < k + m → i ≠ r → f i = 0) : sF f k m = f r := by
  rw [sF_upd (f := fun _ => 0) m k h1 h2 h, sF_0 (f := fun _ => 0) m k (fun _ _ _ => rfl)]
  omega
theorem sF_add {f g : Nat → Int} : ∀ (m k : Nat), sF (fun i => f i + g i) k m = sF f k m + sF g k m
  | 0, _ => rfl
  | m + 1, k => by
    simp only [sF]
    rw [sF_add m (k + 1)]
    omega
theorem sF_swap {F : Nat → Nat → Int} {k' m' : Nat} : ∀ (m k : Nat), sF (fun z => sF (F z) k' m') k m = sF (fun r => sF (fun z => F z r) k m) k' m'
  | 0, _ => (sF_0 m' k' (fun _ _ _ => rfl)).symm
  | m + 1, k => by
    show sF (F k) k' m' + sF (fun z => sF (F z) k' m') (k + 1) m = sF (fun r => F k r + sF (fun z => F z r) (k + 1) m) k' m'
    rw [sF_add, sF_swap m (k + 1)]
/-- what is known of the number z -/
def kn (D : Dt) (g : Nat → Int) (z : Nat) : Int := if recI D z = -6 then 0 else g (recI D z).toNat
theorem kn_no {D : Dt} {g : Nat → Int} {z : Nat} (e : recI D z = -6) : kn D g z = 0 := if_pos e
theorem kn_r {D : Dt} {g : Nat → Int} {z r : Nat} (e : recI D z = r) : kn D g z = g r := by unfold kn; rw [e, if_neg (by omega), Int.toNat_natCast]
theorem kn_sum {D : Dt} (G : Gl D) (g : Nat → Int) {N : Nat} (hN : (N : Int) = gT D 4) : sF (kn D g) 1 N = sF (fun r => if 0 < gF D r 0 then g r else 0) 3 18 := by
  have s1 : sF (kn D g) 1 N = sF (fun z => sF (fun r => if 0 < gF D r 0 ∧ gF D r 0 = (z : Int) then g r else 0) 3 18) 1 N := by
    refine sF_congr N 1 (fun z z1 z2 => ?_)
    rcases recI_c D z with e | ⟨r, e, h3, hr, z0, hx⟩
    · rw [kn_no e]
      refine (sF_0 18 3 (fun i a b => ?_)).symm
      have := fF_none (p := fun r => decide (0 < (z : Int) ∧ gF D r 0 = (z : Int))) 18 3 e i a b
      have n := of_decide_eq_false this
      exact if_neg (fun h => n (by omega))
    · rw [kn_r e]
      rw [sF_one (r := r) h3 (by omega) (fun i a b n => ?_)]
      · rw [if_pos (by omega)]
      · exact if_neg (fun h => n (G.1.1 i r a (by omega) h3 hr h.1 (by omega)))
  rw [s1, sF_swap]
  refine sF_congr 18 3 (fun r a b => ?_)
  by_cases e : 0 < gF D r 0
  · have l := (G.1.2.1 r a (by omega) e).1
    rw [if_pos e, sF_one (r := (gF D r 0).toNat) (by omega) (by omega) (fun i a b n => if_neg (by omega)), if_pos (by omega)]
  · rw [if_neg e]
    exact sF_0 N 1 (fun i _ _ => if_neg (fun h => e h.1))
def kW (D : Dt) (r : Nat) : Int := if gF D r 3 = 0 then 1 else 0
def kP (D : Dt) (r : Nat) : Int := if gF D r 3 = 1 then 1 else 0
def kL (D : Dt) (r : Nat) : Int := if gF D r 3 < 2 then lnI D r - gF D r 5 else 0
theorem kW_sum {D : Dt} (G : Gl D) {N : Nat} (hN : (N : Int) = gT D 4) : sF (kn D (kW D)) 1 N = manyI D 0 := by
  rw [kn_sum G (kW D) hN]
  refine sF_congr 18 3 (fun r a b => ?_)
  unfold kW bI
  by_cases e : hwP D 0 r = true
  · have := hwP_t.mp e
    rw [if_pos e, if_pos this.1, if_pos this.2]
  · rw [if_neg e]
    by_cases e0 : 0 < gF D r 0
    · rw [if_pos e0, if_neg (fun h => e (hwP_t.mpr ⟨e0, h⟩))]
    · rw [if_neg e0]
theorem kP_sum {D : Dt} (G : Gl D) {N : Nat} (hN : (N : Int) = gT D 4) : sF (kn D (kP D)) 1 N = manyI D 1 := by
  rw [kn_sum G (kP D) hN]
  refine sF_congr 18 3 (fun r a b => ?_)
  unfold kP bI
  by_cases e : hwP D 1 r = true
  · have := hwP_t.mp e
    rw [if_pos e, if_pos this.1, if_pos this.2]
  · rw [if_neg e]
    by_cases e0 : 0 < gF D r 0
    · rw [if_pos e0, if_neg (fun h => e (hwP_t.mpr ⟨e0, h⟩))]
    · rw [if_neg e0]
theorem kL_sum {D : Dt} (G : Gl D) {N : Nat} (hN : (N : Int) = gT D 4) : sF (kn D (kL D)) 1 N = allI D := by
  rw [kn_sum G (kL D) hN]
  refine sF_congr 18 3 (fun r a b => ?_)
  unfold kL toPrI leftI
  by_cases e0 : 0 < gF D r 0
  · have g := G.1.2.1 r a (by omega) e0
    rw [if_pos e0]
    by_cases e : gF D r 3 < 2
    · have : hwP D 0 r = true ∨ hwP D 1 r = true := by
        rcases (show gF D r 3 = 0 ∨ gF D r 3 = 1 by omega) with h | h
        · exact Or.inl (hwP_t.mpr ⟨e0, h⟩)
        · exact Or.inr (hwP_t.mpr ⟨e0, h⟩)
      rw [if_pos e, if_pos this]
    · rw [if_neg e, if_neg (fun h => by rcases h with h | h <;> (have := hwP_t.mp h; omega))]
  · rw [if_neg e0, if_neg (fun h => by rcases h with h | h <;> (have := hwP_t.mp h; omega))]
/-- at most one receipt is printed -/
theorem many1 {D : Dt} (G : Gl D) : (prtI D = -6 ∧ manyI D 1 = 0) ∨ ∃ r : Nat, prtI D = r ∧ 3 ≤ r ∧ r < 21 ∧ hwP D 1 r = true ∧ manyI D 1 = 1 := by
  rcases prtI_c D with e | ⟨r, e, h3, hr, hw⟩
  · refine Or.inl ⟨e, sF_0 18 3 (fun i a b => ?_)⟩
    rw [prt_no e i a (by omega)]
    rfl
  · refine Or.inr ⟨r, e, h3, hr, hw, ?_⟩
    show sF (fun q => bI (hwP D 1 q = true)) 3 18 = 1
    rw [sF_one (f := fun q => bI (hwP D 1 q = true)) (r := r) h3 (by omega) (fun i a b n => ?_)]
    · exact bI_t hw
    · refine bI_f (fun h => n ?_)
      have := prt_of G.one a (by omega) h
      omega
