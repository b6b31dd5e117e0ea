/-! WHAT THE REFERENCE ANSWERS ABOUT LINES -/
/-- nothing but the sheet is another -/
def jk (M M' : Nat → Nat → Int) : Prop := ∃ w L wm wd, M' = mL M w L wm wd
theorem mL_mL (M : Nat → Nat → Int) (w w' : Int) (L L' : Ly) (wm wm' : Int) (wd wd' : Nat → Int) : mL (mL M w L wm wd) w' L' wm' wd' = mL M w' L' wm' wd' := by
  funext p j
  unfold mL
  by_cases h0 : p = 0
  · simp only [if_pos h0]
    by_cases h1 : j = 9
    · simp only [if_pos h1]
    · by_cases h2 : j = 10
      · simp only [if_neg h1, if_pos h2]
      · by_cases h3 : j = 11
        · simp only [if_neg h1, if_neg h2, if_pos h3]
        · by_cases h4 : j = 12
          · simp only [if_neg h1, if_neg h2, if_neg h3, if_pos h4]
          · by_cases h5 : j = 14
            · simp only [if_neg h1, if_neg h2, if_neg h3, if_neg h4, if_pos h5]
            · simp only [if_neg h1, if_neg h2, if_neg h3, if_neg h4, if_neg h5, if_pos]
  · by_cases h6 : p = 6
    · simp only [if_neg h0, if_pos h6]
    · by_cases h7 : p = 7
      · simp only [if_neg h0, if_neg h6, if_pos h7]
      · simp only [if_neg h0, if_neg h6, if_neg h7]
theorem jk.rf (M : Nat → Nat → Int) : jk M M := ⟨M 0 9, (M 0 10, M 0 11, M 0 12, M 6), M 0 14, M 7, (mL_eta M).symm⟩
theorem jk.tr {M M' M'' : Nat → Nat → Int} (h : jk M M') (h' : jk M' M'') : jk M M'' := by
  obtain ⟨w, L, wm, wd, rfl⟩ := h
  obtain ⟨w', L', wm', wd', rfl⟩ := h'
  exact ⟨w', L', wm', wd', mL_mL ..⟩
theorem jk.s {M M' : Nat → Nat → Int} (h : jk M M') : M' 1 = M 1 := by
  obtain ⟨w, L, wm, wd, rfl⟩ := h; rfl
theorem jk.ms {M M' : Nat → Nat → Int} {D : Dt} (h : jk M M') (R : MS (M 1) D) : MS (M' 1) D := by rw [h.s]; exact R
/-- everything that is told is in its range, and of one kind -/
def Ok1 (D : Dt) : Prop := RgI D ∧ Pos D ∧ RgF D ∧ RgT D ∧ (∀ r, r < 21 → EvOk D r) ∧ ∀ r, 3 ≤ r → r < 21 → 0 < gF D r 0 → 16 ≤ gF D r 4 ∧ gF D r 4 ≤ 40
theorem numI_rg {D : Dt} {r : Nat} (O : Ok1 D) (hr : r < 21) : 0 ≤ numI D r ∧ numI D r < 10000000 := by
  have h1 := O.2.2.1 r hr 0 (by decide)
  have h2 := O.2.2.2.1
  unfold RgT at h2
  unfold numI
  split <;> omega
/-- a receipt with lines: open, or of the ledger -/
def isR (D : Dt) (r : Nat) : Prop := r < 21 ∧ (r < 3 ∨ 0 < gF D r 0)
theorem wdI_rg {D : Dt} {r : Nat} (O : Ok1 D) (hr : isR D r) : 16 ≤ wdI D r ∧ wdI D r ≤ 40 := by
  have h2 := O.2.2.2.1
  unfold RgT at h2
  unfold wdI
  split
  · omega
  · exact O.2.2.2.2.2 r (by omega) hr.1 (by rcases hr.2 with h | h <;> omega)
def lnI (D : Dt) (r : Nat) : Int := cntI D r (numI D r) (wdI D r)
theorem cntI_rg {D : Dt} {r : Nat} {width : Int} (O : Ok1 D) (hr : r < 21) (wd0 : 16 ≤ width) (wd1 : width ≤ 40) : 2 ≤ cntI D r (numI D r) width ∧ cntI D r (numI D r) width ≤ 1500 := by
  have n := numI_rg O hr
  exact lAll_st (O.1 r hr) n.1 n.2 wd0 wd1
theorem lnI_rg {D : Dt} {r : Nat} (O : Ok1 D) (hr : isR D r) : 2 ≤ lnI D r ∧ lnI D r ≤ 1500 := by
  have w := wdI_rg O hr
  exact cntI_rg O hr.1 w.1 w.2
def leftI (D : Dt) (r : Nat) : Int := lnI D r - gF D r 5
theorem leftI_rg {D : Dt} {r : Nat} (O : Ok1 D) (hr : isR D r) : -1000000 < leftI D r ∧ leftI D r ≤ 1500 := by
  have h1 := lnI_rg O hr
  have h2 := O.2.2.1 r hr.1 5 (by decide)
  unfold leftI; omega
theorem hwP_is {D : Dt} {w : Int} {r : Nat} (h : hwP D w r = true) (hr : r < 21) : isR D r := ⟨hr, Or.inr (by unfold hwP at h; exact (of_decide_eq_true h).1)⟩
def aheadI (D : Dt) (r o : Nat) : Int := if hwP D 1 o = true ∨ (hwP D 0 o = true ∧ o ≠ r ∧ ahD D o r = true) then leftI D o else 0
def upI (D : Dt) (r : Nat) : Int := leftI D r + (if gF D r 3 = 0 then sF (aheadI D r) 3 18 else 0)
def toPrI (D : Dt) (r : Nat) : Int := if hwP D 0 r = true ∨ hwP D 1 r = true then leftI D r else 0
def allI (D : Dt) : Int := sF (toPrI D) 3 18
def tksI (D : Dt) (z : Int) : Int := (z + gT D 2 - 1) / gT D 2
def bwL (D : Dt) (r : Nat) : Nat → Nat → Int → Int → Int × Int
  | _, 0, best, few => (best, few)
  | w, m + 1, best, few => bwL D r (w + 1) m (if cntI D r (numI D r) w < few then w else best) (if cntI D r (numI D r) w < few then cntI D r (numI D r) w else few)
def bwI (D : Dt) (r : Nat) : Int × Int := bwL D r 17 24 16 (cntI D r (numI D r) 16)
section
variable {c : Nat → Option Nat} {h : Hp} {a : Nat} {M : Nat → Nat → Int} {D : Dt} {r i k : Nat} {w : Int}
/-- how many lines an item takes -/
def itemI (D : Dt) (r i : Nat) : Int := (lItem (-1) (gT D 0) (gP D r i) (gN' D r i) (0, 0, -1, fun _ => 32)).1
theorem item_any (D : Dt) (r i : Nat) (w b : Int) (row : Nat → Int) : (lItem w (gT D 0) (gP D r i) (gN' D r i) (0, 0, b, row)).1 = itemI D r i := by
  by_cases e : w = -1
  · subst e
    have h1 : sim (-1) (-2) 0 (0, 0, b, row) (0, 0, -1, fun _ => 32) := ⟨rfl, rfl, fun e => absurd e (by decide)⟩
    have h2 : sim (-2) (-1) 0 (0, 0, -1, fun _ => 32) (0, 0, -1, fun _ => 32) := ⟨rfl, rfl, fun e => absurd e (by decide)⟩
    exact (sim_item (gT D 0) (gP D r i) (gN' D r i) h1).1.trans (sim_item (gT D 0) (gP D r i) (gN' D r i) h2).1
  · have h1 : sim w (-1) 0 (0, 0, b, row) (0, 0, -1, fun _ => 32) := ⟨rfl, rfl, fun e' => absurd e' e⟩
    exact (sim_item (gT D 0) (gP D r i) (gN' D r i) h1).1
end
