/-! THE REFERENCE'S CALLS: changes -/
/-- ticks: how many of m lines are printed, and what is then -/
def tkL : Nat → Int → Dt → Int × Dt
  | 0, n, D => (n, D)
  | m + 1, n, D => if takI D = -6 ∨ gT D 7 = 0 then (n, plD D) else tkL m (n + 1) (plD D)
def tkR (D : Dt) : Int × Dt := ((tkL (gT D 2).toNat 0 D).1, sT (tkL (gT D 2).toNat 0 D).2 3 (gT (tkL (gT D 2).toNat 0 D).2 3 + 1))
def psL : Nat → Int → Dt → Int × Dt
  | 0, n, D => (n, D)
  | m + 1, n, D => psL m (n + (tkR D).1) (tkR D).2
theorem gT_em (D : Dt) (r : Nat) : gT (emD D r) = gT D := rfl
theorem gT_fg (D : Dt) : gT (fgD D) = gT D := by unfold fgD; split <;> rfl
theorem gT_tak (D : Dt) : gT (takD D) = gT D := by
  unfold takD
  split
  · split <;> rfl
  · rfl
theorem gT_pl (D : Dt) {k : Nat} (hk : k < 5) : gT (plD D) k = gT D k := by
  unfold plD
  split
  · rw [gT_tak]
  · have e : ∀ r, gT (lnD (takD D) r) k = gT D k := by
      intro r; unfold lnD
      rw [gT_sT, if_neg (by omega), gT_sT, if_neg (by omega), gT_sFl, gT_tak]
    split
    · unfold endD
      rw [gT_fg, gT_sFl, gT_sFl, gT_sFl, gT_sT, if_neg (by omega), e]
    · rw [e]
/-- what printing keeps, and what it needs -/
def Keep (J : Dt → Prop) : Prop := ∀ D, J D → (OkM D ∧ gT D 5 < 900000) ∧ J (plD D) ∧ ∀ v, 0 ≤ v → v ≤ 9999 → J (sT D 3 v)
section
variable {c : Nat → Option Nat} {h : Hp} {a : Nat} {J : Dt → Prop}
theorem tkL_J (hJ : Keep J) : ∀ (m : Nat) (n : Int) (D : Dt), J D → J (tkL m n D).2 ∧ ∀ k, k < 5 → gT (tkL m n D).2 k = gT D k
  | 0, _, _, j => ⟨j, fun _ _ => rfl⟩
  | m + 1, n, D, j => by
    rw [tkL]
    split
    · exact ⟨(hJ D j).2.1, fun k hk => gT_pl D hk⟩
    · have := tkL_J hJ m (n + 1) (plD D) (hJ D j).2.1
      exact ⟨this.1, fun k hk => (this.2 k hk).trans (gT_pl D hk)⟩
theorem tkR_J (hJ : Keep J) {D : Dt} (j : J D) (h3 : gT D 3 < 9999) : J (tkR D).2 ∧ gT (tkR D).2 3 = gT D 3 + 1 := by
  have T := (hJ D j).1.1.1.2.2.2.1
  unfold RgT at T
  have := tkL_J hJ (gT D 2).toNat 0 D j
  have e := this.2 3 (by decide)
  refine ⟨(hJ _ this.1).2.2 _ (by omega) (by omega), ?_⟩
  show gT (sT _ 3 _) 3 = _
  rw [gT_sT, if_pos rfl, e]
end
/-! what calls answer (r..), what is then (z..) -/
def lstI (x : Int) : Int := if x = 0 then 16 else if x = 1 then 5 else 1
def mstI (x : Int) : Int := if x = 0 then 40 else if x = 1 then 200 else 9
def okSet (x y : Int) : Prop := (0 ≤ x ∧ x ≤ 2) ∧ lstI x ≤ y ∧ y ≤ mstI x
/-- an int as a call is given it -/
def ag (x : Int) : Prop := -2147483648 ≤ x ∧ x < 2147483648
/-- the present state changed, the one ahead of it remembered -/
def zDo (Z : Zt) (D : Dt) : Zt := zSet (zRec Z) D
section
variable {c : Nat → Option Nat} {h : Hp} {a : Nat} {M : Nat → Nat → Int} {Z : Zt} {J : Dt → Prop}
end
