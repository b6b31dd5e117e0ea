/-! WHAT IS KEPT: the states ahead of changes, the saved ones, the pad -/
abbrev Zt : Type := Dt × Nat × (Nat → Dt) × (Nat → Bool) × (Nat → Dt) × Nat × (Nat → Int)
def zD (Z : Zt) : Dt := Z.1
def zn (Z : Zt) : Nat := Z.2.1
def zH (Z : Zt) : Nat → Dt := Z.2.2.1
def zh (Z : Zt) : Nat → Bool := Z.2.2.2.1
def zS (Z : Zt) : Nat → Dt := Z.2.2.2.2.1
def zl (Z : Zt) : Nat := Z.2.2.2.2.2.1
def zp (Z : Zt) : Nat → Int := Z.2.2.2.2.2.2
def MZ (M : Nat → Nat → Int) (Z : Zt) : Prop := MS (M 1) (zD Z) ∧ (M 0 3 = zn Z ∧ zn Z ≤ 6) ∧ (∀ k, k < zn Z → MS (fun j => M 2 (1818 * k + j)) (zH Z k)) ∧ (∀ i, i < 2 → M 4 i = if zh Z i = true then 1 else 0) ∧ (∀ i, i < 2 → zh Z i = true → MS (fun j => M 3 (1818 * i + j)) (zS Z i)) ∧ (M 0 7 = zl Z ∧ zl Z ≤ 80) ∧ ∀ j, j < zl Z → M 5 j = zp Z j
/-- the same with another present state -/
def zSet (Z : Zt) (D : Dt) : Zt := (D, Z.2)
/-- with the present state remembered -/
def zRec (Z : Zt) : Zt := if zn Z = 6 then (Z.1, 6, (fun k => if k = 5 then zD Z else zH Z (k + 1)), Z.2.2.2) else (Z.1, zn Z + 1, (fun k => if k = zn Z then zD Z else zH Z k), Z.2.2.2)
theorem zRec_D (Z : Zt) : zD (zRec Z) = zD Z := by unfold zRec; split <;> rfl
def rset (M : Nat → Nat → Int) (k : Nat) (f : Nat → Int) : Nat → Nat → Int := fun p j => if p = k then f j else M p j
theorem rset_self (M : Nat → Nat → Int) (k : Nat) : rset M k (M k) = M := by
  funext p j; unfold rset
  by_cases e : p = k
  · rw [if_pos e, e]
  · rw [if_neg e]
theorem rset_eq (M : Nat → Nat → Int) (k : Nat) (f : Nat → Int) : rset M k f k = f := by funext j; simp [rset]
theorem rset_ne {M : Nat → Nat → Int} {k p : Nat} {f : Nat → Int} (h : p ≠ k) : rset M k f p = M p := by funext j; simp [rset, h]
theorem mset_r (M : Nat → Nat → Int) (k i : Nat) (f : Nat → Int) (v : Int) : mset (rset M k f) k i v = rset M k (st f i v) := by
  funext p j
  unfold mset rset st
  by_cases e : p = k
  · by_cases e2 : j = i
    · simp [e, e2]
    · simp [e, e2]
  · simp [e]
theorem mset_ne {M : Nat → Nat → Int} {k i p : Nat} {v : Int} (h : p ≠ k) : mset M k i v p = M p := by funext j; simp [mset, h]
theorem mset_at (M : Nat → Nat → Int) (k i j : Nat) (v : Int) : mset M k i v k j = if j = i then v else M k j := by simp [mset]
theorem MZ_0 {M : Nat → Nat → Int} {Z : Zt} {v : Int} (h : MZ M Z) : MZ (mset M 0 0 v) Z := by
  obtain ⟨h1, h2, h3, h4, h5, h6, h7⟩ := h
  refine ⟨by rw [mset_ne (by decide)]; exact h1, ⟨by rw [mset_at, if_neg (by decide)]; exact h2.1, h2.2⟩, fun k hk => by rw [mset_ne (by decide)]; exact h3 k hk, fun i hi => by rw [mset_ne (by decide)]; exact h4 i hi, fun i hi e => by rw [mset_ne (by decide)]; exact h5 i hi e, ⟨by rw [mset_at, if_neg (by decide)]; exact h6.1, h6.2⟩, fun j hj => by rw [mset_ne (by decide)]; exact h7 j hj⟩
theorem MZ_jk {M M' : Nat → Nat → Int} {Z : Zt} (h : MZ M Z) (j : jk M M') : MZ M' Z := by
  obtain ⟨w, L, wm, wd, rfl⟩ := j
  exact h
/-- only the present state's ints are others -/
def eqS (M M' : Nat → Nat → Int) : Prop := (∀ p, p ≠ 1 → p ≠ 0 → p ≠ 6 → p ≠ 7 → M' p = M p) ∧ M' 0 3 = M 0 3 ∧ M' 0 7 = M 0 7
theorem eqS.rf (M : Nat → Nat → Int) : eqS M M := ⟨fun _ _ _ _ _ => rfl, rfl, rfl⟩
theorem eqS.tr {M M' M'' : Nat → Nat → Int} (h : eqS M M') (h' : eqS M' M'') : eqS M M'' := ⟨fun p a b c d => (h'.1 p a b c d).trans (h.1 p a b c d), h'.2.1.trans h.2.1, h'.2.2.trans h.2.2⟩
theorem eqS.jk {M M' : Nat → Nat → Int} (j : jk M M') : eqS M M' := by
  obtain ⟨w, L, wm, wd, rfl⟩ := j
  refine ⟨fun p h1 h0 h6 h7 => ?_, rfl, rfl⟩
  funext q; unfold mL; rw [if_neg h0, if_neg h6, if_neg h7]
theorem eqS.put (M : Nat → Nat → Int) (i : Nat) (v : Int) : eqS M (mset M 1 i v) := ⟨fun p h1 _ _ _ => mset_ne h1, by rw [mset_ne (by decide)], by rw [mset_ne (by decide)]⟩
theorem MZ_set {M M' : Nat → Nat → Int} {Z : Zt} {D : Dt} (h : MZ M Z) (e : eqS M M') (hD : MS (M' 1) D) : MZ M' (zSet Z D) := by
  obtain ⟨h1, h2, h3, h4, h5, h6, h7⟩ := h
  refine ⟨hD, ⟨e.2.1.trans h2.1, h2.2⟩, fun k hk => ?_, fun i hi => ?_, fun i hi e' => ?_, ⟨e.2.2.trans h6.1, h6.2⟩, fun j hj => ?_⟩
  · rw [e.1 2 (by decide) (by decide) (by decide) (by decide)]; exact h3 k hk
  · rw [e.1 4 (by decide) (by decide) (by decide) (by decide)]; exact h4 i hi
  · rw [e.1 3 (by decide) (by decide) (by decide) (by decide)]; exact h5 i hi e'
  · rw [e.1 5 (by decide) (by decide) (by decide) (by decide)]; exact h7 j hj
section
variable {c : Nat → Option Nat} {h : Hp} {a : Nat} {M : Nat → Nat → Int} {Z : Zt}
theorem MS_congr {s s' : Nat → Int} {D : Dt} (h : MS s D) (e : ∀ j, j < 1818 → s' j = s j) : MS s' D := by
  refine MS_of (fun k hk => ?_) (fun r hr k hk => ?_)
  · rw [e k (by omega)]; exact h.1 k hk
  · rw [e _ (by omega)]; exact MS_bv h r hr k hk
/-- the n-th state kept is the present one -/
def keep (M : Nat → Nat → Int) (n : Nat) : Nat → Nat → Int := mset (rset M 2 (fun j => if 1818 * n ≤ j ∧ j < 1818 * n + 1818 then M 1 (j - 1818 * n) else M 2 j)) 0 3 (n + 1)
theorem keep_ne {n p : Nat} (h0 : p ≠ 0) (h2 : p ≠ 2) : keep M n p = M p := by
  unfold keep; rw [mset_ne h0, rset_ne h2]
theorem keep_0 {n j : Nat} : keep M n 0 j = if j = 3 then (n : Int) + 1 else M 0 j := by
  unfold keep; rw [mset_at, rset_ne (by decide)]
theorem keep_2 {n : Nat} : keep M n 2 = fun j => if 1818 * n ≤ j ∧ j < 1818 * n + 1818 then M 1 (j - 1818 * n) else M 2 j := by
  unfold keep; rw [mset_ne (by decide), rset_eq]
theorem keep_MS {n : Nat} {D : Dt} {H : Nat → Dt} (h1 : MS (M 1) D) (h3 : ∀ k, k < n → MS (fun j => M 2 (1818 * k + j)) (H k)) : ∀ k, k < n + 1 → MS (fun j => keep M n 2 (1818 * k + j)) (if k = n then D else H k) := by
  intro k hk
  rw [keep_2]
  by_cases e : k = n
  · rw [if_pos e]
    refine MS_congr h1 (fun j hj => ?_)
    dsimp only
    rw [if_pos (by omega)]; congr 1; omega
  · rw [if_neg e]
    refine MS_congr (h3 k (by omega)) (fun j hj => ?_)
    dsimp only
    rw [if_neg (by omega)]
end
