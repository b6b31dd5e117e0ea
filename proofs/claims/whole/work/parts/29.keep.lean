/-! WHAT IS KEPT: the states ahead of changes, the saved ones, the pad -/
abbrev Zt : Type := Dt × Nat × (Nat → Dt) × (Nat → Bool) × (Nat → Dt) × Nat × (Nat → Int)
def zD (Z : Zt) : Dt := Z.1
def zn (Z : Zt) : Nat := Z.2.1
def zH (Z : Zt) : Nat → Dt := Z.2.2.1
def zh (Z : Zt) : Nat → Bool := Z.2.2.2.1
def zS (Z : Zt) : Nat → Dt := Z.2.2.2.2.1
def zl (Z : Zt) : Nat := Z.2.2.2.2.2.1
def zp (Z : Zt) : Nat → Int := Z.2.2.2.2.2.2
def MZ (M : Nat → Nat → Int) (Z : Zt) : Prop := MS (M 1) (zD Z) ∧ (M 0 3 = zn Z ∧ zn Z ≤ 6) ∧ (∀ k, k < zn Z → MS (fun j => M 2 (1818 * k + j)) (zH Z k)) ∧ (∀ i, i < 2 → M 4 i = if zh Z i = true then 1 else 0) ∧ (∀ i, i < 2 → zh Z i = true → MS (fun j => M 3 (1818 * i + j)) (zS Z i)) ∧ (M 0 7 = zl Z ∧ zl Z ≤ 80) ∧ ∀ j, j < zl Z → M 5 j = zp Z j
/-- the same with another present state -/
def zSet (Z : Zt) (D : Dt) : Zt := (D, Z.2)
/-- with the present state remembered -/
def zRec (Z : Zt) : Zt := if zn Z = 6 then (Z.1, 6, (fun k => if k = 5 then zD Z else zH Z (k + 1)), Z.2.2.2) else (Z.1, zn Z + 1, (fun k => if k = zn Z then zD Z else zH Z k), Z.2.2.2)
theorem zRec_D (Z : Zt) : zD (zRec Z) = zD Z := by unfold zRec; split <;> rfl
def rset (M : Nat → Nat → Int) (k : Nat) (f : Nat → Int) : Nat → Nat → Int := fun p j => if p = k then f j else M p j
theorem rset_self (M : Nat → Nat → Int) (k : Nat) : rset M k (M k) = M := by
  funext p j; unfold rset
  by_cases e : p = k
  · rw [if_pos e, e]
  · rw [if_neg e]
theorem rset_eq (M : Nat → Nat → Int) (k : Nat) (f : Nat → Int) : rset M k f k = f := by funext j; simp [rset]
theorem rset_ne {M : Nat → Nat → Int} {k p : Nat} {f : Nat → Int} (h : p ≠ k) : rset M k f p = M p := by funext j; simp [rset, h]
theorem mset_r (M : Nat → Nat → Int) (k i : Nat) (f : Nat → Int) (v : Int) : mset (rset M k f) k i v = rset M k (st f i v) := by
  funext p j
  unfold mset rset st
  by_cases e : p = k
  · by_cases e2 : j = i
    · simp [e, e2]
    · simp [e, e2]
  · simp [e]
theorem mset_ne {M : Nat → Nat → Int} {k i p : Nat} {v : Int} (h : p ≠ k) : mset M k i v p = M p := by funext j; simp [mset, h]
theorem mset_at (M : Nat → Nat → Int) (k i j : Nat) (v : Int) : mset M k i v k j = if j = i then v else M k j := by simp [mset]
theorem MZ_0 {M : Nat → Nat → Int} {Z : Zt} {v : Int} (h : MZ M Z) : MZ (mset M 0 0 v) Z := by
  obtain ⟨h1, h2, h3, h4, h5, h6, h7⟩ := h
  refine ⟨by rw [mset_ne (by decide)]; exact h1, ⟨by rw [mset_at, if_neg (by decide)]; exact h2.1, h2.2⟩, fun k hk => by rw [mset_ne (by decide)]; exact h3 k hk, fun i hi => by rw [mset_ne (by decide)]; exact h4 i hi, fun i hi e => by rw [mset_ne (by decide)]; exact h5 i hi e, ⟨by rw [mset_at, if_neg (by decide)]; exact h6.1, h6.2⟩, fun j hj => by rw [mset_ne (by decide)]; exact h7 j hj⟩
theorem MZ_jk {M M' : Nat → Nat → Int} {Z : Zt} (h : MZ M Z) (j : jk M M') : MZ M' Z := by
  obtain ⟨w, L, wm, wd, rfl⟩ := j
  exact h
/-- only the present state's ints are others -/
def eqS (M M' : Nat → Nat → Int) : Prop := (∀ p, p ≠ 1 → p ≠ 0 → p ≠ 6 → p ≠ 7 → M' p = M p) ∧ M' 0 3 = M 0 3 ∧ M' 0 7 = M 0 7
theorem eqS.rf (M : Nat → Nat → Int) : eqS M M := ⟨fun _ _ _ _ _ => rfl, rfl, rfl⟩
theorem eqS.tr {M M' M'' : Nat → Nat → Int} (h : eqS M M') (h' : eqS M' M'') : eqS M M'' := ⟨fun p a b c d => (h'.1 p a b c d).trans (h.1 p a b c d), h'.2.1.trans h.2.1, h'.2.2.trans h.2.2⟩
theorem eqS.jk {M M' : Nat → Nat → Int} (j : jk M M') : eqS M M' := by
  obtain ⟨w, L, wm, wd, rfl⟩ := j
  refine ⟨fun p h1 h0 h6 h7 => ?_, rfl, rfl⟩
  funext q; unfold mL; rw [if_neg h0, if_neg h6, if_neg h7]
theorem eqS.put (M : Nat → Nat → Int) (i : Nat) (v : Int) : eqS M (mset M 1 i v) := ⟨fun p h1 _ _ _ => mset_ne h1, by rw [mset_ne (by decide)], by rw [mset_ne (by decide)]⟩
theorem MZ_set {M M' : Nat → Nat → Int} {Z : Zt} {D : Dt} (h : MZ M Z) (e : eqS M M') (hD : MS (M' 1) D) : MZ M' (zSet Z D) := by
  obtain ⟨h1, h2, h3, h4, h5, h6, h7⟩ := h
  refine ⟨hD, ⟨e.2.1.trans h2.1, h2.2⟩, fun k hk => ?_, fun i hi => ?_, fun i hi e' => ?_, ⟨e.2.2.trans h6.1, h6.2⟩, fun j hj => ?_⟩
  · rw [e.1 2 (by decide) (by decide) (by decide) (by decide)]; exact h3 k hk
  · rw [e.1 4 (by decide) (by decide) (by decide) (by decide)]; exact h4 i hi
  · rw [e.1 3 (by decide) (by decide) (by decide) (by decide)]; exact h5 i hi e'
  · rw [e.1 5 (by decide) (by decide) (by decide) (by decide)]; exact h7 j hj
section
variable {c : Nat → Option Nat} {h : Hp} {a : Nat} {M : Nat → Nat → Int} {Z : Zt}
theorem MS_congr {s s' : Nat → Int} {D : Dt} (h : MS s D) (e : ∀ j, j < 1818 → s' j = s j) : MS s' D := by
  refine MS_of (fun k hk => ?_) (fun r hr k hk => ?_)
  · rw [e k (by omega)]; exact h.1 k hk
  · rw [e _ (by omega)]; exact MS_bv h r hr k hk
theorem m_rec_52 {n : Nat} (hn : n ≤ 5) (h3 : M 0 3 = n) : ∀ (m fu k : Nat) (g : Nat → Int), m < fu → k + m = 1818 → fX6_records_52 c fu (hM h a (rset M 2 g)) (some a) (iI k) = some (hM h a (mset (rset M 2 (fun j => if 1818 * n + k ≤ j ∧ j < 1818 * n + 1818 then M 1 (j - 1818 * n) else g j)) 0 3 (n + 1)), none) := by
  intro m
  induction m with
  | zero =>
    intro fu k g hf hk
    obtain ⟨f, rfl⟩ : ∃ f, fu = f + 1 := ⟨fu - 1, by omega⟩
    rw [fX6_records_52]
    have e : (fun j => if 1818 * n + k ≤ j ∧ j < 1818 * n + 1818 then M 1 (j - 1818 * n) else g j) = g := by
      funext j; rw [if_neg (by omega)]
    rw [e]
    have e3 : rset M 2 g 0 3 = n := by rw [rset_ne (by decide)]; exact h3
    simp (maxSteps := 1000000) (disch := omega) only [cc_s, kI_i, kV_n, kR_r, ck_M, rdI_M3, rdI_M7, rdI_M9, rdI_M10, rdI_M11, rdI_M12, rdI_M14, rdR_M1, rdR_M2, rdR_M4, rdR_M5, rdR_M6, rdR_M8, rdR_M13, wr_M0, wr_M3, wr_M7, wr_M9, wr_M10, wr_M11, wr_M12, wr_M14, ald_M1, ald_M2, ald_M3, ald_M5, ald_M6, ald_M7, ast_M1, ast_M2, ast_M3, ast_M5, ast_M6, ast_M7, iI_l, iI_add, iI_sub, iI_mul, iI_neg, dv_i, Int.reduceToNat, lt_i, e3]
    rw [if_neg (by omega)]
  | succ m ih =>
    intro fu k g hf hk
    obtain ⟨f, rfl⟩ : ∃ f, fu = f + 1 := ⟨fu - 1, by omega⟩
    rw [fX6_records_52]
    have e3 : rset M 2 g 0 3 = n := by rw [rset_ne (by decide)]; exact h3
    have e1 : rset M 2 g 1 = M 1 := rset_ne (by decide)
    simp (maxSteps := 1000000) (disch := omega) only [cc_s, kI_i, kV_n, kR_r, ck_M, rdI_M3, rdI_M7, rdI_M9, rdI_M10, rdI_M11, rdI_M12, rdI_M14, rdR_M1, rdR_M2, rdR_M4, rdR_M5, rdR_M6, rdR_M8, rdR_M13, wr_M0, wr_M3, wr_M7, wr_M9, wr_M10, wr_M11, wr_M12, wr_M14, ald_M1, ald_M2, ald_M3, ald_M5, ald_M6, ald_M7, ast_M1, ast_M2, ast_M3, ast_M5, ast_M6, ast_M7, iI_l, iI_add, iI_sub, iI_mul, iI_neg, dv_i, Int.reduceToNat, lt_i, e3, e1, mset_r, iI_k1]
    rw [if_pos (by omega), Int.toNat_natCast, show (1818 * (n : Int) + k).toNat = 1818 * n + k by omega, ih _ (k + 1) _ (by omega) (by omega)]
    have e : (fun j => if 1818 * n + (k + 1) ≤ j ∧ j < 1818 * n + 1818 then M 1 (j - 1818 * n) else st g (1818 * n + k) (M 1 k) j) = (fun j => if 1818 * n + k ≤ j ∧ j < 1818 * n + 1818 then M 1 (j - 1818 * n) else g j) := by
      funext j
      unfold st
      by_cases q : j = 1818 * n + k
      · rw [if_neg (by omega), if_pos q, if_pos (by omega)]
        congr 1; omega
      · by_cases q2 : 1818 * n + k ≤ j ∧ j < 1818 * n + 1818
        · rw [if_pos (by omega), if_pos q2]
        · rw [if_neg (by omega), if_neg q, if_neg q2]
    rw [e]
theorem m_rec_11 (h3 : M 0 3 = 6) : ∀ (m fu k : Nat) (g : Nat → Int), m < fu → k + m = 9090 → fX6_records_11 c fu (hM h a (rset M 2 g)) (some a) (iI k) = fX6_records_50 c (hM h a (mset (rset M 2 (fun j => if k ≤ j ∧ j < 9090 then g (j + 1818) else g j)) 0 3 5)) (some a) := by
  intro m
  induction m with
  | zero =>
    intro fu k g hf hk
    obtain ⟨f, rfl⟩ : ∃ f, fu = f + 1 := ⟨fu - 1, by omega⟩
    rw [fX6_records_11]
    have e : (fun j => if k ≤ j ∧ j < 9090 then g (j + 1818) else g j) = g := by
      funext j; rw [if_neg (by omega)]
    rw [e]
    have e3 : rset M 2 g 0 3 = 6 := by rw [rset_ne (by decide)]; exact h3
    simp (maxSteps := 1000000) (disch := omega) only [cc_s, kI_i, kV_n, kR_r, ck_M, rdI_M3, rdI_M7, rdI_M9, rdI_M10, rdI_M11, rdI_M12, rdI_M14, rdR_M1, rdR_M2, rdR_M4, rdR_M5, rdR_M6, rdR_M8, rdR_M13, wr_M0, wr_M3, wr_M7, wr_M9, wr_M10, wr_M11, wr_M12, wr_M14, ald_M1, ald_M2, ald_M3, ald_M5, ald_M6, ald_M7, ast_M1, ast_M2, ast_M3, ast_M5, ast_M6, ast_M7, iI_l, iI_add, iI_sub, iI_mul, iI_neg, dv_i, Int.reduceToNat, lt_i, e3]
    rw [if_neg (by omega)]
    rfl
  | succ m ih =>
    intro fu k g hf hk
    obtain ⟨f, rfl⟩ : ∃ f, fu = f + 1 := ⟨fu - 1, by omega⟩
    rw [fX6_records_11]
    simp (maxSteps := 1000000) (disch := omega) only [cc_s, kI_i, kV_n, kR_r, ck_M, rdI_M3, rdI_M7, rdI_M9, rdI_M10, rdI_M11, rdI_M12, rdI_M14, rdR_M1, rdR_M2, rdR_M4, rdR_M5, rdR_M6, rdR_M8, rdR_M13, wr_M0, wr_M3, wr_M7, wr_M9, wr_M10, wr_M11, wr_M12, wr_M14, ald_M1, ald_M2, ald_M3, ald_M5, ald_M6, ald_M7, ast_M1, ast_M2, ast_M3, ast_M5, ast_M6, ast_M7, iI_l, iI_add, iI_sub, iI_mul, iI_neg, dv_i, Int.reduceToNat, lt_i, rset_eq, mset_r, iI_k1]
    rw [if_pos (by omega), Int.toNat_natCast, show ((k : Int) + 1818).toNat = k + 1818 by omega, ih _ (k + 1) _ (by omega) (by omega)]
    have e : (fun j => if k + 1 ≤ j ∧ j < 9090 then st g k (g (k + 1818)) (j + 1818) else st g k (g (k + 1818)) j) = (fun j => if k ≤ j ∧ j < 9090 then g (j + 1818) else g j) := by
      funext j
      unfold st
      by_cases q : j = k
      · rw [if_neg (by omega), if_pos q, if_pos (by omega), q]
      · by_cases q2 : k ≤ j ∧ j < 9090
        · rw [if_pos (by omega), if_neg (by omega), if_pos q2]
        · rw [if_neg (by omega), if_neg q, if_neg q2]
    rw [e]
/-- the n-th state kept is the present one -/
def keep (M : Nat → Nat → Int) (n : Nat) : Nat → Nat → Int := mset (rset M 2 (fun j => if 1818 * n ≤ j ∧ j < 1818 * n + 1818 then M 1 (j - 1818 * n) else M 2 j)) 0 3 (n + 1)
theorem m_rec_50 {n : Nat} (hn : n ≤ 5) (h3 : M 0 3 = n) : fX6_records_50 c (hM h a M) (some a) = some (hM h a (keep M n), none) := by
  have := m_rec_52 (c := c) (h := h) (a := a) hn h3 1818 FU 0 (M 2) (by decide) (by decide)
  rw [rset_self] at this
  unfold fX6_records_50
  simp (maxSteps := 1000000) (disch := omega) only [cc_s, kI_i, kV_n, kR_r, ck_M, rdI_M3, rdI_M7, rdI_M9, rdI_M10, rdI_M11, rdI_M12, rdI_M14, rdR_M1, rdR_M2, rdR_M4, rdR_M5, rdR_M6, rdR_M8, rdR_M13, wr_M0, wr_M3, wr_M7, wr_M9, wr_M10, wr_M11, wr_M12, wr_M14, ald_M1, ald_M2, ald_M3, ald_M5, ald_M6, ald_M7, ast_M1, ast_M2, ast_M3, ast_M5, ast_M6, ast_M7, iI_l, iI_add, iI_sub, iI_mul, iI_neg, dv_i, Int.reduceToNat]
  exact this
theorem keep_ne {n p : Nat} (h0 : p ≠ 0) (h2 : p ≠ 2) : keep M n p = M p := by
  unfold keep; rw [mset_ne h0, rset_ne h2]
theorem keep_0 {n j : Nat} : keep M n 0 j = if j = 3 then (n : Int) + 1 else M 0 j := by
  unfold keep; rw [mset_at, rset_ne (by decide)]
theorem keep_2 {n : Nat} : keep M n 2 = fun j => if 1818 * n ≤ j ∧ j < 1818 * n + 1818 then M 1 (j - 1818 * n) else M 2 j := by
  unfold keep; rw [mset_ne (by decide), rset_eq]
theorem keep_MS {n : Nat} {D : Dt} {H : Nat → Dt} (h1 : MS (M 1) D) (h3 : ∀ k, k < n → MS (fun j => M 2 (1818 * k + j)) (H k)) : ∀ k, k < n + 1 → MS (fun j => keep M n 2 (1818 * k + j)) (if k = n then D else H k) := by
  intro k hk
  rw [keep_2]
  by_cases e : k = n
  · rw [if_pos e]
    refine MS_congr h1 (fun j hj => ?_)
    dsimp only
    rw [if_pos (by omega)]; congr 1; omega
  · rw [if_neg e]
    refine MS_congr (h3 k (by omega)) (fun j hj => ?_)
    dsimp only
    rw [if_neg (by omega)]
theorem m_records (R : MZ M Z) : ∃ M', fX6_records c (hM h a M) (some a) = some (hM h a M', none) ∧ MZ M' (zRec Z) ∧ M' 1 = M 1 := by
  obtain ⟨h1, h2, h3, h4, h5, h6, h7⟩ := R
  by_cases e : zn Z = 6
  · have e3 : M 0 3 = 6 := by rw [h2.1, e]; rfl
    have key := m_rec_11 (c := c) (h := h) (a := a) (M := M) e3 9090 FU 0 (M 2) (by decide) (by decide)
    rw [rset_self] at key
    generalize hM1 : mset (rset M 2 (fun j => if 0 ≤ j ∧ j < 9090 then M 2 (j + 1818) else M 2 j)) 0 3 5 = M1 at key
    have q1 : ∀ p, p ≠ 0 → p ≠ 2 → M1 p = M p := fun p h0 h2 => by rw [← hM1, mset_ne h0, rset_ne h2]
    have q0 : ∀ j, M1 0 j = if j = 3 then 5 else M 0 j := fun j => by rw [← hM1, mset_at, rset_ne (by decide)]
    have q2 : M1 2 = fun j => if 0 ≤ j ∧ j < 9090 then M 2 (j + 1818) else M 2 j := by rw [← hM1, mset_ne (by decide), rset_eq]
    have k5 := m_rec_50 (c := c) (h := h) (a := a) (M := M1) (n := 5) (by decide) (q0 3)
    refine ⟨keep M1 5, ?_, ?_, by rw [keep_ne (by decide) (by decide), q1 1 (by decide) (by decide)]⟩
    · unfold fX6_records
      simp (maxSteps := 1000000) (disch := omega) only [cc_s, kI_i, kV_n, kR_r, ck_M, rdI_M3, rdI_M7, rdI_M9, rdI_M10, rdI_M11, rdI_M12, rdI_M14, rdR_M1, rdR_M2, rdR_M4, rdR_M5, rdR_M6, rdR_M8, rdR_M13, wr_M0, wr_M3, wr_M7, wr_M9, wr_M10, wr_M11, wr_M12, wr_M14, ald_M1, ald_M2, ald_M3, ald_M5, ald_M6, ald_M7, ast_M1, ast_M2, ast_M3, ast_M5, ast_M6, ast_M7, iI_l, iI_add, iI_sub, iI_mul, iI_neg, dv_i, Int.reduceToNat, e3]
      rw [if_pos trivial]
      exact key.trans k5
    · unfold zRec
      rw [if_pos e]
      refine ⟨by rw [keep_ne (by decide) (by decide), q1 1 (by decide) (by decide)]; exact h1, ⟨by rw [keep_0]; rfl, Nat.le_refl 6⟩, fun k hk => ?_, fun i hi => by rw [keep_ne (by decide) (by decide), q1 4 (by decide) (by decide)]; exact h4 i hi, fun i hi e' => by rw [keep_ne (by decide) (by decide), q1 3 (by decide) (by decide)]; exact h5 i hi e', ⟨by rw [keep_0, if_neg (by decide), q0, if_neg (by decide)]; exact h6.1, h6.2⟩, fun j hj => by rw [keep_ne (by decide) (by decide), q1 5 (by decide) (by decide)]; exact h7 j hj⟩
      refine keep_MS (M := M1) (D := zD Z) (H := fun k => zH Z (k + 1)) (by rw [q1 1 (by decide) (by decide)]; exact h1) (fun k hk => ?_) k hk
      refine MS_congr (h3 (k + 1) (by omega)) (fun j hj => ?_)
      rw [q2]
      dsimp only
      rw [if_pos (by omega)]
      congr 1; omega
  · have k5 := m_rec_50 (c := c) (h := h) (a := a) (M := M) (n := zn Z) (by omega) h2.1
    refine ⟨keep M (zn Z), ?_, ?_, keep_ne (by decide) (by decide)⟩
    · unfold fX6_records
      simp (maxSteps := 1000000) (disch := omega) only [cc_s, kI_i, kV_n, kR_r, ck_M, rdI_M3, rdI_M7, rdI_M9, rdI_M10, rdI_M11, rdI_M12, rdI_M14, rdR_M1, rdR_M2, rdR_M4, rdR_M5, rdR_M6, rdR_M8, rdR_M13, wr_M0, wr_M3, wr_M7, wr_M9, wr_M10, wr_M11, wr_M12, wr_M14, ald_M1, ald_M2, ald_M3, ald_M5, ald_M6, ald_M7, ast_M1, ast_M2, ast_M3, ast_M5, ast_M6, ast_M7, iI_l, iI_add, iI_sub, iI_mul, iI_neg, dv_i, Int.reduceToNat, h2.1, eq_i]
      rw [if_neg (by omega)]
      exact k5
    · unfold zRec
      rw [if_neg e]
      refine ⟨by rw [keep_ne (by decide) (by decide)]; exact h1, ⟨by rw [keep_0]; rfl, by show zn Z + 1 ≤ 6; omega⟩, fun k hk => keep_MS h1 h3 k hk, fun i hi => by rw [keep_ne (by decide) (by decide)]; exact h4 i hi, fun i hi e' => by rw [keep_ne (by decide) (by decide)]; exact h5 i hi e', ⟨by rw [keep_0, if_neg (by decide)]; exact h6.1, h6.2⟩, fun j hj => by rw [keep_ne (by decide) (by decide)]; exact h7 j hj⟩
end
