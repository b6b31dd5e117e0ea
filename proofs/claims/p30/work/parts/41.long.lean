/-! LONGS as they hold signs -/
def lL (u : Nat) : Int64 := (UInt64.ofNat u).toInt64
theorem lL_u (x : Int64) : lL x.toUInt64.toNat = x := by
  unfold lL
  rw [UInt64.ofNat_toNat]
  rfl
theorem lL_bv (u : Nat) : (lL u).toBitVec = BitVec.ofNat 64 u := rfl
theorem lL_0 : (0 : Int64) = lL 0 := rfl
theorem lL_255 : (255 : Int64) = lL 255 := rfl
theorem lL_inj {u v : Nat} (hu : u < 2 ^ 64) (hv : v < 2 ^ 64) : lL u = lL v ↔ u = v := by
  constructor
  · intro h
    have h2 : (lL u).toBitVec = (lL v).toBitVec := by rw [h]
    rw [lL_bv, lL_bv, ← BitVec.toNat_inj, BitVec.toNat_ofNat, BitVec.toNat_ofNat, Nat.mod_eq_of_lt hu, Nat.mod_eq_of_lt hv] at h2
    exact h2
  · intro h; rw [h]
theorem lL_and (u : Nat) : lL u &&& lL 255 = lL (u % 256) := by
  rw [← Int64.toBitVec_inj, Int64.toBitVec_and, lL_bv, lL_bv, lL_bv, ← BitVec.ofNat_and]
  congr 1
  exact Nat.and_two_pow_sub_one_eq_mod u 8
theorem sh_63 : ∀ k : Fin 64, ((iI (k.val : Int)).toInt64.toUInt64 &&& Int64.toUInt64 63).toNat % 64 = k.val := by decide +kernel
theorem lL_shr {u : Nat} (hu : u < 2 ^ 64) {k : Nat} (hk : k < 64) : ushrL (lL u) (iI (k : Int)) = lL (u / 2 ^ k) := by
  unfold ushrL
  have e : (lL u).toUInt64 >>> ((iI (k : Int)).toInt64.toUInt64 &&& Int64.toUInt64 63) = UInt64.ofNat (u / 2 ^ k) := by
    rw [← UInt64.toNat_inj, UInt64.toNat_shiftRight, sh_63 ⟨k, hk⟩, Nat.shiftRight_eq_div_pow]
    show (UInt64.ofNat u).toNat / 2 ^ k = _
    rw [UInt64.toNat_ofNat', UInt64.toNat_ofNat', Nat.mod_eq_of_lt hu, Nat.mod_eq_of_lt (Nat.lt_of_le_of_lt (Nat.div_le_self _ _) hu)]
  rw [e]
  rfl
theorem lL_cmp {u : Nat} (hu : u < 2 ^ 64) : (lg_cmp (lL u) (lL 0) = iI 0) = (u = 0) := by
  unfold lg_cmp
  by_cases h : u = 0
  · subst h
    simp only [eq_self, iff_true]
    decide
  · have h2 : lL u ≠ lL 0 := fun e => h ((lL_inj hu (by decide)).mp e)
    apply propext
    constructor
    · intro e
      split at e
      · exact absurd e (by decide)
      · exact absurd e (by decide)
    · intro e; exact absurd e h
theorem lL_int {u : Nat} (hu : u < 256) : (lL u).toInt32 = iI (u : Int) := by
  have : ∀ k : Fin 256, (lL k.val).toInt32 = iI (k.val : Int) := by decide +kernel
  exact this ⟨u, hu⟩
