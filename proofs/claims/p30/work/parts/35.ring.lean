/-! the pad, ring -/
def stnd (p : Nat → Int) (k : Nat) : Prop := if 97 ≤ p k ∧ p k ≤ 122 then k < 30 else p k = 95 ∧ 0 < k ∧ k < 29 ∧ p (k - 1) ≠ 95
def stB (p : Nat → Int) (k : Nat) : Bool := if 97 ≤ p k ∧ p k ≤ 122 then decide (k < 30) else decide (p k = 95 ∧ 0 < k ∧ k < 29 ∧ p (k - 1) ≠ 95)
def flL (p : Nat → Int) (len : Nat) : Nat → Nat → Int
  | _, 0 => if len = 0 ∨ p (len - 1) = 95 then len else -6
  | k, m + 1 => if stB p k = true then flL p len (k + 1) m else k
def flI (Z : Zt) : Int := flL (zp Z) (zl Z) 0 (zl Z)
/-- the pad's signs -/
def OkP (Z : Zt) : Prop := ∀ j, j < zl Z → 33 ≤ zp Z j ∧ zp Z j ≤ 126
def zPad (Z : Zt) (l : Nat) (p : Nat → Int) : Zt := (Z.1, Z.2.1, Z.2.2.1, Z.2.2.2.1, Z.2.2.2.2.1, l, p)
theorem MZ_pad {M : Nat → Nat → Int} {Z : Zt} {l : Nat} (R : MZ M Z) (hl : l ≤ zl Z) : MZ (mset M 0 7 l) (zPad Z l (zp Z)) := by
  obtain ⟨h1, h2, h3, h4, h5, h6, h7⟩ := R
  refine ⟨by rw [mset_ne (by decide)]; exact h1, ⟨by rw [mset_at, if_neg (by decide)]; exact h2.1, h2.2⟩, fun k hk => by rw [mset_ne (by decide)]; exact h3 k hk, fun i hi => by rw [mset_ne (by decide)]; exact h4 i hi, fun i hi e => by rw [mset_ne (by decide)]; exact h5 i hi e, ⟨by rw [mset_at, if_pos rfl]; rfl, by show l ≤ 80; omega⟩, fun j hj => by rw [mset_ne (by decide)]; exact h7 j (by have : j < l := hj; omega)⟩
def cod (x : Int) : Int := if x = 95 then 27 else x - 97 + 1
def nmK (p : Nat → Int) (k : Nat) : Nat → Int := fun j => if j < k then cod (p j) else 0
theorem sN_sN (D : Dt) (r i : Nat) (n n' : Nat → Int) : sN (sN D r i n) r i n' = sN D r i n' := by
  unfold sN
  have : (fun q j => if q = r ∧ j = i then n' else (fun q j => if q = r ∧ j = i then n else D.2.2.2.1 q j) q j) = (fun q j => if q = r ∧ j = i then n' else D.2.2.2.1 q j) := by
    funext q j
    by_cases e : q = r ∧ j = i
    · rw [if_pos e, if_pos e]
    · rw [if_neg e, if_neg e]; dsimp only; rw [if_neg e]
  dsimp only at this ⊢
  rw [this]
theorem sN_self (D : Dt) (r i : Nat) : sN D r i (gN' D r i) = D := by
  unfold sN
  have : (fun q j => if q = r ∧ j = i then gN' D r i else D.2.2.2.1 q j) = D.2.2.2.1 := by
    funext q j
    by_cases e : q = r ∧ j = i
    · rw [if_pos e, e.1, e.2]; rfl
    · rw [if_neg e]
  rw [this]
section
variable {c : Nat → Option Nat} {h : Hp} {a : Nat} {M : Nat → Nat → Int} {Z : Zt} {D : Dt}
theorem or_lo {s t : Nat} {lo v : Int} (l0 : 0 ≤ lo) (v0 : 0 ≤ v) (hl : lo < 2 ^ s) (hv : v < 2 ^ t) (hb : lo < 4294967296) (hb2 : v * 2 ^ s < 4294967296) : iI lo ||| iI (v * 2 ^ s) = iI (lo + v * 2 ^ s) := by
  have := or_i (s := s) (t := t) (hi := 0) (lo := lo) (v := v) (by decide) l0 v0 hl hv (by rw [Int.mul_zero, Int.zero_add]; exact hb) hb2
  rw [Int.mul_zero, Int.zero_add] at this
  exact this
def itm (m p x l : Int) : Nat → Int := fun k => if k = 0 then m else if k = 1 then p else if k = 2 then x else if k = 3 then 0 else if k = 4 then l else 0
theorem pk_itm {m p x l : Int} (h1 : 1 ≤ m ∧ m ≤ 99) (h2 : 1 ≤ p ∧ p ≤ 9999) (h3 : 0 ≤ x ∧ x ≤ 2) (h4 : 0 ≤ l ∧ l ≤ 30) : ((iI m ||| iI (p * 2 ^ 7)) ||| iI (x * 2 ^ 21)) ||| iI (l * 2 ^ 24) = iI (pkI (itm m p x l)) := by
  rw [or_lo (t := 14) (by omega) (by omega) (by omega) (by omega) (by omega) (by omega), or_lo (t := 2) (by omega) (by omega) (by omega) (by omega) (by omega) (by omega), or_lo (t := 5) (by omega) (by omega) (by omega) (by omega) (by omega) (by omega)]
  congr 1
  show _ = m + 128 * p + 2097152 * x + 8388608 * 0 + 16777216 * l
  omega
theorem flL_6 {p : Nat → Int} {len : Nat} : ∀ (m k : Nat), flL p len k m = -6 → (∀ j, k ≤ j → j < k + m → stB p j = true) ∧ ¬ (len = 0 ∨ p (len - 1) = 95)
  | 0, k, h => by
    rw [flL] at h
    refine ⟨fun j h1 h2 => by omega, fun hn => ?_⟩
    rw [if_pos hn] at h
    omega
  | m + 1, k, h => by
    rw [flL] at h
    by_cases e : stB p k = true
    · rw [if_pos e] at h
      have := flL_6 m (k + 1) h
      refine ⟨fun j h1 h2 => ?_, this.2⟩
      by_cases ej : j = k
      · rw [ej]; exact e
      · exact this.1 j (by omega) (by omega)
    · rw [if_neg e] at h
      omega
theorem stB_c {p : Nat → Int} {k : Nat} (h : stB p k = true) : k < 30 ∧ ((97 ≤ p k ∧ p k ≤ 122) ∨ p k = 95) := by
  unfold stB at h
  by_cases e : 97 ≤ p k ∧ p k ≤ 122
  · rw [if_pos e] at h
    exact ⟨of_decide_eq_true h, Or.inl e⟩
  · rw [if_neg e] at h
    have := of_decide_eq_true h
    exact ⟨by omega, Or.inr this.1⟩
theorem flI_6 {Z : Zt} (h : flI Z = -6) : (1 ≤ zl Z ∧ zl Z ≤ 30) ∧ ∀ j, j < zl Z → ((97 ≤ zp Z j ∧ zp Z j ≤ 122) ∨ zp Z j = 95) ∧ 1 ≤ cod (zp Z j) ∧ cod (zp Z j) ≤ 27 := by
  obtain ⟨h1, h2⟩ := flL_6 _ _ h
  have h3 : 1 ≤ zl Z := by omega
  have h4 := stB_c (h1 (zl Z - 1) (by omega) (by omega))
  refine ⟨⟨h3, by omega⟩, fun j hj => ?_⟩
  have h5 := (stB_c (h1 j (by omega) (by omega))).2
  refine ⟨h5, ?_⟩
  unfold cod
  rcases h5 with h | h
  · rw [if_neg (by omega)]; omega
  · rw [if_pos h]; decide
def rngD (Z : Zt) (t : Nat) (m p x : Int) : Dt := hapD (sFl (sN (sP (zD Z) t (gF (zD Z) t 8).toNat (itm m p x (zl Z))) t (gF (zD Z) t 8).toNat (nmK (zp Z) (zl Z))) t 8 (gF (zD Z) t 8 + 1)) t (gF (zD Z) t 8)
def rRing (Z : Zt) (t m p x : Int) : Int := if ¬ (0 ≤ t ∧ t ≤ 2) then -1 else if flI Z ≠ -6 then -3 else if ¬ (1 ≤ m ∧ m ≤ 99) then -2 else if ¬ (1 ≤ p ∧ p ≤ 9999) then -2 else if ¬ (0 ≤ x ∧ x ≤ 2) then -2 else if gF (zD Z) t.toNat 8 = 12 then -4 else gF (zD Z) t.toNat 8
def zRing (Z : Zt) (t m p x : Int) : Zt := if ¬ (0 ≤ t ∧ t ≤ 2) then Z else if flI Z ≠ -6 then Z else if ¬ (1 ≤ m ∧ m ≤ 99) then Z else if ¬ (1 ≤ p ∧ p ≤ 9999) then Z else if ¬ (0 ≤ x ∧ x ≤ 2) then Z else if gF (zD Z) t.toNat 8 = 12 then Z else zPad (zDo Z (rngD Z t.toNat m p x)) 0 (zp Z)
/-- what is rung next finds its place clean -/
def Cln (D : Dt) : Prop := ∀ t, t < 3 → gF D t 8 < 12 → gF D t 9 < 24 ∧ gE D t (gF D t 9).toNat = 0 ∧ gN' D t (gF D t 8).toNat = fun _ => 0
theorem flI_bd (Z : Zt) : -6 ≤ flI Z ∧ flI Z ≤ zl Z := by
  have : ∀ (m k : Nat), k + m = zl Z → -6 ≤ flL (zp Z) (zl Z) k m ∧ flL (zp Z) (zl Z) k m ≤ zl Z := by
    intro m
    induction m with
    | zero => intro k hk; rw [flL]; split <;> omega
    | succ m ih =>
      intro k hk; rw [flL]
      split
      · exact ih (k + 1) (by omega)
      · omega
  exact this (zl Z) 0 (by omega)
end
