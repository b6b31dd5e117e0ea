/-! CHANGES: what is told, and the reference's ints -/
def sT (D : Dt) (k : Nat) (v : Int) : Dt := (st D.1 k v, D.2)
def sFl (D : Dt) (r k : Nat) (v : Int) : Dt := (D.1, (fun q => if q = r then st (D.2.1 q) k v else D.2.1 q), D.2.2)
def sP (D : Dt) (r i : Nat) (p : Nat → Int) : Dt := (D.1, D.2.1, (fun q j => if q = r ∧ j = i then p else D.2.2.1 q j), D.2.2.2)
def sN (D : Dt) (r i : Nat) (n : Nat → Int) : Dt := (D.1, D.2.1, D.2.2.1, (fun q j => if q = r ∧ j = i then n else D.2.2.2.1 q j), D.2.2.2.2)
def sE (D : Dt) (r : Nat) (e : Nat → Int) : Dt := (D.1, D.2.1, D.2.2.1, D.2.2.2.1, fun q => if q = r then e else D.2.2.2.2 q)
/-- the record r as the record t is -/
def cpD (D : Dt) (r t : Nat) : Dt := (D.1, (fun q => D.2.1 (if q = r then t else q)), (fun q => D.2.2.1 (if q = r then t else q)), (fun q => D.2.2.2.1 (if q = r then t else q)), fun q => D.2.2.2.2 (if q = r then t else q))
/-- the record r with nothing in it -/
def emD (D : Dt) (r : Nat) : Dt := (D.1, (fun q k => if q = r then 0 else D.2.1 q k), (fun q i k => if q = r then 0 else D.2.2.1 q i k), (fun q i k => if q = r then 0 else D.2.2.2.1 q i k), fun q k => if q = r then 0 else D.2.2.2.2 q k)
def bvI (D : Dt) (r k : Nat) : Int := if k < 10 then gF D r k else if k < 14 then six (gE D r) (k - 10) else if (k - 14) % 6 = 0 then pkI (gP D r ((k - 14) / 6)) else six (gN' D r ((k - 14) / 6)) ((k - 14) % 6 - 1)
theorem MS_bv {s : Nat → Int} {D : Dt} (h : MS s D) : ∀ r, r < 21 → ∀ k, k < 86 → s (12 + 86 * r + k) = bvI D r k := by
  intro r hr k hk
  have b := h.2 r hr
  unfold bvI
  by_cases h1 : k < 10
  · rw [if_pos h1]; exact b.1 k h1
  · rw [if_neg h1]
    by_cases h2 : k < 14
    · rw [if_pos h2, ← b.2.1 (k - 10) (by omega)]
      congr 1; omega
    · rw [if_neg h2]
      by_cases h3 : (k - 14) % 6 = 0
      · rw [if_pos h3, ← (b.2.2 ((k - 14) / 6) (by omega)).1]
        congr 1; omega
      · rw [if_neg h3, ← (b.2.2 ((k - 14) / 6) (by omega)).2 ((k - 14) % 6 - 1) (by omega)]
        congr 1; omega
theorem MS_of {s : Nat → Int} {D : Dt} (h1 : ∀ k, k < 12 → s k = gT D k) (h2 : ∀ r, r < 21 → ∀ k, k < 86 → s (12 + 86 * r + k) = bvI D r k) : MS s D := by
  refine ⟨h1, fun r hr => ⟨fun k hk => ?_, fun w hw => ?_, fun i hi => ⟨?_, fun w hw => ?_⟩⟩⟩
  · rw [h2 r hr k (by omega)]; unfold bvI; rw [if_pos hk]
  · rw [show 12 + 86 * r + 10 + w = 12 + 86 * r + (10 + w) by omega, h2 r hr (10 + w) (by omega)]
    unfold bvI; rw [if_neg (by omega), if_pos (by omega), Nat.add_sub_cancel_left]
  · rw [show 12 + 86 * r + 14 + 6 * i = 12 + 86 * r + (14 + 6 * i) by omega, h2 r hr (14 + 6 * i) (by omega)]
    unfold bvI; rw [if_neg (by omega), if_neg (by omega), if_pos (by omega), show (14 + 6 * i - 14) / 6 = i by omega]
  · rw [show 12 + 86 * r + 15 + 6 * i + w = 12 + 86 * r + (15 + 6 * i + w) by omega, h2 r hr (15 + 6 * i + w) (by omega)]
    unfold bvI; rw [if_neg (by omega), if_neg (by omega), if_neg (by omega), show (15 + 6 * i + w - 14) / 6 = i by omega, show (15 + 6 * i + w - 14) % 6 - 1 = w by omega]
theorem mset_1 (M : Nat → Nat → Int) (i : Nat) (v : Int) : mset M 1 i v 1 = st (M 1) i v := by
  funext j; simp [mset, st]
theorem MS_put {s : Nat → Int} {D D' : Dt} {r k : Nat} {v : Int} (h : MS s D) (hr : r < 21) (hk : k < 86) (hT : D'.1 = D.1) (hb : ∀ r' k', r' < 21 → k' < 86 → bvI D' r' k' = if r' = r ∧ k' = k then v else bvI D r' k') : MS (st s (12 + 86 * r + k) v) D' := by
  refine MS_of (fun q hq => ?_) (fun r' hr' k' hk' => ?_)
  · unfold st
    rw [if_neg (by omega), h.1 q hq]
    unfold gT; rw [hT]
  · unfold st
    rw [hb r' k' hr' hk']
    by_cases e : r' = r ∧ k' = k
    · rw [if_pos (by rw [e.1, e.2]), if_pos e]
    · rw [if_neg (by omega), if_neg e, MS_bv h r' hr' k' hk']
theorem MS_T {s : Nat → Int} {D : Dt} (h : MS s D) {k : Nat} {v : Int} (hk : k < 12) : MS (st s k v) (sT D k v) := by
  refine MS_of (fun q hq => ?_) (fun r hr q hq => ?_)
  · unfold st gT sT st
    by_cases e : q = k
    · rw [if_pos e]; simp only [if_pos e]
    · rw [if_neg e]; simp only [if_neg e]; exact h.1 q hq
  · unfold st
    rw [if_neg (by omega)]
    exact MS_bv h r hr q hq
theorem MS_F {s : Nat → Int} {D : Dt} (h : MS s D) {r k : Nat} {v : Int} (hr : r < 21) (hk : k < 10) : MS (st s (12 + 86 * r + k) v) (sFl D r k v) := by
  refine MS_put h hr (by omega) rfl (fun r' k' _ _ => ?_)
  have e1 : ∀ k', k' < 10 → bvI (sFl D r k v) r' k' = if r' = r ∧ k' = k then v else bvI D r' k' := by
    intro k' h1
    unfold bvI
    rw [if_pos h1, if_pos h1]
    show (if r' = r then st (D.2.1 r') k v else D.2.1 r') k' = if r' = r ∧ k' = k then v else D.2.1 r' k'
    by_cases e : r' = r
    · rw [if_pos e]; unfold st
      by_cases e2 : k' = k
      · rw [if_pos e2, if_pos ⟨e, e2⟩]
      · rw [if_neg e2, if_neg (fun h => e2 h.2)]
    · rw [if_neg e, if_neg (fun h => e h.1)]
  by_cases h1 : k' < 10
  · exact e1 k' h1
  · rw [if_neg (by omega)]
    unfold bvI
    rw [if_neg h1, if_neg h1]
    rfl
theorem MS_P {s : Nat → Int} {D : Dt} (h : MS s D) {r i : Nat} {p : Nat → Int} (hr : r < 21) (hi : i < 12) : MS (st s (12 + 86 * r + (14 + 6 * i)) (pkI p)) (sP D r i p) := by
  refine MS_put h hr (by omega) rfl (fun r' k' _ _ => ?_)
  unfold bvI
  by_cases h1 : k' < 10
  · rw [if_pos h1, if_pos h1, if_neg (by omega)]; rfl
  · rw [if_neg h1, if_neg h1]
    by_cases h2 : k' < 14
    · rw [if_pos h2, if_pos h2, if_neg (by omega)]; rfl
    · rw [if_neg h2, if_neg h2]
      by_cases h3 : (k' - 14) % 6 = 0
      · rw [if_pos h3, if_pos h3]
        show pkI (if r' = r ∧ (k' - 14) / 6 = i then p else D.2.2.1 r' ((k' - 14) / 6)) = _
        by_cases e : r' = r ∧ (k' - 14) / 6 = i
        · rw [if_pos e, if_pos (by omega)]
        · rw [if_neg e, if_neg (by omega)]; rfl
      · rw [if_neg h3, if_neg h3, if_neg (by omega)]; rfl
theorem MS_E {s : Nat → Int} {D : Dt} (h : MS s D) {r w : Nat} {e : Nat → Int} (hr : r < 21) (hw : w < 4) (he : ∀ w', w' ≠ w → six e w' = six (gE D r) w') : MS (st s (12 + 86 * r + (10 + w)) (six e w)) (sE D r e) := by
  refine MS_put h hr (by omega) rfl (fun r' k' _ _ => ?_)
  unfold bvI
  by_cases h1 : k' < 10
  · rw [if_pos h1, if_pos h1, if_neg (by omega)]; rfl
  · rw [if_neg h1, if_neg h1]
    by_cases h2 : k' < 14
    · rw [if_pos h2, if_pos h2]
      show six (if r' = r then e else D.2.2.2.2 r') (k' - 10) = _
      by_cases e0 : r' = r
      · rw [if_pos e0]
        by_cases e1 : k' = 10 + w
        · rw [if_pos ⟨e0, e1⟩, show k' - 10 = w by omega]
        · rw [if_neg (by omega), he _ (by omega), e0]
      · rw [if_neg e0, if_neg (by omega)]; rfl
    · rw [if_neg h2, if_neg h2, if_neg (show ¬ (r' = r ∧ k' = 10 + w) by omega)]; rfl
theorem MS_N {s : Nat → Int} {D : Dt} (h : MS s D) {r i w : Nat} {n : Nat → Int} (hr : r < 21) (hi : i < 12) (hw : w < 5) (hn : ∀ w', w' ≠ w → six n w' = six (gN' D r i) w') : MS (st s (12 + 86 * r + (15 + 6 * i + w)) (six n w)) (sN D r i n) := by
  refine MS_put h hr (by omega) rfl (fun r' k' _ _ => ?_)
  unfold bvI
  by_cases h1 : k' < 10
  · rw [if_pos h1, if_pos h1, if_neg (by omega)]; rfl
  · rw [if_neg h1, if_neg h1]
    by_cases h2 : k' < 14
    · rw [if_pos h2, if_pos h2, if_neg (by omega)]; rfl
    · rw [if_neg h2, if_neg h2]
      by_cases h3 : (k' - 14) % 6 = 0
      · rw [if_pos h3, if_pos h3, if_neg (by omega)]; rfl
      · rw [if_neg h3, if_neg h3]
        show six (if r' = r ∧ (k' - 14) / 6 = i then n else D.2.2.2.1 r' ((k' - 14) / 6)) _ = _
        by_cases e : r' = r ∧ (k' - 14) / 6 = i
        · rw [if_pos e]
          by_cases e1 : (k' - 14) % 6 - 1 = w
          · rw [if_pos (by omega), e1]
          · rw [if_neg (by omega), hn _ e1, e.1, e.2]
        · rw [if_neg e, if_neg (by omega)]; rfl
/-- a block of 86 is copied -/
theorem MS_cp {s s' : Nat → Int} {D : Dt} (h : MS s D) {r t : Nat} (hr : r < 21) (ht : t < 21) (hs : ∀ j, s' j = if 12 + 86 * r ≤ j ∧ j < 12 + 86 * r + 86 then s (12 + 86 * t + (j - (12 + 86 * r))) else s j) : MS s' (cpD D r t) := by
  refine MS_of (fun q hq => ?_) (fun r' hr' k hk => ?_)
  · rw [hs, if_neg (by omega)]; exact h.1 q hq
  · have e : bvI (cpD D r t) r' k = bvI D (if r' = r then t else r') k := rfl
    rw [e, hs]
    by_cases e1 : r' = r
    · rw [if_pos (by omega), if_pos e1, show 12 + 86 * r' + k - (12 + 86 * r) = k by omega]
      exact MS_bv h t ht k hk
    · rw [if_neg (by omega), if_neg e1]
      exact MS_bv h r' hr' k hk
theorem MS_em {s s' : Nat → Int} {D : Dt} (h : MS s D) {r : Nat} (hr : r < 21) (hs : ∀ j, s' j = if 12 + 86 * r ≤ j ∧ j < 12 + 86 * r + 86 then 0 else s j) : MS s' (emD D r) := by
  refine MS_of (fun q hq => ?_) (fun r' hr' k hk => ?_)
  · rw [hs, if_neg (by omega)]; exact h.1 q hq
  · rw [hs]
    by_cases e1 : r' = r
    · subst e1
      rw [if_pos (by omega)]
      unfold bvI six pkI gF gE gP gN' emD
      simp
    · rw [if_neg (by omega), MS_bv h r' hr' k hk]
      unfold bvI six pkI gF gE gP gN' emD
      simp [e1]
