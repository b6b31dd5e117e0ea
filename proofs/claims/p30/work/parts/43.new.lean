/-! THE REFERENCE'S CONSTRUCTOR -/
/-- cells in a row, the newest ones -/
def hh (h : Hp) (a : Nat) (L : List Cl) (n : Nat) : Hp := (fun q => if a ≤ q ∧ q < a + L.length then L[q - a]? else h.1 q, a + L.length, n)
theorem hh_push (h : Hp) (a : Nat) (L : List Cl) (n m : Nat) (e : Cl) : pushH (hh h a L n) e m = hh h a (L ++ [e]) (n + m) := by
  unfold pushH hh
  have l : (L ++ [e]).length = L.length + 1 := by simp
  rw [l]
  congr 1
  funext q
  dsimp only
  by_cases e1 : q = a + L.length
  · rw [if_pos e1, if_pos (by omega), e1, Nat.add_sub_cancel_left]; simp
  · rw [if_neg e1]
    by_cases e2 : a ≤ q ∧ q < a + L.length
    · rw [if_pos e2, if_pos (by omega), List.getElem?_append_left (by omega)]
    · rw [if_neg e2, if_neg (by omega)]
theorem hh_at {h : Hp} {a : Nat} {L : List Cl} {n i : Nat} (hi : i < L.length) : (hh h a L n).1 (a + i) = L[i]? := by
  show (if a ≤ a + i ∧ a + i < a + L.length then _ else _) = _
  rw [if_pos (by omega), Nat.add_sub_cancel_left]
theorem hh_up {h : Hp} {a : Nat} {L : List Cl} {n i : Nat} {e : Cl} (hi : i < L.length) : upH (hh h a L n) (a + i) e = hh h a (L.set i e) n := by
  unfold upH hh
  rw [List.length_set]
  congr 1
  funext q
  dsimp only
  by_cases e1 : q = a + i
  · rw [if_pos e1, if_pos (by omega), e1, Nat.add_sub_cancel_left, List.getElem?_set_self hi]
  · rw [if_neg e1]
    by_cases e2 : a ≤ q ∧ q < a + L.length
    · rw [if_pos e2, if_pos e2, List.getElem?_set_ne (by omega)]
    · rw [if_neg e2, if_neg e2]
theorem nwA_hh {h : Hp} {a : Nat} {L : List Cl} {n k m : Nat} {f : Hp → Option Nat → Rs} (hm : m ≤ 1000000) : nwA (hh h a L n) k (iI (m : Int)) f = f (hh h a (L ++ [.inl (k, m, .inl (fun _ => 0))]) (n + m)) (some (a + L.length)) := by
  unfold nwA
  have e : (iI (m : Int)).toNatClampNeg = m := by rw [iI_nat (by unfold rg; omega)]; omega
  have e2 : ¬ iI (m : Int) < 0 := by rw [iI_0, iI_lt (by unfold rg; omega) (by unfold rg; omega)]; omega
  rw [e, hh_push, if_pos (by simp [e2]; exact hm)]
  rfl
/-- as it is made -/
def M0 : Nat → Nat → Int := mset (mset (mset (mset (mset (fun _ _ => 0) 1 0 24) 1 1 40) 1 2 2) 1 7 40) 1 10 1
theorem hh_hM (h : Hp) (a n : Nat) : hh h a [.inr (8, mF a (fun _ _ => 0)), .inl (0, 1818, .inl (fun _ => 0)), .inl (0, 10908, .inl (fun _ => 0)), .inl (0, 3636, .inl (fun _ => 0)), .inl (2, 2, .inl (fun _ => 0)), .inl (0, 80, .inl (fun _ => 0)), .inl (0, 40, .inl (fun _ => 0)), .inl (0, 30, .inl (fun _ => 0))] n = hM (h.1, a + 8, n) a (fun _ _ => 0) := by
  unfold hh hM
  have e : ∀ k, k < 8 → ([.inr (8, mF a (fun _ _ => 0)), .inl (0, 1818, .inl (fun _ => 0)), .inl (0, 10908, .inl (fun _ => 0)), .inl (0, 3636, .inl (fun _ => 0)), .inl (2, 2, .inl (fun _ => 0)), .inl (0, 80, .inl (fun _ => 0)), .inl (0, 40, .inl (fun _ => 0)), .inl (0, 30, .inl (fun _ => 0))] : List Cl)[k]? = mC a (fun _ _ => 0) k := by
    intro k hk
    match k, hk with
    | 0, _ => rfl
    | 1, _ => rfl
    | 2, _ => rfl
    | 3, _ => rfl
    | 4, _ => rfl
    | 5, _ => rfl
    | 6, _ => rfl
    | 7, _ => rfl
  congr 1
  funext q
  dsimp only [List.length]
  by_cases e2 : a ≤ q ∧ q < a + 8
  · rw [if_pos e2, if_pos e2, e _ (by omega)]
  · rw [if_neg e2, if_neg e2]
theorem nwA_l {h : Hp} {a : Nat} {L : List Cl} {n k : Nat} {z : Int} {f : Hp → Option Nat → Rs} (h0 : 0 ≤ z) (hm : z ≤ 1000000) : nwA (hh h a L n) k (iI z) f = f (hh h a (L ++ [.inl (k, z.toNat, .inl (fun _ => 0))]) (n + z.toNat)) (some (a + L.length)) := by
  obtain ⟨m, rfl⟩ := Int.eq_ofNat_of_zero_le h0
  exact nwA_hh (by omega)
section
variable {c : Nat → Option Nat} {h : Hp} {a n : Nat}
end
