/-! THE REFERENCE'S CONSTRUCTOR -/
/-- cells in a row, the newest ones -/
def hh (h : Hp) (a : Nat) (L : List Cl) (n : Nat) : Hp := (fun q => if a ≤ q ∧ q < a + L.length then L[q - a]? else h.1 q, a + L.length, n)
theorem hh_push (h : Hp) (a : Nat) (L : List Cl) (n m : Nat) (e : Cl) : pushH (hh h a L n) e m = hh h a (L ++ [e]) (n + m) := by
  unfold pushH hh
  have l : (L ++ [e]).length = L.length + 1 := by simp
  rw [l]
  congr 1
  funext q
  dsimp only
  by_cases e1 : q = a + L.length
  · rw [if_pos e1, if_pos (by omega), e1, Nat.add_sub_cancel_left]; simp
  · rw [if_neg e1]
    by_cases e2 : a ≤ q ∧ q < a + L.length
    · rw [if_pos e2, if_pos (by omega), List.getElem?_append_left (by omega)]
    · rw [if_neg e2, if_neg (by omega)]
theorem hh_at {h : Hp} {a : Nat} {L : List Cl} {n i : Nat} (hi : i < L.length) : (hh h a L n).1 (a + i) = L[i]? := by
  show (if a ≤ a + i ∧ a + i < a + L.length then _ else _) = _
  rw [if_pos (by omega), Nat.add_sub_cancel_left]
theorem hh_up {h : Hp} {a : Nat} {L : List Cl} {n i : Nat} {e : Cl} (hi : i < L.length) : upH (hh h a L n) (a + i) e = hh h a (L.set i e) n := by
  unfold upH hh
  rw [List.length_set]
  congr 1
  funext q
  dsimp only
  by_cases e1 : q = a + i
  · rw [if_pos e1, if_pos (by omega), e1, Nat.add_sub_cancel_left, List.getElem?_set_self hi]
  · rw [if_neg e1]
    by_cases e2 : a ≤ q ∧ q < a + L.length
    · rw [if_pos e2, if_pos e2, List.getElem?_set_ne (by omega)]
    · rw [if_neg e2, if_neg e2]
theorem nwA_hh {h : Hp} {a : Nat} {L : List Cl} {n k m : Nat} {f : Hp → Option Nat → Rs} (hm : m ≤ 1000000) : nwA (hh h a L n) k (iI (m : Int)) f = f (hh h a (L ++ [.inl (k, m, .inl (fun _ => 0))]) (n + m)) (some (a + L.length)) := by
  unfold nwA
  have e : (iI (m : Int)).toNatClampNeg = m := by rw [iI_nat (by unfold rg; omega)]; omega
  have e2 : ¬ iI (m : Int) < 0 := by rw [iI_0, iI_lt (by unfold rg; omega) (by unfold rg; omega)]; omega
  rw [e, hh_push, if_pos (by simp [e2]; exact hm)]
  rfl
theorem wr_hh {h : Hp} {a : Nat} {fs : List AV} {L : List Cl} {n k : Nat} {v : AV} {f : Hp → Rs} (hk : Nat.blt k fs.length = true) (ht : vfit (tyC 8 k) v = true) : wr (hh h a (.inr (8, fs) :: L) n) (some a) 8 k v f = f (hh h a (.inr (8, fs.set k v) :: L) n) := by
  have o : ob (hh h a (.inr (8, fs) :: L) n) (some a) 8 = some (a, 8, fs) := by
    unfold ob
    have := hh_at (h := h) (a := a) (L := .inr (8, fs) :: L) (n := n) (i := 0) (by simp)
    rw [Nat.add_zero] at this
    simp only [this]
    rfl
  unfold wr
  rw [o]
  simp only []
  rw [if_pos (by rw [hk, ht]; rfl)]
  have := hh_up (h := h) (a := a) (L := .inr (8, fs) :: L) (n := n) (i := 0) (e := .inr (8, fs.set k v)) (by simp)
  rw [Nat.add_zero] at this
  rw [this]
  rfl
/-- as it is made -/
def M0 : Nat → Nat → Int := mset (mset (mset (mset (mset (fun _ _ => 0) 1 0 24) 1 1 40) 1 2 2) 1 7 40) 1 10 1
theorem hh_hM (h : Hp) (a n : Nat) : hh h a [.inr (8, mF a (fun _ _ => 0)), .inl (0, 1818, .inl (fun _ => 0)), .inl (0, 10908, .inl (fun _ => 0)), .inl (0, 3636, .inl (fun _ => 0)), .inl (2, 2, .inl (fun _ => 0)), .inl (0, 80, .inl (fun _ => 0)), .inl (0, 40, .inl (fun _ => 0)), .inl (0, 30, .inl (fun _ => 0))] n = hM (h.1, a + 8, n) a (fun _ _ => 0) := by
  unfold hh hM
  have e : ∀ k, k < 8 → ([.inr (8, mF a (fun _ _ => 0)), .inl (0, 1818, .inl (fun _ => 0)), .inl (0, 10908, .inl (fun _ => 0)), .inl (0, 3636, .inl (fun _ => 0)), .inl (2, 2, .inl (fun _ => 0)), .inl (0, 80, .inl (fun _ => 0)), .inl (0, 40, .inl (fun _ => 0)), .inl (0, 30, .inl (fun _ => 0))] : List Cl)[k]? = mC a (fun _ _ => 0) k := by
    intro k hk
    match k, hk with
    | 0, _ => rfl
    | 1, _ => rfl
    | 2, _ => rfl
    | 3, _ => rfl
    | 4, _ => rfl
    | 5, _ => rfl
    | 6, _ => rfl
    | 7, _ => rfl
  congr 1
  funext q
  dsimp only [List.length]
  by_cases e2 : a ≤ q ∧ q < a + 8
  · rw [if_pos e2, if_pos e2, e _ (by omega)]
  · rw [if_neg e2, if_neg e2]
theorem nwA_l {h : Hp} {a : Nat} {L : List Cl} {n k : Nat} {z : Int} {f : Hp → Option Nat → Rs} (h0 : 0 ≤ z) (hm : z ≤ 1000000) : nwA (hh h a L n) k (iI z) f = f (hh h a (L ++ [.inl (k, z.toNat, .inl (fun _ => 0))]) (n + z.toNat)) (some (a + L.length)) := by
  obtain ⟨m, rfl⟩ := Int.eq_ofNat_of_zero_le h0
  exact nwA_hh (by omega)
section
variable {c : Nat → Option Nat} {h : Hp} {a n : Nat}
theorem m_init_109 {h : Hp} {M : Nat → Nat → Int} : ∃ M', fX6_init_109 c FU (hM h a M) (some a) (iI 0) = some (hM h a M', none) ∧ M' = mset (mset (mset M 1 13 0) 1 99 1) 1 185 2 := by
  refine ⟨_, ?_, rfl⟩
  rw [show FU = 19996 + 4 from rfl, fX6_init_109]
  simp (maxSteps := 1000000) (disch := omega) only [cc_s, kI_i, kV_n, kR_r, ck_M, rdI_M3, rdI_M7, rdI_M9, rdI_M10, rdI_M11, rdI_M12, rdI_M14, rdR_M1, rdR_M2, rdR_M4, rdR_M5, rdR_M6, rdR_M8, rdR_M13, wr_M0, wr_M3, wr_M7, wr_M9, wr_M10, wr_M11, wr_M12, wr_M14, ald_M1, ald_M2, ald_M3, ald_M5, ald_M6, ald_M7, ast_M1, ast_M2, ast_M3, ast_M5, ast_M6, ast_M7, iI_l, iI_add, iI_sub, iI_mul, iI_neg, dv_i, Int.reduceToNat, lt_i, m_lay]
  rw [if_pos (by decide), show (0 : Int) + 1 = 1 from rfl, fX6_init_109]
  simp (maxSteps := 1000000) (disch := omega) only [cc_s, kI_i, kV_n, kR_r, ck_M, rdI_M3, rdI_M7, rdI_M9, rdI_M10, rdI_M11, rdI_M12, rdI_M14, rdR_M1, rdR_M2, rdR_M4, rdR_M5, rdR_M6, rdR_M8, rdR_M13, wr_M0, wr_M3, wr_M7, wr_M9, wr_M10, wr_M11, wr_M12, wr_M14, ald_M1, ald_M2, ald_M3, ald_M5, ald_M6, ald_M7, ast_M1, ast_M2, ast_M3, ast_M5, ast_M6, ast_M7, iI_l, iI_add, iI_sub, iI_mul, iI_neg, dv_i, Int.reduceToNat, lt_i, m_lay]
  rw [if_pos (by decide), show (1 : Int) + 1 = 2 from rfl, fX6_init_109]
  simp (maxSteps := 1000000) (disch := omega) only [cc_s, kI_i, kV_n, kR_r, ck_M, rdI_M3, rdI_M7, rdI_M9, rdI_M10, rdI_M11, rdI_M12, rdI_M14, rdR_M1, rdR_M2, rdR_M4, rdR_M5, rdR_M6, rdR_M8, rdR_M13, wr_M0, wr_M3, wr_M7, wr_M9, wr_M10, wr_M11, wr_M12, wr_M14, ald_M1, ald_M2, ald_M3, ald_M5, ald_M6, ald_M7, ast_M1, ast_M2, ast_M3, ast_M5, ast_M6, ast_M7, iI_l, iI_add, iI_sub, iI_mul, iI_neg, dv_i, Int.reduceToNat, lt_i, m_lay]
  rw [if_pos (by decide), show (2 : Int) + 1 = 3 from rfl, fX6_init_109]
  simp (maxSteps := 1000000) (disch := omega) only [cc_s, kI_i, kV_n, kR_r, ck_M, rdI_M3, rdI_M7, rdI_M9, rdI_M10, rdI_M11, rdI_M12, rdI_M14, rdR_M1, rdR_M2, rdR_M4, rdR_M5, rdR_M6, rdR_M8, rdR_M13, wr_M0, wr_M3, wr_M7, wr_M9, wr_M10, wr_M11, wr_M12, wr_M14, ald_M1, ald_M2, ald_M3, ald_M5, ald_M6, ald_M7, ast_M1, ast_M2, ast_M3, ast_M5, ast_M6, ast_M7, iI_l, iI_add, iI_sub, iI_mul, iI_neg, dv_i, Int.reduceToNat, lt_i]
  rw [if_neg (by decide)]
  rfl
end
