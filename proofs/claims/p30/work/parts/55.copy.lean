/-! COPIES of the class's states -/
/-- a receipt is another -/
def upR (C : Ct) (r : Nat) (R : Nat → Int) (G : Nat → Option Nat) (E : Nat → Int) : Ct := (cF C, cT C, (fun q => if q = r then R else cR C q), (fun q => if q = r then G else cG C q), fun q => if q = r then E else cE C q)
theorem upR_self (C : Ct) (r : Nat) : upR C r (cR C r) (cG C r) (cE C r) = C := by
  unfold upR
  refine Prod.ext rfl (Prod.ext rfl (Prod.ext (funext fun q => ?_) (Prod.ext (funext fun q => ?_) (funext fun q => ?_))))
  · show (if q = r then cR C r else cR C q) = cR C q
    split
    · next e => rw [e]
    · rfl
  · show (if q = r then cG C r else cG C q) = cG C q
    split
    · next e => rw [e]
    · rfl
  · show (if q = r then cE C r else cE C q) = cE C q
    split
    · next e => rw [e]
    · rfl
section
variable {C : Ct} {r k : Nat} {R : Nat → Int} {G : Nat → Option Nat} {E : Nat → Int} {v : Int} {y : Option Nat}
theorem upR_R : sCR (upR C r R G E) r k v = upR C r (st R k v) G E := by
  unfold upR sCR
  refine Prod.ext rfl (Prod.ext rfl (Prod.ext (funext fun q => ?_) rfl))
  show (if q = r then st (if q = r then R else cR C q) k v else (if q = r then R else cR C q)) = if q = r then st R k v else cR C q
  split <;> rfl
theorem upR_G : sCG (upR C r R G E) r k y = upR C r R (va_up G k y) E := by
  unfold upR sCG
  refine Prod.ext rfl (Prod.ext rfl (Prod.ext rfl (Prod.ext (funext fun q => ?_) rfl)))
  show (if q = r then va_up (if q = r then G else cG C q) k y else (if q = r then G else cG C q)) = if q = r then va_up G k y else cG C q
  split <;> rfl
theorem upR_E : sCE (upR C r R G E) r k v = upR C r R G (st E k v) := by
  unfold upR sCE
  refine Prod.ext rfl (Prod.ext rfl (Prod.ext rfl (Prod.ext rfl (funext fun q => ?_))))
  show (if q = r then st (if q = r then E else cE C q) k v else (if q = r then E else cE C q)) = if q = r then st E k v else cE C q
  split <;> rfl
end
theorem cR_up (C : Ct) (r q : Nat) (R : Nat → Int) (G : Nat → Option Nat) (E : Nat → Int) : cR (upR C r R G E) q = if q = r then R else cR C q := rfl
theorem cG_up (C : Ct) (r q : Nat) (R : Nat → Int) (G : Nat → Option Nat) (E : Nat → Int) : cG (upR C r R G E) q = if q = r then G else cG C q := rfl
theorem cE_up (C : Ct) (r q : Nat) (R : Nat → Int) (G : Nat → Option Nat) (E : Nat → Int) : cE (upR C r R G E) q = if q = r then E else cE C q := rfl
theorem isEl_el {h : Hp} {fz : Nat → Option Cl} {v : Option Nat} (H : FZ h fz) (e : el fz v) : isEl h 4 v = true := by
  rcases e with rfl | ⟨q, fs, rfl, e⟩
  · rfl
  · unfold isEl
    simp only [H _ _ e]
    rfl
section
variable {c : Nat → Option Nat} {h : Hp} {fz : Nat → Option Cl} {b p r : Nat} {C : Ct} {R : Nat → Int} {G : Nat → Option Nat} {E : Nat → Int}
theorem cp_E_l (hr : r < 21) (K : ∀ R' G' E', Rc (hS h b (upR C r R' G' E')) p R G E) (R' : Nat → Int) (G' : Nat → Option Nat) : ∀ (m fu k : Nat) (E' : Nat → Int), m < fu → k + m = 24 → fX2_copyFrom_136 c fu (hS h b (upR C r R' G' E')) (some (b + 4 + 3 * r)) (some p) (iI (k : Int)) = some (hS h b (upR C r R' G' (fun j => if k ≤ j ∧ j < 24 then E j else E' j)), none) := by
  intro m
  induction m with
  | zero =>
    intro fu k E' hf hk
    obtain ⟨f, rfl⟩ : ∃ f, fu = f + 1 := ⟨fu - 1, by omega⟩
    unfold fX2_copyFrom_136 fX2_copyFrom_172
    rw [rdR_R13 hr, len_E hr, if_neg (show ¬ iI (k : Int) < iI 24 from (by rw [lt_i (by omega) (by omega) (by omega) (by omega)]; omega))]
    rw [show (fun j => if k ≤ j ∧ j < 24 then E j else E' j) = E' from funext fun j => if_neg (by omega)]
  | succ m ih =>
    intro fu k E' hf hk
    obtain ⟨f, rfl⟩ : ∃ f, fu = f + 1 := ⟨fu - 1, by omega⟩
    unfold fX2_copyFrom_136
    rw [rdR_R13 hr, len_E hr, if_pos (show iI (k : Int) < iI 24 from (by rw [lt_i (by omega) (by omega) (by omega) (by omega)]; omega)), rdR_c13 (K _ _ _), lenA_e (K _ _ _).2.2, if_pos (show iI (k : Int) < iI ((24 : Nat) : Int) from (by rw [lt_i (by omega) (by omega) (by omega) (by omega)]; omega)), rdR_R13 hr, rdR_c13 (K _ _ _), aldI_e (K _ _ _).2.2 rfl (by omega) (by omega) (by decide), ast_E hr (by omega) (by omega), upR_E, Int.toNat_natCast]
    simp only [iI_l, iI_add]
    rw [iI_k1, ih f (k + 1) _ (by omega) (by omega)]
    congr 4
    funext j
    unfold st
    by_cases h1 : k + 1 ≤ j ∧ j < 24
    · rw [if_pos h1, if_pos (by omega)]
    · rw [if_neg h1]
      by_cases h2 : j = k
      · rw [if_pos h2, if_pos (by omega), h2]
      · rw [if_neg h2, if_neg (by omega)]
theorem cp_G_l (hr : r < 21) (HF : ∀ R' G' E', FZ (hS h b (upR C r R' G' E')) fz) (K : ∀ R' G' E', Rc (hS h b (upR C r R' G' E')) p R G E) (Hel : ∀ i, i < 12 → el fz (G i)) (R' : Nat → Int) (E' : Nat → Int) : ∀ (m fu k : Nat) (G' : Nat → Option Nat), m < fu → k + m = 12 → fX2_copyFrom_98 c fu (hS h b (upR C r R' G' E')) (some (b + 4 + 3 * r)) (some p) (iI (k : Int)) = some (hS h b (upR C r R' (fun j => if k ≤ j ∧ j < 12 then G j else G' j) (fun j => if 0 ≤ j ∧ j < 24 then E j else E' j)), none) := by
  intro m
  induction m with
  | zero =>
    intro fu k G' hf hk
    obtain ⟨f, rfl⟩ : ∃ f, fu = f + 1 := ⟨fu - 1, by omega⟩
    unfold fX2_copyFrom_98 fX2_copyFrom_134
    rw [rdR_R12 hr, len_G hr, if_neg (show ¬ iI (k : Int) < iI 12 from (by rw [lt_i (by omega) (by omega) (by omega) (by omega)]; omega))]
    rw [show (fun j => if k ≤ j ∧ j < 12 then G j else G' j) = G' from funext fun j => if_neg (by omega)]
    simp only [iI_l]
    have key := cp_E_l (c := c) hr K R' G' 24 FU 0 E' (by decide) (by decide)
    rw [show ((0 : Nat) : Int) = 0 from rfl] at key
    exact key
  | succ m ih =>
    intro fu k G' hf hk
    obtain ⟨f, rfl⟩ : ∃ f, fu = f + 1 := ⟨fu - 1, by omega⟩
    unfold fX2_copyFrom_98
    rw [rdR_R12 hr, len_G hr, if_pos (show iI (k : Int) < iI 12 from (by rw [lt_i (by omega) (by omega) (by omega) (by omega)]; omega)), rdR_c12 (K _ _ _), lenA_e (K _ _ _).2.1, if_pos (show iI (k : Int) < iI ((12 : Nat) : Int) from (by rw [lt_i (by omega) (by omega) (by omega) (by omega)]; omega)), rdR_R12 hr, rdR_c12 (K _ _ _), aldR_e (K _ _ _).2.1 (by decide) (by decide) (by omega) (by omega) (by decide), ast_G hr (by omega) (by omega) (isEl_el (HF _ _ _) (by rw [Int.toNat_natCast]; exact Hel k (by omega))), upR_G, Int.toNat_natCast]
    simp only [iI_l, iI_add]
    rw [iI_k1, ih f (k + 1) _ (by omega) (by omega)]
    congr 4
    funext j
    unfold va_up
    by_cases h1 : k + 1 ≤ j ∧ j < 12
    · rw [if_pos h1, if_pos (by omega)]
    · rw [if_neg h1]
      by_cases h2 : j = k
      · rw [if_pos h2, if_pos (by omega), h2]
      · rw [if_neg h2, if_neg (by omega)]
/-- the receipt r as the one that holds R, G, E -/
def cpR (C : Ct) (r : Nat) (R : Nat → Int) (G : Nat → Option Nat) (E : Nat → Int) : Ct := upR C r (fun k => if k < 12 then R k else cR C r k) (fun j => if 0 ≤ j ∧ j < 12 then G j else cG C r j) (fun j => if 0 ≤ j ∧ j < 24 then E j else cE C r j)
theorem cp_receipt (hr : r < 21) (HF : ∀ R' G' E', FZ (hS h b (upR C r R' G' E')) fz) (K : ∀ R' G' E', Rc (hS h b (upR C r R' G' E')) p R G E) (Hel : ∀ i, i < 12 → el fz (G i)) : fX2_copyFrom c (hS h b C) (some (b + 4 + 3 * r)) (some p) = some (hS h b (cpR C r R G E), none) := by
  have rd : ∀ (R' : Nat → Int) (G' : Nat → Option Nat) (E' : Nat → Int) (k : Nat) (f : Int32 → Rs), k < 12 → rdI (hS h b (upR C r R' G' E')) (some p) 4 k f = f (iI (R k)) := fun R' G' E' k f hk => rdI_c (K R' G' E') hk
  have e0 := upR_self C r
  rw [← e0]
  unfold fX2_copyFrom
  simp (disch := omega) only [rd, wr_R, upR_R]
  simp only [iI_l]
  have key := cp_G_l (c := c) hr HF K Hel (st (st (st (st (st (st (st (st (st (st (st (st (cR C r) 0 (R 0)) 1 (R 1)) 2 (R 2)) 3 (R 3)) 4 (R 4)) 5 (R 5)) 6 (R 6)) 7 (R 7)) 8 (R 8)) 9 (R 9)) 10 (R 10)) 11 (R 11)) (cE C r) 12 FU 0 (cG C r) (by decide) (by decide)
  rw [show ((0 : Nat) : Int) = 0 from rfl] at key
  rw [key]
  have e : (st (st (st (st (st (st (st (st (st (st (st (st (cR C r) 0 (R 0)) 1 (R 1)) 2 (R 2)) 3 (R 3)) 4 (R 4)) 5 (R 5)) 6 (R 6)) 7 (R 7)) 8 (R 8)) 9 (R 9)) 10 (R 10)) 11 (R 11)) = fun k => if k < 12 then R k else cR C r k := by
    funext k
    by_cases hk : k < 12
    · rw [if_pos hk]
      obtain rfl | rfl | rfl | rfl | rfl | rfl | rfl | rfl | rfl | rfl | rfl | rfl : k = 0 ∨ k = 1 ∨ k = 2 ∨ k = 3 ∨ k = 4 ∨ k = 5 ∨ k = 6 ∨ k = 7 ∨ k = 8 ∨ k = 9 ∨ k = 10 ∨ k = 11 := by omega
      all_goals rfl
    · rw [if_neg hk]
      unfold st
      rw [if_neg (by omega), if_neg (by omega), if_neg (by omega), if_neg (by omega), if_neg (by omega), if_neg (by omega), if_neg (by omega), if_neg (by omega), if_neg (by omega), if_neg (by omega), if_neg (by omega), if_neg (by omega)]
  rw [e, e0]
  rfl
/-- the receipt q is the same in both -/
def eqR (C C' : Ct) (q : Nat) : Prop := (∀ k, k < 12 → cR C q k = cR C' q k) ∧ (∀ i, i < 12 → cG C q i = cG C' q i) ∧ ∀ k, k < 24 → cE C q k = cE C' q k
def eqO (C C' : Ct) (q : Nat) : Prop := cR C q = cR C' q ∧ cG C q = cG C' q ∧ cE C q = cE C' q
theorem cpR_eq (C : Ct) (r : Nat) (R : Nat → Int) (G : Nat → Option Nat) (E : Nat → Int) : (∀ k, k < 12 → cR (cpR C r R G E) r k = R k) ∧ (∀ i, i < 12 → cG (cpR C r R G E) r i = G i) ∧ ∀ k, k < 24 → cE (cpR C r R G E) r k = E k := by
  unfold cpR
  rw [cR_up, cG_up, cE_up, if_pos rfl, if_pos rfl, if_pos rfl]
  exact ⟨fun k hk => if_pos hk, fun k hk => if_pos ⟨Nat.zero_le k, hk⟩, fun k hk => if_pos ⟨Nat.zero_le k, hk⟩⟩
theorem cpR_o (C : Ct) {r q : Nat} (R : Nat → Int) (G : Nat → Option Nat) (E : Nat → Int) (h : q ≠ r) : eqO (cpR C r R G E) C q := by
  unfold cpR eqO
  rw [cR_up, cG_up, cE_up, if_neg h, if_neg h, if_neg h]
  exact ⟨rfl, rfl, rfl⟩
theorem At_S {H : Hp} (K : At H b 67 (sC b C)) : hS H b C = H := K.eq
/-- copying receipts, from the array at x (of b2) to the array at y (of b) -/
theorem cp_list {b2 n d o : Nat} {C2 : Ct} (hnd : n + d ≤ 21) (hn : n ≤ 18) (HF : ∀ C', FZ (hS h b C') fz) (K : ∀ C', At (hS h b C') b2 67 (sC b2 C2)) (Hel : ∀ r i, r < 21 → i < 12 → el fz (cG C2 r i)) (ho : o < 67) (hs : ∀ b C, sC b C o = some (.inl (5, n, .inr (.inr (.inr (.inr (opn b n d))))))) : ∀ (m fu k : Nat) (C : Ct), m < fu → k + m = n → ∃ C', fX4_copyReceipts_2 c fu (hS h b C) (some (b2 + o)) (some (b + o)) (iI (k : Int)) = some (hS h b C', none) ∧ cF C' = cF C ∧ cT C' = cT C ∧ (∀ q, k + d ≤ q → q < n + d → eqR C' C2 q) ∧ ∀ q, q < k + d ∨ n + d ≤ q → eqO C' C q := by
  have k1 : ∀ C', (hS h b C').1 (b2 + o) = some (.inl (5, n, .inr (.inr (.inr (.inr (opn b2 n d)))))) := fun C' => (K C' o ho).trans (hs b2 C2)
  have k2 : ∀ C', (hS h b C').1 (b + o) = some (.inl (5, n, .inr (.inr (.inr (.inr (opn b n d)))))) := fun C' => (ovl_at ho).trans (hs b C')
  intro m
  induction m with
  | zero =>
    intro fu k C hf hk
    obtain ⟨f, rfl⟩ : ∃ f, fu = f + 1 := ⟨fu - 1, by omega⟩
    refine ⟨C, ?_, rfl, rfl, fun q a b => by omega, fun q _ => ⟨rfl, rfl, rfl⟩⟩
    unfold fX4_copyReceipts_2 fX4_copyReceipts_41
    rw [lenA_e (k1 C), if_neg (show ¬ iI (k : Int) < iI (n : Int) from (by rw [lt_i (by omega) (by omega) (by omega) (by omega)]; omega))]
  | succ m ih =>
    intro fu k C hf hk
    obtain ⟨f, rfl⟩ : ∃ f, fu = f + 1 := ⟨fu - 1, by omega⟩
    have op : ∀ b, opn b n d k = some (b + 4 + 3 * (k + d)) := fun b => if_pos (show k < n by omega)
    have cp := cp_receipt (c := c) (h := h) (fz := fz) (b := b) (r := k + d) (C := C) (p := b2 + 4 + 3 * (k + d)) (R := cR C2 (k + d)) (G := cG C2 (k + d)) (E := cE C2 (k + d)) (by omega) (fun _ _ _ => HF _) (fun R' G' E' => by
      have := hS_Rc (h := hS h b (upR C (k + d) R' G' E')) (b := b2) (r := k + d) (C := C2) (by omega)
      rw [At_S (K _)] at this
      exact this) (fun i hi => Hel (k + d) i (by omega) hi)
    obtain ⟨C', e, f1, f2, f3, f4⟩ := ih f (k + 1) (cpR C (k + d) (cR C2 (k + d)) (cG C2 (k + d)) (cE C2 (k + d))) (by omega) (by omega)
    refine ⟨C', ?_, f1, f2, fun q a b => ?_, fun q a => ?_⟩
    · unfold fX4_copyReceipts_2 fX4_copyReceipts_35
      rw [lenA_e (k1 C), if_pos (show iI (k : Int) < iI (n : Int) from (by rw [lt_i (by omega) (by omega) (by omega) (by omega)]; omega)), lenA_e (k2 C), if_pos (show iI (k : Int) < iI (n : Int) from (by rw [lt_i (by omega) (by omega) (by omega) (by omega)]; omega)), aldR_e (k1 C) (by decide) (by decide) (by omega) (by omega) (by omega), Int.toNat_natCast, op]
      simp only [ifN]
      rw [aldR_e (k2 C) (by decide) (by decide) (by omega) (by omega) (by omega), Int.toNat_natCast, op]
      simp only [ifN]
      rw [aldR_e (k2 C) (by decide) (by decide) (by omega) (by omega) (by omega), Int.toNat_natCast, op, aldR_e (k1 C) (by decide) (by decide) (by omega) (by omega) (by omega), Int.toNat_natCast, op, ck_R (by omega), cp]
      simp only [cc_s, kV_n, iI_l, iI_add]
      rw [iI_k1, e]
    · by_cases eq : q = k + d
      · have := f4 q (Or.inl (by omega))
        have c0 := cpR_eq C (k + d) (cR C2 (k + d)) (cG C2 (k + d)) (cE C2 (k + d))
        unfold eqO at this
        unfold eqR
        rw [this.1, this.2.1, this.2.2, eq]
        exact c0
      · exact f3 q (by omega) b
    · have h1 := f4 q (by omega)
      have h2 := cpR_o C (r := k + d) (q := q) (cR C2 (k + d)) (cG C2 (k + d)) (cE C2 (k + d)) (by omega)
      exact ⟨h1.1.trans h2.1, h1.2.1.trans h2.2.1, h1.2.2.trans h2.2.2⟩
theorem cp_set_l {b2 : Nat} {C2 : Ct} (K : ∀ C', At (hS h b C') b2 67 (sC b2 C2)) : ∀ (m fu k : Nat) (C : Ct), m < fu → k + m = 3 → ∃ C', fX4_copyFrom_82 c fu (hS h b C) (some b) (some b2) (iI (k : Int)) = fX4_copyFrom_118 c (hS h b C') (some b) (some b2) ∧ cF C' = cF C ∧ (∀ j, k ≤ j → j < 3 → cT C' j = cT C2 j) ∧ (∀ j, j < k → cT C' j = cT C j) ∧ ∀ q, eqO C' C q := by
  have a0 : ∀ C', (hS h b C').1 b2 = some (.inr (6, fS b2 (cF C2))) := fun C' => K C' 0 (by decide)
  have a1 : ∀ C', (hS h b C').1 (b2 + 1) = some (.inl (0, 3, .inl (fun j => iI (cT C2 j)))) := fun C' => K C' 1 (by decide)
  intro m
  induction m with
  | zero =>
    intro fu k C hf hk
    obtain ⟨f, rfl⟩ : ∃ f, fu = f + 1 := ⟨fu - 1, by omega⟩
    refine ⟨C, ?_, rfl, fun j a b => by omega, fun j a => rfl, fun q => ⟨rfl, rfl, rfl⟩⟩
    unfold fX4_copyFrom_82
    rw [rdR_S10, len_S1, if_neg (show ¬ iI (k : Int) < iI 3 from (by rw [lt_i (by omega) (by omega) (by omega) (by omega)]; omega))]
  | succ m ih =>
    intro fu k C hf hk
    obtain ⟨f, rfl⟩ : ∃ f, fu = f + 1 := ⟨fu - 1, by omega⟩
    obtain ⟨C', e, f1, f2, f3, f4⟩ := ih f (k + 1) (sCT C k (cT C2 k)) (by omega) (by omega)
    refine ⟨C', ?_, f1, fun j a b => ?_, fun j a => ?_, f4⟩
    · rw [fX4_copyFrom_82]
      rw [rdR_S10, len_S1, if_pos (show iI (k : Int) < iI 3 from (by rw [lt_i (by omega) (by omega) (by omega) (by omega)]; omega)), rdR_e (a0 C) rfl (x := some (b2 + 1)) rfl, lenA_e (a1 C), if_pos (show iI (k : Int) < iI ((3 : Nat) : Int) from (by rw [lt_i (by omega) (by omega) (by omega) (by omega)]; omega)), rdR_S10, rdR_e (a0 C) rfl (x := some (b2 + 1)) rfl, aldI_e (a1 C) rfl (by omega) (by omega) (by decide), ast_S1 (by omega) (by omega), Int.toNat_natCast]
      simp only [iI_l, iI_add]
      rw [iI_k1, e]
    · by_cases ej : j = k
      · rw [f3 j (by omega), ej]; exact if_pos rfl
      · exact f2 j (by omega) b
    · rw [f3 j (by omega)]; exact if_neg (by omega)
theorem CD_ag {C' : Ct} {D : Dt} (Q : CD fz C D) (G : RgI D) (hF : ∀ k, k < 10 → cF C' k = cF C k) (hT : ∀ k, k < 3 → cT C' k = cT C k) (hR : ∀ q, q < 21 → eqR C' C q) : CD fz C' D := by
  obtain ⟨q1, ⟨s0, s1, s2, s3, s4, s5, s6, s7, s8, s9, s10⟩, q3, q4, q5⟩ := Q
  refine ⟨fun k hk => (hT k hk).trans (q1 k hk), ⟨(hF 0 (by decide)).trans s0, (hF 1 (by decide)).trans s1, (hF 2 (by decide)).trans s2, (hF 3 (by decide)).trans s3, (hF 4 (by decide)).trans s4, (hF 5 (by decide)).trans s5, (hF 6 (by decide)).trans s6, (hF 7 (by decide)).trans s7, (hF 8 (by decide)).trans s8, (hF 9 (by decide)).trans s9, fun r i hr hi => by rw [(hR r hr).2.1 i hi]; exact s10 r i hr hi⟩, fun r hr => ((hR r hr).1 0 (by decide)).trans (q3 r hr), fun r hr => ?_, fun r r3 hr n => ?_⟩
  · have e := hR r hr.1
    obtain ⟨⟨a1, a2, a3⟩, b1, c1⟩ := q4 r hr
    have g := (G r hr.1).1
    refine ⟨⟨(e.1 9 (by decide)).trans a1, (e.1 10 (by decide)).trans a2, (e.1 11 (by decide)).trans a3⟩, fun i hi => ?_, fun k hk => ?_⟩
    · rw [e.2.1 i (by unfold nIt at hi; omega)]; exact b1 i hi
    · rw [e.2.2 k (by unfold nEt at hk; omega)]; exact c1 k hk
  · have e := hR r hr
    rw [e.1 1 (by decide), e.1 2 (by decide), e.1 3 (by decide), e.1 4 (by decide), e.1 5 (by decide), e.1 6 (by decide), e.1 7 (by decide), e.1 8 (by decide)]
    exact q5 r r3 hr n
theorem cp_state {b2 : Nat} {C2 : Ct} {D : Dt} (HF : ∀ C', FZ (hS h b C') fz) (K : ∀ C', At (hS h b C') b2 67 (sC b2 C2)) (Q : CD fz C2 D) (G : RgI D) : ∃ C', fX4_copyFrom c (hS h b C) (some b) (some b2) = some (hS h b C', none) ∧ CD fz C' D := by
  have a0 : ∀ C', (hS h b C').1 b2 = some (.inr (6, fS b2 (cF C2))) := fun C' => K C' 0 (by decide)
  have rd : ∀ (C' : Ct) (k : Nat) (f : Int32 → Rs), k < 10 → rdI (hS h b C') (some b2) 6 k f = f (iI (cF C2 k)) := fun C' k f hk => rdI_e (a0 C') rfl (fS_k hk)
  obtain ⟨C3, e3, f31, f32, f33, f34⟩ := cp_set_l (c := c) K 3 FU 0 (sCF (sCF (sCF (sCF (sCF (sCF (sCF (sCF (sCF (sCF C 0 (cF C2 0)) 1 (cF C2 1)) 2 (cF C2 2)) 3 (cF C2 3)) 4 (cF C2 4)) 5 (cF C2 5)) 6 (cF C2 6)) 7 (cF C2 7)) 8 (cF C2 8)) 9 (cF C2 9)) (by decide) (by decide)
  obtain ⟨C4, e4, f41, f42, f43, f44⟩ := cp_list (c := c) (n := 3) (d := 0) (o := 2) (by decide) (by decide) HF K (CD_el Q) (by decide) (fun _ _ => rfl) 3 FU 0 C3 (by decide) (by decide)
  obtain ⟨C5, e5, f51, f52, f53, f54⟩ := cp_list (c := c) (n := 18) (d := 3) (o := 3) (by decide) (by decide) HF K (CD_el Q) (by decide) (fun _ _ => rfl) 18 FU 0 C4 (by decide) (by decide)
  rw [show ((0 : Nat) : Int) = 0 from rfl] at e3 e4 e5
  refine ⟨C5, ?_, CD_ag Q G (fun k hk => ?_) (fun k hk => ?_) (fun q hq => ?_)⟩
  · unfold fX4_copyFrom
    simp (disch := omega) only [rd, wr_S]
    simp only [iI_l]
    rw [e3]
    unfold fX4_copyFrom_118 fX4_copyReceipts
    simp only [iI_l]
    rw [rdR_e (a0 _) rfl (x := some (b2 + 2)) rfl, rdR_S11, e4]
    simp only [cc_s, kV_n]
    rw [rdR_e (a0 _) rfl (x := some (b2 + 3)) rfl, rdR_S12, e5]
    simp only [cc_s, kV_n]
  · rw [f51, f41, f31]
    obtain rfl | rfl | rfl | rfl | rfl | rfl | rfl | rfl | rfl | rfl : k = 0 ∨ k = 1 ∨ k = 2 ∨ k = 3 ∨ k = 4 ∨ k = 5 ∨ k = 6 ∨ k = 7 ∨ k = 8 ∨ k = 9 := by omega
    all_goals rfl
  · rw [f52, f42]; exact f32 k (by omega) hk
  · by_cases h3 : q < 3
    · have o := f54 q (Or.inl (by omega))
      have e := f43 q (by omega) (by omega)
      unfold eqO at o
      unfold eqR at e ⊢
      rw [o.1, o.2.1, o.2.2]
      exact e
    · exact f53 q (by omega) (by omega)
end
