/-! THE SIGNS OF A RECEIPT'S LAST LINES -/
/-- nothing is written on the line w, where the lines are ahead of it -/
def un (w : Int) (L L' : Ly) : Prop := L.1 ≤ L'.1 ∧ (L'.1 < w → L'.2.2.2 = L.2.2.2)
/-- the same where whole lines are laid -/
def ut (w : Int) (L L' : Ly) : Prop := L.1 ≤ L'.1 ∧ (L'.1 ≤ w → L'.2.2.2 = L.2.2.2)
/-- nothing is written on the line w, where the lines are behind it -/
def ov (w : Int) (L L' : Ly) : Prop := L.1 ≤ L'.1 ∧ (w < L.1 → L'.2.2.2 = L.2.2.2)
section
variable {w width : Int} {L L' L'' : Ly}
theorem un.tr (h : un w L L') (h' : un w L' L'') : un w L L'' := ⟨Int.le_trans h.1 h'.1, fun e => (h'.2 e).trans (h.2 (Int.lt_of_le_of_lt h'.1 e))⟩
theorem un.rf : un w L L := ⟨Int.le_refl _, fun _ => rfl⟩
theorem ut.tr (h : ut w L L') (h' : ut w L' L'') : ut w L L'' := ⟨Int.le_trans h.1 h'.1, fun e => (h'.2 e).trans (h.2 (Int.le_trans h'.1 e))⟩
theorem ut.rf : ut w L L := ⟨Int.le_refl _, fun _ => rfl⟩
theorem ov.tr (h : ov w L L') (h' : ov w L' L'') : ov w L L'' := ⟨Int.le_trans h.1 h'.1, fun e => (h'.2 (Int.lt_of_lt_of_le e h.1)).trans (h.2 e)⟩
theorem ov.rf : ov w L L := ⟨Int.le_refl _, fun _ => rfl⟩
theorem un_say (L : Ly) (s : Int) : un w L (lSay w L s) := ⟨Int.le_refl _, fun (e : L.1 < w) => if_neg (by omega)⟩
theorem ov_say (L : Ly) (s : Int) : ov w L (lSay w L s) := ⟨Int.le_refl _, fun e => if_neg (by omega)⟩
theorem un_nl (L : Ly) : un w L (lNl L) := ⟨by show L.1 ≤ L.1 + 1; omega, fun _ => rfl⟩
theorem ov_nl (L : Ly) : ov w L (lNl L) := ⟨by show L.1 ≤ L.1 + 1; omega, fun _ => rfl⟩
theorem ut_nl (h : un w L L') : ut w L (lNl L') := ⟨by have := h.1; show L.1 ≤ L'.1 + 1; omega, fun (e : L'.1 + 1 ≤ w) => h.2 (by omega)⟩
theorem un_num {n : Int} : ∀ (j : Nat) (L : Ly), un w L (lNum w n j L)
  | 0, L => un_say L _
  | j + 1, L => by
    rw [lNum]
    split
    · exact (un_say L _).tr (un_num j _)
    · exact un_num j L
theorem ov_num {n : Int} : ∀ (j : Nat) (L : Ly), ov w L (lNum w n j L)
  | 0, L => ov_say L _
  | j + 1, L => by
    rw [lNum]
    split
    · exact (ov_say L _).tr (ov_num j _)
    · exact ov_num j L
theorem un_says : ∀ (s : List Int) (L : Ly), un w L (lSays w L s)
  | [], _ => un.rf
  | x :: s, L => (un_say L x).tr (un_says s _)
theorem ov_says : ∀ (s : List Int) (L : Ly), ov w L (lSays w L s)
  | [], _ => ov.rf
  | x :: s, L => (ov_say L x).tr (ov_says s _)
theorem un_chars {room : Int} {wd : Nat → Int} : ∀ (m k : Nat) (L : Ly), un w L (lChars w room wd k m L)
  | 0, _, _ => un.rf
  | m + 1, k, L => by
    rw [lChars]
    split
    · exact ((un_nl L).tr (un_say _ _)).tr (un_chars m (k + 1) _)
    · exact (un_say L _).tr (un_chars m (k + 1) _)
theorem un_gap {room m : Int} (L : Ly) : un w L (lGap w room m L) := by
  unfold lGap
  split
  · exact un_say L _
  · split
    · exact un_nl L
    · exact un.rf
theorem un_word {room : Int} {wd : Nat → Int} {m : Nat} (L : Ly) : un w L (lWord w room wd m L) := (un_gap L).tr (un_chars m 0 _)
theorem un_name {room : Int} {N : Nat → Int} : ∀ (m fr k : Nat) (L : Ly), un w L (lName w room N fr k m L)
  | 0, _, _, L => un_word L
  | m + 1, fr, k, L => by
    rw [lName]
    split
    · exact (un_word L).tr (un_name m _ _ _)
    · exact un_name m _ _ L
theorem un_many {n : Int} (L : Ly) : un w L (lMany w n L) := by
  unfold lMany
  split
  · exact (un_num 9 L).tr (un_say _ _)
  · exact un.rf
theorem un_money {v : Int} (L : Ly) : un w L (lMoney w width v L) := by
  have h0 : un w L (lMon0 w width v L) := ⟨Int.le_refl _, fun _ => rfl⟩
  have h1 : ∀ L0 : Ly, un w L0 (lMon1 w v L0) := fun L0 => by
    unfold lMon1
    split
    · exact un_say L0 _
    · exact un.rf
  unfold lMoney
  exact ((((h0.tr (h1 _)).tr (un_num 9 _)).tr (un_say _ _)).tr (un_say _ _)).tr (un_say _ _)
theorem ov_money {v : Int} (L : Ly) : ov w L (lMoney w width v L) := by
  have h0 : ov w L (lMon0 w width v L) := ⟨Int.le_refl _, fun _ => rfl⟩
  have h1 : ∀ L0 : Ly, ov w L0 (lMon1 w v L0) := fun L0 => by
    unfold lMon1
    split
    · exact ov_say L0 _
    · exact ov.rf
  unfold lMoney
  exact ((((h0.tr (h1 _)).tr (ov_num 9 _)).tr (ov_say _ _)).tr (ov_say _ _)).tr (ov_say _ _)
theorem ut_item {P N : Nat → Int} (L : Ly) : ut w L (lItem w width P N L) := by
  have hb : ∀ (fr : Int) (L0 : Ly), un w L0 (lBeg w fr L0) := fun fr L0 => ⟨Int.le_refl _, fun _ => rfl⟩
  exact ut_nl ((((un_many L).tr (un_name _ 0 0 _)).tr (hb L.1 _)).tr (un_money _))
theorem ut_told {s : List Int} {n v : Int} (L : Ly) : ut w L (lTold w width s n v L) := ut_nl (((un_says s L).tr (un_num 9 _)).tr (un_money _))
theorem ov_told {s : List Int} {n v : Int} (L : Ly) : ov w L (lTold w width s n v L) := (((ov_says s L).tr (ov_num 9 _)).tr (ov_money _)).tr (ov_nl _)
theorem ut_ev {D : Dt} {r : Nat} : ∀ (m k : Nat) (L : Ly), ut w L (lEv D r w width k m L)
  | 0, _, _ => ut.rf
  | m + 1, k, L => by
    have h : ut w L (lEv1 D r w width k L) := by
      unfold lEv1
      split
      · exact ut_item L
      · exact ut_told L
    exact h.tr (ut_ev m (k + 1) _)
theorem ut_head {num : Int} (L : Ly) : ut w L (lHead w num L) := ut_nl ((un_say L 35).tr (un_num 9 _))
theorem ov_tax {D : Dt} {r : Nat} {t : Int} (L : Ly) : ov w L (lTax D r w width t L) := by
  unfold lTax
  split
  · exact ov_told L
  · exact ov.rf
/-- what stands ahead of the column stays -/
theorem num_q {n : Int} {q : Nat} : ∀ (j : Nat) (L : Ly), (q : Int) < L.2.1 → (lNum w n j L).2.2.2 q = L.2.2.2 q ∧ L.2.1 ≤ (lNum w n j L).2.1
  | 0, L, h => by
    refine ⟨?_, by show L.2.1 ≤ L.2.1 + 1; omega⟩
    show (if L.1 = w then st L.2.2.2 L.2.1.toNat _ else L.2.2.2) q = _
    split
    · exact if_neg (by omega)
    · rfl
  | j + 1, L, h => by
    rw [lNum]
    split
    · have a := num_q (n := n) j (lSay w L (48 + n / 10 ^ (j + 1) % 10)) (by show (q : Int) < L.2.1 + 1; omega)
      refine ⟨a.1.trans ?_, by have := a.2; change L.2.1 + 1 ≤ _ at this; omega⟩
      show (if L.1 = w then st L.2.2.2 L.2.1.toNat _ else L.2.2.2) q = _
      split
      · exact if_neg (by omega)
      · rfl
    · exact num_q j L h
end
/-! the last lines -/
/-- what is laid ahead of the sum -/
def evL (D : Dt) (r : Nat) (num w width : Int) : Ly := lEv D r w width 0 (nEt D r) (lHead w num (0, 0, w, fun _ => 32))
/-- the line of the sum -/
def smI (D : Dt) (r : Nat) (num width : Int) : Int := (evL D r num (-6) width).1
section
variable {D : Dt} {r : Nat} {num w width : Int}
theorem evL_1 : (evL D r num w width).1 = smI D r num width := by
  have h0 : sim w (-6) 0 (0, 0, w, fun _ => 32) (0, 0, -6, fun _ => 32) := ⟨rfl, rfl, fun e => ⟨e, rfl⟩⟩
  exact (sim_ev D r width _ 0 (sim_nl (sim_num num 9 (sim_say h0 35)))).1
theorem evL_st (G : Rg1 D r) (n0 : 0 ≤ num) (n1 : num < 10000000) (wd0 : 16 ≤ width) (wd1 : width ≤ 40) : 1 ≤ smI D r num width ∧ (evL D r num w width).2.1 = 0 := by
  have h1 := lHead_st (w := w) (L := (0, 0, w, fun _ => 32)) n0 n1
  have h2 := lEv_st (w := w) G wd0 wd1 (nEt D r) 0 _ h1.2
  have h3 : (evL D r num w width).1 = smI D r num width := evL_1
  have h4 : (0 + 1 : Int) ≤ (evL D r num w width).1 := by rw [← h1.1]; exact h2.1
  exact ⟨by omega, h2.2.2⟩
theorem evL_row (e : smI D r num width ≤ w) : (evL D r num w width).2.2.2 = fun _ => 32 := by
  have h := ((ut_head (w := w) (num := num) (0, 0, w, fun _ => 32)).tr (ut_ev (w := w) (width := width) (D := D) (r := r) (nEt D r) 0 _)).2
  exact h (by have h3 : (evL D r num w width).1 = smI D r num width := evL_1
              change (evL D r num w width).1 ≤ w
              omega)
/-- the tax of the kind t has a line -/
def txI (D : Dt) (r : Nat) (t : Int) : Int := if 0 < sumT D r t then 1 else 0
theorem lTax_1 {t : Int} {L : Ly} (G : Rg1 D r) (wd0 : 16 ≤ width) (wd1 : width ≤ 40) : (lTax D r w width t L).1 = L.1 + txI D r t ∧ (L.2.1 = 0 → (lTax D r w width t L).2.1 = 0) := by
  have b := taxI_bd (t := t) G
  have rb : 0 ≤ rateI t ∧ rateI t < 20 := by rcases rateI_c t with e | e | e <;> omega
  have h := lTold_st (w := w) (width := width) (n := rateI t) (v := taxI D r t) (s := [116, 97, 120, 32]) (L := L) (by omega) (by omega) (by rw [aI_p b.1]; omega) wd0 wd1
  unfold lTax txI
  split
  · exact ⟨h.1, fun _ => h.2.1⟩
  · exact ⟨by omega, fun e => e⟩
theorem txI_c (t : Int) : txI D r t = 0 ∨ txI D r t = 1 := by unfold txI; split; exact Or.inr rfl; exact Or.inl rfl
theorem lSum_1 (G : Rg1 D r) (L : Ly) (wd0 : 16 ≤ width) (wd1 : width ≤ 40) : (lSum w width (totI D r) L).1 = L.1 + 1 ∧ (lSum w width (totI D r) L).2.1 = 0 := by
  have b := totI_bd G
  exact lSum_st (by rw [aI_p b.1]; omega) wd0 wd1
theorem cnt_sm (G : Rg1 D r) (wd0 : 16 ≤ width) (wd1 : width ≤ 40) : cntI D r num width = smI D r num width + 1 + txI D r 1 + txI D r 2 := by
  have e : cntI D r num width = (lTail D r (-6) width (evL D r num (-6) width)).1 := rfl
  rw [e]
  unfold lTail
  rw [(lTax_1 G wd0 wd1).1, (lTax_1 G wd0 wd1).1, (lSum_1 G _ wd0 wd1).1]
  rfl
theorem sgn_eq (q : Nat) : sgnI D r num w width q = (lTax D r w width 2 (lTax D r w width 1 (lSum w width (totI D r) (evL D r num w width)))).2.2.2 q := rfl
theorem say_row {L : Ly} {k : Nat} (e : L.1 = w) (c : L.2.1 = k) (s : Int) : (lSay w L s).1 = w ∧ (lSay w L s).2.1 = ((k + 1 : Nat) : Int) ∧ (lSay w L s).2.2.2 = st L.2.2.2 k s := ⟨e, by show L.2.1 + 1 = _; omega, by
  show (if L.1 = w then st L.2.2.2 L.2.1.toNat s else L.2.2.2) = _
  rw [if_pos e, c, Int.toNat_natCast]⟩
/-- money, digits: where it begins, what stands there -/
theorem money_q {v : Int} {L : Ly} (v0 : 0 ≤ v) (v1 : v < 12000000) (wd0 : 16 ≤ width) (wd1 : width ≤ 40) (e : L.1 = w) : (∀ q : Nat, q < 7 → (lMoney w width v L).2.2.2 q = L.2.2.2 q) ∧ (lMoney w width v L).2.2.2 (width - 1).toNat = 48 + v % 10 ∧ (lMoney w width v L).2.2.2 (width - 2).toNat = 48 + v / 10 % 10 ∧ (lMoney w width v L).2.2.2 (width - 3).toNat = 46 ∧ (lMoney w width v L).2.2.2 (width - 4).toNat = 48 + v / 100 % 10 := by
  have A1 : aI v < 12000000 := by rw [aI_p v0]; omega
  obtain ⟨m, h1, h2, h3⟩ := mon_m A1
  rw [lMoney_eq A1 h1 h2 h3 wd0 wd1, aI_p v0, if_neg (show ¬ v < 0 by omega)]
  have key : ∀ j : Nat, (mRl w L v m (width - (m + 4) - 0) width width).2.2.2 j = if width - (m + 4) - 0 ≤ j ∧ (j : Int) < width then mch v m (width - 1 - j).toNat else L.2.2.2 j := fun j => by
    show (if L.1 = w then (fun j : Nat => if width - (m + 4) - 0 ≤ (j : Int) ∧ (j : Int) < width then mch v m (width - 1 - j).toNat else L.2.2.2 j) else L.2.2.2) j = _
    rw [if_pos e]
  refine ⟨fun q hq => ?_, ?_, ?_, ?_, ?_⟩
  · rw [key, if_neg (by omega)]
  · rw [key, if_pos (by omega), show (width - 1 - ((width - 1).toNat : Int)).toNat = 0 by omega]
    show 48 + v / 10 ^ 0 % 10 = _
    rw [show ((10 : Int) ^ 0) = 1 from rfl, Int.ediv_one]
  · rw [key, if_pos (by omega), show (width - 1 - ((width - 2).toNat : Int)).toNat = 1 by omega]
    show 48 + v / 10 ^ 1 % 10 = _
    rw [show ((10 : Int) ^ 1) = 10 from rfl]
  · rw [key, if_pos (by omega), show (width - 1 - ((width - 3).toNat : Int)).toNat = 2 by omega]
    rfl
  · rw [key, if_pos (by omega), show (width - 1 - ((width - 4).toNat : Int)).toNat = 3 by omega]
    unfold mch
    rw [if_neg (by decide), if_neg (by decide), if_pos (by omega)]
    show 48 + v / 10 ^ 2 % 10 = _
    rw [show ((10 : Int) ^ 2) = 100 from rfl]
/-- the line of the sum -/
theorem sgn_sum (G : Rg1 D r) (n0 : 0 ≤ num) (n1 : num < 10000000) (wd0 : 16 ≤ width) (wd1 : width ≤ 40) (ew : w = smI D r num width) :
    sgnI D r num w width 0 = 115 ∧ sgnI D r num w width 1 = 117 ∧ sgnI D r num w width 2 = 109 ∧ sgnI D r num w width 3 = 32 ∧ sgnI D r num w width (width - 1).toNat = 48 + totI D r % 10 ∧ sgnI D r num w width (width - 2).toNat = 48 + totI D r / 10 % 10 ∧ sgnI D r num w width (width - 3).toNat = 46 ∧ sgnI D r num w width (width - 4).toNat = 48 + totI D r / 100 % 10 := by
  have b := totI_bd G
  have e1 : (evL D r num w width).1 = w := by rw [ew]; exact evL_1
  have c0 := (evL_st (w := w) G n0 n1 wd0 wd1).2
  have rw0 := evL_row (D := D) (r := r) (num := num) (w := w) (width := width) (by omega)
  have s1 := lSum_1 (w := w) G (evL D r num w width) wd0 wd1
  have o := ((ov_tax (w := w) (width := width) (D := D) (r := r) (t := 1) (lSum w width (totI D r) (evL D r num w width))).tr (ov_tax (w := w) (width := width) (D := D) (r := r) (t := 2) _)).2 (by omega)
  have key : ∀ q, sgnI D r num w width q = (lMoney w width (totI D r) (lSays w (evL D r num w width) [115, 117, 109])).2.2.2 q := fun q => by rw [sgn_eq, o]; rfl
  have l1 : (lSays w (evL D r num w width) [115, 117, 109]).1 = w := e1
  have m := money_q (v := totI D r) (L := lSays w (evL D r num w width) [115, 117, 109]) b.1 (by omega) wd0 wd1 l1
  have row : ∀ q, (lSays w (evL D r num w width) [115, 117, 109]).2.2.2 q = if q = 2 then 109 else if q = 1 then 117 else if q = 0 then 115 else 32 := fun q => by
    have a1 := say_row (k := 0) e1 c0 115
    have a2 := say_row a1.1 a1.2.1 117
    have a3 := say_row a2.1 a2.2.1 109
    show (lSay w (lSay w (lSay w (evL D r num w width) 115) 117) 109).2.2.2 q = _
    rw [a3.2.2, a2.2.2, a1.2.2, rw0]
    rfl
  refine ⟨?_, ?_, ?_, ?_, ?_, ?_, ?_, ?_⟩
  · rw [key, m.1 0 (by decide), row]; rfl
  · rw [key, m.1 1 (by decide), row]; rfl
  · rw [key, m.1 2 (by decide), row]; rfl
  · rw [key, m.1 3 (by decide), row]; rfl
  · rw [key]; exact m.2.1
  · rw [key]; exact m.2.2.1
  · rw [key]; exact m.2.2.2.1
  · rw [key]; exact m.2.2.2.2
theorem told_t {n v : Int} {L : Ly} (v0 : 0 ≤ v) (v1 : v < 12000000) (wd0 : 16 ≤ width) (wd1 : width ≤ 40) (n0 : 0 ≤ n) (n1 : n < 10000000) (e : L.1 = w) (c0 : L.2.1 = 0) : (lTold w width [116, 97, 120, 32] n v L).2.2.2 0 = 116 := by
  have l1 : (lSays w L [116, 97, 120, 32]).1 = w := e
  have l2 := (lNum_st (w := w) n0 n1 (lSays w L [116, 97, 120, 32])).1
  have cc : (lSays w L [116, 97, 120, 32]).2.1 = 4 := by rw [(lSays_st (w := w) [116, 97, 120, 32] L).2.1, c0]; rfl
  have m := money_q (v := v) (L := lNum w n 9 (lSays w L [116, 97, 120, 32])) v0 v1 wd0 wd1 (l2.trans l1)
  show (lMoney w width v (lNum w n 9 (lSays w L [116, 97, 120, 32]))).2.2.2 0 = 116
  rw [m.1 0 (by decide), (num_q 9 _ (by rw [cc]; decide)).1]
  have a1 := say_row (k := 0) e c0 116
  have a2 := say_row a1.1 a1.2.1 97
  have a3 := say_row a2.1 a2.2.1 120
  have a4 := say_row a3.1 a3.2.1 32
  show (lSay w (lSay w (lSay w (lSay w L 116) 97) 120) 32).2.2.2 0 = _
  rw [a4.2.2, a3.2.2, a2.2.2, a1.2.2]
  rfl
/-- a line of a tax -/
theorem sgn_tax (G : Rg1 D r) (wd0 : 16 ≤ width) (wd1 : width ≤ 40) (h0 : smI D r num width < w) (h1 : w < cntI D r num width) : sgnI D r num w width 0 = 116 := by
  rw [cnt_sm G wd0 wd1] at h1
  have s1 := lSum_1 (w := w) G (evL D r num w width) wd0 wd1
  rw [evL_1] at s1
  have t1 := lTax_1 (w := w) (t := 1) (L := lSum w width (totI D r) (evL D r num w width)) G wd0 wd1
  have b1 := taxI_bd (t := 1) G
  have b2 := taxI_bd (t := 2) G
  have c1 := txI_c (D := D) (r := r) 1
  have c2 := txI_c (D := D) (r := r) 2
  have rt : rateI 1 = 7 ∧ rateI 2 = 19 := ⟨rfl, rfl⟩
  rw [sgn_eq]
  by_cases e : w = (lSum w width (totI D r) (evL D r num w width)).1 ∧ txI D r 1 = 1
  · have p1 : 0 < sumT D r 1 := by
      by_cases p : 0 < sumT D r 1
      · exact p
      · have := e.2; unfold txI at this; rw [if_neg p] at this; exact absurd this (by decide)
    rw [(ov_tax (w := w) (t := 2) _).2 (by rw [t1.1]; omega)]
    unfold lTax
    rw [if_pos p1]
    exact told_t b1.1 (by omega) wd0 wd1 (by omega) (by omega) e.1.symm s1.2
  · have x2 : txI D r 2 = 1 ∧ w = (lTax D r w width 1 (lSum w width (totI D r) (evL D r num w width))).1 := by rw [t1.1]; omega
    have p2 : 0 < sumT D r 2 := by
      by_cases p : 0 < sumT D r 2
      · exact p
      · have := x2.1; unfold txI at this; rw [if_neg p] at this; exact absurd this (by decide)
    rw [lTax, if_pos p2]
    exact told_t b2.1 (by omega) wd0 wd1 (by omega) (by omega) x2.2.symm (t1.2 s1.2)
end
