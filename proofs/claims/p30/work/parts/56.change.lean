/-! A RECEIPT of the class: rung, struck, closed -/
section
variable {c : Nat → Option Nat} {h : Hp} {fz : Nat → Option Cl} {b t : Nat} {C : Ct} {D : Dt}
theorem s_event (ht : t < 21) {e v : Int} (he : cR C t 10 = e) (e0 : 0 ≤ e) (e1 : e < 24) : fX2_addEvent c (hS h b C) (some (b + 4 + 3 * t)) (iI v) = some (hS h b (sCR (sCE C t e.toNat v) t 10 (e + 1)), none) := by
  have he2 : ∀ x, cR (sCE C t x v) t 10 = e := fun _ => he
  unfold fX2_addEvent fX2_addEvent_39
  simp (maxSteps := 1000000) (disch := omega) only [cc_s, kI_i, kV_n, kR_r, ck_S, ck_R, rdI_S, rdR_S10, rdR_S11, rdR_S12, rdI_R, rdR_R12, rdR_R13, len_S1, len_S2, len_S3, len_G, len_E, ald_S1, ald_S2, ald_S3, ald_G, ald_E, wr_S, wr_R, ast_S1, ast_E, iI_l, iI_add, iI_sub, iI_mul, iI_neg, Int.reduceToNat]
  rw [he, if_neg (show ¬ iI e < iI 0 from (by rw [lt_i (by omega) (by omega) (by omega) (by omega)]; omega)), if_pos (show iI e < iI 24 from (by rw [lt_i (by omega) (by omega) (by omega) (by omega)]; omega))]
  simp (maxSteps := 1000000) (disch := omega) only [cc_s, kI_i, kV_n, kR_r, ck_S, ck_R, rdI_S, rdR_S10, rdR_S11, rdR_S12, rdI_R, rdR_R12, rdR_R13, len_S1, len_S2, len_S3, len_G, len_E, ald_S1, ald_S2, ald_S3, ald_G, ald_E, wr_S, wr_R, ast_S1, ast_E, iI_l, iI_add, iI_sub, iI_mul, iI_neg, Int.reduceToNat, he2]
theorem isEl_q {H : Hp} {q : Nat} {fs : List AV} (e : H.1 q = some (.inr (3, fs))) : isEl H 4 (some q) = true := by
  unfold isEl
  simp only [e]
  rfl
/-- an item is rung -/
def rgC (C : Ct) (t : Nat) (i e : Int) (q : Nat) : Ct := sCR (sCR (sCE (sCG C t i.toNat (some q)) t e.toNat i) t 10 (e + 1)) t 9 (i + 1)
theorem s_addItem (ht : t < 21) {i e : Int} {q : Nat} {fs : List AV} (hi : cR C t 9 = i) (he : cR C t 10 = e) (i0 : 0 ≤ i) (i1 : i < 12) (e0 : 0 ≤ e) (e1 : e < 24) (eq : (hS h b C).1 q = some (.inr (3, fs))) : fX2_addItem c (hS h b C) (some (b + 4 + 3 * t)) (some q) = some (hS h b (rgC C t i e q), none) := by
  have hi2 : ∀ x y, cR (sCG C t x y) t 9 = i := fun _ _ => hi
  have ev := s_event (c := c) (h := h) (b := b) (t := t) (C := sCG C t i.toNat (some q)) (e := e) (v := i) ht he e0 e1
  unfold fX2_addItem fX2_addItem_47 rgC
  simp (maxSteps := 1000000) (disch := omega) only [cc_s, kI_i, kV_n, kR_r, ck_S, ck_R, rdI_S, rdR_S10, rdR_S11, rdR_S12, rdI_R, rdR_R12, rdR_R13, len_S1, len_S2, len_S3, len_G, len_E, ald_S1, ald_S2, ald_S3, ald_G, ald_E, wr_S, wr_R, ast_S1, ast_E, iI_l, iI_add, iI_sub, iI_mul, iI_neg, Int.reduceToNat]
  rw [hi, if_neg (show ¬ iI i < iI 0 from (by rw [lt_i (by omega) (by omega) (by omega) (by omega)]; omega)), if_pos (show iI i < iI 12 from (by rw [lt_i (by omega) (by omega) (by omega) (by omega)]; omega)), ast_G ht i0 i1 (isEl_q eq), rdI_R ht (by decide), hi2, ck_R ht, ev]
  simp (maxSteps := 1000000) (disch := omega) only [cc_s, kI_i, kV_n, kR_r, ck_S, ck_R, rdI_S, rdR_S10, rdR_S11, rdR_S12, rdI_R, rdR_R12, rdR_R13, len_S1, len_S2, len_S3, len_G, len_E, ald_S1, ald_S2, ald_S3, ald_G, ald_E, wr_S, wr_R, ast_S1, ast_E, iI_l, iI_add, iI_sub, iI_mul, iI_neg, Int.reduceToNat]
  rw [show cR (sCR (sCE (sCG C t i.toNat (some q)) t e.toNat i) t 10 (e + 1)) t 9 = i by rw [cR_sk, if_neg (by omega)]; exact hi]
theorem or_bit {z : Int} (z0 : 0 ≤ z) (z1 : z < 4096) {i : Nat} (hi : i < 12) (hb : z / 2 ^ i % 2 = 0) : iI z ||| shlI (iI 1) (iI (i : Int)) = iI (z + 2 ^ i) := by
  rw [shl_i (by omega) (by omega), Int.toNat_natCast]
  have key : ∀ (hi lo : Int), z = 2 ^ (i + 1) * hi + lo → 0 ≤ hi → 0 ≤ lo → lo < 2 ^ i → (2 : Int) ^ i ≤ 2048 → iI z ||| iI (1 * 2 ^ i) = iI (z + 2 ^ i) := by
    intro hi lo e h0 l0 l1 p
    have := or_i (s := i) (t := 1) (hi := hi) (lo := lo) (v := 1) h0 l0 (by decide) l1 (by decide) (by rw [← e]; omega) (by omega)
    rw [← e] at this
    rw [this, Int.one_mul]
  obtain rfl | rfl | rfl | rfl | rfl | rfl | rfl | rfl | rfl | rfl | rfl | rfl : i = 0 ∨ i = 1 ∨ i = 2 ∨ i = 3 ∨ i = 4 ∨ i = 5 ∨ i = 6 ∨ i = 7 ∨ i = 8 ∨ i = 9 ∨ i = 10 ∨ i = 11 := by omega
  · exact key (z / 2) 0 (by simp at hb ⊢; omega) (by omega) (by omega) (by decide) (by decide)
  · exact key (z / 4) (z % 2) (by simp at hb ⊢; omega) (by omega) (by omega) (by simp; omega) (by decide)
  · exact key (z / 8) (z % 4) (by simp at hb ⊢; omega) (by omega) (by omega) (by simp; omega) (by decide)
  · exact key (z / 16) (z % 8) (by simp at hb ⊢; omega) (by omega) (by omega) (by simp; omega) (by decide)
  · exact key (z / 32) (z % 16) (by simp at hb ⊢; omega) (by omega) (by omega) (by simp; omega) (by decide)
  · exact key (z / 64) (z % 32) (by simp at hb ⊢; omega) (by omega) (by omega) (by simp; omega) (by decide)
  · exact key (z / 128) (z % 64) (by simp at hb ⊢; omega) (by omega) (by omega) (by simp; omega) (by decide)
  · exact key (z / 256) (z % 128) (by simp at hb ⊢; omega) (by omega) (by omega) (by simp; omega) (by decide)
  · exact key (z / 512) (z % 256) (by simp at hb ⊢; omega) (by omega) (by omega) (by simp; omega) (by decide)
  · exact key (z / 1024) (z % 512) (by simp at hb ⊢; omega) (by omega) (by omega) (by simp; omega) (by decide)
  · exact key (z / 2048) (z % 1024) (by simp at hb ⊢; omega) (by omega) (by omega) (by simp; omega) (by decide)
  · exact key (z / 4096) (z % 2048) (by simp at hb ⊢; omega) (by omega) (by omega) (by simp; omega) (by decide)
/-- an item is struck -/
def srC (C : Ct) (t : Nat) (m e : Int) (i : Nat) : Ct := sCR (sCE (sCR C t 11 (m + 2 ^ i)) t e.toNat (12 + i)) t 10 (e + 1)
theorem s_strike (ht : t < 21) {m e : Int} {i : Nat} (hm : cR C t 11 = m) (he : cR C t 10 = e) (m0 : 0 ≤ m) (m1 : m < 4096) (hi : i < 12) (hb : m / 2 ^ i % 2 = 0) (e0 : 0 ≤ e) (e1 : e < 24) : fX2_strikeItem c (hS h b C) (some (b + 4 + 3 * t)) (iI (i : Int)) = some (hS h b (srC C t m e i), none) := by
  have ev := s_event (c := c) (h := h) (b := b) (t := t) (C := sCR C t 11 (m + 2 ^ i)) (e := e) (v := 12 + i) ht (by rw [cR_sk, if_neg (by omega)]; exact he) e0 e1
  unfold fX2_strikeItem srC
  simp only [iI_l]
  rw [rdI_R ht (by decide), hm, or_bit m0 m1 hi hb, wr_R ht (by decide), ck_R ht, iI_add, ev]
  simp only [cc_s, kV_n]
theorem CD_fz {fz' : Nat → Option Cl} (Q : CD fz C D) (H : ∀ q e, fz q = some e → fz' q = some e) : CD fz' C D := by
  obtain ⟨q1, ⟨s0, s1, s2, s3, s4, s5, s6, s7, s8, s9, s10⟩, q3, q4, q5⟩ := Q
  refine ⟨q1, ⟨s0, s1, s2, s3, s4, s5, s6, s7, s8, s9, fun r i hr hi => ?_⟩, q3, fun r hr => ?_, q5⟩
  · rcases s10 r i hr hi with e | ⟨q, fs, e1, e2⟩
    · exact Or.inl e
    · exact Or.inr ⟨q, fs, e1, H _ _ e2⟩
  · obtain ⟨a1, b1, c1⟩ := q4 r hr
    refine ⟨a1, fun i hi => ?_, c1⟩
    obtain ⟨q, e, s, e2, tg, ba, kk, row, rest, t1, t2, t3, t4⟩ := b1 i hi
    exact ⟨q, e, s, H _ _ e2, tg, ba, kk, row, rest, t1, H _ _ t2, H _ _ t3, t4⟩
theorem cR_E (C : Ct) (r k : Nat) (v : Int) : cR (sCE C r k v) = cR C := rfl
theorem cR_G (C : Ct) (r k : Nat) (v : Option Nat) : cR (sCG C r k v) = cR C := rfl
theorem cG_R (C : Ct) (r k : Nat) (v : Int) : cG (sCR C r k v) = cG C := rfl
theorem cG_E (C : Ct) (r k : Nat) (v : Int) : cG (sCE C r k v) = cG C := rfl
theorem cE_R (C : Ct) (r k : Nat) (v : Int) : cE (sCR C r k v) = cE C := rfl
theorem cE_G (C : Ct) (r k : Nat) (v : Option Nat) : cE (sCG C r k v) = cE C := rfl
theorem rgC_R (C : Ct) (t q k : Nat) (i e : Int) (a : Nat) : cR (rgC C t i e a) q k = if q = t ∧ k = 9 then i + 1 else if q = t ∧ k = 10 then e + 1 else cR C q k := by
  unfold rgC; rw [cR_sk, cR_sk, cR_E, cR_G]
theorem rgC_G (C : Ct) (t q : Nat) (i e : Int) (a : Nat) : cG (rgC C t i e a) q = if q = t then va_up (cG C q) i.toNat (some a) else cG C q := by
  unfold rgC; rw [cG_R, cG_R, cG_E, cG_s]
theorem rgC_E (C : Ct) (t q : Nat) (i e : Int) (a : Nat) : cE (rgC C t i e a) q = if q = t then st (cE C q) e.toNat i else cE C q := by
  unfold rgC; rw [cE_R, cE_R, cE_s, cE_G]
theorem pn_cg {D D' : Dt} (h : ∀ r, 3 ≤ r → r < 21 → gF D' r 0 = gF D r 0 ∧ gF D' r 3 = gF D r 3) : pnI D' = pnI D := by
  have pp : prtI D' = prtI D := fF_congr 18 3 (fun i a b => hwP_cg (h i a (by omega)).1 (h i a (by omega)).2)
  unfold pnI
  rw [pp]
  rcases prtI_c D with e | ⟨r, e, h3, hr, -⟩
  · rw [if_pos e, if_pos e]
  · rw [if_neg (by omega), if_neg (by omega), e, Int.toNat_natCast, (h r h3 hr).1]
theorem tF_cg {D D' : Dt} (h : ∀ k, gT D' k = gT D k) (hp : pnI D' = pnI D) : ∀ i, tF D' i = tF D i := fun i => by
  unfold tF
  simp only [h, hp]
/-- ring -/
theorem CD_ring {Z : Zt} {n : Int} (Q : CD fz C (zD Z)) (H : Iv n (zD Z)) (ht : t < 3) {m p x : Int} {a : Nat} (h8 : gF (zD Z) t 8 < 12) (I : ItF fz a (itm m p x (zl Z)) (nmK (zp Z) (zl Z))) (Hf : flI Z = -6) (h1 : 1 ≤ m ∧ m ≤ 99) (h2 : 1 ≤ p ∧ p ≤ 9999) (h3 : 0 ≤ x ∧ x ≤ 2) : CD fz (rgC C t (gF (zD Z) t 8) (gF (zD Z) t 9) a) (rngD Z t m p x) := by
  have H' := Iv_ring H ht h8 h1 h2 h3 Hf
  have L := (H.1 t (by omega)).1
  have w := H.rw (r := t) (by omega)
  have n8 := nIt_le L
  have g := L.1
  have cl := H.cln t ht h8
  have iF : el fz (some a) := by obtain ⟨s, e, _⟩ := I; exact Or.inr ⟨a, _, rfl, e⟩
  have F : ∀ q k, ¬ (q = t ∧ k = 9) → ¬ (q = t ∧ k = 8) → gF (rngD Z t m p x) q k = gF (zD Z) q k := fun q k a b => by rw [rg_F, if_neg a, if_neg b]
  refine ⟨fun k hk => Q.1 k hk, ?_, fun r hr => ?_, fun r hr => ?_, fun r r3 hr n => ?_⟩
  · have pn : pnI (rngD Z t m p x) = pnI (zD Z) := pn_cg (fun r r3 hr => ⟨F r 0 (by omega) (by omega), F r 3 (by omega) (by omega)⟩)
    obtain ⟨s0, s1, s2, s3, s4, s5, s6, s7, s8, s9, s10⟩ := Q.2.1
    refine ⟨s0, s1, s2, s3, s4, s5, s6, s7, s8, s9.trans pn.symm, fun r i hr hi => ?_⟩
    rw [rgC_G]
    split
    · unfold va_up; split
      · exact iF
      · exact s10 r i hr hi
    · exact s10 r i hr hi
  · rw [rgC_R, if_neg (by omega), if_neg (by omega), F r 0 (by omega) (by omega)]
    exact Q.2.2.1 r hr
  · by_cases e : r = t
    · subst e
      obtain ⟨⟨a1, a2, a3⟩, b1, c1⟩ := Q.2.2.2.1 r ⟨by omega, Or.inl ht⟩
      have e1 : nIt (rngD Z r m p x) r = nIt (zD Z) r + 1 := by unfold nIt; rw [rg_F, if_neg (by omega), if_pos ⟨rfl, rfl⟩]; omega
      have e2 : nEt (rngD Z r m p x) r = nEt (zD Z) r + 1 := by unfold nEt; rw [rg_F, if_pos ⟨rfl, rfl⟩]; omega
      refine ⟨⟨by rw [rgC_R, if_pos ⟨rfl, rfl⟩, rg_F, if_neg (by omega), if_pos ⟨rfl, rfl⟩], by rw [rgC_R, if_neg (by omega), if_pos ⟨rfl, rfl⟩, rg_F, if_pos ⟨rfl, rfl⟩], ?_⟩, fun i hi => ?_, fun k hk => ?_⟩
      · rw [rgC_R, if_neg (by omega), if_neg (by omega), a3]
        unfold mskI
        refine sF_congr 12 0 (fun i _ _ => ?_)
        show _ = gP (rngD Z r m p x) r i 3 * 2 ^ i
        rw [rg_P]
        split
        · next e =>
          rw [e.2, (w.1 (gF (zD Z) r 8).toNat (Nat.le_refl _)).1]
          rfl
        · rfl
      · rw [rgC_G, if_pos rfl, rg_P, rg_N]
        unfold va_up
        by_cases ei : i = (gF (zD Z) r 8).toNat
        · rw [if_pos ei, if_pos ⟨rfl, ei⟩, if_pos ⟨rfl, ei⟩]
          exact ⟨a, rfl, I⟩
        · rw [if_neg ei, if_neg (fun x => ei x.2), if_neg (fun x => ei x.2)]
          exact b1 i (by unfold nIt at e1 hi ⊢; omega)
      · rw [rgC_E, if_pos rfl, rg_E, if_pos rfl]
        unfold st
        by_cases ek : k = (gF (zD Z) r 9).toNat
        · rw [if_pos ek, if_pos ek]
          unfold evC; rw [if_pos (by omega)]
        · rw [if_neg ek, if_neg ek]
          exact c1 k (by unfold nEt at e2 hk ⊢; omega)
    · have sm' : sm (zD Z) (rngD Z t m p x) r := ⟨funext fun j => by rw [rg_F, if_neg (by omega), if_neg (by omega)], funext fun j => by rw [rg_P, if_neg (by omega)], funext fun j => by rw [rg_N, if_neg (by omega)], by rw [rg_E, if_neg e]⟩
      have ir : isR (zD Z) r := by unfold isR at hr ⊢; rw [F r 0 (by omega) (by omega)] at hr; exact hr
      have := RcD_cg (R' := cR (rgC C t (gF (zD Z) t 8) (gF (zD Z) t 9) a) r) (Q.2.2.2.1 r ir) (by rw [sm'.1]) (by rw [sm'.1]) sm'.2.1 sm'.2.2.1 sm'.2.2.2 (by rw [rgC_R, if_neg (by omega), if_neg (by omega)]) (by rw [rgC_R, if_neg (by omega), if_neg (by omega)]) (by rw [rgC_R, if_neg (by omega), if_neg (by omega)])
      rw [rgC_G, if_neg e, rgC_E, if_neg e]
      exact this
  · have e : r ≠ t := by omega
    have sm' : sm (zD Z) (rngD Z t m p x) r := ⟨funext fun j => by rw [rg_F, if_neg (by omega), if_neg (by omega)], funext fun j => by rw [rg_P, if_neg (by omega)], funext fun j => by rw [rg_N, if_neg (by omega)], by rw [rg_E, if_neg e]⟩
    rw [sm'.1] at n ⊢
    rw [sm'.ln r3]
    simp only [rgC_R]
    simp (decide := true) only [e, false_and, if_false]
    exact Q.2.2.2.2 r r3 hr n
theorem srC_R (C : Ct) (t q k : Nat) (m e : Int) (i : Nat) : cR (srC C t m e i) q k = if q = t ∧ k = 10 then e + 1 else if q = t ∧ k = 11 then m + 2 ^ i else cR C q k := by
  unfold srC; rw [cR_sk, cR_E, cR_sk]
theorem srC_E (C : Ct) (t q : Nat) (m e : Int) (i : Nat) : cE (srC C t m e i) q = if q = t then st (cE C q) e.toNat (12 + i) else cE C q := by
  unfold srC; rw [cE_R, cE_s, cE_R]
/-- strike -/
theorem CD_strike {n : Int} (Q : CD fz C D) (H : Iv n D) {t i : Int} (hh : 0 ≤ t ∧ t ≤ 2 ∧ 0 ≤ i ∧ i < gF D t.toNat 8) (hs : gP D t.toNat i.toNat 3 ≠ 1) : CD fz (sCF (srC C t.toNat (mskI D t.toNat) (gF D t.toNat 9) i.toNat) 8 (gT D 6 + 1)) (strD D t i) := by
  have ht : t.toNat < 3 := by omega
  have L := (H.1 t.toNat (by omega)).1
  have n8 := nIt_le L
  have g := L.1
  have hp := L.2.1 i.toNat
  unfold pRg at hp
  have h0 : gP D t.toNat i.toNat 3 = 0 := by omega
  have F : ∀ q k, ¬ (q = t.toNat ∧ k = 9) → gF (strD D t i) q k = gF D q k := fun q k a => by rw [sr_F, if_neg a]
  refine ⟨fun k hk => by rw [sr_T, if_neg (by omega)]; exact Q.1 k hk, ?_, fun r hr => ?_, fun r hr => ?_, fun r r3 hr n => ?_⟩
  · have pn : pnI (strD D t i) = pnI D := pn_cg (fun r r3 hr => ⟨F r 0 (by omega), F r 3 (by omega)⟩)
    obtain ⟨s0, s1, s2, s3, s4, s5, s6, s7, s8, s9, s10⟩ := Q.2.1
    exact ⟨s0, s1, s2, s3, s4, s5, s6, s7, rfl, s9.trans pn.symm, fun r i hr hi => s10 r i hr hi⟩
  · rw [cR_sF, srC_R, if_neg (by omega), if_neg (by omega), F r 0 (by omega)]
    exact Q.2.2.1 r hr
  · rw [cR_sF]
    by_cases e : r = t.toNat
    · rw [e]
      obtain ⟨⟨a1, a2, a3⟩, b1, c1⟩ := Q.2.2.2.1 t.toNat ⟨by omega, Or.inl ht⟩
      have e1 : nIt (strD D t i) t.toNat = nIt D t.toNat := by unfold nIt; rw [F _ 8 (by omega)]
      have e2 : nEt (strD D t i) t.toNat = nEt D t.toNat + 1 := by unfold nEt; rw [sr_F, if_pos ⟨rfl, rfl⟩]; omega
      refine ⟨⟨by rw [srC_R, if_neg (by omega), if_neg (by omega), F _ 8 (by omega)]; exact a1, by rw [srC_R, if_pos ⟨rfl, rfl⟩, sr_F, if_pos ⟨rfl, rfl⟩], ?_⟩, fun j hj => ?_, fun k hk => ?_⟩
      · rw [srC_R, if_neg (by omega), if_pos ⟨rfl, rfl⟩]
        unfold mskI
        rw [sF_upd (f := fun j => gP D t.toNat j 3 * 2 ^ j) (f' := fun j => gP (strD D t i) t.toNat j 3 * 2 ^ j) (r := i.toNat) 12 0 (by omega) (by omega) (fun j _ _ hj => by show gP (strD D t i) t.toNat j 3 * 2 ^ j = _; rw [sr_P, if_neg (fun x => hj x.2)])]
        rw [sr_P, if_pos ⟨rfl, rfl⟩, h0, show st (gP D t.toNat i.toNat) 3 1 3 = 1 from if_pos rfl]
        omega
      · rw [e1] at hj
        obtain ⟨q, q1, s, q2, q3⟩ := b1 j hj
        refine ⟨q, q1, ?_⟩
        rw [sr_P, sr_N]
        split
        · next ej =>
          have ej2 := ej.2
          subst ej2
          exact ⟨s, q2, q3⟩
        · exact ⟨s, q2, q3⟩
      · show cE (srC _ _ _ _ _) t.toNat k = _
        rw [srC_E, if_pos rfl, sr_E, if_pos rfl]
        unfold st
        by_cases ek : k = (gF D t.toNat 9).toNat
        · rw [if_pos ek, if_pos ek]
          unfold evC; rw [if_neg (by omega)]; omega
        · rw [if_neg ek, if_neg ek]
          exact c1 k (by unfold nEt at e2 hk ⊢; omega)
    · have sm' : sm D (strD D t i) r := ⟨funext fun j => by rw [sr_F, if_neg (by omega)], funext fun j => by rw [sr_P, if_neg (by omega)], rfl, by rw [sr_E, if_neg e]⟩
      have ir : isR D r := by unfold isR at hr ⊢; rw [F r 0 (by omega)] at hr; exact hr
      have := RcD_cg (R' := cR (srC C t.toNat (mskI D t.toNat) (gF D t.toNat 9) i.toNat) r) (Q.2.2.2.1 r ir) (by rw [sm'.1]) (by rw [sm'.1]) sm'.2.1 sm'.2.2.1 sm'.2.2.2 (by rw [srC_R, if_neg (by omega), if_neg (by omega)]) (by rw [srC_R, if_neg (by omega), if_neg (by omega)]) (by rw [srC_R, if_neg (by omega), if_neg (by omega)])
      show RcD fz _ (cG C r) (cE (srC _ _ _ _ _) r) _ _
      rw [srC_E, if_neg e]
      exact this
  · have e : r ≠ t.toNat := by omega
    have sm' : sm D (strD D t i) r := ⟨funext fun j => by rw [sr_F, if_neg (by omega)], funext fun j => by rw [sr_P, if_neg (by omega)], rfl, by rw [sr_E, if_neg e]⟩
    rw [sm'.1] at n ⊢
    rw [sm'.ln r3, cR_sF]
    simp only [srC_R]
    simp (decide := true) only [e, false_and, if_false]
    exact Q.2.2.2.2 r r3 hr n
/-- closing -/
def closC (C : Ct) (r t : Nat) (n ti p w l : Int) : Ct := clC (sCR (sCR (sCR (sCR (sCR (sCR (sCR (cpR (sCF C 6 n) r (cR C t) (cG C t) (cE C t)) r 0 n) r 1 ti) r 2 p) r 3 0) r 4 w) r 5 l) r 6 0) t
theorem s_closeAs {r : Nat} (hr : r < 21) {n ti p w l : Int} : fX2_closeAs c (hS h b C) (some (b + 4 + 3 * r)) (iI n) (iI ti) (iI p) (iI w) (iI l) = some (hS h b (sCR (sCR (sCR (sCR (sCR (sCR (sCR C r 0 n) r 1 ti) r 2 p) r 3 0) r 4 w) r 5 l) r 6 0), none) := by
  unfold fX2_closeAs
  simp (maxSteps := 1000000) (disch := omega) only [cc_s, kI_i, kV_n, kR_r, ck_S, ck_R, rdI_S, rdR_S10, rdR_S11, rdR_S12, rdI_R, rdR_R12, rdR_R13, len_S1, len_S2, len_S3, len_G, len_E, ald_S1, ald_S2, ald_S3, ald_G, ald_E, wr_S, wr_R, ast_S1, ast_E, iI_l, iI_add, iI_sub, iI_mul, iI_neg, Int.reduceToNat]
theorem clos_R (C : Ct) (r t q k : Nat) (n ti p w l : Int) (hrt : r ≠ t) : cR (closC C r t n ti p w l) q k = if q = t ∧ (k = 0 ∨ k = 9 ∨ k = 10 ∨ k = 11) then 0 else if q = r ∧ k = 6 then 0 else if q = r ∧ k = 5 then l else if q = r ∧ k = 4 then w else if q = r ∧ k = 3 then 0 else if q = r ∧ k = 2 then p else if q = r ∧ k = 1 then ti else if q = r ∧ k = 0 then n else if q = r ∧ k < 12 then cR C t k else cR C q k := by
  unfold closC
  rw [cl_R, cR_sk, cR_sk, cR_sk, cR_sk, cR_sk, cR_sk, cR_sk]
  have e : cR (cpR (sCF C 6 n) r (cR C t) (cG C t) (cE C t)) q k = if q = r ∧ k < 12 then cR C t k else cR C q k := by
    unfold cpR
    rw [cR_up]
    by_cases e : q = r
    · rw [if_pos e]
      by_cases e2 : k < 12
      · rw [if_pos e2, if_pos ⟨e, e2⟩]
      · rw [if_neg e2, if_neg (fun x => e2 x.2), e]; rfl
    · rw [if_neg e, if_neg (fun x => e x.1)]; rfl
  rw [e]
theorem clos_G (C : Ct) (r t q : Nat) (n ti p w l : Int) : cG (closC C r t n ti p w l) q = if q = r then (fun j => if 0 ≤ j ∧ j < 12 then cG C t j else cG C r j) else cG C q := rfl
theorem clos_E (C : Ct) (r t q : Nat) (n ti p w l : Int) : cE (closC C r t n ti p w l) q = if q = r then (fun j => if 0 ≤ j ∧ j < 24 then cE C t j else cE C r j) else cE C q := rfl
theorem clos_F (C : Ct) (r t k : Nat) (n ti p w l : Int) : cF (closC C r t n ti p w l) k = if k = 6 then n else cF C k := rfl
theorem CD_close {n : Int} (Q : CD fz C D) (H : Iv n D) {r t : Nat} {p : Int} (r3 : 3 ≤ r) (hr : r < 21) (ht : t < 3) (hf : gF D r 0 ≤ 0) : CD fz (closC C r t (gT D 4 + 1) t p (gT D 0) (lnI D t)) (cloD D r t p) := by
  have L := (H.1 t (by omega)).1
  have w4 := (H.rw (r := t) (by omega)).2.2.2.1 ht
  have n8 := nIt_le L
  have g := L.1
  have hrt : r ≠ t := by omega
  have F : ∀ q k, q ≠ r → q ≠ t → gF (cloD D r t p) q k = gF D q k := fun q k a b => by rw [clo_F, if_neg (by omega), if_neg (by omega), if_neg (by omega), if_neg (by omega), if_neg (by omega), if_neg (by omega)]
  have Fr : ∀ k, gF (cloD D r t p) r k = if k = 4 then gT D 0 else if k = 2 then p else if k = 0 then gT D 4 + 1 else gF D t k := fun k => by
    rw [clo_F, if_neg (by omega), if_neg (by omega)]; simp only [true_and, if_true]
  have Ft : ∀ k, gF (cloD D r t p) t k = if k = 1 then (t : Int) else 0 := fun k => by
    rw [clo_F]; simp only [true_and, if_true]
  have sm' : ∀ q, q ≠ r → q ≠ t → sm D (cloD D r t p) q := fun q a b => ⟨funext fun j => F q j a b, by rw [clo_P _ _ _ _ _ hrt, if_neg b, if_neg a], by rw [clo_N _ _ _ _ _ hrt, if_neg b, if_neg a], by rw [clo_E _ _ _ _ _ hrt, if_neg b, if_neg a]⟩
  have h3 : gF D t 3 = 0 := w4.2.2 3 (by decide) (by decide)
  have pn : pnI (cloD D r t p) = pnI D := by
    have hw : ∀ i, 3 ≤ i → i < 3 + 18 → hwP (cloD D r t p) 1 i = hwP D 1 i := fun i a b => by
      by_cases e : i = r
      · rw [e]
        have h1 : hwP (cloD D r t p) 1 r = false := Bool.eq_false_iff.mpr (fun x => by have := hwP_t.mp x; rw [Fr 3] at this; simp (decide := true) only [if_false] at this; omega)
        have h2 : hwP D 1 r = false := Bool.eq_false_iff.mpr (fun x => by have := hwP_t.mp x; omega)
        rw [h1, h2]
      · exact hwP_cg (F i 0 e (by omega)) (F i 3 e (by omega))
    have pp : prtI (cloD D r t p) = prtI D := fF_congr 18 3 hw
    unfold pnI
    rw [pp]
    rcases prtI_c D with e | ⟨q, e, q3, hq, hw'⟩
    · rw [if_pos e, if_pos e]
    · have : q ≠ r := fun x => by have := hwP_t.mp hw'; rw [x] at this; omega
      rw [if_neg (by omega), if_neg (by omega), e, Int.toNat_natCast, F q 0 this (by omega)]
  refine ⟨fun k hk => by rw [clo_T, if_neg (by omega)]; exact Q.1 k hk, ?_, fun q hq => ?_, fun q hq => ?_, fun q q3 hq nq => ?_⟩
  · obtain ⟨s0, s1, s2, s3, s4, s5, s6, s7, s8, s9, s10⟩ := Q.2.1
    simp only [clos_F, clo_T]
    simp (decide := true) only [if_true, if_false]
    refine ⟨s0, s1, s2, s3, s4, s5, trivial, s7, s8, s9.trans pn.symm, fun q i hq hi => ?_⟩
    rw [clos_G]
    split
    · show el fz (if 0 ≤ i ∧ i < 12 then cG C t i else cG C r i)
      rw [if_pos ⟨Nat.zero_le i, hi⟩]
      exact s10 t i (by omega) hi
    · exact s10 q i hq hi
  · by_cases e : q = t
    · rw [e, clos_R _ _ _ _ _ _ _ _ _ _ hrt, if_pos ⟨rfl, Or.inl rfl⟩, Ft, if_neg (by decide)]
    · by_cases e2 : q = r
      · rw [e2, clos_R _ _ _ _ _ _ _ _ _ _ hrt, if_neg (by omega), if_neg (by omega), if_neg (by omega), if_neg (by omega), if_neg (by omega), if_neg (by omega), if_neg (by omega), if_pos ⟨rfl, rfl⟩, Fr, if_neg (by decide), if_neg (by decide), if_pos rfl]
      · rw [clos_R _ _ _ _ _ _ _ _ _ _ hrt, if_neg (by omega), if_neg (by omega), if_neg (by omega), if_neg (by omega), if_neg (by omega), if_neg (by omega), if_neg (by omega), if_neg (by omega), if_neg (by omega), F q 0 e2 e]
        exact Q.2.2.1 q hq
  · by_cases e : q = t
    · rw [e]
      have t1 : nIt (cloD D r t p) t = 0 := by unfold nIt; rw [Ft]; rfl
      have t2 : nEt (cloD D r t p) t = 0 := by unfold nEt; rw [Ft]; rfl
      refine ⟨⟨?_, ?_, ?_⟩, fun i hi => by omega, fun k hk => by omega⟩
      · rw [clos_R _ _ _ _ _ _ _ _ _ _ hrt, if_pos ⟨rfl, Or.inr (Or.inl rfl)⟩, Ft, if_neg (by decide)]
      · rw [clos_R _ _ _ _ _ _ _ _ _ _ hrt, if_pos ⟨rfl, Or.inr (Or.inr (Or.inl rfl))⟩, Ft, if_neg (by decide)]
      · rw [clos_R _ _ _ _ _ _ _ _ _ _ hrt, if_pos ⟨rfl, Or.inr (Or.inr (Or.inr rfl))⟩]
        unfold mskI
        rw [clo_P _ _ _ _ _ hrt, if_pos rfl]
        rfl
    · by_cases e2 : q = r
      · rw [e2]
        obtain ⟨⟨a1, a2, a3⟩, b1, c1⟩ := Q.2.2.2.1 t ⟨by omega, Or.inl ht⟩
        have e1 : nIt (cloD D r t p) r = nIt D t := by unfold nIt; rw [Fr, if_neg (by decide), if_neg (by decide), if_neg (by decide)]
        have e2' : nEt (cloD D r t p) r = nEt D t := by unfold nEt; rw [Fr, if_neg (by decide), if_neg (by decide), if_neg (by decide)]
        have hk : ∀ k, 9 ≤ k → k < 12 → cR (closC C r t (gT D 4 + 1) t p (gT D 0) (lnI D t)) r k = cR C t k := fun k k9 k12 => by
          rw [clos_R _ _ _ _ _ _ _ _ _ _ hrt, if_neg (by omega), if_neg (by omega), if_neg (by omega), if_neg (by omega), if_neg (by omega), if_neg (by omega), if_neg (by omega), if_neg (by omega), if_pos ⟨rfl, k12⟩]
        refine ⟨⟨?_, ?_, ?_⟩, fun i hi => ?_, fun k hk => ?_⟩
        · rw [hk 9 (by decide) (by decide), Fr, if_neg (by decide), if_neg (by decide), if_neg (by decide)]; exact a1
        · rw [hk 10 (by decide) (by decide), Fr, if_neg (by decide), if_neg (by decide), if_neg (by decide)]; exact a2
        · rw [hk 11 (by decide) (by decide), a3]
          unfold mskI
          rw [clo_P _ _ _ _ _ hrt, if_neg hrt, if_pos rfl]
        · rw [e1] at hi
          rw [clos_G, if_pos rfl, clo_P _ _ _ _ _ hrt, if_neg hrt, if_pos rfl, clo_N _ _ _ _ _ hrt, if_neg hrt, if_pos rfl]
          show ∃ q, (if 0 ≤ i ∧ i < 12 then cG C t i else cG C r i) = some q ∧ _
          rw [if_pos (by omega)]
          exact b1 i hi
        · rw [e2'] at hk
          rw [clos_E, if_pos rfl, clo_E _ _ _ _ _ hrt, if_neg hrt, if_pos rfl]
          show (if 0 ≤ k ∧ k < 24 then cE C t k else cE C r k) = _
          rw [if_pos (by unfold nEt at hk; omega)]
          exact c1 k hk
      · have s := sm' q e2 e
        have ir : isR D q := by unfold isR at hq ⊢; rw [F q 0 e2 e] at hq; exact hq
        have hk : ∀ k, cR (closC C r t (gT D 4 + 1) t p (gT D 0) (lnI D t)) q k = cR C q k := fun k => by
          rw [clos_R _ _ _ _ _ _ _ _ _ _ hrt, if_neg (by omega), if_neg (by omega), if_neg (by omega), if_neg (by omega), if_neg (by omega), if_neg (by omega), if_neg (by omega), if_neg (by omega), if_neg (by omega)]
        have := RcD_cg (R' := cR (closC C r t (gT D 4 + 1) t p (gT D 0) (lnI D t)) q) (Q.2.2.2.1 q ir) (by rw [s.1]) (by rw [s.1]) s.2.1 s.2.2.1 s.2.2.2 (hk 9) (hk 10) (hk 11)
        rw [clos_G, if_neg e2, clos_E, if_neg e2]
        exact this
  · by_cases e2 : q = r
    · rw [e2]
      have hk : ∀ k, k < 7 → cR (closC C r t (gT D 4 + 1) t p (gT D 0) (lnI D t)) r k = if k = 6 then 0 else if k = 5 then lnI D t else if k = 4 then gT D 0 else if k = 3 then 0 else if k = 2 then p else if k = 1 then (t : Int) else gT D 4 + 1 := fun k k7 => by
        rw [clos_R _ _ _ _ _ _ _ _ _ _ hrt, if_neg (by omega)]
        simp only [true_and]
        split
        · rfl
        · split
          · rfl
          · split
            · rfl
            · split
              · rfl
              · split
                · rfl
                · split
                  · rfl
                  · rw [if_pos (by omega)]
      rw [hk 1 (by decide), hk 2 (by decide), hk 3 (by decide), hk 4 (by decide), hk 5 (by decide), hk 6 (by decide), Fr, Fr, Fr, Fr, Fr, clo_ln D p r3 ht]
      simp (decide := true) only [if_true, if_false]
      rw [w4.2.1, h3, w4.2.2 5 (by decide) (by decide)]
      exact ⟨by simp, fun x => absurd x (by decide)⟩
    · have e : q ≠ t := by omega
      have s := sm' q e2 e
      rw [s.1] at nq ⊢
      rw [s.ln q3]
      have hk : ∀ k, cR (closC C r t (gT D 4 + 1) t p (gT D 0) (lnI D t)) q k = cR C q k := fun k => by
        rw [clos_R _ _ _ _ _ _ _ _ _ _ hrt, if_neg (by omega), if_neg (by omega), if_neg (by omega), if_neg (by omega), if_neg (by omega), if_neg (by omega), if_neg (by omega), if_neg (by omega), if_neg (by omega)]
      simp only [hk]
      exact Q.2.2.2.2 q q3 hq nq
end
