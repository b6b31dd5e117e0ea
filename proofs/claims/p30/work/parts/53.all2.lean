/-! EVERY CALL keeps it -/
def ZI (n : Int) (Z : Zt) : Prop := (Iv n (zD Z) ∧ (∀ k, k < zn Z → Iv n (zH Z k)) ∧ ∀ i, i < 2 → zh Z i = true → Iv n (zS Z i)) ∧ zn Z ≤ 6 ∧ zl Z ≤ 80 ∧ OkP Z
theorem ZI.mono {n m : Int} {Z : Zt} (H : ZI n Z) (h : n ≤ m) : ZI m Z := ⟨⟨H.1.1.mono h, fun k hk => (H.1.2.1 k hk).mono h, fun i hi hh => (H.1.2.2 i hi hh).mono h⟩, H.2⟩
theorem ZI_rec {n : Int} {Z : Zt} (H : ZI n Z) : ZI n (zRec Z) := by
  obtain ⟨⟨a, b, c⟩, d, e, f⟩ := H
  unfold zRec
  by_cases h : zn Z = 6
  · rw [if_pos h]
    refine ⟨⟨a, fun k hk => ?_, c⟩, Nat.le_refl 6, e, f⟩
    show Iv n (if k = 5 then zD Z else zH Z (k + 1))
    change k < 6 at hk
    split
    · exact a
    · exact b (k + 1) (by omega)
  · rw [if_neg h]
    refine ⟨⟨a, fun k hk => ?_, c⟩, by show zn Z + 1 ≤ 6; omega, e, f⟩
    show Iv n (if k = zn Z then zD Z else zH Z k)
    change k < zn Z + 1 at hk
    split
    · exact a
    · exact b k (by omega)
theorem ZI_do {n : Int} {Z : Zt} {D : Dt} (H : ZI n Z) (h : Iv n D) : ZI n (zDo Z D) := by
  have r := ZI_rec H
  exact ⟨⟨h, r.1.2⟩, r.2⟩
theorem ZI_pad {n : Int} {Z : Zt} {l : Nat} {p : Nat → Int} (H : ZI n Z) (hl : l ≤ 80) (hp : ∀ j, j < l → 33 ≤ p j ∧ p j ≤ 126) : ZI n (zPad Z l p) := ⟨H.1, H.2.1, hl, hp⟩
theorem ZI_set {n : Int} {Z : Zt} (H : ZI n Z) {x y : Int} (h : okSet x y) : ZI n (zDo Z (sT (zD Z) x.toNat y)) := by
  refine ZI_do H (Iv_T H.1.1 (by unfold okSet at h; omega) (by unfold okSet at h; omega) ?_)
  have T := H.1.1.2.1
  unfold okSet lstI mstI at h
  unfold RgT at T ⊢
  simp only [gT_sT]
  obtain ⟨⟨h0, h1⟩, h2, h3⟩ := h
  obtain rfl | rfl | rfl : x = 0 ∨ x = 1 ∨ x = 2 := by omega
  all_goals simp (decide := true) only [if_true, if_false] at h2 h3
  all_goals simp (decide := true) only [if_true, if_false, Int.reduceToNat]
  all_goals omega
theorem ZI_newRoll {n : Int} {Z : Zt} (H : ZI n Z) : ZI n (zDo Z (sT (sT (sT (zD Z) 11 (gT (zD Z) 11 + gT (zD Z) 7)) 10 (gT (zD Z) 10 + 1)) 7 (gT (zD Z) 1))) := by
  have T := H.1.1.2.1
  unfold RgT at T
  exact ZI_do H (Iv_T2 (Iv_T2 (Iv_T2 H.1.1 (by decide) (fun h => absurd h (by decide))) (by decide) (fun h => absurd h (by decide))) (by decide) (fun _ => by omega))
theorem psL_J {J : Dt → Prop} (hJ : Keep J) : ∀ (m : Nat) (n : Int) (D : Dt), J D → 0 ≤ gT D 3 → gT D 3 + m ≤ 9999 → J (psL m n D).2
  | 0, _, _, j, _, _ => j
  | m + 1, n, D, j, h0, h => by
    rw [psL]
    have := tkR_J hJ j (by omega)
    exact psL_J hJ m _ _ this.1 (by omega) (by omega)
theorem ZI_pass {n : Int} {Z : Zt} (hn : n ≤ 1000) (H : ZI n Z) {t : Int} : ZI n (if ¬ (1 ≤ t ∧ t ≤ 99) then Z else if 9999 < gT (zD Z) 3 + t then Z else zDo Z (psL t.toNat 0 (zD Z)).2) := by
  split
  · exact H
  · split
    · exact H
    · have T := H.1.1.2.1
      unfold RgT at T
      exact ZI_do H (psL_J (Iv_keep hn) _ _ _ H.1.1 (by omega) (by omega))
theorem ZI_hurry {n : Int} {Z : Zt} (H : ZI n Z) {x y : Int} : ZI n (zHur Z x y) := by
  unfold zHur
  rcases recI_c (zD Z) x with e | ⟨r, e, h3, hr, x0, hx⟩
  · rw [if_pos e]; exact H
  · rw [if_neg (by omega)]
    split
    · exact H
    · split
      · rw [e, Int.toNat_natCast]
        exact ZI_do H (Iv_F H.1.1 h3 hr (by decide) (by decide) (by decide) (by decide) (by omega) (by omega) (fun h => absurd h (by decide)))
      · exact H
theorem lNum_b {w n : Int} : ∀ (j : Nat) (L : Ly), (lNum w n j L).2.2.1 = L.2.2.1
  | 0, L => rfl
  | j + 1, L => by
    rw [lNum, lNum_b j]
    split <;> rfl
theorem lMoney_b {w width v : Int} {L : Ly} : (lMoney w width v L).2.2.1 = L.2.2.1 := by
  unfold lMoney lMon1
  rw [(lSay_st (w := w) _ _).2.2, (lSay_st (w := w) _ _).2.2, (lSay_st (w := w) _ _).2.2, lNum_b]
  split <;> rfl
theorem lTold_b {w width n v : Int} {s : List Int} {L : Ly} : (lTold w width s n v L).2.2.1 = L.2.2.1 := by
  unfold lTold
  rw [(lNl_st _).2.2, lMoney_b, lNum_b, (lSays_st s L).2.2]
theorem lEv_b {D : Dt} {r : Nat} {w width : Int} (G : Rg1 D r) (wd0 : 16 ≤ width) (wd1 : width ≤ 40) : ∀ (m k : Nat) (L : Ly), L.2.1 = 0 → 0 ≤ L.1 → 0 ≤ L.2.2.1 → L.2.2.1 ≤ w → 0 ≤ (lEv D r w width k m L).2.2.1 ∧ (lEv D r w width k m L).2.2.1 ≤ w
  | 0, _, _, _, _, b0, b1 => ⟨b0, b1⟩
  | m + 1, k, L, c0, a0, b0, b1 => by
    rw [lEv]
    have s1 := lEv1_st (D := D) (r := r) (k := k) (w := w) (width := width) (L := L) G wd0 wd1 c0
    have b : 0 ≤ (lEv1 D r w width k L).2.2.1 ∧ (lEv1 D r w width k L).2.2.1 ≤ w := by
      unfold lEv1
      split
      · have sw := lWords_st (w := w) (width := width) (P := gP D r (gE D r k).toNat) (N := gN' D r (gE D r k).toNat) (L := L) wd0 (G.2.1 _) c0
        have e : (lItem w width (gP D r (gE D r k).toNat) (gN' D r (gE D r k).toNat) L).2.2.1 = if L.1 ≤ w ∧ w ≤ (lWords w width (gP D r (gE D r k).toNat) (gN' D r (gE D r k).toNat) L).1 then L.1 else (lWords w width (gP D r (gE D r k).toNat) (gN' D r (gE D r k).toNat) L).2.2.1 := by
          unfold lItem
          rw [(lNl_st _).2.2, lMoney_b]
          rfl
        rw [e]
        split <;> omega
      · rw [lTold_b]; exact ⟨b0, b1⟩
    exact lEv_b G wd0 wd1 m (k + 1) _ s1.2.2 (by omega) b.1 b.2
theorem begI_rg {D : Dt} {r : Nat} {num w width : Int} (G : Rg1 D r) (n0 : 0 ≤ num) (n1 : num < 10000000) (wd0 : 16 ≤ width) (wd1 : width ≤ 40) (w0 : 0 ≤ w) : 0 ≤ begI D r num w width ∧ begI D r num w width ≤ w := by
  have sh := lHead_st (w := w) (L := (0, 0, w, fun _ => 32)) n0 n1
  have hb : (lHead w num (0, 0, w, fun _ => 32)).2.2.1 = w := by
    unfold lHead
    rw [(lNl_st _).2.2, lNum_b]; rfl
  have he := lEv_b (w := w) G wd0 wd1 (nEt D r) 0 (lHead w num (0, 0, w, fun _ => 32)) sh.2 (by rw [sh.1]; show (0 : Int) ≤ 0 + 1; decide) (by rw [hb]; exact w0) (by rw [hb]; exact Int.le_refl _)
  have tx : ∀ (t : Int) (L : Ly), (lTax D r w width t L).2.2.1 = L.2.2.1 := fun t L => by
    unfold lTax; split
    · exact lTold_b
    · rfl
  unfold begI lAll lTail
  rw [tx, tx]
  have : ∀ (v : Int) (L : Ly), (lSum w width v L).2.2.1 = L.2.2.1 := fun v L => by
    unfold lSum
    rw [(lNl_st _).2.2, lMoney_b, (lSays_st _ L).2.2]
  rw [this]
  exact he
theorem ZI_tear {n : Int} {Z : Zt} (H : ZI n Z) {x : Int} : ZI n (zTear Z x) := by
  unfold zTear
  split
  · exact H
  rcases prtI_c (zD Z) with e | ⟨r, e, h3, hr, hw⟩
  · rw [if_pos e]; exact H
  · rw [if_neg (by omega), e, Int.toNat_natCast]
    split
    · exact H
    · have O := H.1.1.ok
      have nn := hwP_t.mp hw
      have isr : isR (zD Z) r := ⟨hr, Or.inr nn.1⟩
      have wd := wdI_rg O isr
      have nm := numI_rg O hr
      have bg := begI_rg (D := zD Z) (r := r) (num := numI (zD Z) r) (w := gF (zD Z) r 5 - x) (width := wdI (zD Z) r) (O.1 r hr) nm.1 nm.2 wd.1 wd.2 (by omega)
      have w5 := (H.1.1.rw hr).2.2.2.2 h3
      have w6 := w5.2 nn.1 (by omega)
      refine ZI_do H ?_
      unfold tearD
      rw [e, Int.toNat_natCast]
      exact Iv_T2 (Iv_F H.1.1 h3 hr (by decide) (by decide) (by decide) (by decide) bg.1 (by omega) (fun _ => ⟨by omega, fun _ => by omega⟩)) (by decide) (fun h => absurd h (by decide))
theorem ZI_strike {n : Int} {Z : Zt} (H : ZI n Z) {t i : Int} : ZI n (zStr Z t i) := by
  unfold zStr
  split
  · next h =>
    split
    · exact H
    · next h1 => exact ZI_do H (Iv_strike H.1.1 h h1)
  · exact H
theorem ZI_close {n : Int} (hn : n ≤ 1000) {Z : Zt} (H : ZI n Z) {t p : Int} : ZI (n + 1) (zClo Z t p) := by
  have H1 := H.mono (show n ≤ n + 1 by omega)
  unfold zClo
  split
  · exact H1
  · split
    · exact H1
    · split
      · exact H1
      · split
        · exact H1
        · next h1 h2 h3 h4 =>
          obtain ⟨r, e, r3, hr, hf⟩ := freeI_c (Gl_free H.1.1.gl h4)
          rw [e, Int.toNat_natCast]
          exact ZI_do H1 (Iv_close H.1.1 hn r3 hr (by omega) hf h4 (by omega) (by omega))
theorem ZI_ring {n : Int} {Z : Zt} (H : ZI n Z) {t m p x : Int} : ZI n (zRing Z t m p x) := by
  unfold zRing
  split
  · exact H
  · split
    · exact H
    · split
      · exact H
      · split
        · exact H
        · split
          · exact H
          · split
            · exact H
            · next h1 h2 h3 h4 h5 h6 =>
              have g := (H.1.1.1 t.toNat (by omega)).1.1
              exact ZI_pad (ZI_do H (Iv_ring H.1.1 (t := t.toNat) (by omega) (by omega) (by omega) (by omega) (by omega) (by simpa using h2))) (by decide) (fun j hj => by omega)
theorem ZI_undo {n : Int} {Z : Zt} (H : ZI n Z) : ZI n (zUnd Z) := by
  unfold zUnd
  split
  · exact H
  · next h =>
    obtain ⟨⟨a, b, c⟩, d, e, f⟩ := H
    refine ⟨⟨b (zn Z - 1) (by omega), fun k hk => b k ?_, c⟩, ?_, e, f⟩
    · change k < zn Z - 1 at hk; omega
    · show zn Z - 1 ≤ 6; omega
theorem ZI_save {n : Int} {Z : Zt} (H : ZI n Z) {x : Int} : ZI n (zSav Z x) := by
  unfold zSav
  split
  · obtain ⟨⟨a, b, c⟩, d, e, f⟩ := H
    refine ⟨⟨a, b, fun i hi hh => ?_⟩, d, e, f⟩
    show Iv n (if i = x.toNat then zD Z else zS Z i)
    change (if i = x.toNat then true else zh Z i) = true at hh
    split
    · exact a
    · next h => rw [if_neg h] at hh; exact c i hi hh
  · exact H
theorem ZI_restore {n : Int} {Z : Zt} (H : ZI n Z) {x : Int} : ZI n (zRes Z x) := by
  unfold zRes
  split
  · split
    · next h => exact ZI_do H (H.1.2.2 x.toNat (by omega) h)
    · exact H
  · exact H
theorem pcL_ok {u : Nat} : ∀ (m k : Nat) (ok : Bool), (pcL u k m ok).2 = true → ok = true ∧ ∀ j, k ≤ j → j < (pcL u k m ok).1 → 33 ≤ byP u j ∧ byP u j ≤ 126
  | 0, k, ok, h => ⟨h, fun j h1 h2 => by change j < k at h2; omega⟩
  | m + 1, k, ok, h => by
    rw [pcL] at h ⊢
    by_cases e : byP u k = 0
    · rw [if_pos e] at h ⊢
      exact ⟨h, fun j h1 h2 => by change j < k at h2; omega⟩
    · rw [if_neg e] at h ⊢
      have := pcL_ok m (k + 1) _ h
      have h2 := this.1
      rw [Bool.and_eq_true, decide_eq_true_eq] at h2
      refine ⟨h2.1, fun j h3 h4 => ?_⟩
      by_cases ej : j = k
      · rw [ej]; exact h2.2
      · exact this.2 j (by omega) h4
theorem ZI_put {n : Int} {Z : Zt} (H : ZI n Z) {u : Nat} : ZI n (zPut Z u) := by
  unfold zPut
  split
  · exact H
  · split
    · exact H
    · next h1 h2 =>
      have ok := (pcL_ok (u := u) 8 0 true (by
        by_cases e : (pcI u).2 = true
        · exact e
        · exact absurd (Or.inr (Or.inl e)) h1)).2
      refine ZI_pad H (by omega) (fun j hj => ?_)
      unfold putP
      split
      · next h3 =>
        have := ok ((pcI u).1 - 1 - (j - zl Z)) (Nat.zero_le _) (by show _ < (pcI u).1; omega)
        omega
      · exact H.2.2.2 j (by omega)
theorem ZI_wipe {n : Int} {Z : Zt} (H : ZI n Z) : ZI n (zPad Z 0 (zp Z)) := ZI_pad H (by decide) (fun j hj => by omega)
