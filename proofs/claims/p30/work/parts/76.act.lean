/-! ONE TURN'S CALL -/
theorem gT_pl3 (D : Dt) {k : Nat} (hk : k < 5) : ∀ (m : Nat) (n : Int) (D : Dt), gT (tkL m n D).2 k = gT D k
  | 0, _, _ => rfl
  | m + 1, n, D => by
    rw [tkL]
    split
    · exact gT_pl D hk
    · exact (gT_pl3 D hk m (n + 1) (plD D)).trans (gT_pl D hk)
theorem tkL_le : ∀ (m : Nat) (n : Int) (D : Dt), (tkL m n D).1 ≤ n + m
  | 0, n, _ => by show n ≤ n + ((0 : Nat) : Int); omega
  | m + 1, n, D => by
    rw [tkL]
    split
    · show n ≤ _; omega
    · have := tkL_le m (n + 1) (plD D); omega
theorem psL_le : ∀ (m : Nat) (n : Int) (D : Dt), gT D 2 ≤ 9 → (psL m n D).1 ≤ n + 9 * m
  | 0, n, _, _ => by show n ≤ n + 9 * ((0 : Nat) : Int); omega
  | m + 1, n, D, h => by
    rw [psL]
    have h1 : (tkR D).1 ≤ 0 + (gT D 2).toNat := tkL_le (gT D 2).toNat 0 D
    have h2 : gT (tkR D).2 2 = gT D 2 := (gT_sT _ 3 2 _).trans ((if_neg (by decide)).trans (gT_pl3 D (by decide) _ 0 D))
    have := psL_le m (n + (tkR D).1) (tkR D).2 (by omega)
    omega
theorem zdo_n {Z : Zt} {D : Dt} (h : zn Z ≤ 6) : zn (zDo Z D) = (if zn Z < 6 then zn Z + 1 else 6) ∧ zH (zDo Z D) (zn (zDo Z D) - 1) = zD Z ∧ zD (zDo Z D) = D := by
  unfold zDo zRec
  by_cases e : zn Z = 6
  · rw [if_pos e]
    refine ⟨by rw [if_neg (by omega)]; rfl, ?_, rfl⟩
    show (if (6 : Nat) - 1 = 5 then zD Z else zH Z (6 - 1 + 1)) = _
    rw [if_pos rfl]
  · rw [if_neg e]
    refine ⟨by rw [if_pos (by omega)]; rfl, ?_, rfl⟩
    show (if zn Z + 1 - 1 = zn Z then zD Z else zH Z (zn Z + 1 - 1)) = _
    rw [if_pos (by omega)]
/-- what a turn's call does from any world whose state is D: it answers r, and D' is then -/
def AOK (c : Nat → Option Nat) (D D' : Dt) (r : Int) (o : Hp → Nat → Rs) : Prop := ∀ (n : Int), n ≤ 1000 → ∀ (fz : Nat → Option Cl) (x : Nat) (h : Hp) (Z : Zt) (M : Nat → Nat → Int), zD Z = D → ZI n Z → WX fz x Z M h → Kon c fz → ∃ h' fz' Z', o h x = some (h', some (.inl (iI r))) ∧ WX fz' x Z' M h' ∧ (Kon c fz' ∧ ∀ q e, fz q = some e → fz' q = some e) ∧ (h.2.1 ≤ h'.2.1 ∧ h'.2.1 ≤ h.2.1 + 1500 ∧ h'.2.2 ≤ h.2.2 + 40000) ∧ ZI (n + 1) Z' ∧ zD Z' = D' ∧ (r < 0 → zn Z' = zn Z) ∧ (0 ≤ r → zn Z' = (if zn Z < 6 then zn Z + 1 else 6) ∧ zH Z' (zn Z' - 1) = D)
theorem aok_no {c : Nat → Option Nat} {D : Dt} {r : Int} {o : Hp → Nat → Rs} (hr : r < 0) (Q : ∀ (n : Int), n ≤ 1000 → ∀ (fz : Nat → Option Cl) (x : Nat) (h : Hp) (Z : Zt) (M : Nat → Nat → Int), zD Z = D → ZI n Z → WX fz x Z M h → Kon c fz → Rz c fz x M h (o h x) r Z) : AOK c D D r o := fun n hn fz x h Z M e I X K => by
  obtain ⟨h1, fz1, e1, X1, K1, b1, b2, b3⟩ := Q n hn fz x h Z M e I X K
  exact ⟨h1, fz1, Z, e1, X1, K1, ⟨b1, by omega, by omega⟩, I.mono (by omega), e, fun _ => rfl, fun h => by omega⟩
theorem aok_do {c : Nat → Option Nat} {D D' : Dt} {r : Int} {o : Hp → Nat → Rs} (hr : 0 ≤ r) (Q : ∀ (n : Int), n ≤ 1000 → ∀ (fz : Nat → Option Cl) (x : Nat) (h : Hp) (Z : Zt) (M : Nat → Nat → Int), zD Z = D → ZI n Z → WX fz x Z M h → Kon c fz → Rz c fz x M h (o h x) r (zDo Z D') ∧ ZI (n + 1) (zDo Z D')) : AOK c D D' r o := fun n hn fz x h Z M e I X K => by
  obtain ⟨⟨h1, fz1, e1, X1, K1, b1, b2, b3⟩, I1⟩ := Q n hn fz x h Z M e I X K
  have z := zdo_n (D := D') I.2.1
  exact ⟨h1, fz1, zDo Z D', e1, X1, K1, ⟨b1, by omega, by omega⟩, I1, z.2.2, fun h => by omega, fun _ => ⟨z.1, z.2.1.trans e⟩⟩
theorem AOK.of {c : Nat → Option Nat} {D D' : Dt} {r : Int} {o o' : Hp → Nat → Rs} (H : AOK c D D' r o) (e : ∀ (fz : Nat → Option Cl) (x : Nat) (h : Hp) (Z : Zt) (M : Nat → Nat → Int), WX fz x Z M h → o' h x = o h x) : AOK c D D' r o' := fun n hn fz x h Z M e1 I X K => by
  rw [e fz x h Z M X]
  exact H n hn fz x h Z M e1 I X K
/-- what is wanted of a call -/
def ACT (c : Nat → Option Nat) (D : Dt) (b : Prop) [Decidable b] (o : Hp → Nat → Rs) : Prop := ∃ (r : Int) (D' : Dt), ag r ∧ Stq (if 0 ≤ r ∧ b then gT D 1 else 0) D D' ∧ (r < 0 → D' = D) ∧ (0 ≤ r ∧ b → gT D' 1 = gT D 1) ∧ AOK c D D' r o
theorem act_no {c : Nat → Option Nat} {D : Dt} {b : Prop} [Decidable b] {o : Hp → Nat → Rs} (J : JL D) {r : Int} (a : ag r) (hr : r < 0) (H : AOK c D D r o) : ACT c D b o := ⟨r, D, a, by rw [if_neg (fun h => by omega)]; exact Stq.rf J, fun _ => rfl, fun h => by omega, H⟩
theorem act_do {c : Nat → Option Nat} {D D' : Dt} {b : Prop} [Decidable b] {o : Hp → Nat → Rs} (nb : ¬ b) {r : Int} (a : ag r) (hr : 0 ≤ r) (S : Stq 0 D D') (H : AOK c D D' r o) : ACT c D b o := ⟨r, D', a, by rw [if_neg (fun h => nb h.2)]; exact S, fun h => by omega, fun h => absurd h.2 nb, H⟩
theorem ACT.of {c : Nat → Option Nat} {D : Dt} {b : Prop} [Decidable b] {o o' : Hp → Nat → Rs} (H : ACT c D b o) (e : ∀ (fz : Nat → Option Cl) (x : Nat) (h : Hp) (Z : Zt) (M : Nat → Nat → Int), WX fz x Z M h → o' h x = o h x) : ACT c D b o' := by
  obtain ⟨r, D', a, s, u, g, k⟩ := H
  exact ⟨r, D', a, s, u, g, k.of e⟩
section
variable {c : Nat → Option Nat} {n : Int} {D : Dt}
theorem a_close {b : Prop} [Decidable b] (hn : n ≤ 1000) (J : JL D) (H : Iv n D) (nb : ¬ b) {t p : Int} (t0 : 0 ≤ t) (t1 : t < 3) (p0 : 0 ≤ p) (p1 : p < 5) : ACT c D b (fun h x => fX5_close c h (some x) (iI t) (iI p)) := by
  have at_ : ag t := ⟨by omega, by omega⟩
  have ap : ag p := ⟨by omega, by omega⟩
  have T := H.2.1
  unfold RgT at T
  have Q : ∀ (n : Int), n ≤ 1000 → ∀ (fz : Nat → Option Cl) (x : Nat) (h : Hp) (Z : Zt) (M : Nat → Nat → Int), zD Z = D → ZI n Z → WX fz x Z M h → Kon c fz → Rz c fz x M h (fX5_close c h (some x) (iI t) (iI p)) (rClo D t p) (zClo Z t p) := fun n hn fz x h Z M e I X K => by rw [← e]; exact x_close K X I at_ ap
  by_cases c1 : 0 ≤ p ∧ p ≤ 3
  · by_cases c2 : gF D t.toNat 8 = 0
    · refine act_no J (r := -5) ⟨by decide, by decide⟩ (by decide) (aok_no (by decide) (fun n hn fz x h Z M e I X K => ?_))
      have := Q n hn fz x h Z M e I X K
      unfold rClo zClo at this
      rw [e, if_neg (show ¬ ¬ (0 ≤ t ∧ t ≤ 2) by omega), if_neg (show ¬ ¬ (0 ≤ p ∧ p ≤ 3) by omega), if_pos c2, if_neg (show ¬ ¬ (0 ≤ t ∧ t ≤ 2) by omega), if_neg (show ¬ ¬ (0 ≤ p ∧ p ≤ 3) by omega), if_pos c2] at this
      exact this
    · by_cases c3 : manyI D 0 + manyI D 1 = 10
      · refine act_no J (r := -4) ⟨by decide, by decide⟩ (by decide) (aok_no (by decide) (fun n hn fz x h Z M e I X K => ?_))
        have := Q n hn fz x h Z M e I X K
        unfold rClo zClo at this
        rw [e, if_neg (show ¬ ¬ (0 ≤ t ∧ t ≤ 2) by omega), if_neg (show ¬ ¬ (0 ≤ p ∧ p ≤ 3) by omega), if_neg c2, if_pos c3, if_neg (show ¬ ¬ (0 ≤ t ∧ t ≤ 2) by omega), if_neg (show ¬ ¬ (0 ≤ p ∧ p ≤ 3) by omega), if_neg c2, if_pos c3] at this
        exact this
      · obtain ⟨r, e0, h3, hr, hf⟩ := freeI_c (Gl_free H.gl c3)
        have rt := (H.rw (r := t.toNat) (by omega)).2.2.2.1 (by omega)
        refine act_do (D' := cloD D r t.toNat p) nb (r := gT D 4 + 1) ⟨by omega, by omega⟩ (by omega) (Stq_close J h3 hr (by omega) hf (rt.2.2 3 (by decide) (by decide)) (rt.2.2 5 (by decide) (by decide))) (aok_do (by omega) (fun n hn fz x h Z M e I X K => ?_))
        have q := Q n hn fz x h Z M e I X K
        have z := ZI_close hn I (t := t) (p := p)
        unfold rClo at q
        unfold zClo at q z
        rw [e, if_neg (show ¬ ¬ (0 ≤ t ∧ t ≤ 2) by omega), if_neg (show ¬ ¬ (0 ≤ p ∧ p ≤ 3) by omega), if_neg c2, if_neg c3, e0, Int.toNat_natCast] at z
        rw [e, if_neg (show ¬ ¬ (0 ≤ t ∧ t ≤ 2) by omega), if_neg (show ¬ ¬ (0 ≤ p ∧ p ≤ 3) by omega), if_neg c2, if_neg c3, if_neg (show ¬ ¬ (0 ≤ t ∧ t ≤ 2) by omega), if_neg (show ¬ ¬ (0 ≤ p ∧ p ≤ 3) by omega), if_neg c2, if_neg c3, e0, Int.toNat_natCast] at q
        exact ⟨q, z⟩
  · refine act_no J (r := -2) ⟨by decide, by decide⟩ (by decide) (aok_no (by decide) (fun n hn fz x h Z M e I X K => ?_))
    have := Q n hn fz x h Z M e I X K
    unfold rClo zClo at this
    rw [e, if_neg (show ¬ ¬ (0 ≤ t ∧ t ≤ 2) by omega), if_pos c1, if_neg (show ¬ ¬ (0 ≤ t ∧ t ≤ 2) by omega), if_pos c1] at this
    exact this
theorem a_strike {b : Prop} [Decidable b] (J : JL D) (H : Iv n D) (nb : ¬ b) {t i : Int} (t0 : 0 ≤ t) (t1 : t < 3) (i0 : 0 ≤ i) (i1 : i < 4) : ACT c D b (fun h x => fX5_strike c h (some x) (iI t) (iI i)) := by
  have at_ : ag t := ⟨by omega, by omega⟩
  have ai : ag i := ⟨by omega, by omega⟩
  have Q : ∀ (n : Int), n ≤ 1000 → ∀ (fz : Nat → Option Cl) (x : Nat) (h : Hp) (Z : Zt) (M : Nat → Nat → Int), zD Z = D → ZI n Z → WX fz x Z M h → Kon c fz → Rz c fz x M h (fX5_strike c h (some x) (iI t) (iI i)) (rStr D t i) (zStr Z t i) := fun n hn fz x h Z M e I X K => by rw [← e]; exact x_strike K X I at_ ai
  by_cases c1 : 0 ≤ t ∧ t ≤ 2 ∧ 0 ≤ i ∧ i < gF D t.toNat 8
  · by_cases c2 : gP D t.toNat i.toNat 3 = 1
    · refine act_no J (r := -5) ⟨by decide, by decide⟩ (by decide) (aok_no (by decide) (fun n hn fz x h Z M e I X K => ?_))
      have := Q n hn fz x h Z M e I X K
      unfold rStr zStr at this
      rw [e, if_pos c1, if_pos c2, if_pos c1, if_pos c2] at this
      exact this
    · have bd := sum_bd ((H.1 t.toNat (by omega)).1.2.1 i.toNat)
      refine act_do (D' := strD D t i) nb (r := gP D t.toNat i.toNat 0 * gP D t.toNat i.toNat 1) ⟨by omega, by omega⟩ bd.1 (Stq_strike J ⟨t0, by omega⟩) (aok_do bd.1 (fun n hn fz x h Z M e I X K => ?_))
      have q := Q n hn fz x h Z M e I X K
      have z := (ZI_strike I (t := t) (i := i)).mono (show n ≤ n + 1 by omega)
      unfold rStr at q
      unfold zStr at q z
      rw [e, if_pos c1, if_neg c2] at z
      rw [e, if_pos c1, if_neg c2, if_pos c1, if_neg c2] at q
      exact ⟨q, z⟩
  · refine act_no J (r := -1) ⟨by decide, by decide⟩ (by decide) (aok_no (by decide) (fun n hn fz x h Z M e I X K => ?_))
    have := Q n hn fz x h Z M e I X K
    unfold rStr zStr at this
    rw [e, if_neg c1, if_neg c1] at this
    exact this
theorem a_set {b : Prop} [Decidable b] (J : JL D) (H : Iv n D) (nb : ¬ b) {s y : Int} (s0 : 0 ≤ s) (s1 : s < 3) (ay : ag y) : ACT c D b (fun h x => fX5_set c h (some x) (iI s) (iI y)) := by
  have as_ : ag s := ⟨by omega, by omega⟩
  have T := H.2.1
  unfold RgT at T
  by_cases ok : okSet s y
  · have rg : 0 ≤ gT D s.toNat ∧ gT D s.toNat ≤ 200 := by
      rcases (show s = 0 ∨ s = 1 ∨ s = 2 by omega) with e | e | e
      · subst e; show 0 ≤ gT D 0 ∧ gT D 0 ≤ 200; omega
      · subst e; show 0 ≤ gT D 1 ∧ gT D 1 ≤ 200; omega
      · subst e; show 0 ≤ gT D 2 ∧ gT D 2 ≤ 200; omega
    refine act_do (D' := sT D s.toNat y) nb (r := gT D s.toNat) ⟨by omega, by omega⟩ rg.1 (Stq_set J (by omega)) (aok_do rg.1 (fun n hn fz x h Z M e I X K => ?_))
    have q := (x_set K X I as_ ay).1 ok
    have z := (ZI_set I ok).mono (show n ≤ n + 1 by omega)
    rw [e] at q z
    exact ⟨q, z⟩
  · exact act_no J (r := -2) ⟨by decide, by decide⟩ (by decide) (aok_no (by decide) (fun n hn fz x h Z M e I X K => (x_set K X I as_ ay).2 ok))
theorem a_newRoll {b : Prop} [Decidable b] (J : JL D) (H : Iv n D) (hb : b) : ACT c D b (fun h x => fX5_newRoll c h (some x)) := by
  have T := H.2.1
  unfold RgT at T
  refine ⟨gT D 7, sT (sT (sT D 11 (gT D 11 + gT D 7)) 10 (gT D 10 + 1)) 7 (gT D 1), ⟨by omega, by omega⟩, by rw [if_pos ⟨by omega, hb⟩]; exact Stq_newRoll J, fun h => by omega, fun _ => by rw [gT_sT, gT_sT, gT_sT]; rfl, aok_do (by omega) (fun n hn fz x h Z M e I X K => ?_)⟩
  have q := x_newRoll K X I
  have z := (ZI_newRoll I).mono (show n ≤ n + 1 by omega)
  rw [e] at q z
  exact ⟨q, z⟩
theorem a_hurry {b : Prop} [Decidable b] (J : JL D) (H : Iv n D) (nb : ¬ b) {y p : Int} (hy : ag y) (p0 : 0 ≤ p) (p1 : p < 5) : ACT c D b (fun h x => fX5_hurry c h (some x) (iI y) (iI p)) := by
  have ap : ag p := ⟨by omega, by omega⟩
  have Q : ∀ (n : Int), n ≤ 1000 → ∀ (fz : Nat → Option Cl) (x : Nat) (h : Hp) (Z : Zt) (M : Nat → Nat → Int), zD Z = D → ZI n Z → WX fz x Z M h → Kon c fz → Rz c fz x M h (fX5_hurry c h (some x) (iI y) (iI p)) (rHur D y p) (zHur Z y p) := fun n hn fz x h Z M e I X K => by rw [← e]; exact x_hurry K X I hy ap
  rcases recI_c D y with e0 | ⟨r, e0, h3, hr, y0, hx⟩
  · refine act_no J (r := -1) ⟨by decide, by decide⟩ (by decide) (aok_no (by decide) (fun n hn fz x h Z M e I X K => ?_))
    have := Q n hn fz x h Z M e I X K
    unfold rHur zHur at this
    rw [e, if_pos e0, if_pos e0] at this
    exact this
  · have n6 : ¬ recI D y = -6 := by omega
    by_cases c1 : 0 ≤ p ∧ p ≤ 3
    · by_cases c2 : gF D r 3 = 0
      · have g2 := (H.1 r hr).2.2.1 2 (by decide)
        refine act_do (D' := sFl D r 2 p) nb (r := gF D r 2) ⟨by omega, by omega⟩ g2.1 (Stq_hurry J) (aok_do g2.1 (fun n hn fz x h Z M e I X K => ?_))
        have q := Q n hn fz x h Z M e I X K
        have z := (ZI_hurry I (x := y) (y := p)).mono (show n ≤ n + 1 by omega)
        unfold rHur at q
        unfold zHur at q z
        rw [e, if_neg n6, if_neg (show ¬ ¬ (0 ≤ p ∧ p ≤ 3) by omega), e0, Int.toNat_natCast, if_pos c2] at z
        rw [e, if_neg n6, if_neg (show ¬ ¬ (0 ≤ p ∧ p ≤ 3) by omega), if_neg n6, if_neg (show ¬ ¬ (0 ≤ p ∧ p ≤ 3) by omega), e0, Int.toNat_natCast, if_pos c2, if_pos c2] at q
        exact ⟨q, z⟩
      · refine act_no J (r := -5) ⟨by decide, by decide⟩ (by decide) (aok_no (by decide) (fun n hn fz x h Z M e I X K => ?_))
        have q := Q n hn fz x h Z M e I X K
        unfold rHur zHur at q
        rw [e, if_neg n6, if_neg (show ¬ ¬ (0 ≤ p ∧ p ≤ 3) by omega), if_neg n6, if_neg (show ¬ ¬ (0 ≤ p ∧ p ≤ 3) by omega), e0, Int.toNat_natCast, if_neg c2, if_neg c2] at q
        exact q
    · refine act_no J (r := -2) ⟨by decide, by decide⟩ (by decide) (aok_no (by decide) (fun n hn fz x h Z M e I X K => ?_))
      have := Q n hn fz x h Z M e I X K
      unfold rHur zHur at this
      rw [e, if_neg n6, if_pos c1, if_neg n6, if_pos c1] at this
      exact this
theorem a_tear {b : Prop} [Decidable b] (J : JL D) (H : Iv n D) (nb : ¬ b) {v : Int} (v0 : 1 ≤ v) (v1 : v ≤ 6) : ACT c D b (fun h x => fX5_tear c h (some x) (iI v)) := by
  have av : ag v := ⟨by omega, by omega⟩
  have nv : ¬ ¬ (1 ≤ v ∧ v ≤ 99) := by omega
  have Q : ∀ (n : Int), n ≤ 1000 → ∀ (fz : Nat → Option Cl) (x : Nat) (h : Hp) (Z : Zt) (M : Nat → Nat → Int), zD Z = D → ZI n Z → WX fz x Z M h → Kon c fz → Rz c fz x M h (fX5_tear c h (some x) (iI v)) (rTear D v) (zTear Z v) := fun n hn fz x h Z M e I X K => by rw [← e]; exact x_tear K X I av
  rcases prtI_c D with e0 | ⟨r, e0, h3, hr, hw⟩
  · refine act_no J (r := -5) ⟨by decide, by decide⟩ (by decide) (aok_no (by decide) (fun n hn fz x h Z M e I X K => ?_))
    have := Q n hn fz x h Z M e I X K
    unfold rTear zTear at this
    rw [e, if_neg nv, if_pos e0, if_neg nv, if_pos e0] at this
    exact this
  · have n6 : ¬ prtI D = -6 := by omega
    have nn := hwP_t.mp hw
    by_cases c1 : gF D r 5 < v
    · refine act_no J (r := -5) ⟨by decide, by decide⟩ (by decide) (aok_no (by decide) (fun n hn fz x h Z M e I X K => ?_))
      have := Q n hn fz x h Z M e I X K
      unfold rTear zTear at this
      rw [e, if_neg nv, if_neg n6, if_neg nv, if_neg n6, e0, Int.toNat_natCast, if_pos c1, if_pos c1] at this
      exact this
    · have f5 := (H.1 r hr).2.2.1 5 (by decide)
      have isr : isR D r := ⟨hr, Or.inr nn.1⟩
      have wd := wdI_rg H.ok isr
      have nr := numI_rg H.ok hr
      have bg := begI_rg (D := D) (r := r) (num := numI D r) (w := gF D r 5 - v) (width := wdI D r) (H.1 r hr).1 nr.1 nr.2 wd.1 wd.2 (by omega)
      have S : Stq 0 D (tearD D v) := by
        unfold tearD
        rw [e0, Int.toNat_natCast]
        exact Stq_tear J e0 hw rfl
      refine act_do (D' := tearD D v) nb (r := gF D r 5 - begI D r (numI D r) (gF D r 5 - v) (wdI D r)) ⟨by omega, by omega⟩ (by omega) S (aok_do (by omega) (fun n hn fz x h Z M e I X K => ?_))
      have q := Q n hn fz x h Z M e I X K
      have z := (ZI_tear I (x := v)).mono (show n ≤ n + 1 by omega)
      unfold rTear at q
      unfold zTear at q z
      have n5 : ¬ gF D (prtI D).toNat 5 < v := by rw [e0, Int.toNat_natCast]; exact c1
      rw [e, if_neg nv, if_neg n6, if_neg n5] at z
      rw [e, if_neg nv, if_neg n6, if_neg n5, if_neg nv, if_neg n6, if_neg n5, e0, Int.toNat_natCast] at q
      exact ⟨q, z⟩
theorem a_pass {b : Prop} [Decidable b] (hn : n ≤ 1000) (J : JL D) (H : Iv n D) (nb : ¬ b) {t : Int} (t0 : 1 ≤ t) (t1 : t ≤ 8) : ACT c D b (fun h x => fX5_pass c h (some x) (iI t)) := by
  have at_ : ag t := ⟨by omega, by omega⟩
  have T := H.2.1
  unfold RgT at T
  have nv : ¬ ¬ (1 ≤ t ∧ t ≤ 99) := by omega
  by_cases c1 : 9999 < gT D 3 + t
  · refine act_no J (r := -5) ⟨by decide, by decide⟩ (by decide) (aok_no (by decide) (fun n hn fz x h Z M e I X K => ?_))
    have := x_pass hn K X I at_
    rw [e, if_neg nv, if_pos c1, if_neg nv, if_pos c1] at this
    exact this
  · have p0 : 0 ≤ (psL t.toNat 0 D).1 := psL_n t.toNat 0 D
    have p1 := psL_le t.toNat 0 D (by omega)
    refine act_do (D' := (psL t.toNat 0 D).2) nb (r := (psL t.toNat 0 D).1) ⟨by omega, by omega⟩ p0 (Stq_pass hn J H (by omega) (by omega)) (aok_do p0 (fun n hn fz x h Z M e I X K => ?_))
    have q := x_pass hn K X I at_
    have z := (ZI_pass hn I (t := t)).mono (show n ≤ n + 1 by omega)
    rw [e, if_neg nv, if_neg c1] at z
    rw [e, if_neg nv, if_neg c1, if_neg nv, if_neg c1] at q
    exact ⟨q, z⟩
end
