/-! A RING, AND ALL CALLS OF A TURN -/
def ZcD (D : Dt) : Zt := (D, 0, (fun _ => D), (fun _ => false), (fun _ => D), 0, fun _ => 0)
/-- the pad as the law writes it, of any world -/
def padZ (w : Int32) (Z : Zt) : Zt := putsZ w 0 ((lowN w 12).toNat + 1) (zPad Z 0 (zp Z))
theorem padZ_kp (w : Int32) (Z : Zt) : kpP Z (padZ w Z) := (kpP_pad Z 0 (zp Z)).tr (kpP_puts _ 0 _)
theorem padZ_sp (w : Int32) {Z : Zt} {D : Dt} (e : zD Z = D) : sp (padZ w Z) (padZ w (ZcD D)) := sp_puts _ 0 _ _ ⟨e, rfl, fun j hj => absurd hj (Nat.not_lt_zero j)⟩
def rgM (w : Int32) : Int := if ((shrI w (iI 20)) &&& (iI 1)) = iI 0 then 1 + lowN (shrI w (iI 5)) 1 else 1 + lowN (shrI w (iI 5)) 99
def rgP (w : Int32) : Int := 1 + lowN (shrI w (iI 3)) 9999
def rgX (w : Int32) : Int := lowN (shrI w (iI 7)) 3
theorem rgM_rg (w : Int32) : 1 ≤ rgM w ∧ rgM w ≤ 99 := by
  have a := lowN_rg (shrI w (iI 5)) (n := 1) (by decide)
  have b := lowN_rg (shrI w (iI 5)) (n := 99) (by decide)
  unfold rgM
  split <;> omega
theorem rgP_rg (w : Int32) : 1 ≤ rgP w ∧ rgP w ≤ 9999 := by
  have a := lowN_rg (shrI w (iI 3)) (n := 9999) (by decide)
  unfold rgP
  omega
theorem rgX_rg (w : Int32) : 0 ≤ rgX w ∧ rgX w ≤ 2 := by
  have a := lowN_rg (shrI w (iI 7)) (n := 3) (by decide)
  unfold rgX
  omega
section
variable {c : Nat → Option Nat} {n : Int} {D : Dt}
theorem low_cc {h : Hp} {k : Hp → Int32 → Rs} (v : Int32) {m : Int} (n0 : 0 < m) (n1 : m < 2147483648) : cc (fL_low c h v (iI m)) (kI k) = k h (iI (lowN v m)) := by
  rw [w_low v n0 n1]
  rfl
theorem w_299 {x : Nat} {h : Hp} {w : Int32} {t k : Int} (k0 : 0 < k) (k1 : k < 100) : fL_act_299 c h w (some x) (iI t) (iI 1) (shrI w (iI 5)) (iI k) = ck h (some x) 7 (cc (fX5_ring c h (some x) (iI t) (iI (1 + lowN (shrI w (iI 5)) k)) (iI (rgP w)) (iI (rgX w))) (kI fun h13 x14 => some (h13, some (.inl x14)))) := by
  obtain ⟨q, hq⟩ : ∃ q : Int, q = 9999 := ⟨_, rfl⟩
  have eP : rgP w = 1 + lowN (shrI w (iI 3)) q := by rw [hq]; rfl
  have eX : rgX w = lowN (shrI w (iI 7)) 3 := rfl
  have h9 : (9999 : Int32) = iI q := by rw [hq]; exact iI_l 9999
  rw [eP, eX]
  unfold fL_act_299
  rw [h9]
  simp only [iI_l]
  rw [low_cc _ k0 (by omega), low_cc _ (by omega) (by omega), low_cc _ (by decide) (by decide), iI_add, iI_add]
theorem step1 {fz : Nat → Option Cl} {x : Nat} {h h1 : Hp} {Z : Zt} {M : Nat → Nat → Int} {v : Int32} {o : Rs} (X : WX fz x Z M h) (e : o = some (h1, some (.inl v))) (k : Hp → Int32 → Rs) : ck h (some x) 7 (cc o (kI k)) = k h1 v := by
  rw [wx_ck X, e]
  rfl
theorem w_ring {fz : Nat → Option Cl} {x : Nat} {h : Hp} {Z : Zt} {M : Nat → Nat → Int} (w : Int32) {t : Int} (at_ : ag t) (I : ZI n Z) (X : WX fz x Z M h) (K : Kon c fz) : ∃ h' fz', ck h (some x) 7 (cc (fX5_wipe c h (some x)) (kI fun h21 _ => fL_act_218 c FU h21 (some x) w (iI t) (iI 0))) = some (h', some (.inl (iI (rRing (padZ w Z) t (rgM w) (rgP w) (rgX w))))) ∧ WX fz' x (zRing (padZ w Z) t (rgM w) (rgP w) (rgX w)) M h' ∧ (Kon c fz' ∧ ∀ q e, fz q = some e → fz' q = some e) ∧ (h.2.1 ≤ h'.2.1 ∧ h'.2.1 ≤ h.2.1 + 1500 ∧ h'.2.2 ≤ h.2.2 + 40000) ∧ ZI n (zRing (padZ w Z) t (rgM w) (rgP w) (rgX w)) := by
  obtain ⟨h1, fz1, e1, X1, K1, b1, b2, b3⟩ := x_wipe K X I
  have a12 := lowN_rg w (n := 12) (by decide)
  obtain ⟨h2, fz2, e2, X2, I2, K2, d1, d2, d3⟩ := w_218 (c := c) (t := t) (w := w) (A := (lowN w 12).toNat) (by omega) ((lowN w 12).toNat + 1) FU 0 fz1 h1 _ (by unfold FU; omega) (by omega) X1 (ZI_wipe I) K1.1
  have gm := rgM_rg w
  have gp := rgP_rg w
  have gx := rgX_rg w
  obtain ⟨h3, fz3, e3, X3, K3, f1, f2, f3⟩ := x_ring K2.1 X2 I2 at_ (show ag (rgM w) from ⟨by omega, by omega⟩) (show ag (rgP w) from ⟨by omega, by omega⟩) (show ag (rgX w) from ⟨by omega, by omega⟩)
  refine ⟨h3, fz3, ?_, X3, ⟨K3.1, fun q e he => K3.2 q e (K2.2 q e (K1.2 q e he))⟩, ⟨by omega, by omega, by omega⟩, ZI_ring I2⟩
  rw [show ((0 : Nat) : Int) = 0 from rfl] at e2
  refine (step1 X e1 _).trans (e2.trans ?_)
  have fin : ∀ k : Int, 0 < k → k < 100 → rgM w = 1 + lowN (shrI w (iI 5)) k → fL_act_299 c h2 w (some x) (iI t) (iI 1) (shrI w (iI 5)) (iI k) = some (h3, some (.inl (iI (rRing (padZ w Z) t (rgM w) (rgP w) (rgX w))))) := fun k k0 k1 ek => by
    rw [w_299 k0 k1, ← ek]
    exact step1 X2 e3 _
  by_cases c1 : ((shrI w (iI 20)) &&& (iI 1)) = iI 0
  · rw [if_pos c1]
    exact fin 1 (by decide) (by decide) (if_pos c1)
  · rw [if_neg c1]
    exact fin 99 (by decide) (by decide) (if_neg c1)
theorem a_ring {b : Prop} [Decidable b] (J : JL D) (H : Iv n D) (nb : ¬ b) (w : Int32) {t : Int} (t0 : 0 ≤ t) (t1 : t < 3) : ACT c D b (fun h x => ck h (some x) 7 (cc (fX5_wipe c h (some x)) (kI fun h21 _ => fL_act_218 c FU h21 (some x) w (iI t) (iI 0)))) := by
  have at_ : ag t := ⟨by omega, by omega⟩
  have gm := rgM_rg w
  have gp := rgP_rg w
  have gx := rgX_rg w
  have ac : ∀ Z, zD Z = D → zD (padZ w Z) = D := fun Z e => (padZ_kp w Z).1.trans e
  have fl : ∀ Z, zD Z = D → flI (padZ w Z) = flI (padZ w (ZcD D)) := fun Z e => flI_sp (padZ_sp w e)
  have nt : ¬ ¬ (0 ≤ t ∧ t ≤ 2) := by omega
  have nm : ¬ ¬ (1 ≤ rgM w ∧ rgM w ≤ 99) := by omega
  have np : ¬ ¬ (1 ≤ rgP w ∧ rgP w ≤ 9999) := by omega
  have nx : ¬ ¬ (0 ≤ rgX w ∧ rgX w ≤ 2) := by omega
  have no : ∀ r : Int, r < 0 → ag r → (∀ Z, zD Z = D → rRing (padZ w Z) t (rgM w) (rgP w) (rgX w) = r ∧ zRing (padZ w Z) t (rgM w) (rgP w) (rgX w) = padZ w Z) → ACT c D b (fun h x => ck h (some x) 7 (cc (fX5_wipe c h (some x)) (kI fun h21 _ => fL_act_218 c FU h21 (some x) w (iI t) (iI 0)))) := fun r hr ar R => act_no J ar hr (fun n hn fz x h Z M e I X K => by
    obtain ⟨h1, fz1, e1, X1, K1, b1, I1⟩ := w_ring w at_ I X K
    obtain ⟨r1, r2⟩ := R Z e
    rw [r1] at e1
    rw [r2] at X1 I1
    exact ⟨h1, fz1, padZ w Z, e1, X1, K1, b1, I1.mono (by omega), ac Z e, fun _ => (padZ_kp w Z).2.1, fun h => by omega⟩)
  by_cases c1 : flI (padZ w (ZcD D)) ≠ -6
  · exact no (-3) (by decide) ⟨by decide, by decide⟩ (fun Z e => by
      unfold rRing zRing
      rw [fl Z e, if_neg nt, if_pos c1, if_neg nt, if_pos c1]
      exact ⟨rfl, rfl⟩)
  · by_cases c2 : gF D t.toNat 8 = 12
    · exact no (-4) (by decide) ⟨by decide, by decide⟩ (fun Z e => by
        unfold rRing zRing
        rw [fl Z e, ac Z e, if_neg nt, if_neg c1, if_neg nm, if_neg np, if_neg nx, if_pos c2, if_neg nt, if_neg c1, if_neg nm, if_neg np, if_neg nx, if_pos c2]
        exact ⟨rfl, rfl⟩)
    · have g8 := (H.1 t.toNat (by omega)).1.1
      have S : Stq 0 D (rngD (padZ w (ZcD D)) t.toNat (rgM w) (rgP w) (rgX w)) := by
        have e : zD (padZ w (ZcD D)) = D := ac (ZcD D) rfl
        have := Stq_ring (Z := padZ w (ZcD D)) (t := t.toNat) (m := rgM w) (p := rgP w) (x := rgX w) (by rw [e]; exact J) (by omega)
        rw [e] at this
        exact this
      refine act_do (D' := rngD (padZ w (ZcD D)) t.toNat (rgM w) (rgP w) (rgX w)) nb (r := gF D t.toNat 8) ⟨by omega, by omega⟩ g8.1 S (fun n hn fz x h Z M e I X K => ?_)
      obtain ⟨h1, fz1, e1, X1, K1, b1, I1⟩ := w_ring w at_ I X K
      have r1 : rRing (padZ w Z) t (rgM w) (rgP w) (rgX w) = gF D t.toNat 8 := by
        unfold rRing
        rw [fl Z e, ac Z e, if_neg nt, if_neg c1, if_neg nm, if_neg np, if_neg nx, if_neg c2]
      have r2 : zRing (padZ w Z) t (rgM w) (rgP w) (rgX w) = zPad (zDo (padZ w Z) (rngD (padZ w (ZcD D)) t.toNat (rgM w) (rgP w) (rgX w))) 0 (zp (padZ w Z)) := by
        unfold zRing
        rw [fl Z e, ac Z e, if_neg nt, if_neg c1, if_neg nm, if_neg np, if_neg nx, if_neg c2, rngD_sp (padZ_sp w e)]
      rw [r1] at e1
      rw [r2] at X1 I1
      have kp := padZ_kp w Z
      have z := zdo_n (Z := padZ w Z) (D := rngD (padZ w (ZcD D)) t.toNat (rgM w) (rgP w) (rgX w)) (by rw [kp.2.1]; exact I.2.1)
      refine ⟨h1, fz1, _, e1, X1, K1, b1, I1.mono (by omega), z.2.2, fun h => by omega, fun _ => ⟨?_, ?_⟩⟩
      · have := z.1
        rw [kp.2.1] at this
        exact this
      · exact z.2.1.trans (ac Z e)
theorem key_of (v : Int32) : ∃ k : Nat, k < 16 ∧ v &&& iI 15 = iI (k : Int) := by
  have e : v = iI (v.toBitVec.toNat : Int) := by
    apply Int32.toBitVec_inj.mp
    rw [iI_bv]
    simp
  refine ⟨v.toBitVec.toNat &&& 15, by have : v.toBitVec.toNat &&& 15 ≤ 15 := Nat.and_le_right; omega, ?_⟩
  have h := and_iI (a := v.toBitVec.toNat) (b := 15)
  rw [← e] at h
  exact h
theorem ck_one {fz : Nat → Option Cl} {x : Nat} {h : Hp} {Z : Zt} {M : Nat → Nat → Int} (X : WX fz x Z M h) (o : Rs) (e : ∀ h' v, o = some (h', v) → ∃ y, v = some (.inl y)) : ck h (some x) 7 (cc o (kI fun h1 x1 => some (h1, some (.inl x1)))) = o := by
  rw [wx_ck X]
  rcases o with _ | ⟨h', v⟩
  · rfl
  · obtain ⟨y, rfl⟩ := e h' v rfl
    rfl
end
