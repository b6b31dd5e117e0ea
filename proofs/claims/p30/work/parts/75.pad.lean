/-! NAMES AS THE LAW PUTS THEM -/
/-- the same pad -/
def sp (Z Z2 : Zt) : Prop := zD Z = zD Z2 ∧ zl Z = zl Z2 ∧ ∀ j, j < zl Z → zp Z j = zp Z2 j
/-- nothing but the pad is another -/
def kpP (Z Z2 : Zt) : Prop := zD Z2 = zD Z ∧ zn Z2 = zn Z ∧ zH Z2 = zH Z
theorem kpP.tr {Z Z2 Z3 : Zt} (h : kpP Z Z2) (h' : kpP Z2 Z3) : kpP Z Z3 := ⟨h'.1.trans h.1, h'.2.1.trans h.2.1, h'.2.2.trans h.2.2⟩
theorem kpP_pad (Z : Zt) (l : Nat) (p : Nat → Int) : kpP Z (zPad Z l p) := ⟨rfl, rfl, rfl⟩
theorem kpP_put (Z : Zt) (u : Nat) : kpP Z (zPut Z u) := by
  unfold zPut
  split
  · exact ⟨rfl, rfl, rfl⟩
  · split
    · exact ⟨rfl, rfl, rfl⟩
    · exact kpP_pad Z _ _
theorem sp_put {Z Z2 : Zt} (h : sp Z Z2) (u : Nat) : sp (zPut Z u) (zPut Z2 u) := by
  unfold zPut
  rw [← h.2.1]
  split
  · exact h
  · split
    · exact h
    · refine ⟨h.1, rfl, fun j hj => ?_⟩
      change j < zl Z + (pcI u).1 at hj
      show putP Z u (pcI u).1 j = putP Z2 u (pcI u).1 j
      unfold putP
      rw [← h.2.1]
      by_cases e : zl Z + 0 ≤ j ∧ j < zl Z + (pcI u).1
      · rw [if_pos e, if_pos e]
      · rw [if_neg e, if_neg e]; exact h.2.2 j (by omega)
/-- the sign that is put as the k-th -/
def chW (w : Int32) (k : Nat) : Nat := if (iI (k : Int) &&& iI 3) = iI 3 then (if (k : Int) < lowN w 12 then 95 else 97 + (lowN (shrI w (iI (k : Int))) 26).toNat) else 97 + (lowN (shrI w (iI (k : Int))) 26).toNat
def putsZ (w : Int32) : Nat → Nat → Zt → Zt
  | _, 0, Z => Z
  | k, m + 1, Z => putsZ w (k + 1) m (zPut Z (chW w k))
theorem kpP_puts {w : Int32} : ∀ (m k : Nat) (Z : Zt), kpP Z (putsZ w k m Z)
  | 0, _, _ => ⟨rfl, rfl, rfl⟩
  | m + 1, k, Z => (kpP_put Z _).tr (kpP_puts m (k + 1) _)
theorem sp_puts {w : Int32} : ∀ (m k : Nat) (Z Z2 : Zt), sp Z Z2 → sp (putsZ w k m Z) (putsZ w k m Z2)
  | 0, _, _, _, h => h
  | m + 1, k, _, _, h => sp_puts m (k + 1) _ _ (sp_put h _)
theorem stB_cg {p p2 : Nat → Int} {k len : Nat} (h : ∀ j, j < len → p j = p2 j) (hk : k < len) : stB p k = stB p2 k := by
  unfold stB
  rw [h k hk]
  cases k with
  | zero => simp
  | succ k => rw [show k + 1 - 1 = k by omega, h k (by omega)]
theorem flL_cg {p p2 : Nat → Int} {len : Nat} (h : ∀ j, j < len → p j = p2 j) : ∀ (m k : Nat), k + m = len → flL p len k m = flL p2 len k m
  | 0, k, e => by
    have : (len = 0 ∨ p (len - 1) = 95) = (len = 0 ∨ p2 (len - 1) = 95) := by
      by_cases e0 : len = 0
      · simp [e0]
      · rw [h (len - 1) (by omega)]
    rw [flL, flL]
    simp only [this]
  | m + 1, k, e => by
    rw [flL, flL, stB_cg h (show k < len by omega), flL_cg h m (k + 1) (by omega)]
theorem flI_sp {Z Z2 : Zt} (h : sp Z Z2) : flI Z = flI Z2 := by
  unfold flI
  rw [← h.2.1]
  exact flL_cg h.2.2 (zl Z) 0 (by omega)
theorem nmK_sp {Z Z2 : Zt} (h : sp Z Z2) : nmK (zp Z) (zl Z) = nmK (zp Z2) (zl Z2) := by
  funext j
  unfold nmK
  rw [← h.2.1]
  by_cases e : j < zl Z
  · rw [if_pos e, if_pos e, h.2.2 j e]
  · rw [if_neg e, if_neg e]
theorem rngD_sp {Z Z2 : Zt} (h : sp Z Z2) (t : Nat) (m p x : Int) : rngD Z t m p x = rngD Z2 t m p x := by
  unfold rngD
  rw [nmK_sp h, h.1, h.2.1]
theorem pc1 {u : Nat} (h : u < 256) : (pcI u).1 ≤ 1 := by
  unfold pcI pcL
  split
  · exact Nat.zero_le 1
  · rw [pcL]
    have : byP u (0 + 1) = 0 := by
      unfold byP
      rw [Nat.div_eq_of_lt (by show u < 2 ^ 8; omega)]
    rw [if_pos this]
    exact Nat.le_refl 1
theorem to64 : ∀ k : Fin 256, Int32.toInt64 (iI (k.val : Int)) = lL k.val := by decide +kernel
theorem chW_lt (w : Int32) (k : Nat) : chW w k < 256 := by
  have a := lowN_rg (shrI w (iI (k : Int))) (n := 26) (by decide)
  unfold chW
  split
  · split <;> omega
  · omega
section
variable {c : Nat → Option Nat} {x : Nat} {M : Nat → Nat → Int} {n : Int}
/-- one sign is put -/
theorem w_268 {w : Int32} {t : Int} {k218 : Hp → Option Nat → Int32 → Int32 → Int32 → Rs} {fz : Nat → Option Cl} {h : Hp} {Z : Zt} (X : WX fz x Z M h) (I : ZI n Z) (K : Kon c fz) {k : Nat} {s : Int64} (es : s = lL (chW w k)) : ∃ h' fz', fL_act_268 c k218 h (some x) w (iI t) (iI (k : Int)) (some x) s = k218 h' (some x) w (iI t) (iI ((k + 1 : Nat) : Int)) ∧ WX fz' x (zPut Z (chW w k)) M h' ∧ (Kon c fz' ∧ ∀ q e, fz q = some e → fz' q = some e) ∧ h.2.1 ≤ h'.2.1 ∧ h'.2.1 ≤ h.2.1 + 100 ∧ h'.2.2 ≤ h.2.2 + 1000 := by
  have u := chW_lt w k
  obtain ⟨h1, fz1, e1, X1, K1, b1, b2, b3⟩ := x_put K X I (u := chW w k) (by omega)
  have p := pc1 u
  refine ⟨h1, fz1, ?_, X1, K1, b1, b2, by omega⟩
  unfold fL_act_268
  simp only [iI_l, iI_add]
  rw [wx_ck X, es, e1]
  simp only [cc_s, kI_i]
  rfl
theorem w_255 {w : Int32} {t : Int} {k218 : Hp → Option Nat → Int32 → Int32 → Int32 → Rs} {h : Hp} {k : Nat} : fL_act_255 c k218 h (some x) w (iI t) (iI (k : Int)) (some x) = fL_act_268 c k218 h (some x) w (iI t) (iI (k : Int)) (some x) (lL (97 + (lowN (shrI w (iI (k : Int))) 26).toNat)) := by
  have a := lowN_rg (shrI w (iI (k : Int))) (n := 26) (by decide)
  unfold fL_act_255
  simp only [iI_l]
  rw [w_low _ (by decide) (by decide)]
  simp only [cc_s, kI_i, iI_add]
  have := to64 ⟨97 + (lowN (shrI w (iI (k : Int))) 26).toNat, by omega⟩
  rw [← this]
  congr 3
theorem w_218 {w : Int32} {t : Int} {A : Nat} (hA : (A : Int) = lowN w 12) : ∀ (m fu k : Nat) (fz : Nat → Option Cl) (h : Hp) (Z : Zt), m < fu → k + m = A + 1 → WX fz x Z M h → ZI n Z → Kon c fz → ∃ h' fz', fL_act_218 c fu h (some x) w (iI t) (iI (k : Int)) = (if ((shrI w (iI 20)) &&& (iI 1)) = iI 0 then fL_act_299 c h' w (some x) (iI t) (iI 1) (shrI w (iI 5)) (iI 1) else fL_act_299 c h' w (some x) (iI t) (iI 1) (shrI w (iI 5)) (iI 99)) ∧ WX fz' x (putsZ w k m Z) M h' ∧ ZI n (putsZ w k m Z) ∧ (Kon c fz' ∧ ∀ q e, fz q = some e → fz' q = some e) ∧ h.2.1 ≤ h'.2.1 ∧ h'.2.1 ≤ h.2.1 + 100 * m ∧ h'.2.2 ≤ h.2.2 + 1000 * m := by
  have a12 := lowN_rg w (n := 12) (by decide)
  intro m
  induction m with
  | zero =>
    intro fu k fz h Z hf hk X I K
    obtain ⟨f, rfl⟩ : ∃ f, fu = f + 1 := ⟨fu - 1, by omega⟩
    refine ⟨h, fz, ?_, X, I, ⟨K, fun _ _ e => e⟩, Nat.le_refl _, by omega, by omega⟩
    unfold fL_act_218
    simp only [iI_l]
    rw [w_low _ (by decide) (by decide)]
    simp only [cc_s, kI_i]
    rw [if_pos (show iI (lowN w 12) < iI (k : Int) from (by rw [lt_i (by omega) (by omega) (by omega) (by omega)]; omega))]
  | succ m ih =>
    intro fu k fz h Z hf hk X I K
    obtain ⟨f, rfl⟩ : ∃ f, fu = f + 1 := ⟨fu - 1, by omega⟩
    have put : ∀ s : Int64, s = lL (chW w k) → ∃ h' fz', fL_act_268 c (fL_act_218 c f) h (some x) w (iI t) (iI (k : Int)) (some x) s = (if ((shrI w (iI 20)) &&& (iI 1)) = iI 0 then fL_act_299 c h' w (some x) (iI t) (iI 1) (shrI w (iI 5)) (iI 1) else fL_act_299 c h' w (some x) (iI t) (iI 1) (shrI w (iI 5)) (iI 99)) ∧ WX fz' x (putsZ w k (m + 1) Z) M h' ∧ ZI n (putsZ w k (m + 1) Z) ∧ (Kon c fz' ∧ ∀ q e, fz q = some e → fz' q = some e) ∧ h.2.1 ≤ h'.2.1 ∧ h'.2.1 ≤ h.2.1 + 100 * (m + 1) ∧ h'.2.2 ≤ h.2.2 + 1000 * (m + 1) := fun s es => by
      obtain ⟨h1, fz1, e1, X1, K1, b1, b2, b3⟩ := w_268 (t := t) (k218 := fL_act_218 c f) X I K es
      obtain ⟨h2, fz2, e2, X2, I2, K2, d1, d2, d3⟩ := ih f (k + 1) fz1 h1 _ (by omega) (by omega) X1 (ZI_put I) K1.1
      exact ⟨h2, fz2, e1.trans e2, X2, I2, ⟨K2.1, fun q e he => K2.2 q e (K1.2 q e he)⟩, by omega, by omega, by omega⟩
    unfold fL_act_218
    simp only [iI_l]
    rw [w_low _ (by decide) (by decide)]
    simp only [cc_s, kI_i]
    rw [if_neg (show ¬ iI (lowN w 12) < iI (k : Int) from (by rw [lt_i (by omega) (by omega) (by omega) (by omega)]; omega))]
    by_cases c3 : (iI (k : Int) &&& iI 3) = iI 3
    · rw [if_pos c3, w_low _ (by decide) (by decide)]
      simp only [cc_s, kI_i]
      by_cases c4 : (k : Int) < lowN w 12
      · rw [if_pos (show iI (k : Int) < iI (lowN w 12) from (by rw [lt_i (by omega) (by omega) (by omega) (by omega)]; omega))]
        exact put _ (by unfold chW; rw [if_pos c3, if_pos c4]; rfl)
      · rw [if_neg (show ¬ iI (k : Int) < iI (lowN w 12) from (by rw [lt_i (by omega) (by omega) (by omega) (by omega)]; omega)), w_255]
        exact put _ (by unfold chW; rw [if_pos c3, if_neg c4])
    · rw [if_neg c3, w_255]
      exact put _ (by unfold chW; rw [if_neg c3])
end
