/-! THE LAW'S QUESTIONS -/
/-- what is asked gives a, and nothing that is told is another -/
def Ra (fz : Nat → Option Cl) (x : Nat) (M : Nat → Nat → Int) (h : Hp) (a : AV) (o : Rs) (Z : Zt) : Prop := ∃ h', o = some (h', some a) ∧ WX fz x Z M h' ∧ h'.2 = h.2
def andN (v : Int32) : Nat := v.toBitVec.toNat &&& 2147483647
def lowN (v : Int32) (n : Int) : Int := (andN v : Int) % n
theorem and_max (v : Int32) : v &&& iI 2147483647 = iI (andN v : Int) := by
  have e : v = iI (v.toBitVec.toNat : Int) := by
    apply Int32.toBitVec_inj.mp
    rw [iI_bv]
    exact (BitVec.ofNat_toNat 32 v.toBitVec).symm.trans (by rw [BitVec.ofNat_toNat]) |>.trans (by simp)
  have h := and_iI (a := v.toBitVec.toNat) (b := 2147483647)
  rw [← e] at h
  exact h
theorem andN_le (v : Int32) : andN v ≤ 2147483647 := Nat.and_le_right
theorem lowN_rg (v : Int32) {n : Int} (h : 0 < n) : 0 ≤ lowN v n ∧ lowN v n < n := ⟨Int.emod_nonneg _ (by omega), Int.emod_lt_of_pos _ h⟩
theorem w_low {c : Nat → Option Nat} {h : Hp} (v : Int32) {n : Int} (n0 : 0 < n) (n1 : n < 2147483648) : fL_low c h v (iI n) = some (h, some (.inl (iI (lowN v n)))) := by
  have a := andN_le v
  unfold fL_low
  simp only [iI_l]
  rw [and_max, dv_i n0 n1, div_i (by omega) (by omega) n0 n1, iI_mul, iI_sub]
  unfold lowN
  rw [Int.emod_def, Int.mul_comm]
/-- a script's int, or what stands for it -/
theorem w_cell {c : Nat → Option Nat} {h : Hp} {b L : Nat} {g : Nat → Int32} (hb : h.1 b = some (.inl (10, L, .inl g))) (hL : L ≤ 260) {k : Int} (k0 : 0 ≤ k) (k1 : k < 1000) : ∃ v, fL_cell c h (some b) (iI k) = some (h, some (.inl v)) := by
  unfold fL_cell
  rw [lenA_e hb]
  by_cases e : k < L
  · rw [if_pos (show iI k < iI (L : Int) from (by rw [lt_i (by omega) (by omega) (by omega) (by omega)]; omega))]
    exact ⟨g k.toNat, by rw [aldI_e hb (by decide) (by omega) (by omega) (by omega)]; rfl⟩
  · rw [if_neg (show ¬ iI k < iI (L : Int) from (by rw [lt_i (by omega) (by omega) (by omega) (by omega)]; omega))]
    exact ⟨_, rfl⟩
def td (f : Nat → Int) : Nat → Nat → Int64 → Int64
  | _, 0, a => a
  | k, m + 1, a => td f (k + 1) m ((31 : Int64) * a + Int32.toInt64 (iI (f k)))
def tdN (D : Dt) : Nat → Nat → Int64 → Int64
  | _, 0, a => a
  | k, m + 1, a => tdN D (k + 1) m (if rRcp D k 0 < 0 then a else td (fun w => rRcp D k w) 0 10 a)
def cD (D : Dt) (k : Nat) : Int := rCnt (D, 0, (fun _ => D), (fun _ => false), (fun _ => D), 0, fun _ => 0) k
theorem cD_eq (Z : Zt) {k : Nat} (hk : k < 8) : rCnt Z k = cD (zD Z) k := by
  obtain rfl | rfl | rfl | rfl | rfl | rfl | rfl | rfl : k = 0 ∨ k = 1 ∨ k = 2 ∨ k = 3 ∨ k = 4 ∨ k = 5 ∨ k = 6 ∨ k = 7 := by omega
  all_goals rfl
def tlD (D : Dt) (k : Nat) : Int := rTil D ((k : Int) / 6) ((k : Int) - (k : Int) / 6 * 6)
/-- the digest -/
def toldI (D : Dt) : Int64 := tdN D 1 (gT D 4).toNat (td (tlD D) 0 18 (td (fun k => rPri D k) 0 6 (td (cD D) 0 8 3)))
theorem rcp_r {D : Dt} {z w : Int} {r : Nat} (e : recI D z = r) : rRcp D z w = wRcp D r w := by unfold rRcp; rw [e, if_neg (by omega), Int.toNat_natCast]
theorem rcp_no {D : Dt} {z w : Int} (e : recI D z = -6) : rRcp D z w = -1 := if_pos e
section
variable {c : Nat → Option Nat} {fz : Nat → Option Cl} {x : Nat} {h h' : Hp} {Z : Zt} {M : Nat → Nat → Int} {n : Int}
theorem wx_ck (X : WX fz x Z M h) {o : Rs} : ck h (some x) 7 o = o := by
  obtain ⟨C, k, s, CH, sl, CS, pq, cap, fl, len, row, W, w, L, H, R⟩ := X
  exact H.ck
theorem q1 {a : AV} {o : Rs} {r : Int} {k : Hp → Int32 → Rs} (X : WX fz x Z M h) (Q : Rq fz x M h o r Z) (H : ∀ h', WX fz x Z M h' → h'.2 = h.2 → Ra fz x M h' a (k h' (iI r)) Z) : Ra fz x M h a (ck h (some x) 7 (cc o (kI k))) Z := by
  obtain ⟨h1, e, X1, n1⟩ := Q
  obtain ⟨h2, e2, X2, n2⟩ := H h1 X1 n1
  exact ⟨h2, by rw [wx_ck X, e]; exact e2, X2, n2.trans n1⟩
theorem q2 {a a' : AV} {o : Rs} {k : Hp → Option AV → Rs} (Q : Ra fz x M h a o Z) (H : ∀ h', WX fz x Z M h' → h'.2 = h.2 → Ra fz x M h' a' (k h' (some a)) Z) : Ra fz x M h a' (cc o k) Z := by
  obtain ⟨h1, e, X1, n1⟩ := Q
  obtain ⟨h2, e2, X2, n2⟩ := H h1 X1 n1
  exact ⟨h2, by rw [e]; exact e2, X2, n2.trans n1⟩
theorem many_n (I : ZI n Z) (hn : n ≤ 1000) : ∃ N : Nat, (N : Int) = gT (zD Z) 4 ∧ N ≤ 1000 ∧ N = (gT (zD Z) 4).toNat := by
  have h := I.1.1.2.2.2
  have t := I.1.1.2.1
  unfold RgT at t
  exact ⟨(gT (zD Z) 4).toNat, by omega, by omega, rfl⟩
theorem ra_r {a : AV} (X : WX fz x Z M h) {o : Rs} (e : o = some (h, some a)) : Ra fz x M h a o Z := ⟨h, e, X, rfl⟩
/-! told -/
theorem t115 (K : Kon c fz) (I : ZI n Z) {a : AV} {z : Int} (hz : ag z) {k94 : Hp → Option Nat → Int64 → Int32 → Rs} : ∀ (m fu w : Nat) (acc : Int64) (h : Hp), m < fu → w + m = 10 → WX fz x Z M h → (∀ h', WX fz x Z M h' → Ra fz x M h' a (k94 h' (some x) (td (fun w => rRcp (zD Z) z w) w m acc) (iI (z + 1))) Z) → Ra fz x M h a (fL_told_115 c k94 fu h (some x) acc (iI z) (iI (w : Int))) Z := by
  intro m
  induction m with
  | zero =>
    intro fu w acc h hf hw X H
    obtain ⟨f, rfl⟩ : ∃ f, fu = f + 1 := ⟨fu - 1, by omega⟩
    unfold fL_told_115 fL_told_143
    simp only [iI_l, iI_add]
    rw [if_neg (show ¬ iI (w : Int) < iI 10 from (by rw [lt_i (by omega) (by omega) (by omega) (by omega)]; omega))]
    exact H h X
  | succ m ih =>
    intro fu w acc h hf hw X H
    obtain ⟨f, rfl⟩ : ∃ f, fu = f + 1 := ⟨fu - 1, by omega⟩
    unfold fL_told_115
    simp only [iI_l, iI_add]
    rw [if_pos (show iI (w : Int) < iI 10 from (by rw [lt_i (by omega) (by omega) (by omega) (by omega)]; omega))]
    refine q1 X (x_ofReceipt K X I hz (show ag (w : Int) from ⟨by omega, by omega⟩)) (fun h1 X1 _ => ?_)
    rw [show (w : Int) + 1 = ((w + 1 : Nat) : Int) by omega]
    exact ih f (w + 1) _ h1 (by omega) (by omega) X1 H
theorem t94 (K : Kon c fz) (I : ZI n Z) (hn : n ≤ 1000) {N : Nat} (hN : (N : Int) = gT (zD Z) 4) (hN1 : N ≤ 1000) : ∀ (m fu k : Nat) (acc : Int64) (h : Hp), m < fu → k + m = N + 1 → WX fz x Z M h → Ra fz x M h (.inr (.inl (tdN (zD Z) k m acc))) (fL_told_94 c fu h (some x) acc (iI (k : Int))) Z := by
  intro m
  induction m with
  | zero =>
    intro fu k acc h hf hk X
    obtain ⟨f, rfl⟩ : ∃ f, fu = f + 1 := ⟨fu - 1, by omega⟩
    unfold fL_told_94
    simp only [iI_l]
    refine q1 X (x_count K X I (show ag 1 from ⟨by decide, by decide⟩)) (fun h1 X1 _ => ?_)
    rw [show rCnt Z 1 = gT (zD Z) 4 from rfl, ← hN, if_pos (show iI (N : Int) < iI (k : Int) from (by rw [lt_i (by omega) (by omega) (by omega) (by omega)]; omega))]
    exact ra_r X1 rfl
  | succ m ih =>
    intro fu k acc h hf hk X
    obtain ⟨f, rfl⟩ : ∃ f, fu = f + 1 := ⟨fu - 1, by omega⟩
    unfold fL_told_94 fL_told_143
    simp only [iI_l, iI_add]
    refine q1 X (x_count K X I (show ag 1 from ⟨by decide, by decide⟩)) (fun h1 X1 _ => ?_)
    rw [show rCnt Z 1 = gT (zD Z) 4 from rfl, ← hN, if_neg (show ¬ iI (N : Int) < iI (k : Int) from (by rw [lt_i (by omega) (by omega) (by omega) (by omega)]; omega))]
    refine q1 X1 (x_ofReceipt K X1 I (show ag (k : Int) from ⟨by omega, by omega⟩) (show ag 0 from ⟨by decide, by decide⟩)) (fun h2 X2 _ => ?_)
    have rg : ag (rRcp (zD Z) (k : Int) 0) := by
      rcases recI_c (zD Z) (k : Int) with e | ⟨r, e, h3, hr, z0, hx⟩
      · rw [rcp_no e]; exact ⟨by decide, by decide⟩
      · rw [rcp_r e]
        have g := (I.1.1.1 r hr).2.2.1 3 (by decide)
        show ag (gF (zD Z) r 3)
        exact ⟨by omega, by omega⟩
    unfold ag at rg
    rw [tdN]
    by_cases e : rRcp (zD Z) (k : Int) 0 < 0
    · rw [if_pos (show iI (rRcp (zD Z) (k : Int) 0) < iI 0 from (by rw [lt_i (by omega) (by omega) (by omega) (by omega)]; omega)), if_pos e, show (k : Int) + 1 = ((k + 1 : Nat) : Int) by omega]
      exact ih f (k + 1) acc h2 (by omega) (by omega) X2
    · rw [if_neg (show ¬ iI (rRcp (zD Z) (k : Int) 0) < iI 0 from (by rw [lt_i (by omega) (by omega) (by omega) (by omega)]; omega)), if_neg e, show (iI 0) = iI ((0 : Nat) : Int) from rfl]
      refine t115 K I ⟨by omega, by omega⟩ 10 FU 0 acc h2 (by decide) (by decide) X2 (fun h3 X3 => ?_)
      rw [show (k : Int) + 1 = ((k + 1 : Nat) : Int) by omega]
      exact ih f (k + 1) _ h3 (by omega) (by omega) X3
theorem t60 (K : Kon c fz) (I : ZI n Z) (hn : n ≤ 1000) {N : Nat} (hN : (N : Int) = gT (zD Z) 4) (hN1 : N ≤ 1000) : ∀ (m fu k : Nat) (acc : Int64) (h : Hp), m < fu → k + m = 18 → WX fz x Z M h → Ra fz x M h (.inr (.inl (tdN (zD Z) 1 N (td (tlD (zD Z)) k m acc)))) (fL_told_60 c fu h (some x) acc (iI (k : Int))) Z := by
  intro m
  induction m with
  | zero =>
    intro fu k acc h hf hk X
    obtain ⟨f, rfl⟩ : ∃ f, fu = f + 1 := ⟨fu - 1, by omega⟩
    unfold fL_told_60
    simp only [iI_l]
    rw [if_neg (show ¬ iI (k : Int) < iI 18 from (by rw [lt_i (by omega) (by omega) (by omega) (by omega)]; omega)), show (iI 1) = iI ((1 : Nat) : Int) from rfl]
    exact t94 K I hn hN hN1 N FU 1 acc h (by unfold FU; omega) (by omega) X
  | succ m ih =>
    intro fu k acc h hf hk X
    obtain ⟨f, rfl⟩ : ∃ f, fu = f + 1 := ⟨fu - 1, by omega⟩
    unfold fL_told_60
    simp only [iI_l, iI_add]
    rw [if_pos (show iI (k : Int) < iI 18 from (by rw [lt_i (by omega) (by omega) (by omega) (by omega)]; omega)), dv_i (by decide) (by decide), dv_i (by decide) (by decide), div_i (by omega) (by omega) (by decide) (by decide), iI_mul, iI_sub]
    refine q1 X (x_ofTill K X I (show ag ((k : Int) / 6) from ⟨by omega, by omega⟩) (show ag ((k : Int) - (k : Int) / 6 * 6) from ⟨by omega, by omega⟩)) (fun h1 X1 _ => ?_)
    rw [show (k : Int) + 1 = ((k + 1 : Nat) : Int) by omega]
    exact ih f (k + 1) _ h1 (by omega) (by omega) X1
theorem t33 (K : Kon c fz) (I : ZI n Z) (hn : n ≤ 1000) {N : Nat} (hN : (N : Int) = gT (zD Z) 4) (hN1 : N ≤ 1000) : ∀ (m fu k : Nat) (acc : Int64) (h : Hp), m < fu → k + m = 6 → WX fz x Z M h → Ra fz x M h (.inr (.inl (tdN (zD Z) 1 N (td (tlD (zD Z)) 0 18 (td (fun k => rPri (zD Z) k) k m acc))))) (fL_told_33 c fu h (some x) acc (iI (k : Int))) Z := by
  intro m
  induction m with
  | zero =>
    intro fu k acc h hf hk X
    obtain ⟨f, rfl⟩ : ∃ f, fu = f + 1 := ⟨fu - 1, by omega⟩
    unfold fL_told_33
    simp only [iI_l]
    rw [if_neg (show ¬ iI (k : Int) < iI 6 from (by rw [lt_i (by omega) (by omega) (by omega) (by omega)]; omega)), show (iI 0) = iI ((0 : Nat) : Int) from rfl]
    exact t60 K I hn hN hN1 18 FU 0 acc h (by decide) (by decide) X
  | succ m ih =>
    intro fu k acc h hf hk X
    obtain ⟨f, rfl⟩ : ∃ f, fu = f + 1 := ⟨fu - 1, by omega⟩
    unfold fL_told_33
    simp only [iI_l, iI_add]
    rw [if_pos (show iI (k : Int) < iI 6 from (by rw [lt_i (by omega) (by omega) (by omega) (by omega)]; omega))]
    refine q1 X (x_printer K X I (show ag (k : Int) from ⟨by omega, by omega⟩)) (fun h1 X1 _ => ?_)
    rw [show (k : Int) + 1 = ((k + 1 : Nat) : Int) by omega]
    exact ih f (k + 1) _ h1 (by omega) (by omega) X1
theorem t6 (K : Kon c fz) (I : ZI n Z) (hn : n ≤ 1000) {N : Nat} (hN : (N : Int) = gT (zD Z) 4) (hN1 : N ≤ 1000) : ∀ (m fu k : Nat) (acc : Int64) (h : Hp), m < fu → k + m = 8 → WX fz x Z M h → Ra fz x M h (.inr (.inl (tdN (zD Z) 1 N (td (tlD (zD Z)) 0 18 (td (fun k => rPri (zD Z) k) 0 6 (td (cD (zD Z)) k m acc)))))) (fL_told_6 c fu h (some x) acc (iI (k : Int))) Z := by
  intro m
  induction m with
  | zero =>
    intro fu k acc h hf hk X
    obtain ⟨f, rfl⟩ : ∃ f, fu = f + 1 := ⟨fu - 1, by omega⟩
    unfold fL_told_6
    simp only [iI_l]
    rw [if_neg (show ¬ iI (k : Int) < iI 8 from (by rw [lt_i (by omega) (by omega) (by omega) (by omega)]; omega)), show (iI 0) = iI ((0 : Nat) : Int) from rfl]
    exact t33 K I hn hN hN1 6 FU 0 acc h (by decide) (by decide) X
  | succ m ih =>
    intro fu k acc h hf hk X
    obtain ⟨f, rfl⟩ : ∃ f, fu = f + 1 := ⟨fu - 1, by omega⟩
    unfold fL_told_6
    simp only [iI_l, iI_add]
    rw [if_pos (show iI (k : Int) < iI 8 from (by rw [lt_i (by omega) (by omega) (by omega) (by omega)]; omega))]
    refine q1 X (x_count K X I (show ag (k : Int) from ⟨by omega, by omega⟩)) (fun h1 X1 _ => ?_)
    rw [show (k : Int) + 1 = ((k + 1 : Nat) : Int) by omega, cD_eq Z (show k < 8 by omega)]
    exact ih f (k + 1) _ h1 (by omega) (by omega) X1
theorem w_told (K : Kon c fz) (X : WX fz x Z M h) (I : ZI n Z) (hn : n ≤ 1000) : Ra fz x M h (.inr (.inl (toldI (zD Z)))) (fL_told c h (some x)) Z := by
  obtain ⟨N, hN, hN1, eN⟩ := many_n I hn
  unfold fL_told toldI
  simp only [iI_l]
  rw [← eN, show (iI 0) = iI ((0 : Nat) : Int) from rfl]
  exact t6 K I hn hN hN1 8 FU 0 3 h (by decide) (by decide) X
end
