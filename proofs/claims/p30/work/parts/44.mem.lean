/-! THE CLASS'S MEMORY: a stretch of cells laid over a heap -/
def ovl (h : Hp) (b n : Nat) (f : Nat → Option Cl) : Hp := (fun q => if b ≤ q ∧ q < b + n then f (q - b) else h.1 q, h.2)
/-- the heap holds the stretch -/
def At (h : Hp) (b n : Nat) (f : Nat → Option Cl) : Prop := ∀ k, k < n → h.1 (b + k) = f k
theorem ovl_at {h : Hp} {b n k : Nat} {f : Nat → Option Cl} (hk : k < n) : (ovl h b n f).1 (b + k) = f k := by
  show (if b ≤ b + k ∧ b + k < b + n then f (b + k - b) else h.1 (b + k)) = f k
  rw [if_pos ⟨by omega, by omega⟩]; congr 1; omega
theorem ovl_ne {h : Hp} {b n q : Nat} {f : Nat → Option Cl} (hq : q < b ∨ b + n ≤ q) : (ovl h b n f).1 q = h.1 q := by
  show (if b ≤ q ∧ q < b + n then f (q - b) else h.1 q) = h.1 q
  rw [if_neg (by omega)]
theorem At.eq {h : Hp} {b n : Nat} {f : Nat → Option Cl} (H : At h b n f) : ovl h b n f = h := by
  refine Prod.ext (funext fun q => ?_) rfl
  show (if b ≤ q ∧ q < b + n then f (q - b) else h.1 q) = h.1 q
  split
  · next e => rw [← H (q - b) (by omega), show b + (q - b) = q by omega]
  · rfl
theorem At.ovl {h : Hp} {b n : Nat} {f : Nat → Option Cl} : At (ovl h b n f) b n f := fun k hk => ovl_at hk
theorem At.fr {h h' : Hp} {b n : Nat} {f : Nat → Option Cl} (H : At h b n f) (e : ∀ q, b ≤ q → q < b + n → h'.1 q = h.1 q) : At h' b n f := fun k hk => (e (b + k) (by omega) (by omega)).trans (H k hk)
theorem At.ne {h : Hp} {b n b' n' : Nat} {f f' : Nat → Option Cl} (H : At h b n f) (d : b + n ≤ b' ∨ b' + n' ≤ b) : At (Jvm.Pilot.CReceiptRollsLaw_law_r6028_bd9a59.ovl h b' n' f') b n f := H.fr fun q h1 h2 => ovl_ne (by omega)
theorem ovl_ovl {h : Hp} {b n : Nat} {f f' : Nat → Option Cl} : ovl (ovl h b n f) b n f' = ovl h b n f' := by
  refine Prod.ext (funext fun q => ?_) rfl
  show (if b ≤ q ∧ q < b + n then f' (q - b) else if b ≤ q ∧ q < b + n then f (q - b) else h.1 q) = (if b ≤ q ∧ q < b + n then f' (q - b) else h.1 q)
  split <;> rfl
theorem ovl_cg {h : Hp} {b n : Nat} {f f' : Nat → Option Cl} (e : ∀ k, k < n → f k = f' k) : ovl h b n f = ovl h b n f' := by
  refine Prod.ext (funext fun q => ?_) rfl
  show (if b ≤ q ∧ q < b + n then f (q - b) else h.1 q) = (if b ≤ q ∧ q < b + n then f' (q - b) else h.1 q)
  split
  · rw [e (q - b) (by omega)]
  · rfl
theorem upH_ovl {h : Hp} {b n k : Nat} {f f' : Nat → Option Cl} {e : Cl} (hk : k < n) (he : f' k = some e) (ho : ∀ j, j < n → j ≠ k → f' j = f j) : upH (ovl h b n f) (b + k) e = ovl h b n f' := by
  refine Prod.ext (funext fun q => ?_) rfl
  show (if q = b + k then some e else if b ≤ q ∧ q < b + n then f (q - b) else h.1 q) = (if b ≤ q ∧ q < b + n then f' (q - b) else h.1 q)
  by_cases h1 : q = b + k
  · rw [if_pos h1, if_pos (by omega), h1, Nat.add_sub_cancel_left, he]
  · rw [if_neg h1]
    split
    · rw [ho (q - b) (by omega) (by omega)]
    · rfl
theorem hM_ovl (h : Hp) (a : Nat) (M : Nat → Nat → Int) : hM h a M = ovl h a 8 (mC a M) := rfl
/-! reading and writing of cells -/
theorem rdI_e {h : Hp} {a c ci k : Nat} {fs : List AV} {x : Int32} {f : Int32 → Rs} (e : h.1 a = some (.inr (c, fs))) (t : tgo c ci = true) (hk : fs[k]? = some (.inl x)) : rdI h (some a) ci k f = f x := by
  unfold rdI ob
  simp only [e, t, if_true, hk]
theorem rdR_e {h : Hp} {a c ci k : Nat} {fs : List AV} {x : Option Nat} {f : Option Nat → Rs} (e : h.1 a = some (.inr (c, fs))) (t : tgo c ci = true) (hk : fs[k]? = some (.inr (.inr x))) : rdR h (some a) ci k f = f x := by
  unfold rdR ob
  simp only [e, t, if_true, hk]
theorem ck_e {h : Hp} {a c ci : Nat} {fs : List AV} {o : Rs} (e : h.1 a = some (.inr (c, fs))) (t : tgo c ci = true) : ck h (some a) ci o = o := by
  unfold ck ob
  simp only [e, t, if_true]
theorem wr_e {h : Hp} {a c k : Nat} {fs : List AV} {v : AV} {f : Hp → Rs} (e : h.1 a = some (.inr (c, fs))) (hc : c < 8) (hk : k < fs.length) (ht : vfit (tyC c k) v = true) : wr h (some a) c k v f = f (upH h a (.inr (c, fs.set k v))) := by
  have t : tgo c c = true := by unfold tgo; simp [Nat.blt_eq, hc]
  unfold wr ob
  simp only [e, t, if_true, ht, Nat.blt_eq.mpr hk, Nat.blt_eq.mpr hc, Bool.and_true]
theorem lenA_e {h : Hp} {a k n : Nat} {x : _} {f : Int32 → Rs} (e : h.1 a = some (.inl (k, n, x))) : lenA h (some a) f = f (iI (n : Int)) := by
  unfold lenA ar
  simp only [e]
  congr 1
theorem aldI_e {h : Hp} {a k n : Nat} {g : Nat → Int32} {ks : List Nat} {z : Int} {f : Int32 → Rs} (e : h.1 a = some (.inl (k, n, .inl g))) (hk : ks.contains k = true) (h0 : 0 ≤ z) (h1 : z < n) (hn : (n : Int) < 2147483648) : aldI h (some a) ks (iI z) f = f (g z.toNat) := by
  unfold aldI ar
  simp only [e, hk, inB_ok h0 h1 hn, Bool.and_true, if_true, iI_nat (show rg z from ⟨by omega, by omega⟩)]
theorem aldR_e {h : Hp} {a k n : Nat} {g : Nat → Option Nat} {z : Int} {f : Option Nat → Rs} (e : h.1 a = some (.inl (k, n, .inr (.inr (.inr (.inr g)))))) (hk : 3 < k) (hk2 : k < 7) (h0 : 0 ≤ z) (h1 : z < n) (hn : (n : Int) < 2147483648) : aldR h (some a) (iI z) f = f (g z.toNat) := by
  unfold aldR ar
  simp only [e, inB_ok h0 h1 hn, Nat.blt_eq.mpr hk, Nat.blt_eq.mpr hk2, Bool.and_true, if_true, iI_nat (show rg z from ⟨by omega, by omega⟩)]
theorem astI_e {h : Hp} {a k n : Nat} {g : Nat → Int32} {ks : List Nat} {z : Int} {x : Int32} {f : Hp → Rs} (e : h.1 a = some (.inl (k, n, .inl g))) (hk : ks.contains k = true) (hk4 : k < 4) (h0 : 0 ≤ z) (h1 : z < n) (hn : (n : Int) < 2147483648) : astI h (some a) ks (iI z) x f = f (upH h a (.inl (k, n, .inl (upd g z.toNat (nar k x))))) := by
  unfold astI ar
  simp only [e, hk, inB_ok h0 h1 hn, Nat.blt_eq.mpr hk4, Bool.and_true, if_true, iI_nat (show rg z from ⟨by omega, by omega⟩)]
theorem astR_e {h : Hp} {a k n : Nat} {g : Nat → Option Nat} {z : Int} {x : Option Nat} {f : Hp → Rs} (e : h.1 a = some (.inl (k, n, .inr (.inr (.inr (.inr g)))))) (hk : 3 < k) (hk2 : k < 7) (h0 : 0 ≤ z) (h1 : z < n) (hn : (n : Int) < 2147483648) (hx : isEl h k x = true) : astR h (some a) (iI z) x f = f (upH h a (.inl (k, n, .inr (.inr (.inr (.inr (va_up g z.toNat x))))))) := by
  unfold astR ar
  simp only [e, inB_ok h0 h1 hn, Nat.blt_eq.mpr hk, Nat.blt_eq.mpr hk2, hx, Bool.and_true, if_true, iI_nat (show rg z from ⟨by omega, by omega⟩)]
theorem upd_row {f : Nat → Int} {i : Nat} {v : Int} : upd (fun j => iI (f j)) i (iI v) = fun j => iI (st f i v j) := by
  funext j
  unfold upd st
  split <;> rfl
/-! A STATE of the class: 67 cells -/
abbrev Ct : Type := (Nat → Int) × (Nat → Int) × (Nat → Nat → Int) × (Nat → Nat → Option Nat) × (Nat → Nat → Int)
def cF (C : Ct) : Nat → Int := C.1
def cT (C : Ct) : Nat → Int := C.2.1
def cR (C : Ct) : Nat → Nat → Int := C.2.2.1
def cG (C : Ct) : Nat → Nat → Option Nat := C.2.2.2.1
def cE (C : Ct) : Nat → Nat → Int := C.2.2.2.2
def fS (b : Nat) (F : Nat → Int) : List AV := [.inl (iI (F 0)), .inl (iI (F 1)), .inl (iI (F 2)), .inl (iI (F 3)), .inl (iI (F 4)), .inl (iI (F 5)), .inl (iI (F 6)), .inl (iI (F 7)), .inl (iI (F 8)), .inl (iI (F 9)), .inr (.inr (some (b + 1))), .inr (.inr (some (b + 2))), .inr (.inr (some (b + 3)))]
def fR (p : Nat) (R : Nat → Int) : List AV := [.inl (iI (R 0)), .inl (iI (R 1)), .inl (iI (R 2)), .inl (iI (R 3)), .inl (iI (R 4)), .inl (iI (R 5)), .inl (iI (R 6)), .inl (iI (R 7)), .inl (iI (R 8)), .inl (iI (R 9)), .inl (iI (R 10)), .inl (iI (R 11)), .inr (.inr (some (p + 1))), .inr (.inr (some (p + 2)))]
def opn (b n d : Nat) : Nat → Option Nat := fun i => if i < n then some (b + 4 + 3 * (i + d)) else none
def sC (b : Nat) (C : Ct) (k : Nat) : Option Cl := if k = 0 then some (.inr (6, fS b (cF C))) else if k = 1 then some (.inl (0, 3, .inl (fun j => iI (cT C j)))) else if k = 2 then some (.inl (5, 3, .inr (.inr (.inr (.inr (opn b 3 0)))))) else if k = 3 then some (.inl (5, 18, .inr (.inr (.inr (.inr (opn b 18 3)))))) else if (k - 4) % 3 = 0 then some (.inr (4, fR (b + k) (cR C ((k - 4) / 3)))) else if (k - 4) % 3 = 1 then some (.inl (4, 12, .inr (.inr (.inr (.inr (cG C ((k - 4) / 3))))))) else some (.inl (0, 24, .inl (fun j => iI (cE C ((k - 4) / 3) j))))
def hS (h : Hp) (b : Nat) (C : Ct) : Hp := ovl h b 67 (sC b C)
theorem sC_o {b : Nat} {C : Ct} {r : Nat} : sC b C (4 + 3 * r) = some (.inr (4, fR (b + 4 + 3 * r) (cR C r))) := by
  unfold sC
  rw [if_neg (by omega), if_neg (by omega), if_neg (by omega), if_neg (by omega), if_pos (by omega), show (4 + 3 * r - 4) / 3 = r by omega, ← Nat.add_assoc]
theorem sC_g {b : Nat} {C : Ct} {r : Nat} : sC b C (5 + 3 * r) = some (.inl (4, 12, .inr (.inr (.inr (.inr (cG C r)))))) := by
  unfold sC
  rw [if_neg (by omega), if_neg (by omega), if_neg (by omega), if_neg (by omega), if_neg (by omega), if_pos (by omega), show (5 + 3 * r - 4) / 3 = r by omega]
theorem sC_e {b : Nat} {C : Ct} {r : Nat} : sC b C (6 + 3 * r) = some (.inl (0, 24, .inl (fun j => iI (cE C r j)))) := by
  unfold sC
  rw [if_neg (by omega), if_neg (by omega), if_neg (by omega), if_neg (by omega), if_neg (by omega), if_neg (by omega), show (6 + 3 * r - 4) / 3 = r by omega]
theorem sC_k {k : Nat} (h4 : 4 ≤ k) : ∃ r, k = 4 + 3 * r ∨ k = 5 + 3 * r ∨ k = 6 + 3 * r := ⟨(k - 4) / 3, by omega⟩
theorem sC_lt {k r : Nat} (hk : k < 67) (h : k = 4 + 3 * r ∨ k = 5 + 3 * r ∨ k = 6 + 3 * r) : r < 21 := by omega
/-- two states' cells are the same where what they hold is -/
theorem sC_cg {b : Nat} {C C' : Ct} {k : Nat} (h0 : k = 0 → cF C' = cF C) (h1 : k = 1 → cT C' = cT C) (h4 : ∀ r, k = 4 + 3 * r → cR C' r = cR C r) (h5 : ∀ r, k = 5 + 3 * r → cG C' r = cG C r) (h6 : ∀ r, k = 6 + 3 * r → cE C' r = cE C r) : sC b C' k = sC b C k := by
  by_cases e0 : k = 0
  · subst e0; unfold sC; rw [if_pos rfl, if_pos rfl, h0 rfl]
  by_cases e1 : k = 1
  · subst e1; show some (Sum.inl (0, 3, Sum.inl (fun j => iI (cT C' j)))) = some (Sum.inl (0, 3, Sum.inl (fun j => iI (cT C j)))); rw [h1 rfl]
  by_cases e2 : k = 2
  · subst e2; rfl
  by_cases e3 : k = 3
  · subst e3; rfl
  obtain ⟨r, rfl | rfl | rfl⟩ := sC_k (show 4 ≤ k by omega)
  · rw [sC_o, sC_o, h4 r rfl]
  · rw [sC_g, sC_g, h5 r rfl]
  · rw [sC_e, sC_e, h6 r rfl]
def sCF (C : Ct) (k : Nat) (v : Int) : Ct := (st (cF C) k v, C.2)
def sCT (C : Ct) (k : Nat) (v : Int) : Ct := (C.1, st (cT C) k v, C.2.2)
def sCR (C : Ct) (r k : Nat) (v : Int) : Ct := (C.1, C.2.1, (fun q => if q = r then st (cR C q) k v else cR C q), C.2.2.2)
def sCG (C : Ct) (r i : Nat) (v : Option Nat) : Ct := (C.1, C.2.1, C.2.2.1, (fun q => if q = r then va_up (cG C q) i v else cG C q), C.2.2.2.2)
def sCE (C : Ct) (r k : Nat) (v : Int) : Ct := (C.1, C.2.1, C.2.2.1, C.2.2.2.1, fun q => if q = r then st (cE C q) k v else cE C q)
theorem cR_s (C : Ct) (r k q : Nat) (v : Int) : cR (sCR C r k v) q = if q = r then st (cR C q) k v else cR C q := rfl
theorem cG_s (C : Ct) (r k q : Nat) (v : Option Nat) : cG (sCG C r k v) q = if q = r then va_up (cG C q) k v else cG C q := rfl
theorem cE_s (C : Ct) (r k q : Nat) (v : Int) : cE (sCE C r k v) q = if q = r then st (cE C q) k v else cE C q := rfl
theorem fS_k {b : Nat} {F : Nat → Int} {k : Nat} (hk : k < 10) : (fS b F)[k]? = some (.inl (iI (F k))) := by
  obtain rfl | rfl | rfl | rfl | rfl | rfl | rfl | rfl | rfl | rfl : k = 0 ∨ k = 1 ∨ k = 2 ∨ k = 3 ∨ k = 4 ∨ k = 5 ∨ k = 6 ∨ k = 7 ∨ k = 8 ∨ k = 9 := by omega
  all_goals rfl
theorem fS_st {b : Nat} {F : Nat → Int} {k : Nat} {v : Int} (hk : k < 10) : (fS b F).set k (.inl (iI v)) = fS b (st F k v) := by
  obtain rfl | rfl | rfl | rfl | rfl | rfl | rfl | rfl | rfl | rfl : k = 0 ∨ k = 1 ∨ k = 2 ∨ k = 3 ∨ k = 4 ∨ k = 5 ∨ k = 6 ∨ k = 7 ∨ k = 8 ∨ k = 9 := by omega
  all_goals rfl
theorem fR_k {b : Nat} {F : Nat → Int} {k : Nat} (hk : k < 12) : (fR b F)[k]? = some (.inl (iI (F k))) := by
  obtain rfl | rfl | rfl | rfl | rfl | rfl | rfl | rfl | rfl | rfl | rfl | rfl : k = 0 ∨ k = 1 ∨ k = 2 ∨ k = 3 ∨ k = 4 ∨ k = 5 ∨ k = 6 ∨ k = 7 ∨ k = 8 ∨ k = 9 ∨ k = 10 ∨ k = 11 := by omega
  all_goals rfl
theorem fR_st {b : Nat} {F : Nat → Int} {k : Nat} {v : Int} (hk : k < 12) : (fR b F).set k (.inl (iI v)) = fR b (st F k v) := by
  obtain rfl | rfl | rfl | rfl | rfl | rfl | rfl | rfl | rfl | rfl | rfl | rfl : k = 0 ∨ k = 1 ∨ k = 2 ∨ k = 3 ∨ k = 4 ∨ k = 5 ∨ k = 6 ∨ k = 7 ∨ k = 8 ∨ k = 9 ∨ k = 10 ∨ k = 11 := by omega
  all_goals rfl
theorem vf_S {k : Nat} {x : Int32} (hk : k < 10) : vfit (tyC 6 k) (.inl x) = true := by
  obtain rfl | rfl | rfl | rfl | rfl | rfl | rfl | rfl | rfl | rfl : k = 0 ∨ k = 1 ∨ k = 2 ∨ k = 3 ∨ k = 4 ∨ k = 5 ∨ k = 6 ∨ k = 7 ∨ k = 8 ∨ k = 9 := by omega
  all_goals rfl
theorem vf_R {k : Nat} {x : Int32} (hk : k < 12) : vfit (tyC 4 k) (.inl x) = true := by
  obtain rfl | rfl | rfl | rfl | rfl | rfl | rfl | rfl | rfl | rfl | rfl | rfl : k = 0 ∨ k = 1 ∨ k = 2 ∨ k = 3 ∨ k = 4 ∨ k = 5 ∨ k = 6 ∨ k = 7 ∨ k = 8 ∨ k = 9 ∨ k = 10 ∨ k = 11 := by omega
  all_goals rfl
section
variable {h : Hp} {b r k : Nat} {C : Ct} {z v : Int} {f : Int32 → Rs} {g : Option Nat → Rs} {w : Hp → Rs} {o : Rs} {ks : List Nat} {y : Option Nat}
theorem hS_0 : (hS h b C).1 b = some (.inr (6, fS b (cF C))) := ovl_at (k := 0) (by decide)
theorem hS_1 : (hS h b C).1 (b + 1) = some (.inl (0, 3, .inl (fun j => iI (cT C j)))) := ovl_at (k := 1) (by decide)
theorem hS_2 : (hS h b C).1 (b + 2) = some (.inl (5, 3, .inr (.inr (.inr (.inr (opn b 3 0)))))) := ovl_at (k := 2) (by decide)
theorem hS_3 : (hS h b C).1 (b + 3) = some (.inl (5, 18, .inr (.inr (.inr (.inr (opn b 18 3)))))) := ovl_at (k := 3) (by decide)
theorem hS_o (hr : r < 21) : (hS h b C).1 (b + 4 + 3 * r) = some (.inr (4, fR (b + 4 + 3 * r) (cR C r))) := by
  rw [Nat.add_assoc]; exact (ovl_at (by omega)).trans (by rw [sC_o, Nat.add_assoc])
theorem hS_g (hr : r < 21) : (hS h b C).1 (b + 4 + 3 * r + 1) = some (.inl (4, 12, .inr (.inr (.inr (.inr (cG C r)))))) := by
  rw [show b + 4 + 3 * r + 1 = b + (5 + 3 * r) by omega]; exact (ovl_at (by omega)).trans sC_g
theorem hS_e (hr : r < 21) : (hS h b C).1 (b + 4 + 3 * r + 2) = some (.inl (0, 24, .inl (fun j => iI (cE C r j)))) := by
  rw [show b + 4 + 3 * r + 2 = b + (6 + 3 * r) by omega]; exact (ovl_at (by omega)).trans sC_e
theorem ck_S : ck (hS h b C) (some b) 6 o = o := ck_e hS_0 rfl
theorem ck_R (hr : r < 21) : ck (hS h b C) (some (b + 4 + 3 * r)) 4 o = o := ck_e (hS_o hr) rfl
theorem rdI_S (hk : k < 10) : rdI (hS h b C) (some b) 6 k f = f (iI (cF C k)) := rdI_e hS_0 rfl (fS_k hk)
theorem rdR_S10 : rdR (hS h b C) (some b) 6 10 g = g (some (b + 1)) := rdR_e hS_0 rfl rfl
theorem rdR_S11 : rdR (hS h b C) (some b) 6 11 g = g (some (b + 2)) := rdR_e hS_0 rfl rfl
theorem rdR_S12 : rdR (hS h b C) (some b) 6 12 g = g (some (b + 3)) := rdR_e hS_0 rfl rfl
theorem rdI_R (hr : r < 21) (hk : k < 12) : rdI (hS h b C) (some (b + 4 + 3 * r)) 4 k f = f (iI (cR C r k)) := rdI_e (hS_o hr) rfl (fR_k hk)
theorem rdR_R12 (hr : r < 21) : rdR (hS h b C) (some (b + 4 + 3 * r)) 4 12 g = g (some (b + 4 + 3 * r + 1)) := rdR_e (hS_o hr) rfl rfl
theorem rdR_R13 (hr : r < 21) : rdR (hS h b C) (some (b + 4 + 3 * r)) 4 13 g = g (some (b + 4 + 3 * r + 2)) := rdR_e (hS_o hr) rfl rfl
theorem len_S1 : lenA (hS h b C) (some (b + 1)) f = f (iI 3) := lenA_e hS_1
theorem len_S2 : lenA (hS h b C) (some (b + 2)) f = f (iI 3) := lenA_e hS_2
theorem len_S3 : lenA (hS h b C) (some (b + 3)) f = f (iI 18) := lenA_e hS_3
theorem len_G (hr : r < 21) : lenA (hS h b C) (some (b + 4 + 3 * r + 1)) f = f (iI 12) := lenA_e (hS_g hr)
theorem len_E (hr : r < 21) : lenA (hS h b C) (some (b + 4 + 3 * r + 2)) f = f (iI 24) := lenA_e (hS_e hr)
theorem ald_S1 (h0 : 0 ≤ z) (h1 : z < 3) : aldI (hS h b C) (some (b + 1)) [0, 10] (iI z) f = f (iI (cT C z.toNat)) := aldI_e hS_1 rfl h0 h1 (by decide)
theorem ald_S2 (h0 : 0 ≤ z) (h1 : z < 3) : aldR (hS h b C) (some (b + 2)) (iI z) g = g (some (b + 4 + 3 * z.toNat)) := (aldR_e hS_2 (by decide) (by decide) h0 h1 (by decide)).trans (by unfold opn; rw [if_pos (by omega)]; rfl)
theorem ald_S3 (h0 : 0 ≤ z) (h1 : z < 18) : aldR (hS h b C) (some (b + 3)) (iI z) g = g (some (b + 4 + 3 * (z.toNat + 3))) := (aldR_e hS_3 (by decide) (by decide) h0 h1 (by decide)).trans (by unfold opn; rw [if_pos (by omega)])
theorem ald_G (hr : r < 21) (h0 : 0 ≤ z) (h1 : z < 12) : aldR (hS h b C) (some (b + 4 + 3 * r + 1)) (iI z) g = g (cG C r z.toNat) := aldR_e (hS_g hr) (by decide) (by decide) h0 h1 (by decide)
theorem ald_E (hr : r < 21) (h0 : 0 ≤ z) (h1 : z < 24) : aldI (hS h b C) (some (b + 4 + 3 * r + 2)) [0, 10] (iI z) f = f (iI (cE C r z.toNat)) := aldI_e (hS_e hr) rfl h0 h1 (by decide)
theorem wr_S (hk : k < 10) : wr (hS h b C) (some b) 6 k (.inl (iI v)) w = w (hS h b (sCF C k v)) := by
  rw [wr_e hS_0 (by decide) (show k < 13 by omega) (vf_S hk), fS_st hk]
  congr 1
  exact upH_ovl (k := 0) (by decide) rfl (fun j hj hne => sC_cg (fun e => absurd e hne) (fun _ => rfl) (fun _ _ => rfl) (fun _ _ => rfl) (fun _ _ => rfl))
theorem wr_R (hr : r < 21) (hk : k < 12) : wr (hS h b C) (some (b + 4 + 3 * r)) 4 k (.inl (iI v)) w = w (hS h b (sCR C r k v)) := by
  rw [wr_e (hS_o hr) (by decide) (show k < 14 by omega) (vf_R hk), fR_st hk, Nat.add_assoc]
  congr 1
  refine upH_ovl (k := 4 + 3 * r) (by omega) ?_ (fun j hj hne => sC_cg (fun _ => rfl) (fun _ => rfl) (fun q e => ?_) (fun _ _ => rfl) (fun _ _ => rfl))
  · rw [sC_o, cR_s, if_pos rfl, Nat.add_assoc]
  · rw [cR_s]; exact if_neg (by omega)
theorem ast_S1 (h0 : 0 ≤ z) (h1 : z < 3) : astI (hS h b C) (some (b + 1)) [0] (iI z) (iI v) w = w (hS h b (sCT C z.toNat v)) := by
  rw [astI_e hS_1 rfl (by decide) h0 h1 (by decide)]
  congr 1
  show upH _ _ (.inl (0, 3, .inl (upd _ _ (iI v)))) = _
  rw [upd_row]
  exact upH_ovl (k := 1) (by decide) rfl (fun j hj hne => sC_cg (fun _ => rfl) (fun e => absurd e hne) (fun _ _ => rfl) (fun _ _ => rfl) (fun _ _ => rfl))
theorem ast_E (hr : r < 21) (h0 : 0 ≤ z) (h1 : z < 24) : astI (hS h b C) (some (b + 4 + 3 * r + 2)) [0] (iI z) (iI v) w = w (hS h b (sCE C r z.toNat v)) := by
  rw [astI_e (hS_e hr) rfl (by decide) h0 h1 (by decide)]
  congr 1
  show upH _ _ (.inl (0, 24, .inl (upd _ _ (iI v)))) = _
  rw [upd_row, show b + 4 + 3 * r + 2 = b + (6 + 3 * r) by omega]
  refine upH_ovl (k := 6 + 3 * r) (by omega) ?_ (fun j hj hne => sC_cg (fun _ => rfl) (fun _ => rfl) (fun _ _ => rfl) (fun _ _ => rfl) (fun q e => ?_))
  · rw [sC_e, cE_s, if_pos rfl]
  · rw [cE_s]; exact if_neg (by omega)
theorem ast_G (hr : r < 21) (h0 : 0 ≤ z) (h1 : z < 12) (hy : isEl (hS h b C) 4 y = true) : astR (hS h b C) (some (b + 4 + 3 * r + 1)) (iI z) y w = w (hS h b (sCG C r z.toNat y)) := by
  rw [astR_e (hS_g hr) (by decide) (by decide) h0 h1 (by decide) hy]
  congr 1
  rw [show b + 4 + 3 * r + 1 = b + (5 + 3 * r) by omega]
  refine upH_ovl (k := 5 + 3 * r) (by omega) ?_ (fun j hj hne => sC_cg (fun _ => rfl) (fun _ => rfl) (fun _ _ => rfl) (fun q e => ?_) (fun _ _ => rfl))
  · rw [sC_g, cG_s, if_pos rfl]
  · rw [cG_s]; exact if_neg (by omega)
end
