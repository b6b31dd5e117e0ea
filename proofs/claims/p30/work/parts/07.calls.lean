/-! ARRAYS, MAKINGS, CALLS -/
theorem ks_mem {ks : List Nat} {k : Nat} (h : ks.contains k = true) : k ∈ ks := by simpa using h
section ARR
variable {X : Cx} {M : MI} {h0 h : Hp} {o : Rs} {L : List (Option AV)} {st : List AV} {pc len tgt : Nat} {v i x : Int32} {r : Option Nat} {f : Int32 → Rs} {fr : Option Nat → Rs} {fh : Hp → Rs}
theorem q_iaload (hx : tbB M.2.1 (pc, .iaload, len, v, tgt) = true) (g : ∀ w, Gd X M h0 (f w) h (pc + 1) L (.inl w :: st)) : Gd X M h0 (aldI h r [0, 10] i f) h pc L (.inl i :: .inr (.inr r) :: st) := by
  have hd := tb_len hx rfl
  unfold aldI
  split
  · next a0 k n gg e =>
    split
    · next hc =>
      rw [Bool.and_eq_true] at hc
      obtain ⟨rfl, hcell⟩ := ar_some e
      have hin := inB_in hc.2
      have hk := ks_mem hc.1
      refine q_w (g _) (fun {p l e R s m args below meth c H locs cells slots Q ls} hat hI _ hl kk => ?_)
      have kk := kk ls hl
      obtain ⟨ws, hP, hD, hz, hN, hr⟩ := hI.1
      rcases hr a0 _ hcell with ⟨h7, j, hj⟩ | ⟨h10, g0, hg, hT⟩ | ⟨h11, -⟩
      · have k0 : k = 0 := by simp at hk; omega
        subst k0
        exact va_iald hat.1 hat.2.1 hat.2.2.2.2.2.2.1.1 hP j 0 hj rfl hin hd kk
      · cases hg
        exact va_ti hat.1 hat.2.1 hT hI.S hin rfl hd kk
      · simp at hk; omega
    · exact gd_none
  · exact gd_none
theorem q_baload (hx : tbB M.2.1 (pc, .baload, len, v, tgt) = true) (g : ∀ w, Gd X M h0 (f w) h (pc + 1) L (.inl w :: st)) : Gd X M h0 (aldI h r [1, 2, 11] i f) h pc L (.inl i :: .inr (.inr r) :: st) := by
  have hd := tb_len hx rfl
  unfold aldI
  split
  · next a0 k n gg e =>
    split
    · next hc =>
      rw [Bool.and_eq_true] at hc
      obtain ⟨rfl, hcell⟩ := ar_some e
      have hin := inB_in hc.2
      have hk := ks_mem hc.1
      refine q_w (g _) (fun {p l e R s m args below meth c H locs cells slots Q ls} hat hI _ hl kk => ?_)
      have kk := kk ls hl
      obtain ⟨ws, hP, hD, hz, hN, hr⟩ := hI.1
      rcases hr a0 _ hcell with ⟨h7, j, hj⟩ | ⟨h10, -⟩ | ⟨h11, g0, hg, -, hT⟩
      · have k0 : k = 1 ∨ k = 2 := by simp at hk; omega
        rcases k0 with rfl | rfl
        · exact va_bald hat.1 hat.2.1 hat.2.2.2.2.2.2.1.1 hP j 1 hj rfl hin hd kk
        · exact va_bald hat.1 hat.2.1 hat.2.2.2.2.2.2.1.1 hP j 2 hj rfl hin hd kk
      · simp at hk; omega
      · cases hg
        exact va_tb hat.1 hat.2.1 hT hI.S hin rfl hd kk
    · exact gd_none
  · exact gd_none
theorem q_caload (hx : tbB M.2.1 (pc, .caload, len, v, tgt) = true) (g : ∀ w, Gd X M h0 (f w) h (pc + 1) L (.inl w :: st)) : Gd X M h0 (aldI h r [3] i f) h pc L (.inl i :: .inr (.inr r) :: st) := by
  have hd := tb_len hx rfl
  unfold aldI
  split
  · next a0 k n gg e =>
    split
    · next hc =>
      rw [Bool.and_eq_true] at hc
      obtain ⟨rfl, hcell⟩ := ar_some e
      have hin := inB_in hc.2
      have hk := ks_mem hc.1
      refine q_w (g _) (fun {p l e R s m args below meth c H locs cells slots Q ls} hat hI _ hl kk => ?_)
      have kk := kk ls hl
      obtain ⟨ws, hP, hD, hz, hN, hr⟩ := hI.1
      rcases hr a0 _ hcell with ⟨h7, j, hj⟩ | ⟨h10, -⟩ | ⟨h11, -⟩
      · have k0 : k = 3 := by simp at hk; omega
        subst k0
        exact va_cald hat.1 hat.2.1 hat.2.2.2.2.2.2.1.1 hP j 3 hj rfl hin hd kk
      · simp at hk; omega
      · simp at hk; omega
    · exact gd_none
  · exact gd_none
theorem q_aaload (hx : tbB M.2.1 (pc, .aaload, len, v, tgt) = true) (g : ∀ w, Gd X M h0 (fr w) h (pc + 1) L (.inr (.inr w) :: st)) : Gd X M h0 (aldR h r i fr) h pc L (.inl i :: .inr (.inr r) :: st) := by
  have hd := tb_len hx rfl
  unfold aldR
  split
  · next a0 k n gg e =>
    split
    · next hc =>
      rw [Bool.and_eq_true, Bool.and_eq_true] at hc
      obtain ⟨rfl, hcell⟩ := ar_some e
      have hin := inB_in hc.2
      have k3 : 3 < k := Nat.le_of_ble_eq_true hc.1.1
      have k7 : k < 7 := Nat.le_of_ble_eq_true hc.1.2
      refine q_w (g _) (fun {p l e R s m args below meth c H locs cells slots Q ls} hat hI _ hl kk => ?_)
      have kk := kk ls hl
      obtain ⟨ws, hP, hD, hz, hN, hr⟩ := hI.1
      rcases hr a0 _ hcell with ⟨h7, j, hj⟩ | ⟨h10, -⟩ | ⟨h11, -⟩
      · have ht := tysX_at X k7
        have hC : ∃ C, tyA k = .object C := by
          rcases (by omega : k = 4 ∨ k = 5 ∨ k = 6) with rfl | rfl | rfl <;> exact ⟨_, rfl⟩
        obtain ⟨C, hC⟩ := hC
        rw [hC] at ht
        exact va_aldq hat.1 hat.2.1 hat.2.2.2.2.2.2.1.1 hP j k hj ht hin hd kk
      · omega
      · omega
    · exact gd_none
  · exact gd_none
theorem q_alen (hx : tbB M.2.1 (pc, .arraylength, len, v, tgt) = true) (g : ∀ w, Gd X M h0 (f w) h (pc + 1) L (.inl w :: st)) : Gd X M h0 (lenA h r f) h pc L (.inr (.inr r) :: st) := by
  have hd := tb_len hx rfl
  unfold lenA
  split
  · next a0 k n y e =>
    obtain ⟨rfl, hcell⟩ := ar_some e
    refine q_w (g _) (fun {p l e R s m args below meth c H locs cells slots Q ls} hat hI _ hl kk => ?_)
    have kk := kk ls hl
    obtain ⟨ws, hP, hD, hz, hN, hr⟩ := hI.1
    rcases hr a0 _ hcell with ⟨h7, j, hj⟩ | ⟨h10, g0, hg, hT⟩ | ⟨h11, g0, hg, -, hT⟩
    · exact va_alen hat.1 hat.2.1 hat.2.2.2.2.2.2.1.1 hP j k hj (tysX_at X h7) rfl hd kk
    · exact va_tlen hat.1 hat.2.1 hT hI.S rfl hd kk
    · exact va_tlen hat.1 hat.2.1 hT hI.S rfl hd kk
  · exact gd_none
/-- a store into an array of numbers, by its kind -/
theorem ast_fin {X : Cx} {s : State} {h : Hp} {H H1 : Heap} {locs : List Loc} {a0 k n j q : Nat} {gg : Nat → Int32} {y : Int32} (hI : Inv X s h H locs) {ws : va_W} (hP : va_P X.1 vwCl ws H) (hD : va_D (AX X) ws) (hz : H.size = h.2.1) (hN : X.2.2.1 ≤ h.2.1) (hr : ∀ a e, h.1 a = some e → rep1 X s ws a e) (h7 : k < 7)
    (hj : ws[j]? = some (a0, .inl (X.2.1 k, n, .inl gg))) (e1 : H1[a0]? = some ((vp_cell (X.2.1 k) (n, .inl gg)).setSlot q (.int y))) (e2 : H1.size = H.size) (e3 : ∀ b, b ≠ a0 → H1[b]? = H[b]?) : Inv X s (upH h a0 (.inl (k, n, .inl (upd gg q y)))) H1 (locs ++ [⟨a0, q⟩]) := by
  refine hI.put (RepH.put hP hD hz hN hr hj (e1 := .inl (X.2.1 k, n, .inl (upd gg q y))) ?_ e2 e3 (fun ws' h' => Or.inl ⟨h7, j, h'⟩)) e2 e3 (hD.2 j _ hj)
  show H1[a0]? = some (vp_cell _ _)
  rw [e1, vp_cell_i, vp_cell_i, arrV_store]
  congr 2
  funext b
  by_cases hb : b = q
  · subst hb
    simp [updV, upd]
  · simp [updV, upd, hb]
theorem q_iastore (hx : tbB M.2.1 (pc, .iastore, len, v, tgt) = true) (g : ∀ h1, Gd X M h0 (fh h1) h1 (pc + 1) L st) : Gd X M h0 (astI h r [0] i x fh) h pc L (.inl x :: .inl i :: .inr (.inr r) :: st) := by
  have hd := tb_len hx rfl
  unfold astI
  split
  · next a0 k n gg e =>
    split
    · next hc =>
      rw [Bool.and_eq_true, Bool.and_eq_true] at hc
      obtain ⟨rfl, hcell⟩ := ar_some e
      have hin := inB_in hc.2
      have hk := ks_mem hc.1.1
      have k0 : k = 0 := by simpa using hk
      subst k0
      refine q_h (h1 := upH h a0 _) rfl (g _) (fun {p l e R s m args below meth c H locs cells slots Q ls} hat hI hl kk => ?_)
      obtain ⟨ws, hP, hD, hz, hN, hr⟩ := hI.1
      rcases hr a0 _ hcell with ⟨h7, j, hj⟩ | ⟨h10, -⟩ | ⟨h11, -⟩
      · exact W.iast hat.1 hat.2.1 (hP j _ hj) ((hat.2.2.2.2.2.2.1.1.2 0 _ rfl).1 n (fun j => .int (gg j))) (fun q => by cases q) (by show ¬ (i < 0 ∨ (arrV _ _ _).slots.size ≤ _); rw [arrV_size]; exact hin) rfl rfl hd
          fun H1 e1 e2 e3 => kk H1 _ (ast_fin hI hP hD hz hN hr h7 hj e1 e2 e3)
      · omega
      · omega
    · exact gd_none
  · exact gd_none
theorem q_bastore (hx : tbB M.2.1 (pc, .bastore, len, v, tgt) = true) (g : ∀ h1, Gd X M h0 (fh h1) h1 (pc + 1) L st) : Gd X M h0 (astI h r [1, 2] i x fh) h pc L (.inl x :: .inl i :: .inr (.inr r) :: st) := by
  have hd := tb_len hx rfl
  unfold astI
  split
  · next a0 k n gg e =>
    split
    · next hc =>
      rw [Bool.and_eq_true, Bool.and_eq_true] at hc
      obtain ⟨rfl, hcell⟩ := ar_some e
      have hin := inB_in hc.2
      have hk := ks_mem hc.1.1
      have k0 : k = 1 ∨ k = 2 := by simpa using hk
      refine q_h (h1 := upH h a0 _) rfl (g _) (fun {p l e R s m args below meth c H locs cells slots Q ls} hat hI hl kk => ?_)
      obtain ⟨ws, hP, hD, hz, hN, hr⟩ := hI.1
      rcases hr a0 _ hcell with ⟨h7, j, hj⟩ | ⟨h10, -⟩ | ⟨h11, -⟩
      · rcases k0 with rfl | rfl
        · exact W.bast hat.1 hat.2.1 (hP j _ hj) ((hat.2.2.2.2.2.2.1.1.2 1 _ rfl).1 n (fun j => .int (gg j))) (fun q => by cases q) (by show ¬ (i < 0 ∨ (arrV _ _ _).slots.size ≤ _); rw [arrV_size]; exact hin) rfl rfl hd
            fun H1 e1 e2 e3 => kk H1 _ (ast_fin hI hP hD hz hN hr h7 hj e1 e2 e3)
        · exact W.bast hat.1 hat.2.1 (hP j _ hj) ((hat.2.2.2.2.2.2.1.1.2 2 _ rfl).1 n (fun j => .int (gg j))) (fun q => by cases q) (by show ¬ (i < 0 ∨ (arrV _ _ _).slots.size ≤ _); rw [arrV_size]; exact hin) rfl rfl hd
            fun H1 e1 e2 e3 => kk H1 _ (ast_fin hI hP hD hz hN hr h7 hj e1 e2 e3)
      · omega
      · omega
    · exact gd_none
  · exact gd_none
theorem q_castore (hx : tbB M.2.1 (pc, .castore, len, v, tgt) = true) (g : ∀ h1, Gd X M h0 (fh h1) h1 (pc + 1) L st) : Gd X M h0 (astI h r [3] i x fh) h pc L (.inl x :: .inl i :: .inr (.inr r) :: st) := by
  have hd := tb_len hx rfl
  unfold astI
  split
  · next a0 k n gg e =>
    split
    · next hc =>
      rw [Bool.and_eq_true, Bool.and_eq_true] at hc
      obtain ⟨rfl, hcell⟩ := ar_some e
      have hin := inB_in hc.2
      have hk := ks_mem hc.1.1
      have k0 : k = 3 := by simpa using hk
      subst k0
      refine q_h (h1 := upH h a0 _) rfl (g _) (fun {p l e R s m args below meth c H locs cells slots Q ls} hat hI hl kk => ?_)
      obtain ⟨ws, hP, hD, hz, hN, hr⟩ := hI.1
      rcases hr a0 _ hcell with ⟨h7, j, hj⟩ | ⟨h10, -⟩ | ⟨h11, -⟩
      · exact W.cast hat.1 hat.2.1 (hP j _ hj) ((hat.2.2.2.2.2.2.1.1.2 3 _ rfl).1 n (fun j => .int (gg j))) (fun q => by cases q) (by show ¬ (i < 0 ∨ (arrV _ _ _).slots.size ≤ _); rw [arrV_size]; exact hin) rfl rfl hd
          fun H1 e1 e2 e3 => kk H1 _ (ast_fin hI hP hD hz hN hr h7 hj e1 e2 e3)
      · omega
      · omega
    · exact gd_none
  · exact gd_none
theorem astR_fin {X : Cx} {s : State} {h : Hp} {H H1 : Heap} {locs : List Loc} {a0 k n j q : Nat} {gg : Nat → Option Nat} {y : Option Nat} (hI : Inv X s h H locs) {ws : va_W} (hP : va_P X.1 vwCl ws H) (hD : va_D (AX X) ws) (hz : H.size = h.2.1) (hN : X.2.2.1 ≤ h.2.1) (hr : ∀ a e, h.1 a = some e → rep1 X s ws a e) (h7 : k < 7)
    (hj : ws[j]? = some (a0, .inl (X.2.1 k, n, .inr (.inr (.inr (.inr gg)))))) (e1 : H1[a0]? = some ((vp_cell (X.2.1 k) (n, .inr (.inr (.inr (.inr gg))))).setSlot q (va_rf y))) (e2 : H1.size = H.size) (e3 : ∀ b, b ≠ a0 → H1[b]? = H[b]?) : Inv X s (upH h a0 (.inl (k, n, .inr (.inr (.inr (.inr (va_up gg q y))))))) H1 (locs ++ [⟨a0, q⟩]) := by
  refine hI.put (RepH.put hP hD hz hN hr hj (e1 := .inl (X.2.1 k, n, .inr (.inr (.inr (.inr (va_up gg q y)))))) ?_ e2 e3 (fun ws' h' => Or.inl ⟨h7, j, h'⟩)) e2 e3 (hD.2 j _ hj)
  show H1[a0]? = some (vp_cell _ _)
  rw [e1, vp_cell_q, vp_cell_q, arrV_store]
  congr 2
  funext b
  by_cases hb : b = q
  · subst hb
    simp [updV, va_up]
  · simp [updV, va_up, hb]
def clR : Nat → vw_C
  | 4 => (RX1, TX1, 4)
  | 5 => (RX2, TX2, 14)
  | _ => (RX4, TX4, 13)
theorem clR_ok {k : Nat} (h3 : 3 < k) (h7 : k < 7) : vwCl[ecl k]? = some (clR k) ∧ tyA k = .object (clR k).1 := by
  rcases (by omega : k = 4 ∨ k = 5 ∨ k = 6) with rfl | rfl | rfl <;> exact ⟨rfl, rfl⟩
theorem q_aastore {w : Option Nat} (hx : tbB M.2.1 (pc, .aastore, len, v, tgt) = true) (g : ∀ h1, Gd X M h0 (fh h1) h1 (pc + 1) L st) : Gd X M h0 (astR h r i w fh) h pc L (.inr (.inr w) :: .inl i :: .inr (.inr r) :: st) := by
  have hd := tb_len hx rfl
  unfold astR
  split
  · next a0 k n gg e =>
    split
    · next hc =>
      rw [Bool.and_eq_true, Bool.and_eq_true, Bool.and_eq_true] at hc
      obtain ⟨rfl, hcell⟩ := ar_some e
      have hin := inB_in hc.2.1
      have k3 : 3 < k := Nat.le_of_ble_eq_true hc.1.1
      have k7 : k < 7 := Nat.le_of_ble_eq_true hc.1.2
      have hel := hc.2.2
      obtain ⟨hcl, hty⟩ := clR_ok k3 k7
      refine q_h (h1 := upH h a0 _) rfl (g _) (fun {p l e R s m args below meth c H locs cells slots Q ls} hat hI hl kk => ?_)
      obtain ⟨ws, hP, hD, hz, hN, hr⟩ := hI.1
      have hK : va_K X.1 vwCl (tysX X) s := hat.2.2.2.2.2.2.1.1
      have ht := tysX_at X k7
      rw [hty] at ht
      have hin' : ¬ (i < 0 ∨ (vp_cell (X.2.1 k) (n, .inr (.inr (.inr (.inr gg))))).slots.size ≤ i.toNatClampNeg) := by
        show ¬ (i < 0 ∨ (arrV _ _ _).slots.size ≤ _)
        rw [arrV_size]
        exact hin
      rcases hr a0 _ hcell with ⟨h7, j, hj⟩ | ⟨h10, -⟩ | ⟨h11, -⟩
      · cases w with
        | none => exact va_WaastN (C := (clR k).1) hat.1 hat.2.1 (hP j _ hj) ((hK.2 k _ ht).1 n (fun j => va_rf (gg j))) (fun q => by cases q) hin' rfl rfl hd fun H1 e1 e2 e3 => kk H1 _ (astR_fin (y := none) hI hP hD hz hN hr h7 hj e1 e2 e3)
        | some b =>
          unfold isEl at hel
          split at hel
          · next q => cases q
          · next b' q =>
            cases q
            split at hel
            · next c0 fs hcb =>
              have hc0 : c0 = ecl k := by simpa using hel
              subst hc0
              rcases hr b _ hcb with ⟨h9, jb, hjb⟩ | ⟨h10, -⟩
              · obtain ⟨r', hr', cellV, g1, g2, g3, -⟩ := hP jb _ hjb
                have hcls := (hK.1 (ecl k) (clR k) hcl).2
                obtain ⟨kA, comp, k1, k2, k3', -⟩ := (hK.2 k _ ht).2
                have hcomp : comp = X.1.1 (ecl k) := Option.some.inj (k3'.symm.trans hcls.1)
                subst hcomp
                obtain ⟨kC, hkC, -⟩ := hcls.2
                exact W.aast hat.1 hat.2.1 (hP j _ hj) (fun q h => by cases h) (fun h => by cases h) k1 k2 rfl hkC ⟨fun q => hin' (Or.inl q), Nat.not_le.mp fun q => hin' (Or.inr q)⟩ g1 (fun q h => by rw [g3] at h; cases h) (by rw [g2]; exact hkC) (by rw [g2]; exact va_assign hcls) rfl rfl hd
                  fun H1 e1 e2 e3 => kk H1 _ (astR_fin (y := some b) hI hP hD hz hN hr h7 hj e1 e2 e3)
              · rcases (by omega : k = 4 ∨ k = 5 ∨ k = 6) with rfl | rfl | rfl <;> cases h10
            · cases hel
      · omega
      · omega
    · exact gd_none
  · exact gd_none
end ARR
section MAKE
variable {X : Cx} {M : MI} {h0 h : Hp} {o : Rs} {L : List (Option AV)} {st : List AV} {pc len tgt idx : Nat} {v i x : Int32} {f : Hp → Option Nat → Rs}
theorem q_mk {h1 : Hp} {n pb : Nat} {st0 : List AV} (e1 : h1.2.1 = h.2.1 + 1) (e2 : h1.2.2 = h.2.2 + n) (g : Gd X M h0 o h1 pb L st)
    (w : ∀ {p : Program} {l : Launch} {e : Jvm.Env} {R : Room} {s : State} {m : MethodId} {args : Array Value} {below : List Frame} {meth : Method} {c : Code} {H : Heap} {locs : List Loc} {cells slots : Nat} {Q : State → Prop} {ls : Array Slot}, At0 M X p s m args meth c → Inv X s h H locs → LV ls M.2.2.1 L → cells + 1 ≤ R.cells → slots + n ≤ R.slots → (∀ H1, Inv X s h1 H1 locs → W p l e R s m args below meth c H1 locs (cells + 1) (slots + n) Q (F0 m pb ls (st.map tV))) → W p l e R s m args below meth c H locs cells slots Q (F0 m pc ls (st0.map tV))) : Gd X M h0 o h pc L st0 := by
  intro hf res ho
  obtain ⟨hle, g⟩ := g hf res ho
  unfold HLe at hle
  rw [e1, e2] at hle
  refine ⟨⟨by omega, by omega⟩, fun h0h l p e R s m args below meth c Q hat hrm hret H locs ls hI hl => ?_⟩
  unfold HLe at h0h
  refine w hat hI hl (by have := hrm.2.2.1; omega) (by have := hrm.2.2.2; omega) (fun H1 hI1 => ?_)
  have := g ⟨by rw [e1]; omega, by rw [e2]; omega⟩ l p e R s m args below meth c Q hat hrm hret H1 locs ls hI1 hl
  rw [e1, e2, show h.2.1 + 1 - h0.2.1 = h.2.1 - h0.2.1 + 1 by omega, show h.2.2 + n - h0.2.2 = h.2.2 - h0.2.2 + n by omega] at this
  exact this
theorem q_new {ci : Nat} (C : String) (T : u_T) (N : Nat) (hx : tbB M.2.1 (pc, .new idx, len, v, tgt) = true) (h9 : ci < 8) (hc : vwCl[ci]? = some (C, T, N)) (hw : Cond.classLink M.1.cls idx C ∈ goodTbl ∧ Cond.instantiable C N ∈ goodTbl ∧ Cond.initialized C ∈ goodTbl)
    (g : ∀ h1 q, Gd X M h0 (f h1 q) h1 (pc + 3) L (.inr (.inr q) :: st)) : Gd X M h0 (nwO h ci f) h pc L st := by
  have hd := tb_len hx rfl
  obtain ⟨C', T', N', hc', hty, hnm, hNn, hdf⟩ := cl_9 h9
  have heq : (C', T', N') = (C, T, N) := Option.some.inj (hc'.symm.trans hc)
  cases heq
  refine q_mk (h1 := pushH h (.inr (ci, dfC ci)) (nmC ci)) rfl rfl (g _ _) (fun {p l e R s m args below meth c H locs cells slots Q ls} hat hI hl hcl hsl kk => ?_)
  have hts := hat.2.2.2.2.2.1
  have hKn := hat.2.2.2.2.2.2.1.1.1 ci _ hc
  have hz : H.size = h.2.1 := by obtain ⟨ws, -, -, hz, -⟩ := hI.1; exact hz
  subst hNn
  refine W.newcK hat.1 hat.2.1 hat.2.2.2.1 (hts _ hw.1) (hts _ hw.2.1) (hts _ hw.2.2) rfl hd hcl hsl hKn.2.1 hz fun H1 kC hkC e1 z1 o1 => ?_
  refine kk H1 (hI.push (RepH.push hI.1 (e1 := .inr (ci, (dfC ci).map tV)) ⟨_, hc, ?_⟩ (by rw [z1, hz]) (fun q hq => o1 q (by rw [← hz]; exact hq)) (fun ws' i h' => Or.inl ⟨h9, i, h'⟩)) (by rw [z1, hz]) (fun q hq => o1 q (by rw [← hz]; exact hq)))
  rw [hz]
  exact (u_born _ hts (cl_in hc) hKn hkC e1 hty).to hdf
def atyOf : Nat → ArrayType
  | 0 => .int
  | 1 => .byte
  | 2 => .byte
  | _ => .char
theorem q_newa {k : Nat} (hk : k < 4) (hx : tbB M.2.1 (pc, .newarray (atyOf k), len, v, tgt) = true) (hw : Cond.arrayClass (newarray.typeOf (atyOf k)) ∈ goodTbl)
    (g : ∀ h1 q, Gd X M h0 (f h1 q) h1 (pc + 2) L (.inr (.inr q) :: st)) : Gd X M h0 (nwA h k x f) h pc L (.inl x :: st) := by
  have hd := tb_len hx rfl
  unfold nwA
  split
  · next hc =>
    rw [Bool.and_eq_true] at hc
    have hx0 : ¬ x < 0 := by simpa using hc.1
    have hxm : x.toNatClampNeg ≤ 1000000 := Nat.le_of_ble_eq_true hc.2
    refine q_mk rfl rfl (g _ _) (fun {p l e R s m args below meth c H locs cells slots Q ls} hat hI hl hcl hsl kk => ?_)
    have hts := hat.2.2.2.2.2.1
    have hK : va_K X.1 vwCl (tysX X) s := hat.2.2.2.2.2.2.1.1
    have hz : H.size = h.2.1 := by obtain ⟨ws, -, -, hz, -⟩ := hI.1; exact hz
    refine va_newaK hat.1 hat.2.1 (hts _ hw) rfl hd rfl hx0 rfl ?_ hcl hsl hz fun H1 cA e1 z1 o1 hAr hNm => ?_
    · rcases (by omega : k = 0 ∨ k = 1 ∨ k = 2 ∨ k = 3) with rfl | rfl | rfl | rfl <;> (simp only [atyOf, newarray.typeOf, componentBytes]; omega)
    · have hcA : cA = X.2.1 k := by
        have h2 := (hK.2 k _ (tysX_at X (by omega : k < 7))).2
        rcases (by omega : k = 0 ∨ k = 1 ∨ k = 2 ∨ k = 3) with rfl | rfl | rfl | rfl <;> exact Option.some.inj (hNm.symm.trans h2)
      subst hcA
      refine kk H1 (hI.push (RepH.push hI.1 (e1 := .inl (X.2.1 k, x.toNatClampNeg, .inl (fun _ => 0))) ?_ (by rw [z1, hz]) (fun q hq => o1 q (by rw [← hz]; exact hq)) (fun ws' i h' => Or.inl ⟨by omega, i, h'⟩)) (by rw [z1, hz]) (fun q hq => o1 q (by rw [← hz]; exact hq)))
      show H1[H.size]? = some (vp_cell _ _)
      rw [hz, e1, vp_cell_i]
      rcases (by omega : k = 0 ∨ k = 1 ∨ k = 2 ∨ k = 3) with rfl | rfl | rfl | rfl <;> rfl
  · exact gd_none
theorem q_newr {k : Nat} (h3 : 3 < k) (h7 : k < 7) (hx : tbB M.2.1 (pc, .anewarray idx, len, v, tgt) = true) (hw : Cond.classLink M.1.cls idx (clR k).1 ∈ goodTbl)
    (g : ∀ h1 q, Gd X M h0 (f h1 q) h1 (pc + 3) L (.inr (.inr q) :: st)) : Gd X M h0 (nwR h k x f) h pc L (.inl x :: st) := by
  have hd := tb_len hx rfl
  unfold nwR
  split
  · next hc =>
    rw [Bool.and_eq_true] at hc
    have hx0 : ¬ x < 0 := by simpa using hc.1
    have hxm : x.toNatClampNeg ≤ 1000000 := Nat.le_of_ble_eq_true hc.2
    refine q_mk rfl rfl (g _ _) (fun {p l e R s m args below meth c H locs cells slots Q ls} hat hI hl hcl hsl kk => ?_)
    have hts := hat.2.2.2.2.2.1
    have hK : va_K X.1 vwCl (tysX X) s := hat.2.2.2.2.2.2.1.1
    have hao : va_AO (clR k).1 s := by
      obtain ⟨a1, a2, a3⟩ := hat.2.2.2.2.2.2.1.2.1
      rcases (by omega : k = 4 ∨ k = 5 ∨ k = 6) with rfl | rfl | rfl
      · exact a1
      · exact a2
      · exact a3
    have hz : H.size = h.2.1 := by obtain ⟨ws, -, -, hz, -⟩ := hI.1; exact hz
    refine W.anew hat.1 hat.2.1 hat.2.2.2.1 (hts _ hw) (va_AO.use hao) rfl hd rfl hx0 (by omega) hcl hsl fun cA kA comp f1 f2 f3 f4 => ?_
    obtain ⟨hcl', hty⟩ := clR_ok h3 h7
    have ht := tysX_at X h7
    rw [hty] at ht
    have hcA : cA = X.2.1 k := by
      obtain ⟨_, _, -, -, -, h4⟩ := (hK.2 k _ ht).2
      exact Option.some.inj (f1.symm.trans h4)
    subst hcA
    generalize hH1 : H.push ({ cls := X.2.1 k, slots := Array.replicate x.toNatClampNeg .null, vm := .none } : Cell) = H1
    have z1 : H1.size = H.size + 1 := by rw [← hH1, Array.size_push]
    have e1 : H1[H.size]? = some (arrV (X.2.1 k) x.toNatClampNeg (fun _ => .null)) := by rw [← hH1, Array.getElem?_push_size, ← arrV_new]
    have o1 : ∀ q : Nat, q < H.size → H1[q]? = H[q]? := fun q hq => by rw [← hH1, Array.getElem?_push, if_neg (Nat.ne_of_lt hq)]
    have kk := kk H1 (hI.push (RepH.push hI.1 (e1 := .inl (X.2.1 k, x.toNatClampNeg, .inr (.inr (.inr (.inr (fun _ => none)))))) (by
      show H1[H.size]? = some (vp_cell _ _)
      rw [vp_cell_q]
      exact e1) z1 o1 (fun ws' i h' => Or.inl ⟨h7, i, h'⟩)) z1 o1)
    rw [hz]
    exact kk
  · exact gd_none
end MAKE
