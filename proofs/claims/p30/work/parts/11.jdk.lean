/-- java/lang/AbstractStringBuilder.init -/
abbrev mJ5_init_d00df : MI := (yJ5_init_d00df, cJ5_init_d00df, 2, none, 1)
def tbJ5_init_d00df : List TE := [(0, .aload_n 0, 1, 0, 0), (1, .invokespecial 3, 3, 0, 0), (4, .getstatic 18, 3, 0, 0), (7, .ifCond .eq 18, 3, 0, 25), (10, .aload_n 0, 1, 0, 0), (11, .iload_n 1, 1, 0, 0), (12, .newarray .byte, 2, 0, 0), (14, .putfield 15, 3, 0, 0), (17, .aload_n 0, 1, 0, 0), (18, .iconst 0, 1, 0, 0), (19, .putfield 22, 3, 0, 0), (22, .goto 16, 3, 0, 38), (25, .aload_n 0, 1, 0, 0), (26, .iload_n 1, 1, 0, 0), (27, .invokestatic 26, 3, 0, 0), (30, .putfield 15, 3, 0, 0), (33, .aload_n 0, 1, 0, 0), (34, .iconst 1, 1, 1, 0), (35, .putfield 22, 3, 0, 0), (38, .return_, 1, 0, 0)]
theorem tkJ5_init_d00df : ∀ x ∈ tbJ5_init_d00df, tbB cJ5_init_d00df x = true := tb_all (by decide +kernel)
def fJ5_init_d00df (c : Nat → Option Nat) (h : Hp) (a0 : Option Nat) (a1 : Int32) : Rs := dn a0 (if (1 : Int32) = 0 then none else (nwA h 1 a1 (fun h1 r2 => wr h1 a0 1 0 (.inr (.inr r2)) (fun h3 => wr h3 a0 1 1 (.inl (0 : Int32)) (fun h4 => some (h4, none))))))
set_option maxHeartbeats 4000000 in
set_option maxRecDepth 100000 in
theorem soJ5_init_d00df (X : Cx) (h : Hp) (a0 : Option Nat) (a1 : Int32) : SO X mJ5_init_d00df [.inr (.inr a0), .inl a1] h (fJ5_init_d00df X.2.2.2 h a0 a1) := by
  refine so_of (by decide +kernel) (Nat.le_of_ble_eq_true rfl) ?_
  show Gd X mJ5_init_d00df h (fJ5_init_d00df X.2.2.2 h a0 a1) h 0 [some (.inr (.inr a0)), some (.inl a1)] []
  unfold fJ5_init_d00df
  refine q_run tkJ5_init_d00df 0 1 (pc' := 1) (L' := [some (.inr (.inr a0)), some (.inl a1)]) (st' := [.inr (.inr a0)]) rfl ?_
  refine q_obj (tbm tkJ5_init_d00df (i := 1) rfl) (Nat.le_of_ble_eq_true rfl) (Nat.le_of_ble_eq_true rfl) ⟨wd_194, wd_oi, wd_oc⟩ ?_
  refine q_gs (w := .inl (1 : Int32)) (tbm tkJ5_init_d00df (i := 2) rfl) e_z4 wd_195 ?_
  refine q_if_eq (tbm tkJ5_init_d00df (i := 3) rfl) ?_ ?_
  · refine q_run tkJ5_init_d00df 12 2 (pc' := 27) (L' := [some (.inr (.inr a0)), some (.inl a1)]) (st' := [.inl a1, .inr (.inr a0)]) rfl ?_
    exact gd_none
  · refine q_run tkJ5_init_d00df 4 2 (pc' := 12) (L' := [some (.inr (.inr a0)), some (.inl a1)]) (st' := [.inl a1, .inr (.inr a0)]) rfl ?_
    refine q_newa (k := 1) (Nat.le_of_ble_eq_true rfl) (tbm tkJ5_init_d00df (i := 6) rfl) wd_218 (fun h1 r2 => ?_)
    refine q_wr RJ4 TJ4 4 (tbm tkJ5_init_d00df (i := 7) rfl) rfl (Nat.le_of_ble_eq_true rfl) (Or.inl rfl) wd_204 (fun h3 => ?_)
    refine q_run tkJ5_init_d00df 8 2 (pc' := 19) (L' := [some (.inr (.inr a0)), some (.inl a1)]) (st' := [.inl (0 : Int32), .inr (.inr a0)]) rfl ?_
    refine q_wr RJ4 TJ4 4 (tbm tkJ5_init_d00df (i := 10) rfl) rfl (Nat.le_of_ble_eq_true rfl) (Or.inl rfl) wd_205 (fun h4 => ?_)
    refine q_run tkJ5_init_d00df 11 1 (pc' := 38) (L' := [some (.inr (.inr a0)), some (.inl a1)]) (st' := []) rfl ?_
    exact q_vret (tbm tkJ5_init_d00df (i := 19) rfl) rfl
theorem ceJ5_init_d00df : Ce mJ5_init_d00df 1 := ⟨wd_22, wd_193, by decide +kernel, by decide +kernel, by decide +kernel⟩
/-- java/lang/StringBuilder.init -/
abbrev mJ4_init_da8c8 : MI := (yJ4_init_da8c8, cJ4_init_da8c8, 1, none, 2)
def tbJ4_init_da8c8 : List TE := [(0, .aload_n 0, 1, 0, 0), (1, .bipush 16, 2, 16, 0), (3, .invokespecial 1, 3, 0, 0), (6, .return_, 1, 0, 0)]
theorem tkJ4_init_da8c8 : ∀ x ∈ tbJ4_init_da8c8, tbB cJ4_init_da8c8 x = true := tb_all (by decide +kernel)
def fJ4_init_da8c8 (c : Nat → Option Nat) (h : Hp) (a0 : Option Nat) : Rs := dn a0 (cc (fJ5_init_d00df c h a0 (16 : Int32)) (kV fun h1 => some (h1, none)))
set_option maxHeartbeats 4000000 in
set_option maxRecDepth 100000 in
theorem soJ4_init_da8c8 (X : Cx) (h : Hp) (a0 : Option Nat) : SO X mJ4_init_da8c8 [.inr (.inr a0)] h (fJ4_init_da8c8 X.2.2.2 h a0) := by
  refine so_of (by decide +kernel) (Nat.le_of_ble_eq_true rfl) ?_
  show Gd X mJ4_init_da8c8 h (fJ4_init_da8c8 X.2.2.2 h a0) h 0 [some (.inr (.inr a0))] []
  unfold fJ4_init_da8c8
  refine q_run tkJ4_init_da8c8 0 2 (pc' := 3) (L' := [some (.inr (.inr a0))]) (st' := [.inl (16 : Int32), .inr (.inr a0)]) rfl ?_
  refine q_ci (r := a0) (n := 1) (as := [.inl (16 : Int32)]) (st := []) (soJ5_init_d00df X h a0 (16 : Int32)) (tbm tkJ4_init_da8c8 (i := 2) rfl) rfl ceJ5_init_d00df wd_192 rfl rfl wd_191 rfl (Nat.le_of_ble_eq_true rfl) (kV_gd (fun h1 => ?_))
  exact q_vret (tbm tkJ4_init_da8c8 (i := 3) rfl) rfl
theorem ceJ4_init_da8c8 : Ce mJ4_init_da8c8 0 := ⟨wd_23, wd_190, by decide +kernel, by decide +kernel, by decide +kernel⟩
/-- java/lang/AbstractStringBuilder.length -/
abbrev mJ5_length_8abf5 : MI := (yJ5_length_8abf5, cJ5_length_8abf5, 1, some .int, 0)
def tbJ5_length_8abf5 : List TE := [(0, .aload_n 0, 1, 0, 0), (1, .getfield 79, 3, 0, 0), (4, .ireturn, 1, 0, 0)]
theorem tkJ5_length_8abf5 : ∀ x ∈ tbJ5_length_8abf5, tbB cJ5_length_8abf5 x = true := tb_all (by decide +kernel)
def fJ5_length_8abf5 (c : Nat → Option Nat) (h : Hp) (a0 : Option Nat) : Rs := rdI h a0 1 3 (fun x1 => some (h, some (.inl x1)))
set_option maxHeartbeats 4000000 in
set_option maxRecDepth 100000 in
theorem soJ5_length_8abf5 (X : Cx) (h : Hp) (a0 : Option Nat) : SO X mJ5_length_8abf5 [.inr (.inr a0)] h (fJ5_length_8abf5 X.2.2.2 h a0) := by
  refine so_of (by decide +kernel) (Nat.le_of_ble_eq_true rfl) ?_
  show Gd X mJ5_length_8abf5 h (fJ5_length_8abf5 X.2.2.2 h a0) h 0 [some (.inr (.inr a0))] []
  unfold fJ5_length_8abf5
  refine q_run tkJ5_length_8abf5 0 1 (pc' := 1) (L' := [some (.inr (.inr a0))]) (st' := [.inr (.inr a0)]) rfl ?_
  refine q_rdI RJ4 TJ4 4 (tbm tkJ5_length_8abf5 (i := 1) rfl) rfl (Nat.le_of_ble_eq_true rfl) wd_208 (fun x1 => ?_)
  exact q_iret (tbm tkJ5_length_8abf5 (i := 2) rfl) rfl
theorem ceJ5_length_8abf5 : Ce mJ5_length_8abf5 0 := ⟨wd_22, wd_328, by decide +kernel, by decide +kernel, by decide +kernel⟩
/-- java/lang/StringBuilder.length -/
abbrev mJ4_length_8abf5 : MI := (yJ4_length_8abf5, cJ4_length_8abf5, 1, some .int, 1)
def tbJ4_length_8abf5 : List TE := [(0, .aload_n 0, 1, 0, 0), (1, .invokespecial 343, 3, 0, 0), (4, .ireturn, 1, 0, 0)]
theorem tkJ4_length_8abf5 : ∀ x ∈ tbJ4_length_8abf5, tbB cJ4_length_8abf5 x = true := tb_all (by decide +kernel)
def fJ4_length_8abf5 (c : Nat → Option Nat) (h : Hp) (a0 : Option Nat) : Rs := ck h a0 1 (cc (fJ5_length_8abf5 c h a0) (kI fun h1 x2 => some (h1, some (.inl x2))))
set_option maxHeartbeats 4000000 in
set_option maxRecDepth 100000 in
theorem soJ4_length_8abf5 (X : Cx) (h : Hp) (a0 : Option Nat) : SO X mJ4_length_8abf5 [.inr (.inr a0)] h (fJ4_length_8abf5 X.2.2.2 h a0) := by
  refine so_of (by decide +kernel) (Nat.le_of_ble_eq_true rfl) ?_
  show Gd X mJ4_length_8abf5 h (fJ4_length_8abf5 X.2.2.2 h a0) h 0 [some (.inr (.inr a0))] []
  unfold fJ4_length_8abf5
  refine q_run tkJ4_length_8abf5 0 1 (pc' := 1) (L' := [some (.inr (.inr a0))]) (st' := [.inr (.inr a0)]) rfl ?_
  refine q_csu (r := a0) (ci := 1) (n := 0) (as := []) (st := []) RJ4 TJ4 4 (soJ5_length_8abf5 X h a0) (tbm tkJ4_length_8abf5 (i := 1) rfl) rfl rfl ceJ5_length_8abf5 wd_327 wd_217 wd_828 (by decide +kernel) wd_326 rfl (Nat.le_of_ble_eq_true rfl) (kI_gd (fun h1 x2 => ?_))
  exact q_iret (tbm tkJ4_length_8abf5 (i := 2) rfl) rfl
theorem ceJ4_length_8abf5 : Ce mJ4_length_8abf5 0 := ⟨wd_23, wd_325, by decide +kernel, by decide +kernel, by decide +kernel⟩
/-- java/lang/Integer.bitCount -/
abbrev mJ6_bitCount_0f7a4 : MI := (yJ6_bitCount_0f7a4, cJ6_bitCount_0f7a4, 1, some .int, 0)
def tbJ6_bitCount_0f7a4 : List TE := [(0, .iload_n 0, 1, 0, 0), (1, .iload_n 0, 1, 0, 0), (2, .iconst 1, 1, 1, 0), (3, .iushr, 1, 0, 0), (4, .ldc_w 265, 3, 0, 0), (7, .iand, 1, 0, 0), (8, .isub, 1, 0, 0), (9, .istore_n 0, 1, 0, 0), (10, .iload_n 0, 1, 0, 0), (11, .ldc_w 266, 3, 0, 0), (14, .iand, 1, 0, 0), (15, .iload_n 0, 1, 0, 0), (16, .iconst 2, 1, 2, 0), (17, .iushr, 1, 0, 0), (18, .ldc_w 266, 3, 0, 0), (21, .iand, 1, 0, 0), (22, .iadd, 1, 0, 0), (23, .istore_n 0, 1, 0, 0), (24, .iload_n 0, 1, 0, 0), (25, .iload_n 0, 1, 0, 0), (26, .iconst 4, 1, 4, 0), (27, .iushr, 1, 0, 0), (28, .iadd, 1, 0, 0), (29, .ldc_w 267, 3, 0, 0), (32, .iand, 1, 0, 0), (33, .istore_n 0, 1, 0, 0), (34, .iload_n 0, 1, 0, 0), (35, .iload_n 0, 1, 0, 0), (36, .bipush 8, 2, 8, 0), (38, .iushr, 1, 0, 0), (39, .iadd, 1, 0, 0), (40, .istore_n 0, 1, 0, 0), (41, .iload_n 0, 1, 0, 0), (42, .iload_n 0, 1, 0, 0), (43, .bipush 16, 2, 16, 0), (45, .iushr, 1, 0, 0), (46, .iadd, 1, 0, 0), (47, .istore_n 0, 1, 0, 0), (48, .iload_n 0, 1, 0, 0), (49, .bipush 63, 2, 63, 0), (51, .iand, 1, 0, 0), (52, .ireturn, 1, 0, 0)]
theorem tkJ6_bitCount_0f7a4 : ∀ x ∈ tbJ6_bitCount_0f7a4, tbB cJ6_bitCount_0f7a4 x = true := tb_all (by decide +kernel)
def fJ6_bitCount_0f7a4 (c : Nat → Option Nat) (h : Hp) (a0 : Int32) : Rs := some (h, some (.inl ((((((((a0 - ((ushrI a0 (1 : Int32)) &&& (1431655765 : Int32))) &&& (858993459 : Int32)) + ((ushrI (a0 - ((ushrI a0 (1 : Int32)) &&& (1431655765 : Int32))) (2 : Int32)) &&& (858993459 : Int32))) + (ushrI (((a0 - ((ushrI a0 (1 : Int32)) &&& (1431655765 : Int32))) &&& (858993459 : Int32)) + ((ushrI (a0 - ((ushrI a0 (1 : Int32)) &&& (1431655765 : Int32))) (2 : Int32)) &&& (858993459 : Int32))) (4 : Int32))) &&& (252645135 : Int32)) + (ushrI (((((a0 - ((ushrI a0 (1 : Int32)) &&& (1431655765 : Int32))) &&& (858993459 : Int32)) + ((ushrI (a0 - ((ushrI a0 (1 : Int32)) &&& (1431655765 : Int32))) (2 : Int32)) &&& (858993459 : Int32))) + (ushrI (((a0 - ((ushrI a0 (1 : Int32)) &&& (1431655765 : Int32))) &&& (858993459 : Int32)) + ((ushrI (a0 - ((ushrI a0 (1 : Int32)) &&& (1431655765 : Int32))) (2 : Int32)) &&& (858993459 : Int32))) (4 : Int32))) &&& (252645135 : Int32)) (8 : Int32))) + (ushrI ((((((a0 - ((ushrI a0 (1 : Int32)) &&& (1431655765 : Int32))) &&& (858993459 : Int32)) + ((ushrI (a0 - ((ushrI a0 (1 : Int32)) &&& (1431655765 : Int32))) (2 : Int32)) &&& (858993459 : Int32))) + (ushrI (((a0 - ((ushrI a0 (1 : Int32)) &&& (1431655765 : Int32))) &&& (858993459 : Int32)) + ((ushrI (a0 - ((ushrI a0 (1 : Int32)) &&& (1431655765 : Int32))) (2 : Int32)) &&& (858993459 : Int32))) (4 : Int32))) &&& (252645135 : Int32)) + (ushrI (((((a0 - ((ushrI a0 (1 : Int32)) &&& (1431655765 : Int32))) &&& (858993459 : Int32)) + ((ushrI (a0 - ((ushrI a0 (1 : Int32)) &&& (1431655765 : Int32))) (2 : Int32)) &&& (858993459 : Int32))) + (ushrI (((a0 - ((ushrI a0 (1 : Int32)) &&& (1431655765 : Int32))) &&& (858993459 : Int32)) + ((ushrI (a0 - ((ushrI a0 (1 : Int32)) &&& (1431655765 : Int32))) (2 : Int32)) &&& (858993459 : Int32))) (4 : Int32))) &&& (252645135 : Int32)) (8 : Int32))) (16 : Int32))) &&& (63 : Int32))))
set_option maxHeartbeats 4000000 in
set_option maxRecDepth 100000 in
theorem soJ6_bitCount_0f7a4 (X : Cx) (h : Hp) (a0 : Int32) : SO X mJ6_bitCount_0f7a4 [.inl a0] h (fJ6_bitCount_0f7a4 X.2.2.2 h a0) := by
  refine so_of (by decide +kernel) (Nat.le_of_ble_eq_true rfl) ?_
  show Gd X mJ6_bitCount_0f7a4 h (fJ6_bitCount_0f7a4 X.2.2.2 h a0) h 0 [some (.inl a0)] []
  unfold fJ6_bitCount_0f7a4
  refine q_run tkJ6_bitCount_0f7a4 0 4 (pc' := 4) (L' := [some (.inl a0)]) (st' := [.inl (ushrI a0 (1 : Int32)), .inl a0]) rfl ?_
  refine q_ldcw (w := (1431655765 : Int32)) (tbm tkJ6_bitCount_0f7a4 (i := 4) rfl) wd_287 ?_
  refine q_run tkJ6_bitCount_0f7a4 5 4 (pc' := 11) (L' := [some (.inl (a0 - ((ushrI a0 (1 : Int32)) &&& (1431655765 : Int32))))]) (st' := [.inl (a0 - ((ushrI a0 (1 : Int32)) &&& (1431655765 : Int32)))]) rfl ?_
  refine q_ldcw (w := (858993459 : Int32)) (tbm tkJ6_bitCount_0f7a4 (i := 9) rfl) wd_288 ?_
  refine q_run tkJ6_bitCount_0f7a4 10 4 (pc' := 18) (L' := [some (.inl (a0 - ((ushrI a0 (1 : Int32)) &&& (1431655765 : Int32))))]) (st' := [.inl (ushrI (a0 - ((ushrI a0 (1 : Int32)) &&& (1431655765 : Int32))) (2 : Int32)), .inl ((a0 - ((ushrI a0 (1 : Int32)) &&& (1431655765 : Int32))) &&& (858993459 : Int32))]) rfl ?_
  refine q_ldcw (w := (858993459 : Int32)) (tbm tkJ6_bitCount_0f7a4 (i := 14) rfl) wd_288 ?_
  refine q_run tkJ6_bitCount_0f7a4 15 8 (pc' := 29) (L' := [some (.inl (((a0 - ((ushrI a0 (1 : Int32)) &&& (1431655765 : Int32))) &&& (858993459 : Int32)) + ((ushrI (a0 - ((ushrI a0 (1 : Int32)) &&& (1431655765 : Int32))) (2 : Int32)) &&& (858993459 : Int32))))]) (st' := [.inl ((((a0 - ((ushrI a0 (1 : Int32)) &&& (1431655765 : Int32))) &&& (858993459 : Int32)) + ((ushrI (a0 - ((ushrI a0 (1 : Int32)) &&& (1431655765 : Int32))) (2 : Int32)) &&& (858993459 : Int32))) + (ushrI (((a0 - ((ushrI a0 (1 : Int32)) &&& (1431655765 : Int32))) &&& (858993459 : Int32)) + ((ushrI (a0 - ((ushrI a0 (1 : Int32)) &&& (1431655765 : Int32))) (2 : Int32)) &&& (858993459 : Int32))) (4 : Int32)))]) rfl ?_
  refine q_ldcw (w := (252645135 : Int32)) (tbm tkJ6_bitCount_0f7a4 (i := 23) rfl) wd_289 ?_
  refine q_run tkJ6_bitCount_0f7a4 24 17 (pc' := 52) (L' := [some (.inl (((((((a0 - ((ushrI a0 (1 : Int32)) &&& (1431655765 : Int32))) &&& (858993459 : Int32)) + ((ushrI (a0 - ((ushrI a0 (1 : Int32)) &&& (1431655765 : Int32))) (2 : Int32)) &&& (858993459 : Int32))) + (ushrI (((a0 - ((ushrI a0 (1 : Int32)) &&& (1431655765 : Int32))) &&& (858993459 : Int32)) + ((ushrI (a0 - ((ushrI a0 (1 : Int32)) &&& (1431655765 : Int32))) (2 : Int32)) &&& (858993459 : Int32))) (4 : Int32))) &&& (252645135 : Int32)) + (ushrI (((((a0 - ((ushrI a0 (1 : Int32)) &&& (1431655765 : Int32))) &&& (858993459 : Int32)) + ((ushrI (a0 - ((ushrI a0 (1 : Int32)) &&& (1431655765 : Int32))) (2 : Int32)) &&& (858993459 : Int32))) + (ushrI (((a0 - ((ushrI a0 (1 : Int32)) &&& (1431655765 : Int32))) &&& (858993459 : Int32)) + ((ushrI (a0 - ((ushrI a0 (1 : Int32)) &&& (1431655765 : Int32))) (2 : Int32)) &&& (858993459 : Int32))) (4 : Int32))) &&& (252645135 : Int32)) (8 : Int32))) + (ushrI ((((((a0 - ((ushrI a0 (1 : Int32)) &&& (1431655765 : Int32))) &&& (858993459 : Int32)) + ((ushrI (a0 - ((ushrI a0 (1 : Int32)) &&& (1431655765 : Int32))) (2 : Int32)) &&& (858993459 : Int32))) + (ushrI (((a0 - ((ushrI a0 (1 : Int32)) &&& (1431655765 : Int32))) &&& (858993459 : Int32)) + ((ushrI (a0 - ((ushrI a0 (1 : Int32)) &&& (1431655765 : Int32))) (2 : Int32)) &&& (858993459 : Int32))) (4 : Int32))) &&& (252645135 : Int32)) + (ushrI (((((a0 - ((ushrI a0 (1 : Int32)) &&& (1431655765 : Int32))) &&& (858993459 : Int32)) + ((ushrI (a0 - ((ushrI a0 (1 : Int32)) &&& (1431655765 : Int32))) (2 : Int32)) &&& (858993459 : Int32))) + (ushrI (((a0 - ((ushrI a0 (1 : Int32)) &&& (1431655765 : Int32))) &&& (858993459 : Int32)) + ((ushrI (a0 - ((ushrI a0 (1 : Int32)) &&& (1431655765 : Int32))) (2 : Int32)) &&& (858993459 : Int32))) (4 : Int32))) &&& (252645135 : Int32)) (8 : Int32))) (16 : Int32))))]) (st' := [.inl ((((((((a0 - ((ushrI a0 (1 : Int32)) &&& (1431655765 : Int32))) &&& (858993459 : Int32)) + ((ushrI (a0 - ((ushrI a0 (1 : Int32)) &&& (1431655765 : Int32))) (2 : Int32)) &&& (858993459 : Int32))) + (ushrI (((a0 - ((ushrI a0 (1 : Int32)) &&& (1431655765 : Int32))) &&& (858993459 : Int32)) + ((ushrI (a0 - ((ushrI a0 (1 : Int32)) &&& (1431655765 : Int32))) (2 : Int32)) &&& (858993459 : Int32))) (4 : Int32))) &&& (252645135 : Int32)) + (ushrI (((((a0 - ((ushrI a0 (1 : Int32)) &&& (1431655765 : Int32))) &&& (858993459 : Int32)) + ((ushrI (a0 - ((ushrI a0 (1 : Int32)) &&& (1431655765 : Int32))) (2 : Int32)) &&& (858993459 : Int32))) + (ushrI (((a0 - ((ushrI a0 (1 : Int32)) &&& (1431655765 : Int32))) &&& (858993459 : Int32)) + ((ushrI (a0 - ((ushrI a0 (1 : Int32)) &&& (1431655765 : Int32))) (2 : Int32)) &&& (858993459 : Int32))) (4 : Int32))) &&& (252645135 : Int32)) (8 : Int32))) + (ushrI ((((((a0 - ((ushrI a0 (1 : Int32)) &&& (1431655765 : Int32))) &&& (858993459 : Int32)) + ((ushrI (a0 - ((ushrI a0 (1 : Int32)) &&& (1431655765 : Int32))) (2 : Int32)) &&& (858993459 : Int32))) + (ushrI (((a0 - ((ushrI a0 (1 : Int32)) &&& (1431655765 : Int32))) &&& (858993459 : Int32)) + ((ushrI (a0 - ((ushrI a0 (1 : Int32)) &&& (1431655765 : Int32))) (2 : Int32)) &&& (858993459 : Int32))) (4 : Int32))) &&& (252645135 : Int32)) + (ushrI (((((a0 - ((ushrI a0 (1 : Int32)) &&& (1431655765 : Int32))) &&& (858993459 : Int32)) + ((ushrI (a0 - ((ushrI a0 (1 : Int32)) &&& (1431655765 : Int32))) (2 : Int32)) &&& (858993459 : Int32))) + (ushrI (((a0 - ((ushrI a0 (1 : Int32)) &&& (1431655765 : Int32))) &&& (858993459 : Int32)) + ((ushrI (a0 - ((ushrI a0 (1 : Int32)) &&& (1431655765 : Int32))) (2 : Int32)) &&& (858993459 : Int32))) (4 : Int32))) &&& (252645135 : Int32)) (8 : Int32))) (16 : Int32))) &&& (63 : Int32))]) rfl ?_
  exact q_iret (tbm tkJ6_bitCount_0f7a4 (i := 41) rfl) rfl
theorem ceJ6_bitCount_0f7a4 : Ce mJ6_bitCount_0f7a4 1 := ⟨wd_27, wd_286, by decide +kernel, by decide +kernel, by decide +kernel⟩
/-- java/lang/String.coder -/
abbrev mJ0_coder_7d493 : MI := (yJ0_coder_7d493, cJ0_coder_7d493, 1, some .byte, 0)
def tbJ0_coder_7d493 : List TE := [(0, .getstatic 38, 3, 0, 0), (3, .ifCond .eq 10, 3, 0, 13), (6, .aload_n 0, 1, 0, 0), (7, .getfield 15, 3, 0, 0), (10, .goto 4, 3, 0, 14), (13, .iconst 1, 1, 1, 0), (14, .ireturn, 1, 0, 0)]
theorem tkJ0_coder_7d493 : ∀ x ∈ tbJ0_coder_7d493, tbB cJ0_coder_7d493 x = true := tb_all (by decide +kernel)
def fJ0_coder_7d493_14 (c : Nat → Option Nat) (h : Hp) (s0 : Int32) : Rs := rtI .byte h s0
set_option maxHeartbeats 4000000 in
set_option maxRecDepth 100000 in
theorem sJ0_coder_7d493_14 (X : Cx) {h0 : Hp} (h : Hp) (s0 : Int32) : Gd X mJ0_coder_7d493 h0 (fJ0_coder_7d493_14 X.2.2.2 h s0) h 14 [none] [.inl s0] := by
  unfold fJ0_coder_7d493_14
  exact q_zret (tbm tkJ0_coder_7d493 (i := 6) rfl) rfl
def fJ0_coder_7d493 (c : Nat → Option Nat) (h : Hp) (a0 : Option Nat) : Rs := if (1 : Int32) = 0 then (fJ0_coder_7d493_14 c h (1 : Int32)) else (rdI h a0 0 1 (fun x1 => fJ0_coder_7d493_14 c h x1))
set_option maxHeartbeats 4000000 in
set_option maxRecDepth 100000 in
theorem soJ0_coder_7d493 (X : Cx) (h : Hp) (a0 : Option Nat) : SO X mJ0_coder_7d493 [.inr (.inr a0)] h (fJ0_coder_7d493 X.2.2.2 h a0) := by
  refine so_of (by decide +kernel) (Nat.le_of_ble_eq_true rfl) ?_
  show Gd X mJ0_coder_7d493 h (fJ0_coder_7d493 X.2.2.2 h a0) h 0 [some (.inr (.inr a0))] []
  unfold fJ0_coder_7d493
  refine q_gs (w := .inl (1 : Int32)) (tbm tkJ0_coder_7d493 (i := 0) rfl) e_z4 wd_389 ?_
  refine q_if_eq (tbm tkJ0_coder_7d493 (i := 1) rfl) ?_ ?_
  · refine q_run tkJ0_coder_7d493 5 1 (pc' := 14) (L' := [some (.inr (.inr a0))]) (st' := [.inl (1 : Int32)]) rfl ?_
    refine q_le (L' := [none]) (lvLe_n lvLe_0) ?_
    exact sJ0_coder_7d493_14 X h (1 : Int32)
  · refine q_run tkJ0_coder_7d493 2 1 (pc' := 7) (L' := [some (.inr (.inr a0))]) (st' := [.inr (.inr a0)]) rfl ?_
    refine q_rdI RJ0 TJ0 4 (tbm tkJ0_coder_7d493 (i := 3) rfl) rfl (Nat.le_of_ble_eq_true rfl) wd_768 (fun x1 => ?_)
    refine q_run tkJ0_coder_7d493 4 1 (pc' := 14) (L' := [some (.inr (.inr a0))]) (st' := [.inl x1]) rfl ?_
    refine q_le (L' := [none]) (lvLe_n lvLe_0) ?_
    exact sJ0_coder_7d493_14 X h x1
theorem ceJ0_coder_7d493 : Ce mJ0_coder_7d493 0 := ⟨wd_24, wd_388, by decide +kernel, by decide +kernel, by decide +kernel⟩
/-- java/lang/String.length -/
abbrev mJ0_length_8abf5 : MI := (yJ0_length_8abf5, cJ0_length_8abf5, 1, some .int, 1)
def tbJ0_length_8abf5 : List TE := [(0, .aload_n 0, 1, 0, 0), (1, .getfield 9, 3, 0, 0), (4, .arraylength, 1, 0, 0), (5, .aload_n 0, 1, 0, 0), (6, .invokevirtual 335, 3, 0, 0), (9, .ishr, 1, 0, 0), (10, .ireturn, 1, 0, 0)]
theorem tkJ0_length_8abf5 : ∀ x ∈ tbJ0_length_8abf5, tbB cJ0_length_8abf5 x = true := tb_all (by decide +kernel)
def fJ0_length_8abf5 (c : Nat → Option Nat) (h : Hp) (a0 : Option Nat) : Rs := rdR h a0 0 0 (fun r1 => lenA h r1 (fun x2 => ck h a0 0 (cc (fJ0_coder_7d493 c h a0) (kI fun h3 x4 => some (h3, some (.inl (shrI x2 x4)))))))
set_option maxHeartbeats 4000000 in
set_option maxRecDepth 100000 in
theorem soJ0_length_8abf5 (X : Cx) (h : Hp) (a0 : Option Nat) : SO X mJ0_length_8abf5 [.inr (.inr a0)] h (fJ0_length_8abf5 X.2.2.2 h a0) := by
  refine so_of (by decide +kernel) (Nat.le_of_ble_eq_true rfl) ?_
  show Gd X mJ0_length_8abf5 h (fJ0_length_8abf5 X.2.2.2 h a0) h 0 [some (.inr (.inr a0))] []
  unfold fJ0_length_8abf5
  refine q_run tkJ0_length_8abf5 0 1 (pc' := 1) (L' := [some (.inr (.inr a0))]) (st' := [.inr (.inr a0)]) rfl ?_
  refine q_rdR RJ0 TJ0 4 (tbm tkJ0_length_8abf5 (i := 1) rfl) rfl (Nat.le_of_ble_eq_true rfl) wd_767 (fun r1 => ?_)
  refine q_alen (tbm tkJ0_length_8abf5 (i := 2) rfl) (fun x2 => ?_)
  refine q_run tkJ0_length_8abf5 3 1 (pc' := 6) (L' := [some (.inr (.inr a0))]) (st' := [.inr (.inr a0), .inl x2]) rfl ?_
  refine q_cv (r := a0) (ci := 0) (n := 0) (as := []) (st := [.inl x2]) TJ0 4 (soJ0_coder_7d493 X h a0) (tbm tkJ0_length_8abf5 (i := 4) rfl) rfl rfl ceJ0_coder_7d493 wd_386 wd_387 wd_385 rfl (Nat.le_of_ble_eq_true rfl) (kI_gd (fun h3 x4 => ?_))
  refine q_run tkJ0_length_8abf5 5 1 (pc' := 10) (L' := [some (.inr (.inr a0))]) (st' := [.inl (shrI x2 x4)]) rfl ?_
  exact q_iret (tbm tkJ0_length_8abf5 (i := 6) rfl) rfl
theorem ceJ0_length_8abf5 : Ce mJ0_length_8abf5 0 := ⟨wd_24, wd_384, by decide +kernel, by decide +kernel, by decide +kernel⟩
/-- java/lang/String.isLatin1 -/
abbrev mJ0_isLatin1_aae02 : MI := (yJ0_isLatin1_aae02, cJ0_isLatin1_aae02, 1, some .boolean, 0)
def tbJ0_isLatin1_aae02 : List TE := [(0, .getstatic 38, 3, 0, 0), (3, .ifCond .eq 14, 3, 0, 17), (6, .aload_n 0, 1, 0, 0), (7, .getfield 15, 3, 0, 0), (10, .ifCond .ne 7, 3, 0, 17), (13, .iconst 1, 1, 1, 0), (14, .goto 4, 3, 0, 18), (17, .iconst 0, 1, 0, 0), (18, .ireturn, 1, 0, 0)]
theorem tkJ0_isLatin1_aae02 : ∀ x ∈ tbJ0_isLatin1_aae02, tbB cJ0_isLatin1_aae02 x = true := tb_all (by decide +kernel)
def fJ0_isLatin1_aae02_18 (c : Nat → Option Nat) (h : Hp) (s0 : Int32) : Rs := rtI .boolean h s0
set_option maxHeartbeats 4000000 in
set_option maxRecDepth 100000 in
theorem sJ0_isLatin1_aae02_18 (X : Cx) {h0 : Hp} (h : Hp) (s0 : Int32) : Gd X mJ0_isLatin1_aae02 h0 (fJ0_isLatin1_aae02_18 X.2.2.2 h s0) h 18 [none] [.inl s0] := by
  unfold fJ0_isLatin1_aae02_18
  exact q_zret (tbm tkJ0_isLatin1_aae02 (i := 8) rfl) rfl
def fJ0_isLatin1_aae02_17 (c : Nat → Option Nat) (h : Hp) : Rs := fJ0_isLatin1_aae02_18 c h (0 : Int32)
set_option maxHeartbeats 4000000 in
set_option maxRecDepth 100000 in
theorem sJ0_isLatin1_aae02_17 (X : Cx) {h0 : Hp} (h : Hp) : Gd X mJ0_isLatin1_aae02 h0 (fJ0_isLatin1_aae02_17 X.2.2.2 h) h 17 [none] [] := by
  unfold fJ0_isLatin1_aae02_17
  refine q_run tkJ0_isLatin1_aae02 7 1 (pc' := 18) (L' := [none]) (st' := [.inl (0 : Int32)]) rfl ?_
  exact sJ0_isLatin1_aae02_18 X h (0 : Int32)
def fJ0_isLatin1_aae02 (c : Nat → Option Nat) (h : Hp) (a0 : Option Nat) : Rs := if (1 : Int32) = 0 then (fJ0_isLatin1_aae02_17 c h) else (rdI h a0 0 1 (fun x1 => if x1 = 0 then (fJ0_isLatin1_aae02_18 c h (1 : Int32)) else (fJ0_isLatin1_aae02_17 c h)))
set_option maxHeartbeats 4000000 in
set_option maxRecDepth 100000 in
theorem soJ0_isLatin1_aae02 (X : Cx) (h : Hp) (a0 : Option Nat) : SO X mJ0_isLatin1_aae02 [.inr (.inr a0)] h (fJ0_isLatin1_aae02 X.2.2.2 h a0) := by
  refine so_of (by decide +kernel) (Nat.le_of_ble_eq_true rfl) ?_
  show Gd X mJ0_isLatin1_aae02 h (fJ0_isLatin1_aae02 X.2.2.2 h a0) h 0 [some (.inr (.inr a0))] []
  unfold fJ0_isLatin1_aae02
  refine q_gs (w := .inl (1 : Int32)) (tbm tkJ0_isLatin1_aae02 (i := 0) rfl) e_z4 wd_389 ?_
  refine q_if_eq (tbm tkJ0_isLatin1_aae02 (i := 1) rfl) ?_ ?_
  · refine q_le (L' := [none]) (lvLe_n lvLe_0) ?_
    exact sJ0_isLatin1_aae02_17 X h
  · refine q_run tkJ0_isLatin1_aae02 2 1 (pc' := 7) (L' := [some (.inr (.inr a0))]) (st' := [.inr (.inr a0)]) rfl ?_
    refine q_rdI RJ0 TJ0 4 (tbm tkJ0_isLatin1_aae02 (i := 3) rfl) rfl (Nat.le_of_ble_eq_true rfl) wd_768 (fun x1 => ?_)
    refine q_if_ne (tbm tkJ0_isLatin1_aae02 (i := 4) rfl) ?_ ?_
    · refine q_run tkJ0_isLatin1_aae02 5 2 (pc' := 18) (L' := [some (.inr (.inr a0))]) (st' := [.inl (1 : Int32)]) rfl ?_
      refine q_le (L' := [none]) (lvLe_n lvLe_0) ?_
      exact sJ0_isLatin1_aae02_18 X h (1 : Int32)
    · refine q_le (L' := [none]) (lvLe_n lvLe_0) ?_
      exact sJ0_isLatin1_aae02_17 X h
theorem ceJ0_isLatin1_aae02 : Ce mJ0_isLatin1_aae02 0 := ⟨wd_24, wd_397, by decide +kernel, by decide +kernel, by decide +kernel⟩
/-- jdk/internal/util/Preconditions.checkIndex -/
abbrev mJ3_checkIndex_8e157 : MI := (yJ3_checkIndex_8e157, cJ3_checkIndex_8e157, 3, some .int, 0)
def tbJ3_checkIndex_8e157 : List TE := [(0, .iload_n 0, 1, 0, 0), (1, .ifCond .lt 8, 3, 0, 9), (4, .iload_n 0, 1, 0, 0), (5, .iload_n 1, 1, 0, 0), (6, .if_icmp .lt 10, 3, 0, 16), (9, .aload_n 2, 1, 0, 0), (10, .iload_n 0, 1, 0, 0), (11, .iload_n 1, 1, 0, 0), (12, .invokestatic 95, 3, 0, 0), (15, .athrow, 1, 0, 0), (16, .iload_n 0, 1, 0, 0), (17, .ireturn, 1, 0, 0)]
theorem tkJ3_checkIndex_8e157 : ∀ x ∈ tbJ3_checkIndex_8e157, tbB cJ3_checkIndex_8e157 x = true := tb_all (by decide +kernel)
def fJ3_checkIndex_8e157_9 (c : Nat → Option Nat) (h : Hp) (l0 : Int32) (l1 : Int32) (l2 : Option Nat) : Rs := none
set_option maxHeartbeats 4000000 in
set_option maxRecDepth 100000 in
theorem sJ3_checkIndex_8e157_9 (X : Cx) {h0 : Hp} (h : Hp) (l0 : Int32) (l1 : Int32) (l2 : Option Nat) : Gd X mJ3_checkIndex_8e157 h0 (fJ3_checkIndex_8e157_9 X.2.2.2 h l0 l1 l2) h 9 [some (.inl l0), some (.inl l1), some (.inr (.inr l2))] [] := by
  unfold fJ3_checkIndex_8e157_9
  refine q_run tkJ3_checkIndex_8e157 5 3 (pc' := 12) (L' := [some (.inl l0), some (.inl l1), some (.inr (.inr l2))]) (st' := [.inl l1, .inl l0, .inr (.inr l2)]) rfl ?_
  exact gd_none
def fJ3_checkIndex_8e157 (c : Nat → Option Nat) (h : Hp) (a0 : Int32) (a1 : Int32) (a2 : Option Nat) : Rs := if a0 < 0 then (fJ3_checkIndex_8e157_9 c h a0 a1 a2) else (if a0 < a1 then (some (h, some (.inl a0))) else (fJ3_checkIndex_8e157_9 c h a0 a1 a2))
set_option maxHeartbeats 4000000 in
set_option maxRecDepth 100000 in
theorem soJ3_checkIndex_8e157 (X : Cx) (h : Hp) (a0 : Int32) (a1 : Int32) (a2 : Option Nat) : SO X mJ3_checkIndex_8e157 [.inl a0, .inl a1, .inr (.inr a2)] h (fJ3_checkIndex_8e157 X.2.2.2 h a0 a1 a2) := by
  refine so_of (by decide +kernel) (Nat.le_of_ble_eq_true rfl) ?_
  show Gd X mJ3_checkIndex_8e157 h (fJ3_checkIndex_8e157 X.2.2.2 h a0 a1 a2) h 0 [some (.inl a0), some (.inl a1), some (.inr (.inr a2))] []
  unfold fJ3_checkIndex_8e157
  refine q_run tkJ3_checkIndex_8e157 0 1 (pc' := 1) (L' := [some (.inl a0), some (.inl a1), some (.inr (.inr a2))]) (st' := [.inl a0]) rfl ?_
  refine q_if_lt (tbm tkJ3_checkIndex_8e157 (i := 1) rfl) ?_ ?_
  · exact sJ3_checkIndex_8e157_9 X h a0 a1 a2
  · refine q_run tkJ3_checkIndex_8e157 2 2 (pc' := 6) (L' := [some (.inl a0), some (.inl a1), some (.inr (.inr a2))]) (st' := [.inl a1, .inl a0]) rfl ?_
    refine q_icmp_lt (tbm tkJ3_checkIndex_8e157 (i := 4) rfl) ?_ ?_
    · refine q_run tkJ3_checkIndex_8e157 10 1 (pc' := 17) (L' := [some (.inl a0), some (.inl a1), some (.inr (.inr a2))]) (st' := [.inl a0]) rfl ?_
      exact q_iret (tbm tkJ3_checkIndex_8e157 (i := 11) rfl) rfl
    · exact sJ3_checkIndex_8e157_9 X h a0 a1 a2
theorem ceJ3_checkIndex_8e157 : Ce mJ3_checkIndex_8e157 3 := ⟨wd_29, wd_408, by decide +kernel, by decide +kernel, by decide +kernel⟩
/-- java/lang/String.checkIndex -/
abbrev mJ0_checkIndex_df160 : MI := (yJ0_checkIndex_df160, cJ0_checkIndex_df160, 2, none, 1)
def tbJ0_checkIndex_df160 : List TE := [(0, .iload_n 0, 1, 0, 0), (1, .iload_n 1, 1, 0, 0), (2, .getstatic 1053, 3, 0, 0), (5, .invokestatic 1059, 3, 0, 0), (8, .pop, 1, 0, 0), (9, .return_, 1, 0, 0)]
theorem tkJ0_checkIndex_df160 : ∀ x ∈ tbJ0_checkIndex_df160, tbB cJ0_checkIndex_df160 x = true := tb_all (by decide +kernel)
def fJ0_checkIndex_df160 (c : Nat → Option Nat) (h : Hp) (a0 : Int32) (a1 : Int32) : Rs := cc (fJ3_checkIndex_8e157 c h a0 a1 (c 3)) (kI fun h1 x2 => some (h1, none))
set_option maxHeartbeats 4000000 in
set_option maxRecDepth 100000 in
theorem soJ0_checkIndex_df160 (X : Cx) (h : Hp) (a0 : Int32) (a1 : Int32) : SO X mJ0_checkIndex_df160 [.inl a0, .inl a1] h (fJ0_checkIndex_df160 X.2.2.2 h a0 a1) := by
  refine so_of (by decide +kernel) (Nat.le_of_ble_eq_true rfl) ?_
  show Gd X mJ0_checkIndex_df160 h (fJ0_checkIndex_df160 X.2.2.2 h a0 a1) h 0 [some (.inl a0), some (.inl a1)] []
  unfold fJ0_checkIndex_df160
  refine q_run tkJ0_checkIndex_df160 0 2 (pc' := 2) (L' := [some (.inl a0), some (.inl a1)]) (st' := [.inl a1, .inl a0]) rfl ?_
  refine q_gs (w := .inr (.inr (X.2.2.2 3))) (tbm tkJ0_checkIndex_df160 (i := 2) rfl) e_z3 wd_404 ?_
  refine q_cs (n := 3) (as := [.inl a0, .inl a1, .inr (.inr (X.2.2.2 3))]) (st := []) (soJ3_checkIndex_8e157 X h a0 a1 (X.2.2.2 3)) (tbm tkJ0_checkIndex_df160 (i := 3) rfl) rfl ceJ3_checkIndex_8e157 wd_407 wd_406 rfl (Nat.le_of_ble_eq_true rfl) (kI_gd (fun h1 x2 => ?_))
  refine q_run tkJ0_checkIndex_df160 4 1 (pc' := 9) (L' := [some (.inl a0), some (.inl a1)]) (st' := []) rfl ?_
  exact q_vret (tbm tkJ0_checkIndex_df160 (i := 5) rfl) rfl
theorem ceJ0_checkIndex_df160 : Ce mJ0_checkIndex_df160 2 := ⟨wd_24, wd_403, by decide +kernel, by decide +kernel, by decide +kernel⟩
/-- java/lang/StringLatin1.charAt -/
abbrev mJ1_charAt_3b067 : MI := (yJ1_charAt_3b067, cJ1_charAt_3b067, 2, some .char, 2)
def tbJ1_charAt_3b067 : List TE := [(0, .iload_n 1, 1, 0, 0), (1, .aload_n 0, 1, 0, 0), (2, .arraylength, 1, 0, 0), (3, .invokestatic 9, 3, 0, 0), (6, .aload_n 0, 1, 0, 0), (7, .iload_n 1, 1, 0, 0), (8, .baload, 1, 0, 0), (9, .sipush 255, 3, 255, 0), (12, .iand, 1, 0, 0), (13, .i2c, 1, 0, 0), (14, .ireturn, 1, 0, 0)]
theorem tkJ1_charAt_3b067 : ∀ x ∈ tbJ1_charAt_3b067, tbB cJ1_charAt_3b067 x = true := tb_all (by decide +kernel)
def fJ1_charAt_3b067 (c : Nat → Option Nat) (h : Hp) (a0 : Option Nat) (a1 : Int32) : Rs := lenA h a0 (fun x1 => cc (fJ0_checkIndex_df160 c h a1 x1) (kV fun h2 => aldI h2 a0 [1, 2, 11] a1 (fun x3 => rtI .char h2 (chI (x3 &&& (255 : Int32))))))
set_option maxHeartbeats 4000000 in
set_option maxRecDepth 100000 in
theorem soJ1_charAt_3b067 (X : Cx) (h : Hp) (a0 : Option Nat) (a1 : Int32) : SO X mJ1_charAt_3b067 [.inr (.inr a0), .inl a1] h (fJ1_charAt_3b067 X.2.2.2 h a0 a1) := by
  refine so_of (by decide +kernel) (Nat.le_of_ble_eq_true rfl) ?_
  show Gd X mJ1_charAt_3b067 h (fJ1_charAt_3b067 X.2.2.2 h a0 a1) h 0 [some (.inr (.inr a0)), some (.inl a1)] []
  unfold fJ1_charAt_3b067
  refine q_run tkJ1_charAt_3b067 0 2 (pc' := 2) (L' := [some (.inr (.inr a0)), some (.inl a1)]) (st' := [.inr (.inr a0), .inl a1]) rfl ?_
  refine q_alen (tbm tkJ1_charAt_3b067 (i := 2) rfl) (fun x1 => ?_)
  refine q_cs (n := 2) (as := [.inl a1, .inl x1]) (st := []) (soJ0_checkIndex_df160 X h a1 x1) (tbm tkJ1_charAt_3b067 (i := 3) rfl) rfl ceJ0_checkIndex_df160 wd_402 wd_401 rfl (Nat.le_of_ble_eq_true rfl) (kV_gd (fun h2 => ?_))
  refine q_run tkJ1_charAt_3b067 4 2 (pc' := 8) (L' := [some (.inr (.inr a0)), some (.inl a1)]) (st' := [.inl a1, .inr (.inr a0)]) rfl ?_
  refine q_baload (tbm tkJ1_charAt_3b067 (i := 6) rfl) (fun x3 => ?_)
  refine q_run tkJ1_charAt_3b067 7 3 (pc' := 14) (L' := [some (.inr (.inr a0)), some (.inl a1)]) (st' := [.inl (chI (x3 &&& (255 : Int32)))]) rfl ?_
  exact q_zret (tbm tkJ1_charAt_3b067 (i := 10) rfl) rfl
theorem ceJ1_charAt_3b067 : Ce mJ1_charAt_3b067 2 := ⟨wd_28, wd_400, by decide +kernel, by decide +kernel, by decide +kernel⟩
/-- java/lang/String.charAt -/
abbrev mJ0_charAt_5068e : MI := (yJ0_charAt_5068e, cJ0_charAt_5068e, 2, some .char, 3)
def tbJ0_charAt_5068e : List TE := [(0, .aload_n 0, 1, 0, 0), (1, .invokevirtual 492, 3, 0, 0), (4, .ifCond .eq 12, 3, 0, 16), (7, .aload_n 0, 1, 0, 0), (8, .getfield 9, 3, 0, 0), (11, .iload_n 1, 1, 0, 0), (12, .invokestatic 495, 3, 0, 0), (15, .ireturn, 1, 0, 0), (16, .aload_n 0, 1, 0, 0), (17, .getfield 9, 3, 0, 0), (20, .iload_n 1, 1, 0, 0), (21, .invokestatic 498, 3, 0, 0), (24, .ireturn, 1, 0, 0)]
theorem tkJ0_charAt_5068e : ∀ x ∈ tbJ0_charAt_5068e, tbB cJ0_charAt_5068e x = true := tb_all (by decide +kernel)
def fJ0_charAt_5068e (c : Nat → Option Nat) (h : Hp) (a0 : Option Nat) (a1 : Int32) : Rs := ck h a0 0 (cc (fJ0_isLatin1_aae02 c h a0) (kI fun h1 x2 => if x2 = 0 then (rdR h1 a0 0 0 (fun r3 => none)) else (rdR h1 a0 0 0 (fun r4 => cc (fJ1_charAt_3b067 c h1 r4 a1) (kI fun h5 x6 => rtI .char h5 x6)))))
set_option maxHeartbeats 4000000 in
set_option maxRecDepth 100000 in
theorem soJ0_charAt_5068e (X : Cx) (h : Hp) (a0 : Option Nat) (a1 : Int32) : SO X mJ0_charAt_5068e [.inr (.inr a0), .inl a1] h (fJ0_charAt_5068e X.2.2.2 h a0 a1) := by
  refine so_of (by decide +kernel) (Nat.le_of_ble_eq_true rfl) ?_
  show Gd X mJ0_charAt_5068e h (fJ0_charAt_5068e X.2.2.2 h a0 a1) h 0 [some (.inr (.inr a0)), some (.inl a1)] []
  unfold fJ0_charAt_5068e
  refine q_run tkJ0_charAt_5068e 0 1 (pc' := 1) (L' := [some (.inr (.inr a0)), some (.inl a1)]) (st' := [.inr (.inr a0)]) rfl ?_
  refine q_cv (r := a0) (ci := 0) (n := 0) (as := []) (st := []) TJ0 4 (soJ0_isLatin1_aae02 X h a0) (tbm tkJ0_charAt_5068e (i := 1) rfl) rfl rfl ceJ0_isLatin1_aae02 wd_395 wd_396 wd_394 rfl (Nat.le_of_ble_eq_true rfl) (kI_gd (fun h1 x2 => ?_))
  refine q_if_eq (tbm tkJ0_charAt_5068e (i := 2) rfl) ?_ ?_
  · refine q_run tkJ0_charAt_5068e 8 1 (pc' := 17) (L' := [some (.inr (.inr a0)), some (.inl a1)]) (st' := [.inr (.inr a0)]) rfl ?_
    refine q_rdR RJ0 TJ0 4 (tbm tkJ0_charAt_5068e (i := 9) rfl) rfl (Nat.le_of_ble_eq_true rfl) wd_767 (fun r3 => ?_)
    refine q_run tkJ0_charAt_5068e 10 1 (pc' := 21) (L' := [some (.inr (.inr a0)), some (.inl a1)]) (st' := [.inl a1, .inr (.inr r3)]) rfl ?_
    exact gd_none
  · refine q_run tkJ0_charAt_5068e 3 1 (pc' := 8) (L' := [some (.inr (.inr a0)), some (.inl a1)]) (st' := [.inr (.inr a0)]) rfl ?_
    refine q_rdR RJ0 TJ0 4 (tbm tkJ0_charAt_5068e (i := 4) rfl) rfl (Nat.le_of_ble_eq_true rfl) wd_767 (fun r4 => ?_)
    refine q_run tkJ0_charAt_5068e 5 1 (pc' := 12) (L' := [some (.inr (.inr a0)), some (.inl a1)]) (st' := [.inl a1, .inr (.inr r4)]) rfl ?_
    refine q_cs (n := 2) (as := [.inr (.inr r4), .inl a1]) (st := []) (soJ1_charAt_3b067 X h1 r4 a1) (tbm tkJ0_charAt_5068e (i := 6) rfl) rfl ceJ1_charAt_3b067 wd_399 wd_398 rfl (Nat.le_of_ble_eq_true rfl) (kI_gd (fun h5 x6 => ?_))
    exact q_zret (tbm tkJ0_charAt_5068e (i := 7) rfl) rfl
theorem ceJ0_charAt_5068e : Ce mJ0_charAt_5068e 1 := ⟨wd_24, wd_393, by decide +kernel, by decide +kernel, by decide +kernel⟩
/-- jdk/internal/util/ArraysSupport.newLength -/
abbrev mJ8_newLength_cabcc : MI := (yJ8_newLength_cabcc, cJ8_newLength_cabcc, 4, some .int, 1)
def tbJ8_newLength_cabcc : List TE := [(0, .iload_n 0, 1, 0, 0), (1, .iload_n 1, 1, 0, 0), (2, .iload_n 2, 1, 0, 0), (3, .invokestatic 194, 3, 0, 0), (6, .iadd, 1, 0, 0), (7, .istore_n 3, 1, 0, 0), (8, .iconst 0, 1, 0, 0), (9, .iload_n 3, 1, 0, 0), (10, .if_icmp .ge 11, 3, 0, 21), (13, .iload_n 3, 1, 0, 0), (14, .ldc 200, 2, 0, 0), (16, .if_icmp .gt 5, 3, 0, 21), (19, .iload_n 3, 1, 0, 0), (20, .ireturn, 1, 0, 0), (21, .iload_n 0, 1, 0, 0), (22, .iload_n 1, 1, 0, 0), (23, .invokestatic 201, 3, 0, 0), (26, .ireturn, 1, 0, 0)]
theorem tkJ8_newLength_cabcc : ∀ x ∈ tbJ8_newLength_cabcc, tbB cJ8_newLength_cabcc x = true := tb_all (by decide +kernel)
def fJ8_newLength_cabcc_21 (c : Nat → Option Nat) (h : Hp) (l0 : Int32) (l1 : Int32) : Rs := none
set_option maxHeartbeats 4000000 in
set_option maxRecDepth 100000 in
theorem sJ8_newLength_cabcc_21 (X : Cx) {h0 : Hp} (h : Hp) (l0 : Int32) (l1 : Int32) : Gd X mJ8_newLength_cabcc h0 (fJ8_newLength_cabcc_21 X.2.2.2 h l0 l1) h 21 [some (.inl l0), some (.inl l1), none, none] [] := by
  unfold fJ8_newLength_cabcc_21
  refine q_run tkJ8_newLength_cabcc 14 2 (pc' := 23) (L' := [some (.inl l0), some (.inl l1), none, none]) (st' := [.inl l1, .inl l0]) rfl ?_
  exact gd_none
def fJ8_newLength_cabcc (c : Nat → Option Nat) (h : Hp) (a0 : Int32) (a1 : Int32) (a2 : Int32) : Rs := if (0 : Int32) < (a0 + (mxI a1 a2)) then (if (2147483639 : Int32) < (a0 + (mxI a1 a2)) then (fJ8_newLength_cabcc_21 c h a0 a1) else (some (h, some (.inl (a0 + (mxI a1 a2)))))) else (fJ8_newLength_cabcc_21 c h a0 a1)
set_option maxHeartbeats 4000000 in
set_option maxRecDepth 100000 in
theorem soJ8_newLength_cabcc (X : Cx) (h : Hp) (a0 : Int32) (a1 : Int32) (a2 : Int32) : SO X mJ8_newLength_cabcc [.inl a0, .inl a1, .inl a2] h (fJ8_newLength_cabcc X.2.2.2 h a0 a1 a2) := by
  refine so_of (by decide +kernel) (Nat.le_of_ble_eq_true rfl) ?_
  show Gd X mJ8_newLength_cabcc h (fJ8_newLength_cabcc X.2.2.2 h a0 a1 a2) h 0 [some (.inl a0), some (.inl a1), some (.inl a2), none] []
  unfold fJ8_newLength_cabcc
  refine q_run tkJ8_newLength_cabcc 0 3 (pc' := 3) (L' := [some (.inl a0), some (.inl a1), some (.inl a2), none]) (st' := [.inl a2, .inl a1, .inl a0]) rfl ?_
  refine q_mmax (tbm tkJ8_newLength_cabcc (i := 3) rfl) (Nat.le_of_ble_eq_true rfl) (Nat.le_of_ble_eq_true rfl) ⟨wd_620, wd_max⟩ ?_
  refine q_run tkJ8_newLength_cabcc 4 4 (pc' := 10) (L' := [some (.inl a0), some (.inl a1), some (.inl a2), some (.inl (a0 + (mxI a1 a2)))]) (st' := [.inl (a0 + (mxI a1 a2)), .inl (0 : Int32)]) rfl ?_
  refine q_icmp_ge (tbm tkJ8_newLength_cabcc (i := 8) rfl) ?_ ?_
  · refine q_run tkJ8_newLength_cabcc 9 1 (pc' := 14) (L' := [some (.inl a0), some (.inl a1), some (.inl a2), some (.inl (a0 + (mxI a1 a2)))]) (st' := [.inl (a0 + (mxI a1 a2))]) rfl ?_
    refine q_ldc (w := (2147483639 : Int32)) (tbm tkJ8_newLength_cabcc (i := 10) rfl) wd_621 ?_
    refine q_icmp_gt (tbm tkJ8_newLength_cabcc (i := 11) rfl) ?_ ?_
    · refine q_le (L' := [some (.inl a0), some (.inl a1), none, none]) (lvLe_s (lvLe_s (lvLe_n (lvLe_n lvLe_0)))) ?_
      exact sJ8_newLength_cabcc_21 X h a0 a1
    · refine q_run tkJ8_newLength_cabcc 12 1 (pc' := 20) (L' := [some (.inl a0), some (.inl a1), some (.inl a2), some (.inl (a0 + (mxI a1 a2)))]) (st' := [.inl (a0 + (mxI a1 a2))]) rfl ?_
      exact q_iret (tbm tkJ8_newLength_cabcc (i := 13) rfl) rfl
  · refine q_le (L' := [some (.inl a0), some (.inl a1), none, none]) (lvLe_s (lvLe_s (lvLe_n (lvLe_n lvLe_0)))) ?_
    exact sJ8_newLength_cabcc_21 X h a0 a1
theorem ceJ8_newLength_cabcc : Ce mJ8_newLength_cabcc 3 := ⟨wd_31, wd_619, by decide +kernel, by decide +kernel, by decide +kernel⟩
/-- java/lang/AbstractStringBuilder.newCapacity -/
abbrev mJ5_newCapacity_0f7a4 : MI := (yJ5_newCapacity_0f7a4, cJ5_newCapacity_0f7a4, 6, some .int, 2)
def tbJ5_newCapacity_0f7a4 : List TE := [(0, .aload_n 0, 1, 0, 0), (1, .getfield 15, 3, 0, 0), (4, .arraylength, 1, 0, 0), (5, .istore_n 2, 1, 0, 0), (6, .iload_n 1, 1, 0, 0), (7, .aload_n 0, 1, 0, 0), (8, .getfield 22, 3, 0, 0), (11, .ishl, 1, 0, 0), (12, .istore_n 3, 1, 0, 0), (13, .iload_n 3, 1, 0, 0), (14, .iload_n 2, 1, 0, 0), (15, .isub, 1, 0, 0), (16, .istore 4, 2, 0, 0), (18, .iload_n 2, 1, 0, 0), (19, .iload 4, 2, 0, 0), (21, .iload_n 2, 1, 0, 0), (22, .iconst 2, 1, 2, 0), (23, .aload_n 0, 1, 0, 0), (24, .getfield 22, 3, 0, 0), (27, .ishl, 1, 0, 0), (28, .iadd, 1, 0, 0), (29, .invokestatic 114, 3, 0, 0), (32, .istore 5, 2, 0, 0), (34, .iload 5, 2, 0, 0), (36, .ldc 39, 2, 0, 0), (38, .if_icmp .ne 13, 3, 0, 51), (41, .new 120, 3, 0, 0), (44, .dup, 1, 0, 0), (45, .ldc 122, 2, 0, 0), (47, .invokespecial 124, 3, 0, 0), (50, .athrow, 1, 0, 0), (51, .iload 5, 2, 0, 0), (53, .aload_n 0, 1, 0, 0), (54, .getfield 22, 3, 0, 0), (57, .ishr, 1, 0, 0), (58, .ireturn, 1, 0, 0)]
theorem tkJ5_newCapacity_0f7a4 : ∀ x ∈ tbJ5_newCapacity_0f7a4, tbB cJ5_newCapacity_0f7a4 x = true := tb_all (by decide +kernel)
def fJ5_newCapacity_0f7a4 (c : Nat → Option Nat) (h : Hp) (a0 : Option Nat) (a1 : Int32) : Rs := rdR h a0 1 0 (fun r1 => lenA h r1 (fun x2 => rdI h a0 1 1 (fun x3 => rdI h a0 1 1 (fun x4 => cc (fJ8_newLength_cabcc c h x2 ((shlI a1 x3) - x2) (x2 + (shlI (2 : Int32) x4))) (kI fun h5 x6 => if x6 = (2147483647 : Int32) then none else (rdI h5 a0 1 1 (fun x7 => some (h5, some (.inl (shrI x6 x7))))))))))
set_option maxHeartbeats 4000000 in
set_option maxRecDepth 100000 in
theorem soJ5_newCapacity_0f7a4 (X : Cx) (h : Hp) (a0 : Option Nat) (a1 : Int32) : SO X mJ5_newCapacity_0f7a4 [.inr (.inr a0), .inl a1] h (fJ5_newCapacity_0f7a4 X.2.2.2 h a0 a1) := by
  refine so_of (by decide +kernel) (Nat.le_of_ble_eq_true rfl) ?_
  show Gd X mJ5_newCapacity_0f7a4 h (fJ5_newCapacity_0f7a4 X.2.2.2 h a0 a1) h 0 [some (.inr (.inr a0)), some (.inl a1), none, none, none, none] []
  unfold fJ5_newCapacity_0f7a4
  refine q_run tkJ5_newCapacity_0f7a4 0 1 (pc' := 1) (L' := [some (.inr (.inr a0)), some (.inl a1), none, none, none, none]) (st' := [.inr (.inr a0)]) rfl ?_
  refine q_rdR RJ4 TJ4 4 (tbm tkJ5_newCapacity_0f7a4 (i := 1) rfl) rfl (Nat.le_of_ble_eq_true rfl) wd_204 (fun r1 => ?_)
  refine q_alen (tbm tkJ5_newCapacity_0f7a4 (i := 2) rfl) (fun x2 => ?_)
  refine q_run tkJ5_newCapacity_0f7a4 3 3 (pc' := 8) (L' := [some (.inr (.inr a0)), some (.inl a1), some (.inl x2), none, none, none]) (st' := [.inr (.inr a0), .inl a1]) rfl ?_
  refine q_rdI RJ4 TJ4 4 (tbm tkJ5_newCapacity_0f7a4 (i := 6) rfl) rfl (Nat.le_of_ble_eq_true rfl) wd_205 (fun x3 => ?_)
  refine q_run tkJ5_newCapacity_0f7a4 7 11 (pc' := 24) (L' := [some (.inr (.inr a0)), some (.inl a1), some (.inl x2), some (.inl (shlI a1 x3)), some (.inl ((shlI a1 x3) - x2)), none]) (st' := [.inr (.inr a0), .inl (2 : Int32), .inl x2, .inl ((shlI a1 x3) - x2), .inl x2]) rfl ?_
  refine q_rdI RJ4 TJ4 4 (tbm tkJ5_newCapacity_0f7a4 (i := 18) rfl) rfl (Nat.le_of_ble_eq_true rfl) wd_205 (fun x4 => ?_)
  refine q_run tkJ5_newCapacity_0f7a4 19 2 (pc' := 29) (L' := [some (.inr (.inr a0)), some (.inl a1), some (.inl x2), some (.inl (shlI a1 x3)), some (.inl ((shlI a1 x3) - x2)), none]) (st' := [.inl (x2 + (shlI (2 : Int32) x4)), .inl ((shlI a1 x3) - x2), .inl x2]) rfl ?_
  refine q_cs (n := 3) (as := [.inl x2, .inl ((shlI a1 x3) - x2), .inl (x2 + (shlI (2 : Int32) x4))]) (st := []) (soJ8_newLength_cabcc X h x2 ((shlI a1 x3) - x2) (x2 + (shlI (2 : Int32) x4))) (tbm tkJ5_newCapacity_0f7a4 (i := 21) rfl) rfl ceJ8_newLength_cabcc wd_618 wd_617 rfl (Nat.le_of_ble_eq_true rfl) (kI_gd (fun h5 x6 => ?_))
  refine q_run tkJ5_newCapacity_0f7a4 22 2 (pc' := 36) (L' := [some (.inr (.inr a0)), some (.inl a1), some (.inl x2), some (.inl (shlI a1 x3)), some (.inl ((shlI a1 x3) - x2)), some (.inl x6)]) (st' := [.inl x6]) rfl ?_
  refine q_ldc (w := (2147483647 : Int32)) (tbm tkJ5_newCapacity_0f7a4 (i := 24) rfl) wd_625 ?_
  refine q_icmp_ne (tbm tkJ5_newCapacity_0f7a4 (i := 25) rfl) ?_ ?_
  · exact gd_none
  · refine q_run tkJ5_newCapacity_0f7a4 31 2 (pc' := 54) (L' := [some (.inr (.inr a0)), some (.inl a1), some (.inl x2), some (.inl (shlI a1 x3)), some (.inl ((shlI a1 x3) - x2)), some (.inl x6)]) (st' := [.inr (.inr a0), .inl x6]) rfl ?_
    refine q_rdI RJ4 TJ4 4 (tbm tkJ5_newCapacity_0f7a4 (i := 33) rfl) rfl (Nat.le_of_ble_eq_true rfl) wd_205 (fun x7 => ?_)
    refine q_run tkJ5_newCapacity_0f7a4 34 1 (pc' := 58) (L' := [some (.inr (.inr a0)), some (.inl a1), some (.inl x2), some (.inl (shlI a1 x3)), some (.inl ((shlI a1 x3) - x2)), some (.inl x6)]) (st' := [.inl (shrI x6 x7)]) rfl ?_
    exact q_iret (tbm tkJ5_newCapacity_0f7a4 (i := 35) rfl) rfl
theorem ceJ5_newCapacity_0f7a4 : Ce mJ5_newCapacity_0f7a4 1 := ⟨wd_22, wd_616, by decide +kernel, by decide +kernel, by decide +kernel⟩
/-- java/util/Arrays.copyOf -/
abbrev mJ7_copyOf_9075b : MI := (yJ7_copyOf_9075b, cJ7_copyOf_9075b, 3, some (.array .byte), 1)
def tbJ7_copyOf_9075b : List TE := [(0, .iload_n 1, 1, 0, 0), (1, .aload_n 0, 1, 0, 0), (2, .arraylength, 1, 0, 0), (3, .if_icmp .ne 11, 3, 0, 14), (6, .aload_n 0, 1, 0, 0), (7, .invokevirtual 310, 3, 0, 0), (10, .checkcast 311, 3, 0, 0), (13, .areturn, 1, 0, 0), (14, .iload_n 1, 1, 0, 0), (15, .newarray .byte, 2, 0, 0), (17, .astore_n 2, 1, 0, 0), (18, .aload_n 0, 1, 0, 0), (19, .iconst 0, 1, 0, 0), (20, .aload_n 2, 1, 0, 0), (21, .iconst 0, 1, 0, 0), (22, .aload_n 0, 1, 0, 0), (23, .arraylength, 1, 0, 0), (24, .iload_n 1, 1, 0, 0), (25, .invokestatic 304, 3, 0, 0), (28, .invokestatic 150, 3, 0, 0), (31, .aload_n 2, 1, 0, 0), (32, .areturn, 1, 0, 0)]
theorem tkJ7_copyOf_9075b : ∀ x ∈ tbJ7_copyOf_9075b, tbB cJ7_copyOf_9075b x = true := tb_all (by decide +kernel)
def fJ7_copyOf_9075b (c : Nat → Option Nat) (h : Hp) (a0 : Option Nat) (a1 : Int32) : Rs := lenA h a0 (fun x1 => if a1 = x1 then (clnB h a0 (fun h2 r3 => ckB h2 r3 (some (h2, some (.inr (.inr r3)))))) else (nwA h 1 a1 (fun h4 r5 => lenA h4 a0 (fun x6 => cpyB h4 a0 (0 : Int32) r5 (0 : Int32) (mnI x6 a1) (fun h7 => some (h7, some (.inr (.inr r5))))))))
set_option maxHeartbeats 4000000 in
set_option maxRecDepth 100000 in
theorem soJ7_copyOf_9075b (X : Cx) (h : Hp) (a0 : Option Nat) (a1 : Int32) : SO X mJ7_copyOf_9075b [.inr (.inr a0), .inl a1] h (fJ7_copyOf_9075b X.2.2.2 h a0 a1) := by
  refine so_of (by decide +kernel) (Nat.le_of_ble_eq_true rfl) ?_
  show Gd X mJ7_copyOf_9075b h (fJ7_copyOf_9075b X.2.2.2 h a0 a1) h 0 [some (.inr (.inr a0)), some (.inl a1), none] []
  unfold fJ7_copyOf_9075b
  refine q_run tkJ7_copyOf_9075b 0 2 (pc' := 2) (L' := [some (.inr (.inr a0)), some (.inl a1), none]) (st' := [.inr (.inr a0), .inl a1]) rfl ?_
  refine q_alen (tbm tkJ7_copyOf_9075b (i := 2) rfl) (fun x1 => ?_)
  refine q_icmp_ne (tbm tkJ7_copyOf_9075b (i := 3) rfl) ?_ ?_
  · refine q_run tkJ7_copyOf_9075b 4 1 (pc' := 7) (L' := [some (.inr (.inr a0)), some (.inl a1), none]) (st' := [.inr (.inr a0)]) rfl ?_
    refine q_cln (tbm tkJ7_copyOf_9075b (i := 5) rfl) (Nat.le_of_ble_eq_true rfl) (Nat.le_of_ble_eq_true rfl) ⟨wd_629, wd_cln⟩ (fun h2 r3 => ?_)
    refine q_ckB (tbm tkJ7_copyOf_9075b (i := 6) rfl) wd_635 ?_
    exact q_aret (tbm tkJ7_copyOf_9075b (i := 7) rfl) rfl (Or.inr ⟨_, rfl⟩)
  · refine q_run tkJ7_copyOf_9075b 8 1 (pc' := 15) (L' := [some (.inr (.inr a0)), some (.inl a1), none]) (st' := [.inl a1]) rfl ?_
    refine q_newa (k := 1) (Nat.le_of_ble_eq_true rfl) (tbm tkJ7_copyOf_9075b (i := 9) rfl) wd_218 (fun h4 r5 => ?_)
    refine q_run tkJ7_copyOf_9075b 10 6 (pc' := 23) (L' := [some (.inr (.inr a0)), some (.inl a1), some (.inr (.inr r5))]) (st' := [.inr (.inr a0), .inl (0 : Int32), .inr (.inr r5), .inl (0 : Int32), .inr (.inr a0)]) rfl ?_
    refine q_alen (tbm tkJ7_copyOf_9075b (i := 16) rfl) (fun x6 => ?_)
    refine q_run tkJ7_copyOf_9075b 17 1 (pc' := 25) (L' := [some (.inr (.inr a0)), some (.inl a1), some (.inr (.inr r5))]) (st' := [.inl a1, .inl x6, .inl (0 : Int32), .inr (.inr r5), .inl (0 : Int32), .inr (.inr a0)]) rfl ?_
    refine q_mmin (tbm tkJ7_copyOf_9075b (i := 18) rfl) (Nat.le_of_ble_eq_true rfl) (Nat.le_of_ble_eq_true rfl) ⟨wd_636, wd_min⟩ ?_
    refine q_cpy (tbm tkJ7_copyOf_9075b (i := 19) rfl) (Nat.le_of_ble_eq_true rfl) (Nat.le_of_ble_eq_true rfl) ⟨wd_639, wd_cpy⟩ (fun h7 => ?_)
    refine q_run tkJ7_copyOf_9075b 20 1 (pc' := 32) (L' := [some (.inr (.inr a0)), some (.inl a1), some (.inr (.inr r5))]) (st' := [.inr (.inr r5)]) rfl ?_
    exact q_aret (tbm tkJ7_copyOf_9075b (i := 21) rfl) rfl (Or.inr ⟨_, rfl⟩)
theorem ceJ7_copyOf_9075b : Ce mJ7_copyOf_9075b 2 := ⟨wd_32, wd_628, by decide +kernel, by decide +kernel, by decide +kernel⟩
/-- java/lang/AbstractStringBuilder.ensureCapacityInternal -/
abbrev mJ5_ensureCapacityInternal_d00df : MI := (yJ5_ensureCapacityInternal_d00df, cJ5_ensureCapacityInternal_d00df, 3, none, 3)
def tbJ5_ensureCapacityInternal_d00df : List TE := [(0, .aload_n 0, 1, 0, 0), (1, .getfield 15, 3, 0, 0), (4, .arraylength, 1, 0, 0), (5, .aload_n 0, 1, 0, 0), (6, .getfield 22, 3, 0, 0), (9, .ishr, 1, 0, 0), (10, .istore_n 2, 1, 0, 0), (11, .iload_n 1, 1, 0, 0), (12, .iload_n 2, 1, 0, 0), (13, .isub, 1, 0, 0), (14, .ifCond .le 24, 3, 0, 38), (17, .aload_n 0, 1, 0, 0), (18, .aload_n 0, 1, 0, 0), (19, .getfield 15, 3, 0, 0), (22, .aload_n 0, 1, 0, 0), (23, .iload_n 1, 1, 0, 0), (24, .invokevirtual 104, 3, 0, 0), (27, .aload_n 0, 1, 0, 0), (28, .getfield 22, 3, 0, 0), (31, .ishl, 1, 0, 0), (32, .invokestatic 108, 3, 0, 0), (35, .putfield 15, 3, 0, 0), (38, .return_, 1, 0, 0)]
theorem tkJ5_ensureCapacityInternal_d00df : ∀ x ∈ tbJ5_ensureCapacityInternal_d00df, tbB cJ5_ensureCapacityInternal_d00df x = true := tb_all (by decide +kernel)
def fJ5_ensureCapacityInternal_d00df_38 (c : Nat → Option Nat) (h : Hp) : Rs := some (h, none)
set_option maxHeartbeats 4000000 in
set_option maxRecDepth 100000 in
theorem sJ5_ensureCapacityInternal_d00df_38 (X : Cx) {h0 : Hp} (h : Hp) : Gd X mJ5_ensureCapacityInternal_d00df h0 (fJ5_ensureCapacityInternal_d00df_38 X.2.2.2 h) h 38 [none, none, none] [] := by
  unfold fJ5_ensureCapacityInternal_d00df_38
  exact q_vret (tbm tkJ5_ensureCapacityInternal_d00df (i := 22) rfl) rfl
def fJ5_ensureCapacityInternal_d00df (c : Nat → Option Nat) (h : Hp) (a0 : Option Nat) (a1 : Int32) : Rs := rdR h a0 1 0 (fun r1 => lenA h r1 (fun x2 => rdI h a0 1 1 (fun x3 => if 0 < (a1 - (shrI x2 x3)) then (rdR h a0 1 0 (fun r4 => ck h a0 1 (cc (fJ5_newCapacity_0f7a4 c h a0 a1) (kI fun h5 x6 => rdI h5 a0 1 1 (fun x7 => cc (fJ7_copyOf_9075b c h5 r4 (shlI x6 x7)) (kR fun h8 r9 => wr h8 a0 1 0 (.inr (.inr r9)) (fun h10 => fJ5_ensureCapacityInternal_d00df_38 c h10))))))) else (fJ5_ensureCapacityInternal_d00df_38 c h))))
set_option maxHeartbeats 4000000 in
set_option maxRecDepth 100000 in
theorem soJ5_ensureCapacityInternal_d00df (X : Cx) (h : Hp) (a0 : Option Nat) (a1 : Int32) : SO X mJ5_ensureCapacityInternal_d00df [.inr (.inr a0), .inl a1] h (fJ5_ensureCapacityInternal_d00df X.2.2.2 h a0 a1) := by
  refine so_of (by decide +kernel) (Nat.le_of_ble_eq_true rfl) ?_
  show Gd X mJ5_ensureCapacityInternal_d00df h (fJ5_ensureCapacityInternal_d00df X.2.2.2 h a0 a1) h 0 [some (.inr (.inr a0)), some (.inl a1), none] []
  unfold fJ5_ensureCapacityInternal_d00df
  refine q_run tkJ5_ensureCapacityInternal_d00df 0 1 (pc' := 1) (L' := [some (.inr (.inr a0)), some (.inl a1), none]) (st' := [.inr (.inr a0)]) rfl ?_
  refine q_rdR RJ4 TJ4 4 (tbm tkJ5_ensureCapacityInternal_d00df (i := 1) rfl) rfl (Nat.le_of_ble_eq_true rfl) wd_204 (fun r1 => ?_)
  refine q_alen (tbm tkJ5_ensureCapacityInternal_d00df (i := 2) rfl) (fun x2 => ?_)
  refine q_run tkJ5_ensureCapacityInternal_d00df 3 1 (pc' := 6) (L' := [some (.inr (.inr a0)), some (.inl a1), none]) (st' := [.inr (.inr a0), .inl x2]) rfl ?_
  refine q_rdI RJ4 TJ4 4 (tbm tkJ5_ensureCapacityInternal_d00df (i := 4) rfl) rfl (Nat.le_of_ble_eq_true rfl) wd_205 (fun x3 => ?_)
  refine q_run tkJ5_ensureCapacityInternal_d00df 5 5 (pc' := 14) (L' := [some (.inr (.inr a0)), some (.inl a1), some (.inl (shrI x2 x3))]) (st' := [.inl (a1 - (shrI x2 x3))]) rfl ?_
  refine q_if_le (tbm tkJ5_ensureCapacityInternal_d00df (i := 10) rfl) ?_ ?_
  · refine q_run tkJ5_ensureCapacityInternal_d00df 11 2 (pc' := 19) (L' := [some (.inr (.inr a0)), some (.inl a1), some (.inl (shrI x2 x3))]) (st' := [.inr (.inr a0), .inr (.inr a0)]) rfl ?_
    refine q_rdR RJ4 TJ4 4 (tbm tkJ5_ensureCapacityInternal_d00df (i := 13) rfl) rfl (Nat.le_of_ble_eq_true rfl) wd_204 (fun r4 => ?_)
    refine q_run tkJ5_ensureCapacityInternal_d00df 14 2 (pc' := 24) (L' := [some (.inr (.inr a0)), some (.inl a1), some (.inl (shrI x2 x3))]) (st' := [.inl a1, .inr (.inr a0), .inr (.inr r4), .inr (.inr a0)]) rfl ?_
    refine q_cu (r := a0) (ci := 1) (n := 1) (as := [.inl a1]) (st := [.inr (.inr r4), .inr (.inr a0)]) RJ4 TJ4 4 (soJ5_newCapacity_0f7a4 X h a0 a1) (tbm tkJ5_ensureCapacityInternal_d00df (i := 16) rfl) rfl rfl ceJ5_newCapacity_0f7a4 wd_615 ex_newCapacity wd_831 wd_613 rfl (Nat.le_of_ble_eq_true rfl) (kI_gd (fun h5 x6 => ?_))
    refine q_run tkJ5_ensureCapacityInternal_d00df 17 1 (pc' := 28) (L' := [some (.inr (.inr a0)), some (.inl a1), some (.inl (shrI x2 x3))]) (st' := [.inr (.inr a0), .inl x6, .inr (.inr r4), .inr (.inr a0)]) rfl ?_
    refine q_rdI RJ4 TJ4 4 (tbm tkJ5_ensureCapacityInternal_d00df (i := 18) rfl) rfl (Nat.le_of_ble_eq_true rfl) wd_205 (fun x7 => ?_)
    refine q_run tkJ5_ensureCapacityInternal_d00df 19 1 (pc' := 32) (L' := [some (.inr (.inr a0)), some (.inl a1), some (.inl (shrI x2 x3))]) (st' := [.inl (shlI x6 x7), .inr (.inr r4), .inr (.inr a0)]) rfl ?_
    refine q_cs (n := 2) (as := [.inr (.inr r4), .inl (shlI x6 x7)]) (st := [.inr (.inr a0)]) (soJ7_copyOf_9075b X h5 r4 (shlI x6 x7)) (tbm tkJ5_ensureCapacityInternal_d00df (i := 20) rfl) rfl ceJ7_copyOf_9075b wd_627 wd_626 rfl (Nat.le_of_ble_eq_true rfl) (kR_gd (fun h8 r9 => ?_))
    refine q_wr RJ4 TJ4 4 (tbm tkJ5_ensureCapacityInternal_d00df (i := 21) rfl) rfl (Nat.le_of_ble_eq_true rfl) (Or.inl rfl) wd_204 (fun h10 => ?_)
    refine q_le (L' := [none, none, none]) (lvLe_n (lvLe_n (lvLe_n lvLe_0))) ?_
    exact sJ5_ensureCapacityInternal_d00df_38 X h10
  · refine q_le (L' := [none, none, none]) (lvLe_n (lvLe_n (lvLe_n lvLe_0))) ?_
    exact sJ5_ensureCapacityInternal_d00df_38 X h
theorem ceJ5_ensureCapacityInternal_d00df : Ce mJ5_ensureCapacityInternal_d00df 1 := ⟨wd_22, wd_612, by decide +kernel, by decide +kernel, by decide +kernel⟩
/-- java/lang/AbstractStringBuilder.isLatin1 -/
abbrev mJ5_isLatin1_aae02 : MI := (yJ5_isLatin1_aae02, cJ5_isLatin1_aae02, 1, some .boolean, 0)
def tbJ5_isLatin1_aae02 : List TE := [(0, .getstatic 18, 3, 0, 0), (3, .ifCond .eq 14, 3, 0, 17), (6, .aload_n 0, 1, 0, 0), (7, .getfield 22, 3, 0, 0), (10, .ifCond .ne 7, 3, 0, 17), (13, .iconst 1, 1, 1, 0), (14, .goto 4, 3, 0, 18), (17, .iconst 0, 1, 0, 0), (18, .ireturn, 1, 0, 0)]
theorem tkJ5_isLatin1_aae02 : ∀ x ∈ tbJ5_isLatin1_aae02, tbB cJ5_isLatin1_aae02 x = true := tb_all (by decide +kernel)
def fJ5_isLatin1_aae02_18 (c : Nat → Option Nat) (h : Hp) (s0 : Int32) : Rs := rtI .boolean h s0
set_option maxHeartbeats 4000000 in
set_option maxRecDepth 100000 in
theorem sJ5_isLatin1_aae02_18 (X : Cx) {h0 : Hp} (h : Hp) (s0 : Int32) : Gd X mJ5_isLatin1_aae02 h0 (fJ5_isLatin1_aae02_18 X.2.2.2 h s0) h 18 [none] [.inl s0] := by
  unfold fJ5_isLatin1_aae02_18
  exact q_zret (tbm tkJ5_isLatin1_aae02 (i := 8) rfl) rfl
def fJ5_isLatin1_aae02_17 (c : Nat → Option Nat) (h : Hp) : Rs := fJ5_isLatin1_aae02_18 c h (0 : Int32)
set_option maxHeartbeats 4000000 in
set_option maxRecDepth 100000 in
theorem sJ5_isLatin1_aae02_17 (X : Cx) {h0 : Hp} (h : Hp) : Gd X mJ5_isLatin1_aae02 h0 (fJ5_isLatin1_aae02_17 X.2.2.2 h) h 17 [none] [] := by
  unfold fJ5_isLatin1_aae02_17
  refine q_run tkJ5_isLatin1_aae02 7 1 (pc' := 18) (L' := [none]) (st' := [.inl (0 : Int32)]) rfl ?_
  exact sJ5_isLatin1_aae02_18 X h (0 : Int32)
def fJ5_isLatin1_aae02 (c : Nat → Option Nat) (h : Hp) (a0 : Option Nat) : Rs := if (1 : Int32) = 0 then (fJ5_isLatin1_aae02_17 c h) else (rdI h a0 1 1 (fun x1 => if x1 = 0 then (fJ5_isLatin1_aae02_18 c h (1 : Int32)) else (fJ5_isLatin1_aae02_17 c h)))
set_option maxHeartbeats 4000000 in
set_option maxRecDepth 100000 in
theorem soJ5_isLatin1_aae02 (X : Cx) (h : Hp) (a0 : Option Nat) : SO X mJ5_isLatin1_aae02 [.inr (.inr a0)] h (fJ5_isLatin1_aae02 X.2.2.2 h a0) := by
  refine so_of (by decide +kernel) (Nat.le_of_ble_eq_true rfl) ?_
  show Gd X mJ5_isLatin1_aae02 h (fJ5_isLatin1_aae02 X.2.2.2 h a0) h 0 [some (.inr (.inr a0))] []
  unfold fJ5_isLatin1_aae02
  refine q_gs (w := .inl (1 : Int32)) (tbm tkJ5_isLatin1_aae02 (i := 0) rfl) e_z4 wd_195 ?_
  refine q_if_eq (tbm tkJ5_isLatin1_aae02 (i := 1) rfl) ?_ ?_
  · refine q_le (L' := [none]) (lvLe_n lvLe_0) ?_
    exact sJ5_isLatin1_aae02_17 X h
  · refine q_run tkJ5_isLatin1_aae02 2 1 (pc' := 7) (L' := [some (.inr (.inr a0))]) (st' := [.inr (.inr a0)]) rfl ?_
    refine q_rdI RJ4 TJ4 4 (tbm tkJ5_isLatin1_aae02 (i := 3) rfl) rfl (Nat.le_of_ble_eq_true rfl) wd_205 (fun x1 => ?_)
    refine q_if_ne (tbm tkJ5_isLatin1_aae02 (i := 4) rfl) ?_ ?_
    · refine q_run tkJ5_isLatin1_aae02 5 2 (pc' := 18) (L' := [some (.inr (.inr a0))]) (st' := [.inl (1 : Int32)]) rfl ?_
      refine q_le (L' := [none]) (lvLe_n lvLe_0) ?_
      exact sJ5_isLatin1_aae02_18 X h (1 : Int32)
    · refine q_le (L' := [none]) (lvLe_n lvLe_0) ?_
      exact sJ5_isLatin1_aae02_17 X h
theorem ceJ5_isLatin1_aae02 : Ce mJ5_isLatin1_aae02 0 := ⟨wd_22, wd_646, by decide +kernel, by decide +kernel, by decide +kernel⟩
/-- java/util/Arrays.rangeCheck -/
abbrev mJ7_rangeCheck_23922 : MI := (yJ7_rangeCheck_23922, cJ7_rangeCheck_23922, 3, none, 0)
def tbJ7_rangeCheck_23922 : List TE := [(0, .iload_n 1, 1, 0, 0), (1, .iload_n 2, 1, 0, 0), (2, .if_icmp .le 44, 3, 0, 46), (5, .new 43, 3, 0, 0), (8, .dup, 1, 0, 0), (9, .new 45, 3, 0, 0), (12, .dup, 1, 0, 0), (13, .invokespecial 47, 3, 0, 0), (16, .ldc 48, 2, 0, 0), (18, .invokevirtual 50, 3, 0, 0), (21, .iload_n 1, 1, 0, 0), (22, .invokevirtual 54, 3, 0, 0), (25, .ldc 57, 2, 0, 0), (27, .invokevirtual 50, 3, 0, 0), (30, .iload_n 2, 1, 0, 0), (31, .invokevirtual 54, 3, 0, 0), (34, .ldc 59, 2, 0, 0), (36, .invokevirtual 50, 3, 0, 0), (39, .invokevirtual 61, 3, 0, 0), (42, .invokespecial 65, 3, 0, 0), (45, .athrow, 1, 0, 0), (46, .iload_n 1, 1, 0, 0), (47, .ifCond .ge 12, 3, 0, 59), (50, .new 68, 3, 0, 0), (53, .dup, 1, 0, 0), (54, .iload_n 1, 1, 0, 0), (55, .invokespecial 70, 3, 0, 0), (58, .athrow, 1, 0, 0), (59, .iload_n 2, 1, 0, 0), (60, .iload_n 0, 1, 0, 0), (61, .if_icmp .le 12, 3, 0, 73), (64, .new 68, 3, 0, 0), (67, .dup, 1, 0, 0), (68, .iload_n 2, 1, 0, 0), (69, .invokespecial 70, 3, 0, 0), (72, .athrow, 1, 0, 0), (73, .return_, 1, 0, 0)]
theorem tkJ7_rangeCheck_23922 : ∀ x ∈ tbJ7_rangeCheck_23922, tbB cJ7_rangeCheck_23922 x = true := tb_all (by decide +kernel)
def fJ7_rangeCheck_23922 (c : Nat → Option Nat) (h : Hp) (a0 : Int32) (a1 : Int32) (a2 : Int32) : Rs := if a2 < a1 then none else (if a1 < 0 then none else (if a0 < a2 then none else (some (h, none))))
set_option maxHeartbeats 4000000 in
set_option maxRecDepth 100000 in
theorem soJ7_rangeCheck_23922 (X : Cx) (h : Hp) (a0 : Int32) (a1 : Int32) (a2 : Int32) : SO X mJ7_rangeCheck_23922 [.inl a0, .inl a1, .inl a2] h (fJ7_rangeCheck_23922 X.2.2.2 h a0 a1 a2) := by
  refine so_of (by decide +kernel) (Nat.le_of_ble_eq_true rfl) ?_
  show Gd X mJ7_rangeCheck_23922 h (fJ7_rangeCheck_23922 X.2.2.2 h a0 a1 a2) h 0 [some (.inl a0), some (.inl a1), some (.inl a2)] []
  unfold fJ7_rangeCheck_23922
  refine q_run tkJ7_rangeCheck_23922 0 2 (pc' := 2) (L' := [some (.inl a0), some (.inl a1), some (.inl a2)]) (st' := [.inl a2, .inl a1]) rfl ?_
  refine q_icmp_le (tbm tkJ7_rangeCheck_23922 (i := 2) rfl) ?_ ?_
  · exact gd_none
  · refine q_run tkJ7_rangeCheck_23922 21 1 (pc' := 47) (L' := [some (.inl a0), some (.inl a1), some (.inl a2)]) (st' := [.inl a1]) rfl ?_
    refine q_if_ge (tbm tkJ7_rangeCheck_23922 (i := 22) rfl) ?_ ?_
    · exact gd_none
    · refine q_run tkJ7_rangeCheck_23922 28 2 (pc' := 61) (L' := [some (.inl a0), some (.inl a1), some (.inl a2)]) (st' := [.inl a0, .inl a2]) rfl ?_
      refine q_icmp_le (tbm tkJ7_rangeCheck_23922 (i := 30) rfl) ?_ ?_
      · exact gd_none
      · exact q_vret (tbm tkJ7_rangeCheck_23922 (i := 36) rfl) rfl
theorem ceJ7_rangeCheck_23922 : Ce mJ7_rangeCheck_23922 3 := ⟨wd_32, wd_655, by decide +kernel, by decide +kernel, by decide +kernel⟩
/-- java/util/Arrays.fill -/
abbrev mJ7_fill_eb02e : MI := (yJ7_fill_eb02e, cJ7_fill_eb02e, 5, none, 1)
def tbJ7_fill_eb02e : List TE := [(0, .aload_n 0, 1, 0, 0), (1, .arraylength, 1, 0, 0), (2, .iload_n 1, 1, 0, 0), (3, .iload_n 2, 1, 0, 0), (4, .invokestatic 13, 3, 0, 0), (7, .iload_n 1, 1, 0, 0), (8, .istore 4, 2, 0, 0), (10, .iload 4, 2, 0, 0), (12, .iload_n 2, 1, 0, 0), (13, .if_icmp .ge 14, 3, 0, 27), (16, .aload_n 0, 1, 0, 0), (17, .iload 4, 2, 0, 0), (19, .iload_n 3, 1, 0, 0), (20, .bastore, 1, 0, 0), (21, .iinc 4 1, 3, 1, 0), (24, .goto (-14), 3, 0, 10), (27, .return_, 1, 0, 0)]
theorem tkJ7_fill_eb02e : ∀ x ∈ tbJ7_fill_eb02e, tbB cJ7_fill_eb02e x = true := tb_all (by decide +kernel)
def fJ7_fill_eb02e_10 (c : Nat → Option Nat) : Nat → Hp → Option Nat → Int32 → Int32 → Int32 → Rs
  | 0, _, _, _, _, _ => none
  | n + 1, h, l0, l2, l3, l4 => if l4 < l2 then (astI h l0 [1, 2] l4 l3 (fun h1 => fJ7_fill_eb02e_10 c n h1 l0 l2 l3 (l4 + (1 : Int32)))) else (some (h, none))
set_option maxHeartbeats 4000000 in
set_option maxRecDepth 100000 in
theorem sJ7_fill_eb02e_10 (X : Cx) {h0 : Hp} : ∀ (n : Nat) (h : Hp) (l0 : Option Nat) (l2 : Int32) (l3 : Int32) (l4 : Int32), Gd X mJ7_fill_eb02e h0 (fJ7_fill_eb02e_10 X.2.2.2 n h l0 l2 l3 l4) h 10 [some (.inr (.inr l0)), none, some (.inl l2), some (.inl l3), some (.inl l4)] [] := by
  intro n
  induction n with
  | zero => intros; exact gd_none
  | succ n ih =>
    intro h l0 l2 l3 l4
    unfold fJ7_fill_eb02e_10
    refine q_run tkJ7_fill_eb02e 7 2 (pc' := 13) (L' := [some (.inr (.inr l0)), none, some (.inl l2), some (.inl l3), some (.inl l4)]) (st' := [.inl l2, .inl l4]) rfl ?_
    refine q_icmp_ge (tbm tkJ7_fill_eb02e (i := 9) rfl) ?_ ?_
    · refine q_run tkJ7_fill_eb02e 10 3 (pc' := 20) (L' := [some (.inr (.inr l0)), none, some (.inl l2), some (.inl l3), some (.inl l4)]) (st' := [.inl l3, .inl l4, .inr (.inr l0)]) rfl ?_
      refine q_bastore (tbm tkJ7_fill_eb02e (i := 13) rfl) (fun h1 => ?_)
      refine q_run tkJ7_fill_eb02e 14 2 (pc' := 10) (L' := [some (.inr (.inr l0)), none, some (.inl l2), some (.inl l3), some (.inl (l4 + (1 : Int32)))]) (st' := []) rfl ?_
      exact ih h1 l0 l2 l3 (l4 + (1 : Int32))
    · exact q_vret (tbm tkJ7_fill_eb02e (i := 16) rfl) rfl
def fJ7_fill_eb02e (c : Nat → Option Nat) (h : Hp) (a0 : Option Nat) (a1 : Int32) (a2 : Int32) (a3 : Int32) : Rs := lenA h a0 (fun x2 => cc (fJ7_rangeCheck_23922 c h x2 a1 a2) (kV fun h3 => fJ7_fill_eb02e_10 c FU h3 a0 a2 a3 a1))
set_option maxHeartbeats 4000000 in
set_option maxRecDepth 100000 in
theorem soJ7_fill_eb02e (X : Cx) (h : Hp) (a0 : Option Nat) (a1 : Int32) (a2 : Int32) (a3 : Int32) : SO X mJ7_fill_eb02e [.inr (.inr a0), .inl a1, .inl a2, .inl a3] h (fJ7_fill_eb02e X.2.2.2 h a0 a1 a2 a3) := by
  refine so_of (by decide +kernel) (Nat.le_of_ble_eq_true rfl) ?_
  show Gd X mJ7_fill_eb02e h (fJ7_fill_eb02e X.2.2.2 h a0 a1 a2 a3) h 0 [some (.inr (.inr a0)), some (.inl a1), some (.inl a2), some (.inl a3), none] []
  unfold fJ7_fill_eb02e
  refine q_run tkJ7_fill_eb02e 0 1 (pc' := 1) (L' := [some (.inr (.inr a0)), some (.inl a1), some (.inl a2), some (.inl a3), none]) (st' := [.inr (.inr a0)]) rfl ?_
  refine q_alen (tbm tkJ7_fill_eb02e (i := 1) rfl) (fun x2 => ?_)
  refine q_run tkJ7_fill_eb02e 2 2 (pc' := 4) (L' := [some (.inr (.inr a0)), some (.inl a1), some (.inl a2), some (.inl a3), none]) (st' := [.inl a2, .inl a1, .inl x2]) rfl ?_
  refine q_cs (n := 3) (as := [.inl x2, .inl a1, .inl a2]) (st := []) (soJ7_rangeCheck_23922 X h x2 a1 a2) (tbm tkJ7_fill_eb02e (i := 4) rfl) rfl ceJ7_rangeCheck_23922 wd_654 wd_653 rfl (Nat.le_of_ble_eq_true rfl) (kV_gd (fun h3 => ?_))
  refine q_run tkJ7_fill_eb02e 5 2 (pc' := 10) (L' := [some (.inr (.inr a0)), some (.inl a1), some (.inl a2), some (.inl a3), some (.inl a1)]) (st' := []) rfl ?_
  refine q_le (L' := [some (.inr (.inr a0)), none, some (.inl a2), some (.inl a3), some (.inl a1)]) (lvLe_s (lvLe_n (lvLe_s (lvLe_s (lvLe_s lvLe_0))))) ?_
  exact sJ7_fill_eb02e_10 X FU h3 a0 a2 a3 a1
theorem ceJ7_fill_eb02e : Ce mJ7_fill_eb02e 4 := ⟨wd_32, wd_652, by decide +kernel, by decide +kernel, by decide +kernel⟩
/-- java/lang/StringLatin1.fillNull -/
abbrev mJ1_fillNull_b72d1 : MI := (yJ1_fillNull_b72d1, cJ1_fillNull_b72d1, 3, none, 2)
def tbJ1_fillNull_b72d1 : List TE := [(0, .aload_n 0, 1, 0, 0), (1, .iload_n 1, 1, 0, 0), (2, .iload_n 2, 1, 0, 0), (3, .iconst 0, 1, 0, 0), (4, .invokestatic 236, 3, 0, 0), (7, .return_, 1, 0, 0)]
theorem tkJ1_fillNull_b72d1 : ∀ x ∈ tbJ1_fillNull_b72d1, tbB cJ1_fillNull_b72d1 x = true := tb_all (by decide +kernel)
def fJ1_fillNull_b72d1 (c : Nat → Option Nat) (h : Hp) (a0 : Option Nat) (a1 : Int32) (a2 : Int32) : Rs := cc (fJ7_fill_eb02e c h a0 a1 a2 (0 : Int32)) (kV fun h1 => some (h1, none))
set_option maxHeartbeats 4000000 in
set_option maxRecDepth 100000 in
theorem soJ1_fillNull_b72d1 (X : Cx) (h : Hp) (a0 : Option Nat) (a1 : Int32) (a2 : Int32) : SO X mJ1_fillNull_b72d1 [.inr (.inr a0), .inl a1, .inl a2] h (fJ1_fillNull_b72d1 X.2.2.2 h a0 a1 a2) := by
  refine so_of (by decide +kernel) (Nat.le_of_ble_eq_true rfl) ?_
  show Gd X mJ1_fillNull_b72d1 h (fJ1_fillNull_b72d1 X.2.2.2 h a0 a1 a2) h 0 [some (.inr (.inr a0)), some (.inl a1), some (.inl a2)] []
  unfold fJ1_fillNull_b72d1
  refine q_run tkJ1_fillNull_b72d1 0 4 (pc' := 4) (L' := [some (.inr (.inr a0)), some (.inl a1), some (.inl a2)]) (st' := [.inl (0 : Int32), .inl a2, .inl a1, .inr (.inr a0)]) rfl ?_
  refine q_cs (n := 4) (as := [.inr (.inr a0), .inl a1, .inl a2, .inl (0 : Int32)]) (st := []) (soJ7_fill_eb02e X h a0 a1 a2 (0 : Int32)) (tbm tkJ1_fillNull_b72d1 (i := 4) rfl) rfl ceJ7_fill_eb02e wd_651 wd_650 rfl (Nat.le_of_ble_eq_true rfl) (kV_gd (fun h1 => ?_))
  exact q_vret (tbm tkJ1_fillNull_b72d1 (i := 5) rfl) rfl
theorem ceJ1_fillNull_b72d1 : Ce mJ1_fillNull_b72d1 3 := ⟨wd_28, wd_649, by decide +kernel, by decide +kernel, by decide +kernel⟩
/-- java/lang/AbstractStringBuilder.setLength -/
abbrev mJ5_setLength_d00df : MI := (yJ5_setLength_d00df, cJ5_setLength_d00df, 2, none, 4)
def tbJ5_setLength_d00df : List TE := [(0, .iload_n 1, 1, 0, 0), (1, .ifCond .ge 12, 3, 0, 13), (4, .new 129, 3, 0, 0), (7, .dup, 1, 0, 0), (8, .iload_n 1, 1, 0, 0), (9, .invokespecial 131, 3, 0, 0), (12, .athrow, 1, 0, 0), (13, .aload_n 0, 1, 0, 0), (14, .iload_n 1, 1, 0, 0), (15, .invokevirtual 100, 3, 0, 0), (18, .aload_n 0, 1, 0, 0), (19, .getfield 79, 3, 0, 0), (22, .iload_n 1, 1, 0, 0), (23, .if_icmp .ge 40, 3, 0, 63), (26, .aload_n 0, 1, 0, 0), (27, .invokevirtual 83, 3, 0, 0), (30, .ifCond .eq 18, 3, 0, 48), (33, .aload_n 0, 1, 0, 0), (34, .getfield 15, 3, 0, 0), (37, .aload_n 0, 1, 0, 0), (38, .getfield 79, 3, 0, 0), (41, .iload_n 1, 1, 0, 0), (42, .invokestatic 133, 3, 0, 0), (45, .goto 31, 3, 0, 76), (48, .aload_n 0, 1, 0, 0), (49, .getfield 15, 3, 0, 0), (52, .aload_n 0, 1, 0, 0), (53, .getfield 79, 3, 0, 0), (56, .iload_n 1, 1, 0, 0), (57, .invokestatic 137, 3, 0, 0), (60, .goto 16, 3, 0, 76), (63, .aload_n 0, 1, 0, 0), (64, .getfield 79, 3, 0, 0), (67, .iload_n 1, 1, 0, 0), (68, .if_icmp .le 8, 3, 0, 76), (71, .aload_n 0, 1, 0, 0), (72, .iconst 1, 1, 1, 0), (73, .putfield 73, 3, 0, 0), (76, .aload_n 0, 1, 0, 0), (77, .iload_n 1, 1, 0, 0), (78, .putfield 79, 3, 0, 0), (81, .return_, 1, 0, 0)]
theorem tkJ5_setLength_d00df : ∀ x ∈ tbJ5_setLength_d00df, tbB cJ5_setLength_d00df x = true := tb_all (by decide +kernel)
def fJ5_setLength_d00df_76 (c : Nat → Option Nat) (h : Hp) (l0 : Option Nat) (l1 : Int32) : Rs := wr h l0 1 3 (.inl l1) (fun h1 => some (h1, none))
set_option maxHeartbeats 4000000 in
set_option maxRecDepth 100000 in
theorem sJ5_setLength_d00df_76 (X : Cx) {h0 : Hp} (h : Hp) (l0 : Option Nat) (l1 : Int32) : Gd X mJ5_setLength_d00df h0 (fJ5_setLength_d00df_76 X.2.2.2 h l0 l1) h 76 [some (.inr (.inr l0)), some (.inl l1)] [] := by
  unfold fJ5_setLength_d00df_76
  refine q_run tkJ5_setLength_d00df 38 2 (pc' := 78) (L' := [some (.inr (.inr l0)), some (.inl l1)]) (st' := [.inl l1, .inr (.inr l0)]) rfl ?_
  refine q_wr RJ4 TJ4 4 (tbm tkJ5_setLength_d00df (i := 40) rfl) rfl (Nat.le_of_ble_eq_true rfl) (Or.inl rfl) wd_208 (fun h1 => ?_)
  exact q_vret (tbm tkJ5_setLength_d00df (i := 41) rfl) rfl
def fJ5_setLength_d00df (c : Nat → Option Nat) (h : Hp) (a0 : Option Nat) (a1 : Int32) : Rs := if a1 < 0 then none else (ck h a0 1 (cc (fJ5_ensureCapacityInternal_d00df c h a0 a1) (kV fun h2 => rdI h2 a0 1 3 (fun x3 => if x3 < a1 then (ck h2 a0 1 (cc (fJ5_isLatin1_aae02 c h2 a0) (kI fun h4 x5 => if x5 = 0 then (rdR h4 a0 1 0 (fun r6 => rdI h4 a0 1 3 (fun x7 => none))) else (rdR h4 a0 1 0 (fun r8 => rdI h4 a0 1 3 (fun x9 => cc (fJ1_fillNull_b72d1 c h4 r8 x9 a1) (kV fun h10 => fJ5_setLength_d00df_76 c h10 a0 a1))))))) else (rdI h2 a0 1 3 (fun x11 => if a1 < x11 then (wr h2 a0 1 2 (.inl (1 : Int32)) (fun h12 => fJ5_setLength_d00df_76 c h12 a0 a1)) else (fJ5_setLength_d00df_76 c h2 a0 a1)))))))
set_option maxHeartbeats 4000000 in
set_option maxRecDepth 100000 in
theorem soJ5_setLength_d00df (X : Cx) (h : Hp) (a0 : Option Nat) (a1 : Int32) : SO X mJ5_setLength_d00df [.inr (.inr a0), .inl a1] h (fJ5_setLength_d00df X.2.2.2 h a0 a1) := by
  refine so_of (by decide +kernel) (Nat.le_of_ble_eq_true rfl) ?_
  show Gd X mJ5_setLength_d00df h (fJ5_setLength_d00df X.2.2.2 h a0 a1) h 0 [some (.inr (.inr a0)), some (.inl a1)] []
  unfold fJ5_setLength_d00df
  refine q_run tkJ5_setLength_d00df 0 1 (pc' := 1) (L' := [some (.inr (.inr a0)), some (.inl a1)]) (st' := [.inl a1]) rfl ?_
  refine q_if_ge (tbm tkJ5_setLength_d00df (i := 1) rfl) ?_ ?_
  · exact gd_none
  · refine q_run tkJ5_setLength_d00df 7 2 (pc' := 15) (L' := [some (.inr (.inr a0)), some (.inl a1)]) (st' := [.inl a1, .inr (.inr a0)]) rfl ?_
    refine q_cu (r := a0) (ci := 1) (n := 1) (as := [.inl a1]) (st := []) RJ4 TJ4 4 (soJ5_ensureCapacityInternal_d00df X h a0 a1) (tbm tkJ5_setLength_d00df (i := 9) rfl) rfl rfl ceJ5_ensureCapacityInternal_d00df wd_611 ex_ensureCapacityInternal wd_830 wd_609 rfl (Nat.le_of_ble_eq_true rfl) (kV_gd (fun h2 => ?_))
    refine q_run tkJ5_setLength_d00df 10 1 (pc' := 19) (L' := [some (.inr (.inr a0)), some (.inl a1)]) (st' := [.inr (.inr a0)]) rfl ?_
    refine q_rdI RJ4 TJ4 4 (tbm tkJ5_setLength_d00df (i := 11) rfl) rfl (Nat.le_of_ble_eq_true rfl) wd_208 (fun x3 => ?_)
    refine q_run tkJ5_setLength_d00df 12 1 (pc' := 23) (L' := [some (.inr (.inr a0)), some (.inl a1)]) (st' := [.inl a1, .inl x3]) rfl ?_
    refine q_icmp_ge (tbm tkJ5_setLength_d00df (i := 13) rfl) ?_ ?_
    · refine q_run tkJ5_setLength_d00df 14 1 (pc' := 27) (L' := [some (.inr (.inr a0)), some (.inl a1)]) (st' := [.inr (.inr a0)]) rfl ?_
      refine q_cu (r := a0) (ci := 1) (n := 0) (as := []) (st := []) RJ4 TJ4 4 (soJ5_isLatin1_aae02 X h2 a0) (tbm tkJ5_setLength_d00df (i := 15) rfl) rfl rfl ceJ5_isLatin1_aae02 wd_643 wd_645 wd_644 wd_642 rfl (Nat.le_of_ble_eq_true rfl) (kI_gd (fun h4 x5 => ?_))
      refine q_if_eq (tbm tkJ5_setLength_d00df (i := 16) rfl) ?_ ?_
      · refine q_run tkJ5_setLength_d00df 24 1 (pc' := 49) (L' := [some (.inr (.inr a0)), some (.inl a1)]) (st' := [.inr (.inr a0)]) rfl ?_
        refine q_rdR RJ4 TJ4 4 (tbm tkJ5_setLength_d00df (i := 25) rfl) rfl (Nat.le_of_ble_eq_true rfl) wd_204 (fun r6 => ?_)
        refine q_run tkJ5_setLength_d00df 26 1 (pc' := 53) (L' := [some (.inr (.inr a0)), some (.inl a1)]) (st' := [.inr (.inr a0), .inr (.inr r6)]) rfl ?_
        refine q_rdI RJ4 TJ4 4 (tbm tkJ5_setLength_d00df (i := 27) rfl) rfl (Nat.le_of_ble_eq_true rfl) wd_208 (fun x7 => ?_)
        refine q_run tkJ5_setLength_d00df 28 1 (pc' := 57) (L' := [some (.inr (.inr a0)), some (.inl a1)]) (st' := [.inl a1, .inl x7, .inr (.inr r6)]) rfl ?_
        exact gd_none
      · refine q_run tkJ5_setLength_d00df 17 1 (pc' := 34) (L' := [some (.inr (.inr a0)), some (.inl a1)]) (st' := [.inr (.inr a0)]) rfl ?_
        refine q_rdR RJ4 TJ4 4 (tbm tkJ5_setLength_d00df (i := 18) rfl) rfl (Nat.le_of_ble_eq_true rfl) wd_204 (fun r8 => ?_)
        refine q_run tkJ5_setLength_d00df 19 1 (pc' := 38) (L' := [some (.inr (.inr a0)), some (.inl a1)]) (st' := [.inr (.inr a0), .inr (.inr r8)]) rfl ?_
        refine q_rdI RJ4 TJ4 4 (tbm tkJ5_setLength_d00df (i := 20) rfl) rfl (Nat.le_of_ble_eq_true rfl) wd_208 (fun x9 => ?_)
        refine q_run tkJ5_setLength_d00df 21 1 (pc' := 42) (L' := [some (.inr (.inr a0)), some (.inl a1)]) (st' := [.inl a1, .inl x9, .inr (.inr r8)]) rfl ?_
        refine q_cs (n := 3) (as := [.inr (.inr r8), .inl x9, .inl a1]) (st := []) (soJ1_fillNull_b72d1 X h4 r8 x9 a1) (tbm tkJ5_setLength_d00df (i := 22) rfl) rfl ceJ1_fillNull_b72d1 wd_648 wd_647 rfl (Nat.le_of_ble_eq_true rfl) (kV_gd (fun h10 => ?_))
        refine q_run tkJ5_setLength_d00df 23 1 (pc' := 76) (L' := [some (.inr (.inr a0)), some (.inl a1)]) (st' := []) rfl ?_
        exact sJ5_setLength_d00df_76 X h10 a0 a1
    · refine q_run tkJ5_setLength_d00df 31 1 (pc' := 64) (L' := [some (.inr (.inr a0)), some (.inl a1)]) (st' := [.inr (.inr a0)]) rfl ?_
      refine q_rdI RJ4 TJ4 4 (tbm tkJ5_setLength_d00df (i := 32) rfl) rfl (Nat.le_of_ble_eq_true rfl) wd_208 (fun x11 => ?_)
      refine q_run tkJ5_setLength_d00df 33 1 (pc' := 68) (L' := [some (.inr (.inr a0)), some (.inl a1)]) (st' := [.inl a1, .inl x11]) rfl ?_
      refine q_icmp_le (tbm tkJ5_setLength_d00df (i := 34) rfl) ?_ ?_
      · refine q_run tkJ5_setLength_d00df 35 2 (pc' := 73) (L' := [some (.inr (.inr a0)), some (.inl a1)]) (st' := [.inl (1 : Int32), .inr (.inr a0)]) rfl ?_
        refine q_wr RJ4 TJ4 4 (tbm tkJ5_setLength_d00df (i := 37) rfl) rfl (Nat.le_of_ble_eq_true rfl) (Or.inl rfl) wd_206 (fun h12 => ?_)
        exact sJ5_setLength_d00df_76 X h12 a0 a1
      · exact sJ5_setLength_d00df_76 X h2 a0 a1
theorem ceJ5_setLength_d00df : Ce mJ5_setLength_d00df 1 := ⟨wd_22, wd_608, by decide +kernel, by decide +kernel, by decide +kernel⟩
/-- java/lang/StringBuilder.setLength -/
abbrev mJ4_setLength_d00df : MI := (yJ4_setLength_d00df, cJ4_setLength_d00df, 2, none, 5)
def tbJ4_setLength_d00df : List TE := [(0, .aload_n 0, 1, 0, 0), (1, .iload_n 1, 1, 0, 0), (2, .invokespecial 333, 3, 0, 0), (5, .return_, 1, 0, 0)]
theorem tkJ4_setLength_d00df : ∀ x ∈ tbJ4_setLength_d00df, tbB cJ4_setLength_d00df x = true := tb_all (by decide +kernel)
def fJ4_setLength_d00df (c : Nat → Option Nat) (h : Hp) (a0 : Option Nat) (a1 : Int32) : Rs := ck h a0 1 (cc (fJ5_setLength_d00df c h a0 a1) (kV fun h1 => some (h1, none)))
set_option maxHeartbeats 4000000 in
set_option maxRecDepth 100000 in
theorem soJ4_setLength_d00df (X : Cx) (h : Hp) (a0 : Option Nat) (a1 : Int32) : SO X mJ4_setLength_d00df [.inr (.inr a0), .inl a1] h (fJ4_setLength_d00df X.2.2.2 h a0 a1) := by
  refine so_of (by decide +kernel) (Nat.le_of_ble_eq_true rfl) ?_
  show Gd X mJ4_setLength_d00df h (fJ4_setLength_d00df X.2.2.2 h a0 a1) h 0 [some (.inr (.inr a0)), some (.inl a1)] []
  unfold fJ4_setLength_d00df
  refine q_run tkJ4_setLength_d00df 0 2 (pc' := 2) (L' := [some (.inr (.inr a0)), some (.inl a1)]) (st' := [.inl a1, .inr (.inr a0)]) rfl ?_
  refine q_csu (r := a0) (ci := 1) (n := 1) (as := [.inl a1]) (st := []) RJ4 TJ4 4 (soJ5_setLength_d00df X h a0 a1) (tbm tkJ4_setLength_d00df (i := 2) rfl) rfl rfl ceJ5_setLength_d00df wd_607 wd_217 wd_829 (by decide +kernel) wd_606 rfl (Nat.le_of_ble_eq_true rfl) (kV_gd (fun h1 => ?_))
  exact q_vret (tbm tkJ4_setLength_d00df (i := 3) rfl) rfl
theorem ceJ4_setLength_d00df : Ce mJ4_setLength_d00df 1 := ⟨wd_23, wd_605, by decide +kernel, by decide +kernel, by decide +kernel⟩
/-- java/lang/StringLatin1.canEncode -/
abbrev mJ1_canEncode_fc78d : MI := (yJ1_canEncode_fc78d, cJ1_canEncode_fc78d, 1, some .boolean, 0)
def tbJ1_canEncode_fc78d : List TE := [(0, .iload_n 0, 1, 0, 0), (1, .sipush 255, 3, 255, 0), (4, .if_icmp .gt 7, 3, 0, 11), (7, .iconst 1, 1, 1, 0), (8, .goto 4, 3, 0, 12), (11, .iconst 0, 1, 0, 0), (12, .ireturn, 1, 0, 0)]
theorem tkJ1_canEncode_fc78d : ∀ x ∈ tbJ1_canEncode_fc78d, tbB cJ1_canEncode_fc78d x = true := tb_all (by decide +kernel)
def fJ1_canEncode_fc78d_12 (c : Nat → Option Nat) (h : Hp) (s0 : Int32) : Rs := rtI .boolean h s0
set_option maxHeartbeats 4000000 in
set_option maxRecDepth 100000 in
theorem sJ1_canEncode_fc78d_12 (X : Cx) {h0 : Hp} (h : Hp) (s0 : Int32) : Gd X mJ1_canEncode_fc78d h0 (fJ1_canEncode_fc78d_12 X.2.2.2 h s0) h 12 [none] [.inl s0] := by
  unfold fJ1_canEncode_fc78d_12
  exact q_zret (tbm tkJ1_canEncode_fc78d (i := 6) rfl) rfl
def fJ1_canEncode_fc78d (c : Nat → Option Nat) (h : Hp) (a0 : Int32) : Rs := if (255 : Int32) < a0 then (fJ1_canEncode_fc78d_12 c h (0 : Int32)) else (fJ1_canEncode_fc78d_12 c h (1 : Int32))
set_option maxHeartbeats 4000000 in
set_option maxRecDepth 100000 in
theorem soJ1_canEncode_fc78d (X : Cx) (h : Hp) (a0 : Int32) : SO X mJ1_canEncode_fc78d [.inl a0] h (fJ1_canEncode_fc78d X.2.2.2 h a0) := by
  refine so_of (by decide +kernel) (Nat.le_of_ble_eq_true rfl) ?_
  show Gd X mJ1_canEncode_fc78d h (fJ1_canEncode_fc78d X.2.2.2 h a0) h 0 [some (.inl a0)] []
  unfold fJ1_canEncode_fc78d
  refine q_run tkJ1_canEncode_fc78d 0 2 (pc' := 4) (L' := [some (.inl a0)]) (st' := [.inl (255 : Int32), .inl a0]) rfl ?_
  refine q_icmp_gt (tbm tkJ1_canEncode_fc78d (i := 2) rfl) ?_ ?_
  · refine q_run tkJ1_canEncode_fc78d 5 1 (pc' := 12) (L' := [some (.inl a0)]) (st' := [.inl (0 : Int32)]) rfl ?_
    refine q_le (L' := [none]) (lvLe_n lvLe_0) ?_
    exact sJ1_canEncode_fc78d_12 X h (0 : Int32)
  · refine q_run tkJ1_canEncode_fc78d 3 2 (pc' := 12) (L' := [some (.inl a0)]) (st' := [.inl (1 : Int32)]) rfl ?_
    refine q_le (L' := [none]) (lvLe_n lvLe_0) ?_
    exact sJ1_canEncode_fc78d_12 X h (1 : Int32)
theorem ceJ1_canEncode_fc78d : Ce mJ1_canEncode_fc78d 1 := ⟨wd_28, wd_681, by decide +kernel, by decide +kernel, by decide +kernel⟩
/-- java/lang/AbstractStringBuilder.append -/
abbrev mJ5_append_3fe6f : MI := (yJ5_append_3fe6f, cJ5_append_3fe6f, 2, some (.object "java/lang/AbstractStringBuilder"), 4)
def tbJ5_append_3fe6f : List TE := [(0, .aload_n 0, 1, 0, 0), (1, .aload_n 0, 1, 0, 0), (2, .getfield 79, 3, 0, 0), (5, .iconst 1, 1, 1, 0), (6, .iadd, 1, 0, 0), (7, .invokevirtual 100, 3, 0, 0), (10, .aload_n 0, 1, 0, 0), (11, .invokevirtual 83, 3, 0, 0), (14, .ifCond .eq 31, 3, 0, 45), (17, .iload_n 1, 1, 0, 0), (18, .invokestatic 191, 3, 0, 0), (21, .ifCond .eq 24, 3, 0, 45), (24, .aload_n 0, 1, 0, 0), (25, .getfield 15, 3, 0, 0), (28, .aload_n 0, 1, 0, 0), (29, .dup, 1, 0, 0), (30, .getfield 79, 3, 0, 0), (33, .dup_x1, 1, 0, 0), (34, .iconst 1, 1, 1, 0), (35, .iadd, 1, 0, 0), (36, .putfield 79, 3, 0, 0), (39, .iload_n 1, 1, 0, 0), (40, .i2b, 1, 0, 0), (41, .bastore, 1, 0, 0), (42, .goto 33, 3, 0, 75), (45, .aload_n 0, 1, 0, 0), (46, .invokevirtual 83, 3, 0, 0), (49, .ifCond .eq 7, 3, 0, 56), (52, .aload_n 0, 1, 0, 0), (53, .invokevirtual 195, 3, 0, 0), (56, .aload_n 0, 1, 0, 0), (57, .getfield 15, 3, 0, 0), (60, .aload_n 0, 1, 0, 0), (61, .dup, 1, 0, 0), (62, .getfield 79, 3, 0, 0), (65, .dup_x1, 1, 0, 0), (66, .iconst 1, 1, 1, 0), (67, .iadd, 1, 0, 0), (68, .putfield 79, 3, 0, 0), (71, .iload_n 1, 1, 0, 0), (72, .invokestatic 197, 3, 0, 0), (75, .aload_n 0, 1, 0, 0), (76, .areturn, 1, 0, 0)]
theorem tkJ5_append_3fe6f : ∀ x ∈ tbJ5_append_3fe6f, tbB cJ5_append_3fe6f x = true := tb_all (by decide +kernel)
def fJ5_append_3fe6f_45 (c : Nat → Option Nat) (h : Hp) (l0 : Option Nat) (l1 : Int32) : Rs := ck h l0 1 (cc (fJ5_isLatin1_aae02 c h l0) (kI fun h1 x2 => if x2 = 0 then (rdR h1 l0 1 0 (fun r3 => rdI h1 l0 1 3 (fun x4 => wr h1 l0 1 3 (.inl (x4 + (1 : Int32))) (fun h5 => none)))) else none))
set_option maxHeartbeats 4000000 in
set_option maxRecDepth 100000 in
theorem sJ5_append_3fe6f_45 (X : Cx) {h0 : Hp} (h : Hp) (l0 : Option Nat) (l1 : Int32) : Gd X mJ5_append_3fe6f h0 (fJ5_append_3fe6f_45 X.2.2.2 h l0 l1) h 45 [some (.inr (.inr l0)), some (.inl l1)] [] := by
  unfold fJ5_append_3fe6f_45
  refine q_run tkJ5_append_3fe6f 25 1 (pc' := 46) (L' := [some (.inr (.inr l0)), some (.inl l1)]) (st' := [.inr (.inr l0)]) rfl ?_
  refine q_cu (r := l0) (ci := 1) (n := 0) (as := []) (st := []) RJ4 TJ4 4 (soJ5_isLatin1_aae02 X h l0) (tbm tkJ5_append_3fe6f (i := 26) rfl) rfl rfl ceJ5_isLatin1_aae02 wd_643 wd_645 wd_644 wd_642 rfl (Nat.le_of_ble_eq_true rfl) (kI_gd (fun h1 x2 => ?_))
  refine q_if_eq (tbm tkJ5_append_3fe6f (i := 27) rfl) ?_ ?_
  · refine q_run tkJ5_append_3fe6f 30 1 (pc' := 57) (L' := [some (.inr (.inr l0)), some (.inl l1)]) (st' := [.inr (.inr l0)]) rfl ?_
    refine q_rdR RJ4 TJ4 4 (tbm tkJ5_append_3fe6f (i := 31) rfl) rfl (Nat.le_of_ble_eq_true rfl) wd_204 (fun r3 => ?_)
    refine q_run tkJ5_append_3fe6f 32 2 (pc' := 62) (L' := [some (.inr (.inr l0)), some (.inl l1)]) (st' := [.inr (.inr l0), .inr (.inr l0), .inr (.inr r3)]) rfl ?_
    refine q_rdI RJ4 TJ4 4 (tbm tkJ5_append_3fe6f (i := 34) rfl) rfl (Nat.le_of_ble_eq_true rfl) wd_208 (fun x4 => ?_)
    refine q_run tkJ5_append_3fe6f 35 3 (pc' := 68) (L' := [some (.inr (.inr l0)), some (.inl l1)]) (st' := [.inl (x4 + (1 : Int32)), .inr (.inr l0), .inl x4, .inr (.inr r3)]) rfl ?_
    refine q_wr RJ4 TJ4 4 (tbm tkJ5_append_3fe6f (i := 38) rfl) rfl (Nat.le_of_ble_eq_true rfl) (Or.inl rfl) wd_208 (fun h5 => ?_)
    refine q_run tkJ5_append_3fe6f 39 1 (pc' := 72) (L' := [some (.inr (.inr l0)), some (.inl l1)]) (st' := [.inl l1, .inl x4, .inr (.inr r3)]) rfl ?_
    exact gd_none
  · refine q_run tkJ5_append_3fe6f 28 1 (pc' := 53) (L' := [some (.inr (.inr l0)), some (.inl l1)]) (st' := [.inr (.inr l0)]) rfl ?_
    exact gd_none
def fJ5_append_3fe6f (c : Nat → Option Nat) (h : Hp) (a0 : Option Nat) (a1 : Int32) : Rs := rdI h a0 1 3 (fun x6 => ck h a0 1 (cc (fJ5_ensureCapacityInternal_d00df c h a0 (x6 + (1 : Int32))) (kV fun h7 => ck h7 a0 1 (cc (fJ5_isLatin1_aae02 c h7 a0) (kI fun h8 x9 => if x9 = 0 then (fJ5_append_3fe6f_45 c h8 a0 a1) else (cc (fJ1_canEncode_fc78d c h8 a1) (kI fun h10 x11 => if x11 = 0 then (fJ5_append_3fe6f_45 c h10 a0 a1) else (rdR h10 a0 1 0 (fun r12 => rdI h10 a0 1 3 (fun x13 => wr h10 a0 1 3 (.inl (x13 + (1 : Int32))) (fun h14 => astI h14 r12 [1, 2] x13 (byI a1) (fun h15 => some (h15, some (.inr (.inr a0)))))))))))))))
set_option maxHeartbeats 4000000 in
set_option maxRecDepth 100000 in
theorem soJ5_append_3fe6f (X : Cx) (h : Hp) (a0 : Option Nat) (a1 : Int32) : SO X mJ5_append_3fe6f [.inr (.inr a0), .inl a1] h (fJ5_append_3fe6f X.2.2.2 h a0 a1) := by
  refine so_of (by decide +kernel) (Nat.le_of_ble_eq_true rfl) ?_
  show Gd X mJ5_append_3fe6f h (fJ5_append_3fe6f X.2.2.2 h a0 a1) h 0 [some (.inr (.inr a0)), some (.inl a1)] []
  unfold fJ5_append_3fe6f
  refine q_run tkJ5_append_3fe6f 0 2 (pc' := 2) (L' := [some (.inr (.inr a0)), some (.inl a1)]) (st' := [.inr (.inr a0), .inr (.inr a0)]) rfl ?_
  refine q_rdI RJ4 TJ4 4 (tbm tkJ5_append_3fe6f (i := 2) rfl) rfl (Nat.le_of_ble_eq_true rfl) wd_208 (fun x6 => ?_)
  refine q_run tkJ5_append_3fe6f 3 2 (pc' := 7) (L' := [some (.inr (.inr a0)), some (.inl a1)]) (st' := [.inl (x6 + (1 : Int32)), .inr (.inr a0)]) rfl ?_
  refine q_cu (r := a0) (ci := 1) (n := 1) (as := [.inl (x6 + (1 : Int32))]) (st := []) RJ4 TJ4 4 (soJ5_ensureCapacityInternal_d00df X h a0 (x6 + (1 : Int32))) (tbm tkJ5_append_3fe6f (i := 5) rfl) rfl rfl ceJ5_ensureCapacityInternal_d00df wd_611 ex_ensureCapacityInternal wd_830 wd_609 rfl (Nat.le_of_ble_eq_true rfl) (kV_gd (fun h7 => ?_))
  refine q_run tkJ5_append_3fe6f 6 1 (pc' := 11) (L' := [some (.inr (.inr a0)), some (.inl a1)]) (st' := [.inr (.inr a0)]) rfl ?_
  refine q_cu (r := a0) (ci := 1) (n := 0) (as := []) (st := []) RJ4 TJ4 4 (soJ5_isLatin1_aae02 X h7 a0) (tbm tkJ5_append_3fe6f (i := 7) rfl) rfl rfl ceJ5_isLatin1_aae02 wd_643 wd_645 wd_644 wd_642 rfl (Nat.le_of_ble_eq_true rfl) (kI_gd (fun h8 x9 => ?_))
  refine q_if_eq (tbm tkJ5_append_3fe6f (i := 8) rfl) ?_ ?_
  · exact sJ5_append_3fe6f_45 X h8 a0 a1
  · refine q_run tkJ5_append_3fe6f 9 1 (pc' := 18) (L' := [some (.inr (.inr a0)), some (.inl a1)]) (st' := [.inl a1]) rfl ?_
    refine q_cs (n := 1) (as := [.inl a1]) (st := []) (soJ1_canEncode_fc78d X h8 a1) (tbm tkJ5_append_3fe6f (i := 10) rfl) rfl ceJ1_canEncode_fc78d wd_680 wd_679 rfl (Nat.le_of_ble_eq_true rfl) (kI_gd (fun h10 x11 => ?_))
    refine q_if_eq (tbm tkJ5_append_3fe6f (i := 11) rfl) ?_ ?_
    · exact sJ5_append_3fe6f_45 X h10 a0 a1
    · refine q_run tkJ5_append_3fe6f 12 1 (pc' := 25) (L' := [some (.inr (.inr a0)), some (.inl a1)]) (st' := [.inr (.inr a0)]) rfl ?_
      refine q_rdR RJ4 TJ4 4 (tbm tkJ5_append_3fe6f (i := 13) rfl) rfl (Nat.le_of_ble_eq_true rfl) wd_204 (fun r12 => ?_)
      refine q_run tkJ5_append_3fe6f 14 2 (pc' := 30) (L' := [some (.inr (.inr a0)), some (.inl a1)]) (st' := [.inr (.inr a0), .inr (.inr a0), .inr (.inr r12)]) rfl ?_
      refine q_rdI RJ4 TJ4 4 (tbm tkJ5_append_3fe6f (i := 16) rfl) rfl (Nat.le_of_ble_eq_true rfl) wd_208 (fun x13 => ?_)
      refine q_run tkJ5_append_3fe6f 17 3 (pc' := 36) (L' := [some (.inr (.inr a0)), some (.inl a1)]) (st' := [.inl (x13 + (1 : Int32)), .inr (.inr a0), .inl x13, .inr (.inr r12)]) rfl ?_
      refine q_wr RJ4 TJ4 4 (tbm tkJ5_append_3fe6f (i := 20) rfl) rfl (Nat.le_of_ble_eq_true rfl) (Or.inl rfl) wd_208 (fun h14 => ?_)
      refine q_run tkJ5_append_3fe6f 21 2 (pc' := 41) (L' := [some (.inr (.inr a0)), some (.inl a1)]) (st' := [.inl (byI a1), .inl x13, .inr (.inr r12)]) rfl ?_
      refine q_bastore (tbm tkJ5_append_3fe6f (i := 23) rfl) (fun h15 => ?_)
      refine q_run tkJ5_append_3fe6f 24 1 (pc' := 75) (L' := [some (.inr (.inr a0)), some (.inl a1)]) (st' := []) rfl ?_
      refine q_run tkJ5_append_3fe6f 41 1 (pc' := 76) (L' := [some (.inr (.inr a0)), some (.inl a1)]) (st' := [.inr (.inr a0)]) rfl ?_
      exact q_aret (tbm tkJ5_append_3fe6f (i := 42) rfl) rfl (Or.inl ⟨_, rfl⟩)
theorem ceJ5_append_3fe6f : Ce mJ5_append_3fe6f 1 := ⟨wd_22, wd_678, by decide +kernel, by decide +kernel, by decide +kernel⟩
/-- java/lang/StringBuilder.append -/
abbrev mJ4_append_cf468 : MI := (yJ4_append_cf468, cJ4_append_cf468, 2, some (.object "java/lang/StringBuilder"), 5)
def tbJ4_append_cf468 : List TE := [(0, .aload_n 0, 1, 0, 0), (1, .iload_n 1, 1, 0, 0), (2, .invokespecial 50, 3, 0, 0), (5, .pop, 1, 0, 0), (6, .aload_n 0, 1, 0, 0), (7, .areturn, 1, 0, 0)]
theorem tkJ4_append_cf468 : ∀ x ∈ tbJ4_append_cf468, tbB cJ4_append_cf468 x = true := tb_all (by decide +kernel)
def fJ4_append_cf468 (c : Nat → Option Nat) (h : Hp) (a0 : Option Nat) (a1 : Int32) : Rs := ck h a0 1 (cc (fJ5_append_3fe6f c h a0 a1) (kR fun h1 r2 => some (h1, some (.inr (.inr a0)))))
set_option maxHeartbeats 4000000 in
set_option maxRecDepth 100000 in
theorem soJ4_append_cf468 (X : Cx) (h : Hp) (a0 : Option Nat) (a1 : Int32) : SO X mJ4_append_cf468 [.inr (.inr a0), .inl a1] h (fJ4_append_cf468 X.2.2.2 h a0 a1) := by
  refine so_of (by decide +kernel) (Nat.le_of_ble_eq_true rfl) ?_
  show Gd X mJ4_append_cf468 h (fJ4_append_cf468 X.2.2.2 h a0 a1) h 0 [some (.inr (.inr a0)), some (.inl a1)] []
  unfold fJ4_append_cf468
  refine q_run tkJ4_append_cf468 0 2 (pc' := 2) (L' := [some (.inr (.inr a0)), some (.inl a1)]) (st' := [.inl a1, .inr (.inr a0)]) rfl ?_
  refine q_csu (r := a0) (ci := 1) (n := 1) (as := [.inl a1]) (st := []) RJ4 TJ4 4 (soJ5_append_3fe6f X h a0 a1) (tbm tkJ4_append_cf468 (i := 2) rfl) rfl rfl ceJ5_append_3fe6f wd_677 wd_217 wd_832 (by decide +kernel) wd_676 rfl (Nat.le_of_ble_eq_true rfl) (kR_gd (fun h1 r2 => ?_))
  refine q_run tkJ4_append_cf468 3 2 (pc' := 7) (L' := [some (.inr (.inr a0)), some (.inl a1)]) (st' := [.inr (.inr a0)]) rfl ?_
  exact q_aret (tbm tkJ4_append_cf468 (i := 5) rfl) rfl (Or.inl ⟨_, rfl⟩)
theorem ceJ4_append_cf468 : Ce mJ4_append_cf468 1 := ⟨wd_23, wd_675, by decide +kernel, by decide +kernel, by decide +kernel⟩
/-- java/lang/AbstractStringBuilder.charAt -/
abbrev mJ5_charAt_5068e : MI := (yJ5_charAt_5068e, cJ5_charAt_5068e, 5, some .char, 2)
def tbJ5_charAt_5068e : List TE := [(0, .aload_n 0, 1, 0, 0), (1, .getfield 22, 3, 0, 0), (4, .istore_n 2, 1, 0, 0), (5, .aload_n 0, 1, 0, 0), (6, .getfield 15, 3, 0, 0), (9, .astore_n 3, 1, 0, 0), (10, .aload_n 0, 1, 0, 0), (11, .getfield 79, 3, 0, 0), (14, .aload_n 3, 1, 0, 0), (15, .arraylength, 1, 0, 0), (16, .iload_n 2, 1, 0, 0), (17, .ishr, 1, 0, 0), (18, .invokestatic 138, 3, 0, 0), (21, .istore 4, 2, 0, 0), (23, .iload_n 1, 1, 0, 0), (24, .iload 4, 2, 0, 0), (26, .invokestatic 144, 3, 0, 0), (29, .iload_n 2, 1, 0, 0), (30, .ifCond .ne 12, 3, 0, 42), (33, .aload_n 3, 1, 0, 0), (34, .iload_n 1, 1, 0, 0), (35, .baload, 1, 0, 0), (36, .sipush 255, 3, 255, 0), (39, .iand, 1, 0, 0), (40, .i2c, 1, 0, 0), (41, .ireturn, 1, 0, 0), (42, .aload_n 3, 1, 0, 0), (43, .iload_n 1, 1, 0, 0), (44, .invokestatic 148, 3, 0, 0), (47, .ireturn, 1, 0, 0)]
theorem tkJ5_charAt_5068e : ∀ x ∈ tbJ5_charAt_5068e, tbB cJ5_charAt_5068e x = true := tb_all (by decide +kernel)
def fJ5_charAt_5068e (c : Nat → Option Nat) (h : Hp) (a0 : Option Nat) (a1 : Int32) : Rs := rdI h a0 1 1 (fun x1 => rdR h a0 1 0 (fun r2 => rdI h a0 1 3 (fun x3 => lenA h r2 (fun x4 => cc (fJ0_checkIndex_df160 c h a1 (mnI x3 (shrI x4 x1))) (kV fun h5 => if x1 = 0 then (aldI h5 r2 [1, 2, 11] a1 (fun x6 => rtI .char h5 (chI (x6 &&& (255 : Int32))))) else none)))))
set_option maxHeartbeats 4000000 in
set_option maxRecDepth 100000 in
theorem soJ5_charAt_5068e (X : Cx) (h : Hp) (a0 : Option Nat) (a1 : Int32) : SO X mJ5_charAt_5068e [.inr (.inr a0), .inl a1] h (fJ5_charAt_5068e X.2.2.2 h a0 a1) := by
  refine so_of (by decide +kernel) (Nat.le_of_ble_eq_true rfl) ?_
  show Gd X mJ5_charAt_5068e h (fJ5_charAt_5068e X.2.2.2 h a0 a1) h 0 [some (.inr (.inr a0)), some (.inl a1), none, none, none] []
  unfold fJ5_charAt_5068e
  refine q_run tkJ5_charAt_5068e 0 1 (pc' := 1) (L' := [some (.inr (.inr a0)), some (.inl a1), none, none, none]) (st' := [.inr (.inr a0)]) rfl ?_
  refine q_rdI RJ4 TJ4 4 (tbm tkJ5_charAt_5068e (i := 1) rfl) rfl (Nat.le_of_ble_eq_true rfl) wd_205 (fun x1 => ?_)
  refine q_run tkJ5_charAt_5068e 2 2 (pc' := 6) (L' := [some (.inr (.inr a0)), some (.inl a1), some (.inl x1), none, none]) (st' := [.inr (.inr a0)]) rfl ?_
  refine q_rdR RJ4 TJ4 4 (tbm tkJ5_charAt_5068e (i := 4) rfl) rfl (Nat.le_of_ble_eq_true rfl) wd_204 (fun r2 => ?_)
  refine q_run tkJ5_charAt_5068e 5 2 (pc' := 11) (L' := [some (.inr (.inr a0)), some (.inl a1), some (.inl x1), some (.inr (.inr r2)), none]) (st' := [.inr (.inr a0)]) rfl ?_
  refine q_rdI RJ4 TJ4 4 (tbm tkJ5_charAt_5068e (i := 7) rfl) rfl (Nat.le_of_ble_eq_true rfl) wd_208 (fun x3 => ?_)
  refine q_run tkJ5_charAt_5068e 8 1 (pc' := 15) (L' := [some (.inr (.inr a0)), some (.inl a1), some (.inl x1), some (.inr (.inr r2)), none]) (st' := [.inr (.inr r2), .inl x3]) rfl ?_
  refine q_alen (tbm tkJ5_charAt_5068e (i := 9) rfl) (fun x4 => ?_)
  refine q_run tkJ5_charAt_5068e 10 2 (pc' := 18) (L' := [some (.inr (.inr a0)), some (.inl a1), some (.inl x1), some (.inr (.inr r2)), none]) (st' := [.inl (shrI x4 x1), .inl x3]) rfl ?_
  refine q_mmin (tbm tkJ5_charAt_5068e (i := 12) rfl) (Nat.le_of_ble_eq_true rfl) (Nat.le_of_ble_eq_true rfl) ⟨wd_722, wd_min⟩ ?_
  refine q_run tkJ5_charAt_5068e 13 3 (pc' := 26) (L' := [some (.inr (.inr a0)), some (.inl a1), some (.inl x1), some (.inr (.inr r2)), some (.inl (mnI x3 (shrI x4 x1)))]) (st' := [.inl (mnI x3 (shrI x4 x1)), .inl a1]) rfl ?_
  refine q_cs (n := 2) (as := [.inl a1, .inl (mnI x3 (shrI x4 x1))]) (st := []) (soJ0_checkIndex_df160 X h a1 (mnI x3 (shrI x4 x1))) (tbm tkJ5_charAt_5068e (i := 16) rfl) rfl ceJ0_checkIndex_df160 wd_402 wd_723 rfl (Nat.le_of_ble_eq_true rfl) (kV_gd (fun h5 => ?_))
  refine q_run tkJ5_charAt_5068e 17 1 (pc' := 30) (L' := [some (.inr (.inr a0)), some (.inl a1), some (.inl x1), some (.inr (.inr r2)), some (.inl (mnI x3 (shrI x4 x1)))]) (st' := [.inl x1]) rfl ?_
  refine q_if_ne (tbm tkJ5_charAt_5068e (i := 18) rfl) ?_ ?_
  · refine q_run tkJ5_charAt_5068e 19 2 (pc' := 35) (L' := [some (.inr (.inr a0)), some (.inl a1), some (.inl x1), some (.inr (.inr r2)), some (.inl (mnI x3 (shrI x4 x1)))]) (st' := [.inl a1, .inr (.inr r2)]) rfl ?_
    refine q_baload (tbm tkJ5_charAt_5068e (i := 21) rfl) (fun x6 => ?_)
    refine q_run tkJ5_charAt_5068e 22 3 (pc' := 41) (L' := [some (.inr (.inr a0)), some (.inl a1), some (.inl x1), some (.inr (.inr r2)), some (.inl (mnI x3 (shrI x4 x1)))]) (st' := [.inl (chI (x6 &&& (255 : Int32)))]) rfl ?_
    exact q_zret (tbm tkJ5_charAt_5068e (i := 25) rfl) rfl
  · refine q_run tkJ5_charAt_5068e 26 2 (pc' := 44) (L' := [some (.inr (.inr a0)), some (.inl a1), some (.inl x1), some (.inr (.inr r2)), some (.inl (mnI x3 (shrI x4 x1)))]) (st' := [.inl a1, .inr (.inr r2)]) rfl ?_
    exact gd_none
theorem ceJ5_charAt_5068e : Ce mJ5_charAt_5068e 1 := ⟨wd_22, wd_721, by decide +kernel, by decide +kernel, by decide +kernel⟩
/-- java/lang/StringBuilder.charAt -/
abbrev mJ4_charAt_5068e : MI := (yJ4_charAt_5068e, cJ4_charAt_5068e, 2, some .char, 3)
def tbJ4_charAt_5068e : List TE := [(0, .aload_n 0, 1, 0, 0), (1, .iload_n 1, 1, 0, 0), (2, .invokespecial 329, 3, 0, 0), (5, .ireturn, 1, 0, 0)]
theorem tkJ4_charAt_5068e : ∀ x ∈ tbJ4_charAt_5068e, tbB cJ4_charAt_5068e x = true := tb_all (by decide +kernel)
def fJ4_charAt_5068e (c : Nat → Option Nat) (h : Hp) (a0 : Option Nat) (a1 : Int32) : Rs := ck h a0 1 (cc (fJ5_charAt_5068e c h a0 a1) (kI fun h1 x2 => rtI .char h1 x2))
set_option maxHeartbeats 4000000 in
set_option maxRecDepth 100000 in
theorem soJ4_charAt_5068e (X : Cx) (h : Hp) (a0 : Option Nat) (a1 : Int32) : SO X mJ4_charAt_5068e [.inr (.inr a0), .inl a1] h (fJ4_charAt_5068e X.2.2.2 h a0 a1) := by
  refine so_of (by decide +kernel) (Nat.le_of_ble_eq_true rfl) ?_
  show Gd X mJ4_charAt_5068e h (fJ4_charAt_5068e X.2.2.2 h a0 a1) h 0 [some (.inr (.inr a0)), some (.inl a1)] []
  unfold fJ4_charAt_5068e
  refine q_run tkJ4_charAt_5068e 0 2 (pc' := 2) (L' := [some (.inr (.inr a0)), some (.inl a1)]) (st' := [.inl a1, .inr (.inr a0)]) rfl ?_
  refine q_csu (r := a0) (ci := 1) (n := 1) (as := [.inl a1]) (st := []) RJ4 TJ4 4 (soJ5_charAt_5068e X h a0 a1) (tbm tkJ4_charAt_5068e (i := 2) rfl) rfl rfl ceJ5_charAt_5068e wd_720 wd_217 wd_834 (by decide +kernel) wd_719 rfl (Nat.le_of_ble_eq_true rfl) (kI_gd (fun h1 x2 => ?_))
  exact q_zret (tbm tkJ4_charAt_5068e (i := 3) rfl) rfl
theorem ceJ4_charAt_5068e : Ce mJ4_charAt_5068e 1 := ⟨wd_23, wd_718, by decide +kernel, by decide +kernel, by decide +kernel⟩
/-- java/lang/AbstractStringBuilder.getValue -/
abbrev mJ5_getValue_6d5f1 : MI := (yJ5_getValue_6d5f1, cJ5_getValue_6d5f1, 1, some (.array .byte), 0)
def tbJ5_getValue_6d5f1 : List TE := [(0, .aload_n 0, 1, 0, 0), (1, .getfield 15, 3, 0, 0), (4, .areturn, 1, 0, 0)]
theorem tkJ5_getValue_6d5f1 : ∀ x ∈ tbJ5_getValue_6d5f1, tbB cJ5_getValue_6d5f1 x = true := tb_all (by decide +kernel)
def fJ5_getValue_6d5f1 (c : Nat → Option Nat) (h : Hp) (a0 : Option Nat) : Rs := rdR h a0 1 0 (fun r1 => some (h, some (.inr (.inr r1))))
set_option maxHeartbeats 4000000 in
set_option maxRecDepth 100000 in
theorem soJ5_getValue_6d5f1 (X : Cx) (h : Hp) (a0 : Option Nat) : SO X mJ5_getValue_6d5f1 [.inr (.inr a0)] h (fJ5_getValue_6d5f1 X.2.2.2 h a0) := by
  refine so_of (by decide +kernel) (Nat.le_of_ble_eq_true rfl) ?_
  show Gd X mJ5_getValue_6d5f1 h (fJ5_getValue_6d5f1 X.2.2.2 h a0) h 0 [some (.inr (.inr a0))] []
  unfold fJ5_getValue_6d5f1
  refine q_run tkJ5_getValue_6d5f1 0 1 (pc' := 1) (L' := [some (.inr (.inr a0))]) (st' := [.inr (.inr a0)]) rfl ?_
  refine q_rdR RJ4 TJ4 4 (tbm tkJ5_getValue_6d5f1 (i := 1) rfl) rfl (Nat.le_of_ble_eq_true rfl) wd_204 (fun r1 => ?_)
  exact q_aret (tbm tkJ5_getValue_6d5f1 (i := 2) rfl) rfl (Or.inr ⟨_, rfl⟩)
theorem ceJ5_getValue_6d5f1 : Ce mJ5_getValue_6d5f1 0 := ⟨wd_22, wd_745, by decide +kernel, by decide +kernel, by decide +kernel⟩
/-- java/util/Arrays.checkLength -/
abbrev mJ7_checkLength_df160 : MI := (yJ7_checkLength_df160, cJ7_checkLength_df160, 2, none, 0)
def tbJ7_checkLength_df160 : List TE := [(0, .iload_n 1, 1, 0, 0), (1, .iload_n 0, 1, 0, 0), (2, .if_icmp .ge 35, 3, 0, 37), (5, .new 43, 3, 0, 0), (8, .dup, 1, 0, 0), (9, .new 45, 3, 0, 0), (12, .dup, 1, 0, 0), (13, .invokespecial 47, 3, 0, 0), (16, .iload_n 0, 1, 0, 0), (17, .invokevirtual 54, 3, 0, 0), (20, .ldc_w 337, 3, 0, 0), (23, .invokevirtual 50, 3, 0, 0), (26, .iload_n 1, 1, 0, 0), (27, .invokevirtual 54, 3, 0, 0), (30, .invokevirtual 61, 3, 0, 0), (33, .invokespecial 65, 3, 0, 0), (36, .athrow, 1, 0, 0), (37, .return_, 1, 0, 0)]
theorem tkJ7_checkLength_df160 : ∀ x ∈ tbJ7_checkLength_df160, tbB cJ7_checkLength_df160 x = true := tb_all (by decide +kernel)
def fJ7_checkLength_df160 (c : Nat → Option Nat) (h : Hp) (a0 : Int32) (a1 : Int32) : Rs := if a1 < a0 then none else (some (h, none))
set_option maxHeartbeats 4000000 in
set_option maxRecDepth 100000 in
theorem soJ7_checkLength_df160 (X : Cx) (h : Hp) (a0 : Int32) (a1 : Int32) : SO X mJ7_checkLength_df160 [.inl a0, .inl a1] h (fJ7_checkLength_df160 X.2.2.2 h a0 a1) := by
  refine so_of (by decide +kernel) (Nat.le_of_ble_eq_true rfl) ?_
  show Gd X mJ7_checkLength_df160 h (fJ7_checkLength_df160 X.2.2.2 h a0 a1) h 0 [some (.inl a0), some (.inl a1)] []
  unfold fJ7_checkLength_df160
  refine q_run tkJ7_checkLength_df160 0 2 (pc' := 2) (L' := [some (.inl a0), some (.inl a1)]) (st' := [.inl a0, .inl a1]) rfl ?_
  refine q_icmp_ge (tbm tkJ7_checkLength_df160 (i := 2) rfl) ?_ ?_
  · exact gd_none
  · exact q_vret (tbm tkJ7_checkLength_df160 (i := 17) rfl) rfl
theorem ceJ7_checkLength_df160 : Ce mJ7_checkLength_df160 2 := ⟨wd_32, wd_756, by decide +kernel, by decide +kernel, by decide +kernel⟩
/-- java/util/Arrays.copyOfRangeByte -/
abbrev mJ7_copyOfRangeByte_39247 : MI := (yJ7_copyOfRangeByte_39247, cJ7_copyOfRangeByte_39247, 5, some (.array .byte), 1)
def tbJ7_copyOfRangeByte_39247 : List TE := [(0, .iload_n 1, 1, 0, 0), (1, .iload_n 2, 1, 0, 0), (2, .invokestatic 343, 3, 0, 0), (5, .iload_n 2, 1, 0, 0), (6, .iload_n 1, 1, 0, 0), (7, .isub, 1, 0, 0), (8, .istore_n 3, 1, 0, 0), (9, .iload_n 3, 1, 0, 0), (10, .newarray .byte, 2, 0, 0), (12, .astore 4, 2, 0, 0), (14, .aload_n 0, 1, 0, 0), (15, .iload_n 1, 1, 0, 0), (16, .aload 4, 2, 0, 0), (18, .iconst 0, 1, 0, 0), (19, .aload_n 0, 1, 0, 0), (20, .arraylength, 1, 0, 0), (21, .iload_n 1, 1, 0, 0), (22, .isub, 1, 0, 0), (23, .iload_n 3, 1, 0, 0), (24, .invokestatic 304, 3, 0, 0), (27, .invokestatic 150, 3, 0, 0), (30, .aload 4, 2, 0, 0), (32, .areturn, 1, 0, 0)]
theorem tkJ7_copyOfRangeByte_39247 : ∀ x ∈ tbJ7_copyOfRangeByte_39247, tbB cJ7_copyOfRangeByte_39247 x = true := tb_all (by decide +kernel)
def fJ7_copyOfRangeByte_39247 (c : Nat → Option Nat) (h : Hp) (a0 : Option Nat) (a1 : Int32) (a2 : Int32) : Rs := cc (fJ7_checkLength_df160 c h a1 a2) (kV fun h1 => nwA h1 1 (a2 - a1) (fun h2 r3 => lenA h2 a0 (fun x4 => cpyB h2 a0 a1 r3 (0 : Int32) (mnI (x4 - a1) (a2 - a1)) (fun h5 => some (h5, some (.inr (.inr r3)))))))
set_option maxHeartbeats 4000000 in
set_option maxRecDepth 100000 in
theorem soJ7_copyOfRangeByte_39247 (X : Cx) (h : Hp) (a0 : Option Nat) (a1 : Int32) (a2 : Int32) : SO X mJ7_copyOfRangeByte_39247 [.inr (.inr a0), .inl a1, .inl a2] h (fJ7_copyOfRangeByte_39247 X.2.2.2 h a0 a1 a2) := by
  refine so_of (by decide +kernel) (Nat.le_of_ble_eq_true rfl) ?_
  show Gd X mJ7_copyOfRangeByte_39247 h (fJ7_copyOfRangeByte_39247 X.2.2.2 h a0 a1 a2) h 0 [some (.inr (.inr a0)), some (.inl a1), some (.inl a2), none, none] []
  unfold fJ7_copyOfRangeByte_39247
  refine q_run tkJ7_copyOfRangeByte_39247 0 2 (pc' := 2) (L' := [some (.inr (.inr a0)), some (.inl a1), some (.inl a2), none, none]) (st' := [.inl a2, .inl a1]) rfl ?_
  refine q_cs (n := 2) (as := [.inl a1, .inl a2]) (st := []) (soJ7_checkLength_df160 X h a1 a2) (tbm tkJ7_copyOfRangeByte_39247 (i := 2) rfl) rfl ceJ7_checkLength_df160 wd_755 wd_754 rfl (Nat.le_of_ble_eq_true rfl) (kV_gd (fun h1 => ?_))
  refine q_run tkJ7_copyOfRangeByte_39247 3 5 (pc' := 10) (L' := [some (.inr (.inr a0)), some (.inl a1), some (.inl a2), some (.inl (a2 - a1)), none]) (st' := [.inl (a2 - a1)]) rfl ?_
  refine q_newa (k := 1) (Nat.le_of_ble_eq_true rfl) (tbm tkJ7_copyOfRangeByte_39247 (i := 8) rfl) wd_218 (fun h2 r3 => ?_)
  refine q_run tkJ7_copyOfRangeByte_39247 9 6 (pc' := 20) (L' := [some (.inr (.inr a0)), some (.inl a1), some (.inl a2), some (.inl (a2 - a1)), some (.inr (.inr r3))]) (st' := [.inr (.inr a0), .inl (0 : Int32), .inr (.inr r3), .inl a1, .inr (.inr a0)]) rfl ?_
  refine q_alen (tbm tkJ7_copyOfRangeByte_39247 (i := 15) rfl) (fun x4 => ?_)
  refine q_run tkJ7_copyOfRangeByte_39247 16 3 (pc' := 24) (L' := [some (.inr (.inr a0)), some (.inl a1), some (.inl a2), some (.inl (a2 - a1)), some (.inr (.inr r3))]) (st' := [.inl (a2 - a1), .inl (x4 - a1), .inl (0 : Int32), .inr (.inr r3), .inl a1, .inr (.inr a0)]) rfl ?_
  refine q_mmin (tbm tkJ7_copyOfRangeByte_39247 (i := 19) rfl) (Nat.le_of_ble_eq_true rfl) (Nat.le_of_ble_eq_true rfl) ⟨wd_636, wd_min⟩ ?_
  refine q_cpy (tbm tkJ7_copyOfRangeByte_39247 (i := 20) rfl) (Nat.le_of_ble_eq_true rfl) (Nat.le_of_ble_eq_true rfl) ⟨wd_639, wd_cpy⟩ (fun h5 => ?_)
  refine q_run tkJ7_copyOfRangeByte_39247 21 1 (pc' := 32) (L' := [some (.inr (.inr a0)), some (.inl a1), some (.inl a2), some (.inl (a2 - a1)), some (.inr (.inr r3))]) (st' := [.inr (.inr r3)]) rfl ?_
  exact q_aret (tbm tkJ7_copyOfRangeByte_39247 (i := 22) rfl) rfl (Or.inr ⟨_, rfl⟩)
theorem ceJ7_copyOfRangeByte_39247 : Ce mJ7_copyOfRangeByte_39247 3 := ⟨wd_32, wd_753, by decide +kernel, by decide +kernel, by decide +kernel⟩
/-- java/util/Arrays.copyOfRange -/
abbrev mJ7_copyOfRange_39247 : MI := (yJ7_copyOfRange_39247, cJ7_copyOfRange_39247, 3, some (.array .byte), 2)
def tbJ7_copyOfRange_39247 : List TE := [(0, .iload_n 1, 1, 0, 0), (1, .ifCond .ne 9, 3, 0, 10), (4, .iload_n 2, 1, 0, 0), (5, .aload_n 0, 1, 0, 0), (6, .arraylength, 1, 0, 0), (7, .if_icmp .eq 10, 3, 0, 17), (10, .aload_n 0, 1, 0, 0), (11, .iload_n 1, 1, 0, 0), (12, .iload_n 2, 1, 0, 0), (13, .invokestatic 339, 3, 0, 0), (16, .areturn, 1, 0, 0), (17, .aload_n 0, 1, 0, 0), (18, .invokevirtual 310, 3, 0, 0), (21, .checkcast 311, 3, 0, 0), (24, .areturn, 1, 0, 0)]
theorem tkJ7_copyOfRange_39247 : ∀ x ∈ tbJ7_copyOfRange_39247, tbB cJ7_copyOfRange_39247 x = true := tb_all (by decide +kernel)
def fJ7_copyOfRange_39247_10 (c : Nat → Option Nat) (h : Hp) (l0 : Option Nat) (l1 : Int32) (l2 : Int32) : Rs := cc (fJ7_copyOfRangeByte_39247 c h l0 l1 l2) (kR fun h1 r2 => some (h1, some (.inr (.inr r2))))
set_option maxHeartbeats 4000000 in
set_option maxRecDepth 100000 in
theorem sJ7_copyOfRange_39247_10 (X : Cx) {h0 : Hp} (h : Hp) (l0 : Option Nat) (l1 : Int32) (l2 : Int32) : Gd X mJ7_copyOfRange_39247 h0 (fJ7_copyOfRange_39247_10 X.2.2.2 h l0 l1 l2) h 10 [some (.inr (.inr l0)), some (.inl l1), some (.inl l2)] [] := by
  unfold fJ7_copyOfRange_39247_10
  refine q_run tkJ7_copyOfRange_39247 6 3 (pc' := 13) (L' := [some (.inr (.inr l0)), some (.inl l1), some (.inl l2)]) (st' := [.inl l2, .inl l1, .inr (.inr l0)]) rfl ?_
  refine q_cs (n := 3) (as := [.inr (.inr l0), .inl l1, .inl l2]) (st := []) (soJ7_copyOfRangeByte_39247 X h l0 l1 l2) (tbm tkJ7_copyOfRange_39247 (i := 9) rfl) rfl ceJ7_copyOfRangeByte_39247 wd_752 wd_751 rfl (Nat.le_of_ble_eq_true rfl) (kR_gd (fun h1 r2 => ?_))
  exact q_aret (tbm tkJ7_copyOfRange_39247 (i := 10) rfl) rfl (Or.inr ⟨_, rfl⟩)
def fJ7_copyOfRange_39247 (c : Nat → Option Nat) (h : Hp) (a0 : Option Nat) (a1 : Int32) (a2 : Int32) : Rs := if a1 = 0 then (lenA h a0 (fun x3 => if a2 = x3 then (clnB h a0 (fun h4 r5 => ckB h4 r5 (some (h4, some (.inr (.inr r5)))))) else (fJ7_copyOfRange_39247_10 c h a0 a1 a2))) else (fJ7_copyOfRange_39247_10 c h a0 a1 a2)
set_option maxHeartbeats 4000000 in
set_option maxRecDepth 100000 in
theorem soJ7_copyOfRange_39247 (X : Cx) (h : Hp) (a0 : Option Nat) (a1 : Int32) (a2 : Int32) : SO X mJ7_copyOfRange_39247 [.inr (.inr a0), .inl a1, .inl a2] h (fJ7_copyOfRange_39247 X.2.2.2 h a0 a1 a2) := by
  refine so_of (by decide +kernel) (Nat.le_of_ble_eq_true rfl) ?_
  show Gd X mJ7_copyOfRange_39247 h (fJ7_copyOfRange_39247 X.2.2.2 h a0 a1 a2) h 0 [some (.inr (.inr a0)), some (.inl a1), some (.inl a2)] []
  unfold fJ7_copyOfRange_39247
  refine q_run tkJ7_copyOfRange_39247 0 1 (pc' := 1) (L' := [some (.inr (.inr a0)), some (.inl a1), some (.inl a2)]) (st' := [.inl a1]) rfl ?_
  refine q_if_ne (tbm tkJ7_copyOfRange_39247 (i := 1) rfl) ?_ ?_
  · refine q_run tkJ7_copyOfRange_39247 2 2 (pc' := 6) (L' := [some (.inr (.inr a0)), some (.inl a1), some (.inl a2)]) (st' := [.inr (.inr a0), .inl a2]) rfl ?_
    refine q_alen (tbm tkJ7_copyOfRange_39247 (i := 4) rfl) (fun x3 => ?_)
    refine q_icmp_eq (tbm tkJ7_copyOfRange_39247 (i := 5) rfl) ?_ ?_
    · refine q_run tkJ7_copyOfRange_39247 11 1 (pc' := 18) (L' := [some (.inr (.inr a0)), some (.inl a1), some (.inl a2)]) (st' := [.inr (.inr a0)]) rfl ?_
      refine q_cln (tbm tkJ7_copyOfRange_39247 (i := 12) rfl) (Nat.le_of_ble_eq_true rfl) (Nat.le_of_ble_eq_true rfl) ⟨wd_629, wd_cln⟩ (fun h4 r5 => ?_)
      refine q_ckB (tbm tkJ7_copyOfRange_39247 (i := 13) rfl) wd_635 ?_
      exact q_aret (tbm tkJ7_copyOfRange_39247 (i := 14) rfl) rfl (Or.inr ⟨_, rfl⟩)
    · exact sJ7_copyOfRange_39247_10 X h a0 a1 a2
  · exact sJ7_copyOfRange_39247_10 X h a0 a1 a2
theorem ceJ7_copyOfRange_39247 : Ce mJ7_copyOfRange_39247 3 := ⟨wd_32, wd_750, by decide +kernel, by decide +kernel, by decide +kernel⟩
/-- java/lang/String.init -/
abbrev mJ0_init_db425 : MI := (yJ0_init_db425, cJ0_init_db425, 5, none, 3)
def tbJ0_init_db425 : List TE := [(0, .aload_n 0, 1, 0, 0), (1, .invokespecial 1, 3, 0, 0), (4, .aload_n 1, 1, 0, 0), (5, .invokevirtual 552, 3, 0, 0), (8, .astore_n 3, 1, 0, 0), (9, .aload_n 1, 1, 0, 0), (10, .invokevirtual 549, 3, 0, 0), (13, .istore 4, 2, 0, 0), (15, .aload_n 1, 1, 0, 0), (16, .invokevirtual 1047, 3, 0, 0), (19, .ifCond .eq 22, 3, 0, 41), (22, .aload_n 0, 1, 0, 0), (23, .iconst 0, 1, 0, 0), (24, .putfield 15, 3, 0, 0), (27, .aload_n 0, 1, 0, 0), (28, .aload_n 3, 1, 0, 0), (29, .iconst 0, 1, 0, 0), (30, .iload 4, 2, 0, 0), (32, .invokestatic 54, 3, 0, 0), (35, .putfield 9, 3, 0, 0), (38, .goto 59, 3, 0, 97), (41, .getstatic 38, 3, 0, 0), (44, .ifCond .eq 35, 3, 0, 79), (47, .aload_n 1, 1, 0, 0), (48, .getfield 1048, 3, 0, 0), (51, .ifCond .eq 28, 3, 0, 79), (54, .aload_n 0, 1, 0, 0), (55, .aload_n 3, 1, 0, 0), (56, .iconst 0, 1, 0, 0), (57, .iload 4, 2, 0, 0), (59, .invokestatic 1051, 3, 0, 0), (62, .putfield 9, 3, 0, 0), (65, .aload_n 0, 1, 0, 0), (66, .aload_n 0, 1, 0, 0), (67, .getfield 9, 3, 0, 0), (70, .iload 4, 2, 0, 0), (72, .invokestatic 47, 3, 0, 0), (75, .putfield 15, 3, 0, 0), (78, .return_, 1, 0, 0), (79, .aload_n 0, 1, 0, 0), (80, .iconst 1, 1, 1, 0), (81, .putfield 15, 3, 0, 0), (84, .aload_n 0, 1, 0, 0), (85, .aload_n 3, 1, 0, 0), (86, .iconst 0, 1, 0, 0), (87, .iload 4, 2, 0, 0), (89, .iconst 1, 1, 1, 0), (90, .ishl, 1, 0, 0), (91, .invokestatic 54, 3, 0, 0), (94, .putfield 9, 3, 0, 0), (97, .return_, 1, 0, 0)]
theorem tkJ0_init_db425 : ∀ x ∈ tbJ0_init_db425, tbB cJ0_init_db425 x = true := tb_all (by decide +kernel)
def fJ0_init_db425_97 (c : Nat → Option Nat) (h : Hp) : Rs := some (h, none)
set_option maxHeartbeats 4000000 in
set_option maxRecDepth 100000 in
theorem sJ0_init_db425_97 (X : Cx) {h0 : Hp} (h : Hp) : Gd X mJ0_init_db425 h0 (fJ0_init_db425_97 X.2.2.2 h) h 97 [none, none, none, none, none] [] := by
  unfold fJ0_init_db425_97
  exact q_vret (tbm tkJ0_init_db425 (i := 50) rfl) rfl
def fJ0_init_db425_79 (c : Nat → Option Nat) (h : Hp) (l0 : Option Nat) (l3 : Option Nat) (l4 : Int32) : Rs := wr h l0 0 1 (.inl (1 : Int32)) (fun h1 => cc (fJ7_copyOfRange_39247 c h1 l3 (0 : Int32) (shlI l4 (1 : Int32))) (kR fun h2 r3 => wr h2 l0 0 0 (.inr (.inr r3)) (fun h4 => fJ0_init_db425_97 c h4)))
set_option maxHeartbeats 4000000 in
set_option maxRecDepth 100000 in
theorem sJ0_init_db425_79 (X : Cx) {h0 : Hp} (h : Hp) (l0 : Option Nat) (l3 : Option Nat) (l4 : Int32) : Gd X mJ0_init_db425 h0 (fJ0_init_db425_79 X.2.2.2 h l0 l3 l4) h 79 [some (.inr (.inr l0)), none, none, some (.inr (.inr l3)), some (.inl l4)] [] := by
  unfold fJ0_init_db425_79
  refine q_run tkJ0_init_db425 39 2 (pc' := 81) (L' := [some (.inr (.inr l0)), none, none, some (.inr (.inr l3)), some (.inl l4)]) (st' := [.inl (1 : Int32), .inr (.inr l0)]) rfl ?_
  refine q_wr RJ0 TJ0 4 (tbm tkJ0_init_db425 (i := 41) rfl) rfl (Nat.le_of_ble_eq_true rfl) (Or.inr ⟨rfl, rfl⟩) wd_768 (fun h1 => ?_)
  refine q_run tkJ0_init_db425 42 6 (pc' := 91) (L' := [some (.inr (.inr l0)), none, none, some (.inr (.inr l3)), some (.inl l4)]) (st' := [.inl (shlI l4 (1 : Int32)), .inl (0 : Int32), .inr (.inr l3), .inr (.inr l0)]) rfl ?_
  refine q_cs (n := 3) (as := [.inr (.inr l3), .inl (0 : Int32), .inl (shlI l4 (1 : Int32))]) (st := [.inr (.inr l0)]) (soJ7_copyOfRange_39247 X h1 l3 (0 : Int32) (shlI l4 (1 : Int32))) (tbm tkJ0_init_db425 (i := 48) rfl) rfl ceJ7_copyOfRange_39247 wd_749 wd_748 rfl (Nat.le_of_ble_eq_true rfl) (kR_gd (fun h2 r3 => ?_))
  refine q_wr RJ0 TJ0 4 (tbm tkJ0_init_db425 (i := 49) rfl) rfl (Nat.le_of_ble_eq_true rfl) (Or.inr ⟨rfl, rfl⟩) wd_767 (fun h4 => ?_)
  refine q_le (L' := [none, none, none, none, none]) (lvLe_n (lvLe_n (lvLe_n (lvLe_n (lvLe_n lvLe_0))))) ?_
  exact sJ0_init_db425_97 X h4
def fJ0_init_db425 (c : Nat → Option Nat) (h : Hp) (a0 : Option Nat) (a1 : Option Nat) (a2 : Option Nat) : Rs := dn a0 (ck h a1 1 (cc (fJ5_getValue_6d5f1 c h a1) (kR fun h5 r6 => ck h5 a1 1 (cc (fJ4_length_8abf5 c h5 a1) (kI fun h7 x8 => ck h7 a1 1 (cc (fJ5_isLatin1_aae02 c h7 a1) (kI fun h9 x10 => if x10 = 0 then (if (1 : Int32) = 0 then (fJ0_init_db425_79 c h9 a0 r6 x8) else (rdI h9 a1 1 2 (fun x11 => if x11 = 0 then (fJ0_init_db425_79 c h9 a0 r6 x8) else none))) else (wr h9 a0 0 1 (.inl (0 : Int32)) (fun h12 => cc (fJ7_copyOfRange_39247 c h12 r6 (0 : Int32) x8) (kR fun h13 r14 => wr h13 a0 0 0 (.inr (.inr r14)) (fun h15 => fJ0_init_db425_97 c h15)))))))))))
set_option maxHeartbeats 4000000 in
set_option maxRecDepth 100000 in
theorem soJ0_init_db425 (X : Cx) (h : Hp) (a0 : Option Nat) (a1 : Option Nat) (a2 : Option Nat) : SO X mJ0_init_db425 [.inr (.inr a0), .inr (.inr a1), .inr (.inr a2)] h (fJ0_init_db425 X.2.2.2 h a0 a1 a2) := by
  refine so_of (by decide +kernel) (Nat.le_of_ble_eq_true rfl) ?_
  show Gd X mJ0_init_db425 h (fJ0_init_db425 X.2.2.2 h a0 a1 a2) h 0 [some (.inr (.inr a0)), some (.inr (.inr a1)), some (.inr (.inr a2)), none, none] []
  unfold fJ0_init_db425
  refine q_run tkJ0_init_db425 0 1 (pc' := 1) (L' := [some (.inr (.inr a0)), some (.inr (.inr a1)), some (.inr (.inr a2)), none, none]) (st' := [.inr (.inr a0)]) rfl ?_
  refine q_obj (tbm tkJ0_init_db425 (i := 1) rfl) (Nat.le_of_ble_eq_true rfl) (Nat.le_of_ble_eq_true rfl) ⟨wd_740, wd_oi, wd_oc⟩ ?_
  refine q_run tkJ0_init_db425 2 1 (pc' := 5) (L' := [some (.inr (.inr a0)), some (.inr (.inr a1)), some (.inr (.inr a2)), none, none]) (st' := [.inr (.inr a1)]) rfl ?_
  refine q_cu (r := a1) (ci := 1) (n := 0) (as := []) (st := []) RJ4 TJ4 4 (soJ5_getValue_6d5f1 X h a1) (tbm tkJ0_init_db425 (i := 3) rfl) rfl rfl ceJ5_getValue_6d5f1 wd_742 wd_744 wd_743 wd_741 rfl (Nat.le_of_ble_eq_true rfl) (kR_gd (fun h5 r6 => ?_))
  refine q_run tkJ0_init_db425 4 2 (pc' := 10) (L' := [some (.inr (.inr a0)), some (.inr (.inr a1)), some (.inr (.inr a2)), some (.inr (.inr r6)), none]) (st' := [.inr (.inr a1)]) rfl ?_
  refine q_co (r := a1) (ci := 1) (n := 0) (as := []) (st := []) yJ5_length_8abf5 TJ4 4 (soJ4_length_8abf5 X h5 a1) (tbm tkJ0_init_db425 (i := 6) rfl) rfl rfl ceJ4_length_8abf5 wd_323 wd_835 wd_828 wd_327 wd_328 ⟨by decide +kernel, by decide +kernel, by decide +kernel⟩ wd_746 rfl (Nat.le_of_ble_eq_true rfl) (kI_gd (fun h7 x8 => ?_))
  refine q_run tkJ0_init_db425 7 2 (pc' := 16) (L' := [some (.inr (.inr a0)), some (.inr (.inr a1)), some (.inr (.inr a2)), some (.inr (.inr r6)), some (.inl x8)]) (st' := [.inr (.inr a1)]) rfl ?_
  refine q_cu (r := a1) (ci := 1) (n := 0) (as := []) (st := []) RJ4 TJ4 4 (soJ5_isLatin1_aae02 X h7 a1) (tbm tkJ0_init_db425 (i := 9) rfl) rfl rfl ceJ5_isLatin1_aae02 wd_643 wd_645 wd_644 wd_747 rfl (Nat.le_of_ble_eq_true rfl) (kI_gd (fun h9 x10 => ?_))
  refine q_if_eq (tbm tkJ0_init_db425 (i := 10) rfl) ?_ ?_
  · refine q_gs (w := .inl (1 : Int32)) (tbm tkJ0_init_db425 (i := 21) rfl) e_z4 wd_389 ?_
    refine q_if_eq (tbm tkJ0_init_db425 (i := 22) rfl) ?_ ?_
    · refine q_le (L' := [some (.inr (.inr a0)), none, none, some (.inr (.inr r6)), some (.inl x8)]) (lvLe_s (lvLe_n (lvLe_n (lvLe_s (lvLe_s lvLe_0))))) ?_
      exact sJ0_init_db425_79 X h9 a0 r6 x8
    · refine q_run tkJ0_init_db425 23 1 (pc' := 48) (L' := [some (.inr (.inr a0)), some (.inr (.inr a1)), some (.inr (.inr a2)), some (.inr (.inr r6)), some (.inl x8)]) (st' := [.inr (.inr a1)]) rfl ?_
      refine q_rdI RJ4 TJ4 4 (tbm tkJ0_init_db425 (i := 24) rfl) rfl (Nat.le_of_ble_eq_true rfl) wd_207 (fun x11 => ?_)
      refine q_if_eq (tbm tkJ0_init_db425 (i := 25) rfl) ?_ ?_
      · refine q_le (L' := [some (.inr (.inr a0)), none, none, some (.inr (.inr r6)), some (.inl x8)]) (lvLe_s (lvLe_n (lvLe_n (lvLe_s (lvLe_s lvLe_0))))) ?_
        exact sJ0_init_db425_79 X h9 a0 r6 x8
      · refine q_run tkJ0_init_db425 26 4 (pc' := 59) (L' := [some (.inr (.inr a0)), some (.inr (.inr a1)), some (.inr (.inr a2)), some (.inr (.inr r6)), some (.inl x8)]) (st' := [.inl x8, .inl (0 : Int32), .inr (.inr r6), .inr (.inr a0)]) rfl ?_
        exact gd_none
  · refine q_run tkJ0_init_db425 11 2 (pc' := 24) (L' := [some (.inr (.inr a0)), some (.inr (.inr a1)), some (.inr (.inr a2)), some (.inr (.inr r6)), some (.inl x8)]) (st' := [.inl (0 : Int32), .inr (.inr a0)]) rfl ?_
    refine q_wr RJ0 TJ0 4 (tbm tkJ0_init_db425 (i := 13) rfl) rfl (Nat.le_of_ble_eq_true rfl) (Or.inr ⟨rfl, rfl⟩) wd_768 (fun h12 => ?_)
    refine q_run tkJ0_init_db425 14 4 (pc' := 32) (L' := [some (.inr (.inr a0)), some (.inr (.inr a1)), some (.inr (.inr a2)), some (.inr (.inr r6)), some (.inl x8)]) (st' := [.inl x8, .inl (0 : Int32), .inr (.inr r6), .inr (.inr a0)]) rfl ?_
    refine q_cs (n := 3) (as := [.inr (.inr r6), .inl (0 : Int32), .inl x8]) (st := [.inr (.inr a0)]) (soJ7_copyOfRange_39247 X h12 r6 (0 : Int32) x8) (tbm tkJ0_init_db425 (i := 18) rfl) rfl ceJ7_copyOfRange_39247 wd_749 wd_748 rfl (Nat.le_of_ble_eq_true rfl) (kR_gd (fun h13 r14 => ?_))
    refine q_wr RJ0 TJ0 4 (tbm tkJ0_init_db425 (i := 19) rfl) rfl (Nat.le_of_ble_eq_true rfl) (Or.inr ⟨rfl, rfl⟩) wd_767 (fun h15 => ?_)
    refine q_run tkJ0_init_db425 20 1 (pc' := 97) (L' := [some (.inr (.inr a0)), some (.inr (.inr a1)), some (.inr (.inr a2)), some (.inr (.inr r6)), some (.inl x8)]) (st' := []) rfl ?_
    refine q_le (L' := [none, none, none, none, none]) (lvLe_n (lvLe_n (lvLe_n (lvLe_n (lvLe_n lvLe_0))))) ?_
    exact sJ0_init_db425_97 X h15
theorem ceJ0_init_db425 : Ce mJ0_init_db425 2 := ⟨wd_24, wd_739, by decide +kernel, by decide +kernel, by decide +kernel⟩
/-- java/lang/String.init -/
abbrev mJ0_init_81219 : MI := (yJ0_init_81219, cJ0_init_81219, 2, none, 4)
def tbJ0_init_81219 : List TE := [(0, .aload_n 0, 1, 0, 0), (1, .aload_n 1, 1, 0, 0), (2, .aconst_null, 1, 0, 0), (3, .invokespecial 489, 3, 0, 0), (6, .return_, 1, 0, 0)]
theorem tkJ0_init_81219 : ∀ x ∈ tbJ0_init_81219, tbB cJ0_init_81219 x = true := tb_all (by decide +kernel)
def fJ0_init_81219 (c : Nat → Option Nat) (h : Hp) (a0 : Option Nat) (a1 : Option Nat) : Rs := dn a0 (cc (fJ0_init_db425 c h a0 a1 none) (kV fun h1 => some (h1, none)))
set_option maxHeartbeats 4000000 in
set_option maxRecDepth 100000 in
theorem soJ0_init_81219 (X : Cx) (h : Hp) (a0 : Option Nat) (a1 : Option Nat) : SO X mJ0_init_81219 [.inr (.inr a0), .inr (.inr a1)] h (fJ0_init_81219 X.2.2.2 h a0 a1) := by
  refine so_of (by decide +kernel) (Nat.le_of_ble_eq_true rfl) ?_
  show Gd X mJ0_init_81219 h (fJ0_init_81219 X.2.2.2 h a0 a1) h 0 [some (.inr (.inr a0)), some (.inr (.inr a1))] []
  unfold fJ0_init_81219
  refine q_run tkJ0_init_81219 0 3 (pc' := 3) (L' := [some (.inr (.inr a0)), some (.inr (.inr a1))]) (st' := [.inr (.inr none), .inr (.inr a1), .inr (.inr a0)]) rfl ?_
  refine q_ci (r := a0) (n := 2) (as := [.inr (.inr a1), .inr (.inr none)]) (st := []) (soJ0_init_db425 X h a0 a1 none) (tbm tkJ0_init_81219 (i := 3) rfl) rfl ceJ0_init_db425 wd_738 rfl rfl wd_737 rfl (Nat.le_of_ble_eq_true rfl) (kV_gd (fun h1 => ?_))
  exact q_vret (tbm tkJ0_init_81219 (i := 4) rfl) rfl
theorem ceJ0_init_81219 : Ce mJ0_init_81219 1 := ⟨wd_24, wd_736, by decide +kernel, by decide +kernel, by decide +kernel⟩
/-- java/lang/StringBuilder.toString -/
abbrev mJ4_toString_0e30d : MI := (yJ4_toString_0e30d, cJ4_toString_0e30d, 1, some (.object "java/lang/String"), 5)
def tbJ4_toString_0e30d : List TE := [(0, .new 18, 3, 0, 0), (3, .dup, 1, 0, 0), (4, .aload_n 0, 1, 0, 0), (5, .invokespecial 137, 3, 0, 0), (8, .areturn, 1, 0, 0)]
theorem tkJ4_toString_0e30d : ∀ x ∈ tbJ4_toString_0e30d, tbB cJ4_toString_0e30d x = true := tb_all (by decide +kernel)
def fJ4_toString_0e30d (c : Nat → Option Nat) (h : Hp) (a0 : Option Nat) : Rs := nwO h 0 (fun h1 r2 => dn r2 (cc (fJ0_init_81219 c h1 r2 a0) (kV fun h3 => some (h3, some (.inr (.inr r2))))))
set_option maxHeartbeats 4000000 in
set_option maxRecDepth 100000 in
theorem soJ4_toString_0e30d (X : Cx) (h : Hp) (a0 : Option Nat) : SO X mJ4_toString_0e30d [.inr (.inr a0)] h (fJ4_toString_0e30d X.2.2.2 h a0) := by
  refine so_of (by decide +kernel) (Nat.le_of_ble_eq_true rfl) ?_
  show Gd X mJ4_toString_0e30d h (fJ4_toString_0e30d X.2.2.2 h a0) h 0 [some (.inr (.inr a0))] []
  unfold fJ4_toString_0e30d
  refine q_new RJ0 TJ0 4 (tbm tkJ4_toString_0e30d (i := 0) rfl) (Nat.le_of_ble_eq_true rfl) rfl ⟨wd_732, wd_733, wd_24⟩ (fun h1 r2 => ?_)
  refine q_run tkJ4_toString_0e30d 1 2 (pc' := 5) (L' := [some (.inr (.inr a0))]) (st' := [.inr (.inr a0), .inr (.inr r2), .inr (.inr r2)]) rfl ?_
  refine q_ci (r := r2) (n := 1) (as := [.inr (.inr a0)]) (st := [.inr (.inr r2)]) (soJ0_init_81219 X h1 r2 a0) (tbm tkJ4_toString_0e30d (i := 3) rfl) rfl ceJ0_init_81219 wd_735 rfl rfl wd_734 rfl (Nat.le_of_ble_eq_true rfl) (kV_gd (fun h3 => ?_))
  exact q_aret (tbm tkJ4_toString_0e30d (i := 4) rfl) rfl (Or.inl ⟨_, rfl⟩)
theorem ceJ4_toString_0e30d : Ce mJ4_toString_0e30d 0 := ⟨wd_23, wd_731, by decide +kernel, by decide +kernel, by decide +kernel⟩
