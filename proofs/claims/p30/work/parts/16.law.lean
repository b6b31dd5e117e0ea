/-- ReceiptRollsLaw.cell -/
abbrev mL_cell : MI := (yL_cell, cL_cell, 2, some .int, 0)
def tbL_cell : List TE := [(0, .iload_n 1, 1, 0, 0), (1, .aload_n 0, 1, 0, 0), (2, .arraylength, 1, 0, 0), (3, .if_icmp .ge 9, 3, 0, 12), (6, .aload_n 0, 1, 0, 0), (7, .iload_n 1, 1, 0, 0), (8, .iaload, 1, 0, 0), (9, .goto 15, 3, 0, 24), (12, .sipush 7919, 3, 7919, 0), (15, .iload_n 1, 1, 0, 0), (16, .iconst 3, 1, 3, 0), (17, .iadd, 1, 0, 0), (18, .imul, 1, 0, 0), (19, .iload_n 1, 1, 0, 0), (20, .bipush 11, 2, 11, 0), (22, .iadd, 1, 0, 0), (23, .imul, 1, 0, 0), (24, .ireturn, 1, 0, 0)]
theorem tkL_cell : ∀ x ∈ tbL_cell, tbB cL_cell x = true := tb_all (by decide +kernel)
def fL_cell_24 (c : Nat → Option Nat) (h : Hp) (s0 : Int32) : Rs := some (h, some (.inl s0))
set_option maxHeartbeats 4000000 in
set_option maxRecDepth 100000 in
theorem sL_cell_24 (X : Cx) {h0 : Hp} (h : Hp) (s0 : Int32) : Gd X mL_cell h0 (fL_cell_24 X.2.2.2 h s0) h 24 [none, none] [.inl s0] := by
  unfold fL_cell_24
  exact q_iret (tbm tkL_cell (i := 17) rfl) rfl
def fL_cell (c : Nat → Option Nat) (h : Hp) (a0 : Option Nat) (a1 : Int32) : Rs := lenA h a0 (fun x1 => if a1 < x1 then (aldI h a0 [0, 10] a1 (fun x2 => fL_cell_24 c h x2)) else (fL_cell_24 c h (((7919 : Int32) * (a1 + (3 : Int32))) * (a1 + (11 : Int32)))))
set_option maxHeartbeats 4000000 in
set_option maxRecDepth 100000 in
theorem soL_cell (X : Cx) (h : Hp) (a0 : Option Nat) (a1 : Int32) : SO X mL_cell [.inr (.inr a0), .inl a1] h (fL_cell X.2.2.2 h a0 a1) := by
  refine so_of (by decide +kernel) (Nat.le_of_ble_eq_true rfl) ?_
  show Gd X mL_cell h (fL_cell X.2.2.2 h a0 a1) h 0 [some (.inr (.inr a0)), some (.inl a1)] []
  unfold fL_cell
  refine q_run tkL_cell 0 2 (pc' := 2) (L' := [some (.inr (.inr a0)), some (.inl a1)]) (st' := [.inr (.inr a0), .inl a1]) rfl ?_
  refine q_alen (tbm tkL_cell (i := 2) rfl) (fun x1 => ?_)
  refine q_icmp_ge (tbm tkL_cell (i := 3) rfl) ?_ ?_
  · refine q_run tkL_cell 4 2 (pc' := 8) (L' := [some (.inr (.inr a0)), some (.inl a1)]) (st' := [.inl a1, .inr (.inr a0)]) rfl ?_
    refine q_iaload (tbm tkL_cell (i := 6) rfl) (fun x2 => ?_)
    refine q_run tkL_cell 7 1 (pc' := 24) (L' := [some (.inr (.inr a0)), some (.inl a1)]) (st' := [.inl x2]) rfl ?_
    refine q_le (L' := [none, none]) (lvLe_n (lvLe_n lvLe_0)) ?_
    exact sL_cell_24 X h x2
  · refine q_run tkL_cell 8 9 (pc' := 24) (L' := [some (.inr (.inr a0)), some (.inl a1)]) (st' := [.inl (((7919 : Int32) * (a1 + (3 : Int32))) * (a1 + (11 : Int32)))]) rfl ?_
    refine q_le (L' := [none, none]) (lvLe_n (lvLe_n lvLe_0)) ?_
    exact sL_cell_24 X h (((7919 : Int32) * (a1 + (3 : Int32))) * (a1 + (11 : Int32)))
theorem ceL_cell : Ce mL_cell 2 := ⟨wd_17, wd_350, by decide +kernel, by decide +kernel, by decide +kernel⟩
/-- ReceiptRollsLaw.told -/
abbrev mL_told : MI := (yL_told, cL_told, 5, some .long, 9)
def tbL_told : List TE := [(0, .ldc2_w 8, 3, 0, 0), (3, .lstore_n 1, 1, 0, 0), (4, .iconst 0, 1, 0, 0), (5, .istore_n 3, 1, 0, 0), (6, .iload_n 3, 1, 0, 0), (7, .bipush 8, 2, 8, 0), (9, .if_icmp .ge 22, 3, 0, 31), (12, .ldc2_w 10, 3, 0, 0), (15, .lload_n 1, 1, 0, 0), (16, .lmul, 1, 0, 0), (17, .aload_n 0, 1, 0, 0), (18, .iload_n 3, 1, 0, 0), (19, .invokevirtual 12, 3, 0, 0), (22, .i2l, 1, 0, 0), (23, .ladd, 1, 0, 0), (24, .lstore_n 1, 1, 0, 0), (25, .iinc 3 1, 3, 1, 0), (28, .goto (-22), 3, 0, 6), (31, .iconst 0, 1, 0, 0), (32, .istore_n 3, 1, 0, 0), (33, .iload_n 3, 1, 0, 0), (34, .bipush 6, 2, 6, 0), (36, .if_icmp .ge 22, 3, 0, 58), (39, .ldc2_w 10, 3, 0, 0), (42, .lload_n 1, 1, 0, 0), (43, .lmul, 1, 0, 0), (44, .aload_n 0, 1, 0, 0), (45, .iload_n 3, 1, 0, 0), (46, .invokevirtual 18, 3, 0, 0), (49, .i2l, 1, 0, 0), (50, .ladd, 1, 0, 0), (51, .lstore_n 1, 1, 0, 0), (52, .iinc 3 1, 3, 1, 0), (55, .goto (-22), 3, 0, 33), (58, .iconst 0, 1, 0, 0), (59, .istore_n 3, 1, 0, 0), (60, .iload_n 3, 1, 0, 0), (61, .bipush 18, 2, 18, 0), (63, .if_icmp .ge 29, 3, 0, 92), (66, .ldc2_w 10, 3, 0, 0), (69, .lload_n 1, 1, 0, 0), (70, .lmul, 1, 0, 0), (71, .aload_n 0, 1, 0, 0), (72, .iload_n 3, 1, 0, 0), (73, .bipush 6, 2, 6, 0), (75, .idiv, 1, 0, 0), (76, .iload_n 3, 1, 0, 0), (77, .bipush 6, 2, 6, 0), (79, .irem, 1, 0, 0), (80, .invokevirtual 21, 3, 0, 0), (83, .i2l, 1, 0, 0), (84, .ladd, 1, 0, 0), (85, .lstore_n 1, 1, 0, 0), (86, .iinc 3 1, 3, 1, 0), (89, .goto (-29), 3, 0, 60), (92, .iconst 1, 1, 1, 0), (93, .istore_n 3, 1, 0, 0), (94, .iload_n 3, 1, 0, 0), (95, .aload_n 0, 1, 0, 0), (96, .iconst 1, 1, 1, 0), (97, .invokevirtual 12, 3, 0, 0), (100, .if_icmp .gt 49, 3, 0, 149), (103, .aload_n 0, 1, 0, 0), (104, .iload_n 3, 1, 0, 0), (105, .iconst 0, 1, 0, 0), (106, .invokevirtual 25, 3, 0, 0), (109, .ifCond .lt 34, 3, 0, 143), (112, .iconst 0, 1, 0, 0), (113, .istore 4, 2, 0, 0), (115, .iload 4, 2, 0, 0), (117, .bipush 10, 2, 10, 0), (119, .if_icmp .ge 24, 3, 0, 143), (122, .ldc2_w 10, 3, 0, 0), (125, .lload_n 1, 1, 0, 0), (126, .lmul, 1, 0, 0), (127, .aload_n 0, 1, 0, 0), (128, .iload_n 3, 1, 0, 0), (129, .iload 4, 2, 0, 0), (131, .invokevirtual 25, 3, 0, 0), (134, .i2l, 1, 0, 0), (135, .ladd, 1, 0, 0), (136, .lstore_n 1, 1, 0, 0), (137, .iinc 4 1, 3, 1, 0), (140, .goto (-25), 3, 0, 115), (143, .iinc 3 1, 3, 1, 0), (146, .goto (-52), 3, 0, 94), (149, .lload_n 1, 1, 0, 0), (150, .lreturn, 1, 0, 0)]
theorem tkL_told : ∀ x ∈ tbL_told, tbB cL_told x = true := tb_all (by decide +kernel)
def fL_told_143 (c : Nat → Option Nat) (k94 : Hp → Option Nat → Int64 → Int32 → Rs) (h : Hp) (l0 : Option Nat) (l1 : Int64) (l3 : Int32) : Rs := k94 h l0 l1 (l3 + (1 : Int32))
set_option maxHeartbeats 4000000 in
set_option maxRecDepth 100000 in
theorem sL_told_143 (X : Cx) {h0 : Hp} (k94 : Hp → Option Nat → Int64 → Int32 → Rs) (hk94 : ∀ (h : Hp) (l0 : Option Nat) (l1 : Int64) (l3 : Int32), Gd X mL_told h0 (k94 h l0 l1 l3) h 94 [some (.inr (.inr l0)), some (.inr (.inl l1)), none, some (.inl l3), none] []) (h : Hp) (l0 : Option Nat) (l1 : Int64) (l3 : Int32) : Gd X mL_told h0 (fL_told_143 X.2.2.2 k94 h l0 l1 l3) h 143 [some (.inr (.inr l0)), some (.inr (.inl l1)), none, some (.inl l3), none] [] := by
  unfold fL_told_143
  refine q_run tkL_told 84 2 (pc' := 94) (L' := [some (.inr (.inr l0)), some (.inr (.inl l1)), none, some (.inl (l3 + (1 : Int32))), none]) (st' := []) rfl ?_
  exact hk94 h l0 l1 (l3 + (1 : Int32))
def fL_told_115 (c : Nat → Option Nat) (k94 : Hp → Option Nat → Int64 → Int32 → Rs) : Nat → Hp → Option Nat → Int64 → Int32 → Int32 → Rs
  | 0, _, _, _, _, _ => none
  | n + 1, h, l0, l1, l3, l4 => if l4 < (10 : Int32) then (ck h l0 7 (cc (fX5_ofReceipt c h l0 l3 l4) (kI fun h1 x2 => fL_told_115 c k94 n h1 l0 (((31 : Int64) * l1) + (Int32.toInt64 x2)) l3 (l4 + (1 : Int32))))) else (fL_told_143 c k94 h l0 l1 l3)
set_option maxHeartbeats 4000000 in
set_option maxRecDepth 100000 in
theorem sL_told_115 (X : Cx) {h0 : Hp} (k94 : Hp → Option Nat → Int64 → Int32 → Rs) (hk94 : ∀ (h : Hp) (l0 : Option Nat) (l1 : Int64) (l3 : Int32), Gd X mL_told h0 (k94 h l0 l1 l3) h 94 [some (.inr (.inr l0)), some (.inr (.inl l1)), none, some (.inl l3), none] []) : ∀ (n : Nat) (h : Hp) (l0 : Option Nat) (l1 : Int64) (l3 : Int32) (l4 : Int32), Gd X mL_told h0 (fL_told_115 X.2.2.2 k94 n h l0 l1 l3 l4) h 115 [some (.inr (.inr l0)), some (.inr (.inl l1)), none, some (.inl l3), some (.inl l4)] [] := by
  intro n
  induction n with
  | zero => intros; exact gd_none
  | succ n ih =>
    intro h l0 l1 l3 l4
    unfold fL_told_115
    refine q_run tkL_told 69 2 (pc' := 119) (L' := [some (.inr (.inr l0)), some (.inr (.inl l1)), none, some (.inl l3), some (.inl l4)]) (st' := [.inl (10 : Int32), .inl l4]) rfl ?_
    refine q_icmp_ge (tbm tkL_told (i := 71) rfl) ?_ ?_
    · refine q_ldc2 (w := (31 : Int64)) (tbm tkL_told (i := 72) rfl) wd_355 ?_
      refine q_run tkL_told 73 5 (pc' := 131) (L' := [some (.inr (.inr l0)), some (.inr (.inl l1)), none, some (.inl l3), some (.inl l4)]) (st' := [.inl l4, .inl l3, .inr (.inr l0), .inr (.inl ((31 : Int64) * l1))]) rfl ?_
      refine q_cv (r := l0) (ci := 7) (n := 2) (as := [.inl l3, .inl l4]) (st := [.inr (.inl ((31 : Int64) * l1))]) TX5 5 (soX5_ofReceipt X h l0 l3 l4) (tbm tkL_told (i := 78) rfl) rfl rfl ceX5_ofReceipt wd_265 wd_266 wd_264 rfl (Nat.le_of_ble_eq_true rfl) (kI_gd (fun h1 x2 => ?_))
      refine q_run tkL_told 79 5 (pc' := 115) (L' := [some (.inr (.inr l0)), some (.inr (.inl (((31 : Int64) * l1) + (Int32.toInt64 x2)))), none, some (.inl l3), some (.inl (l4 + (1 : Int32)))]) (st' := []) rfl ?_
      exact ih h1 l0 (((31 : Int64) * l1) + (Int32.toInt64 x2)) l3 (l4 + (1 : Int32))
    · refine q_le (L' := [some (.inr (.inr l0)), some (.inr (.inl l1)), none, some (.inl l3), none]) (lvLe_s (lvLe_s (lvLe_n (lvLe_s (lvLe_n lvLe_0))))) ?_
      exact sL_told_143 X k94 hk94 h l0 l1 l3
def fL_told_94 (c : Nat → Option Nat) : Nat → Hp → Option Nat → Int64 → Int32 → Rs
  | 0, _, _, _, _ => none
  | n + 1, h, l0, l1, l3 => ck h l0 7 (cc (fX5_count c h l0 (1 : Int32)) (kI fun h3 x4 => if x4 < l3 then (some (h3, some (.inr (.inl l1)))) else (ck h3 l0 7 (cc (fX5_ofReceipt c h3 l0 l3 (0 : Int32)) (kI fun h5 x6 => if x6 < 0 then (fL_told_143 c (fL_told_94 c n) h5 l0 l1 l3) else (fL_told_115 c (fL_told_94 c n) FU h5 l0 l1 l3 (0 : Int32)))))))
set_option maxHeartbeats 4000000 in
set_option maxRecDepth 100000 in
theorem sL_told_94 (X : Cx) {h0 : Hp} : ∀ (n : Nat) (h : Hp) (l0 : Option Nat) (l1 : Int64) (l3 : Int32), Gd X mL_told h0 (fL_told_94 X.2.2.2 n h l0 l1 l3) h 94 [some (.inr (.inr l0)), some (.inr (.inl l1)), none, some (.inl l3), none] [] := by
  intro n
  induction n with
  | zero => intros; exact gd_none
  | succ n ih =>
    intro h l0 l1 l3
    unfold fL_told_94
    refine q_run tkL_told 57 3 (pc' := 97) (L' := [some (.inr (.inr l0)), some (.inr (.inl l1)), none, some (.inl l3), none]) (st' := [.inl (1 : Int32), .inr (.inr l0), .inl l3]) rfl ?_
    refine q_cv (r := l0) (ci := 7) (n := 1) (as := [.inl (1 : Int32)]) (st := [.inl l3]) TX5 5 (soX5_count X h l0 (1 : Int32)) (tbm tkL_told (i := 60) rfl) rfl rfl ceX5_count wd_311 wd_312 wd_310 rfl (Nat.le_of_ble_eq_true rfl) (kI_gd (fun h3 x4 => ?_))
    refine q_icmp_gt (tbm tkL_told (i := 61) rfl) ?_ ?_
    · refine q_run tkL_told 86 1 (pc' := 150) (L' := [some (.inr (.inr l0)), some (.inr (.inl l1)), none, some (.inl l3), none]) (st' := [.inr (.inl l1)]) rfl ?_
      exact q_lret (tbm tkL_told (i := 87) rfl) rfl
    · refine q_run tkL_told 62 3 (pc' := 106) (L' := [some (.inr (.inr l0)), some (.inr (.inl l1)), none, some (.inl l3), none]) (st' := [.inl (0 : Int32), .inl l3, .inr (.inr l0)]) rfl ?_
      refine q_cv (r := l0) (ci := 7) (n := 2) (as := [.inl l3, .inl (0 : Int32)]) (st := []) TX5 5 (soX5_ofReceipt X h3 l0 l3 (0 : Int32)) (tbm tkL_told (i := 65) rfl) rfl rfl ceX5_ofReceipt wd_265 wd_266 wd_264 rfl (Nat.le_of_ble_eq_true rfl) (kI_gd (fun h5 x6 => ?_))
      refine q_if_lt (tbm tkL_told (i := 66) rfl) ?_ ?_
      · exact sL_told_143 X (fL_told_94 X.2.2.2 n) ih h5 l0 l1 l3
      · refine q_run tkL_told 67 2 (pc' := 115) (L' := [some (.inr (.inr l0)), some (.inr (.inl l1)), none, some (.inl l3), some (.inl (0 : Int32))]) (st' := []) rfl ?_
        exact sL_told_115 X (fL_told_94 X.2.2.2 n) ih FU h5 l0 l1 l3 (0 : Int32)
def fL_told_60 (c : Nat → Option Nat) : Nat → Hp → Option Nat → Int64 → Int32 → Rs
  | 0, _, _, _, _ => none
  | n + 1, h, l0, l1, l3 => if l3 < (18 : Int32) then (dv (6 : Int32) (dv (6 : Int32) (ck h l0 7 (cc (fX5_ofTill c h l0 (l3 / (6 : Int32)) (l3 - l3 / (6 : Int32) * (6 : Int32))) (kI fun h7 x8 => fL_told_60 c n h7 l0 (((31 : Int64) * l1) + (Int32.toInt64 x8)) (l3 + (1 : Int32))))))) else (fL_told_94 c FU h l0 l1 (1 : Int32))
set_option maxHeartbeats 4000000 in
set_option maxRecDepth 100000 in
theorem sL_told_60 (X : Cx) {h0 : Hp} : ∀ (n : Nat) (h : Hp) (l0 : Option Nat) (l1 : Int64) (l3 : Int32), Gd X mL_told h0 (fL_told_60 X.2.2.2 n h l0 l1 l3) h 60 [some (.inr (.inr l0)), some (.inr (.inl l1)), none, some (.inl l3), none] [] := by
  intro n
  induction n with
  | zero => intros; exact gd_none
  | succ n ih =>
    intro h l0 l1 l3
    unfold fL_told_60
    refine q_run tkL_told 36 2 (pc' := 63) (L' := [some (.inr (.inr l0)), some (.inr (.inl l1)), none, some (.inl l3), none]) (st' := [.inl (18 : Int32), .inl l3]) rfl ?_
    refine q_icmp_ge (tbm tkL_told (i := 38) rfl) ?_ ?_
    · refine q_ldc2 (w := (31 : Int64)) (tbm tkL_told (i := 39) rfl) wd_355 ?_
      refine q_run tkL_told 40 5 (pc' := 75) (L' := [some (.inr (.inr l0)), some (.inr (.inl l1)), none, some (.inl l3), none]) (st' := [.inl (6 : Int32), .inl l3, .inr (.inr l0), .inr (.inl ((31 : Int64) * l1))]) rfl ?_
      refine q_div (tbm tkL_told (i := 45) rfl) ?_
      refine q_run tkL_told 46 2 (pc' := 79) (L' := [some (.inr (.inr l0)), some (.inr (.inl l1)), none, some (.inl l3), none]) (st' := [.inl (6 : Int32), .inl l3, .inl (l3 / (6 : Int32)), .inr (.inr l0), .inr (.inl ((31 : Int64) * l1))]) rfl ?_
      refine q_rem (tbm tkL_told (i := 48) rfl) ?_
      refine q_cv (r := l0) (ci := 7) (n := 2) (as := [.inl (l3 / (6 : Int32)), .inl (l3 - l3 / (6 : Int32) * (6 : Int32))]) (st := [.inr (.inl ((31 : Int64) * l1))]) TX5 5 (soX5_ofTill X h l0 (l3 / (6 : Int32)) (l3 - l3 / (6 : Int32) * (6 : Int32))) (tbm tkL_told (i := 49) rfl) rfl rfl ceX5_ofTill wd_357 wd_358 wd_356 rfl (Nat.le_of_ble_eq_true rfl) (kI_gd (fun h7 x8 => ?_))
      refine q_run tkL_told 50 5 (pc' := 60) (L' := [some (.inr (.inr l0)), some (.inr (.inl (((31 : Int64) * l1) + (Int32.toInt64 x8)))), none, some (.inl (l3 + (1 : Int32))), none]) (st' := []) rfl ?_
      exact ih h7 l0 (((31 : Int64) * l1) + (Int32.toInt64 x8)) (l3 + (1 : Int32))
    · refine q_run tkL_told 55 2 (pc' := 94) (L' := [some (.inr (.inr l0)), some (.inr (.inl l1)), none, some (.inl (1 : Int32)), none]) (st' := []) rfl ?_
      exact sL_told_94 X FU h l0 l1 (1 : Int32)
def fL_told_33 (c : Nat → Option Nat) : Nat → Hp → Option Nat → Int64 → Int32 → Rs
  | 0, _, _, _, _ => none
  | n + 1, h, l0, l1, l3 => if l3 < (6 : Int32) then (ck h l0 7 (cc (fX5_printer c h l0 l3) (kI fun h9 x10 => fL_told_33 c n h9 l0 (((31 : Int64) * l1) + (Int32.toInt64 x10)) (l3 + (1 : Int32))))) else (fL_told_60 c FU h l0 l1 (0 : Int32))
set_option maxHeartbeats 4000000 in
set_option maxRecDepth 100000 in
theorem sL_told_33 (X : Cx) {h0 : Hp} : ∀ (n : Nat) (h : Hp) (l0 : Option Nat) (l1 : Int64) (l3 : Int32), Gd X mL_told h0 (fL_told_33 X.2.2.2 n h l0 l1 l3) h 33 [some (.inr (.inr l0)), some (.inr (.inl l1)), none, some (.inl l3), none] [] := by
  intro n
  induction n with
  | zero => intros; exact gd_none
  | succ n ih =>
    intro h l0 l1 l3
    unfold fL_told_33
    refine q_run tkL_told 20 2 (pc' := 36) (L' := [some (.inr (.inr l0)), some (.inr (.inl l1)), none, some (.inl l3), none]) (st' := [.inl (6 : Int32), .inl l3]) rfl ?_
    refine q_icmp_ge (tbm tkL_told (i := 22) rfl) ?_ ?_
    · refine q_ldc2 (w := (31 : Int64)) (tbm tkL_told (i := 23) rfl) wd_355 ?_
      refine q_run tkL_told 24 4 (pc' := 46) (L' := [some (.inr (.inr l0)), some (.inr (.inl l1)), none, some (.inl l3), none]) (st' := [.inl l3, .inr (.inr l0), .inr (.inl ((31 : Int64) * l1))]) rfl ?_
      refine q_cv (r := l0) (ci := 7) (n := 1) (as := [.inl l3]) (st := [.inr (.inl ((31 : Int64) * l1))]) TX5 5 (soX5_printer X h l0 l3) (tbm tkL_told (i := 28) rfl) rfl rfl ceX5_printer wd_307 wd_308 wd_306 rfl (Nat.le_of_ble_eq_true rfl) (kI_gd (fun h9 x10 => ?_))
      refine q_run tkL_told 29 5 (pc' := 33) (L' := [some (.inr (.inr l0)), some (.inr (.inl (((31 : Int64) * l1) + (Int32.toInt64 x10)))), none, some (.inl (l3 + (1 : Int32))), none]) (st' := []) rfl ?_
      exact ih h9 l0 (((31 : Int64) * l1) + (Int32.toInt64 x10)) (l3 + (1 : Int32))
    · refine q_run tkL_told 34 2 (pc' := 60) (L' := [some (.inr (.inr l0)), some (.inr (.inl l1)), none, some (.inl (0 : Int32)), none]) (st' := []) rfl ?_
      exact sL_told_60 X FU h l0 l1 (0 : Int32)
def fL_told_6 (c : Nat → Option Nat) : Nat → Hp → Option Nat → Int64 → Int32 → Rs
  | 0, _, _, _, _ => none
  | n + 1, h, l0, l1, l3 => if l3 < (8 : Int32) then (ck h l0 7 (cc (fX5_count c h l0 l3) (kI fun h11 x12 => fL_told_6 c n h11 l0 (((31 : Int64) * l1) + (Int32.toInt64 x12)) (l3 + (1 : Int32))))) else (fL_told_33 c FU h l0 l1 (0 : Int32))
set_option maxHeartbeats 4000000 in
set_option maxRecDepth 100000 in
theorem sL_told_6 (X : Cx) {h0 : Hp} : ∀ (n : Nat) (h : Hp) (l0 : Option Nat) (l1 : Int64) (l3 : Int32), Gd X mL_told h0 (fL_told_6 X.2.2.2 n h l0 l1 l3) h 6 [some (.inr (.inr l0)), some (.inr (.inl l1)), none, some (.inl l3), none] [] := by
  intro n
  induction n with
  | zero => intros; exact gd_none
  | succ n ih =>
    intro h l0 l1 l3
    unfold fL_told_6
    refine q_run tkL_told 4 2 (pc' := 9) (L' := [some (.inr (.inr l0)), some (.inr (.inl l1)), none, some (.inl l3), none]) (st' := [.inl (8 : Int32), .inl l3]) rfl ?_
    refine q_icmp_ge (tbm tkL_told (i := 6) rfl) ?_ ?_
    · refine q_ldc2 (w := (31 : Int64)) (tbm tkL_told (i := 7) rfl) wd_355 ?_
      refine q_run tkL_told 8 4 (pc' := 19) (L' := [some (.inr (.inr l0)), some (.inr (.inl l1)), none, some (.inl l3), none]) (st' := [.inl l3, .inr (.inr l0), .inr (.inl ((31 : Int64) * l1))]) rfl ?_
      refine q_cv (r := l0) (ci := 7) (n := 1) (as := [.inl l3]) (st := [.inr (.inl ((31 : Int64) * l1))]) TX5 5 (soX5_count X h l0 l3) (tbm tkL_told (i := 12) rfl) rfl rfl ceX5_count wd_311 wd_312 wd_310 rfl (Nat.le_of_ble_eq_true rfl) (kI_gd (fun h11 x12 => ?_))
      refine q_run tkL_told 13 5 (pc' := 6) (L' := [some (.inr (.inr l0)), some (.inr (.inl (((31 : Int64) * l1) + (Int32.toInt64 x12)))), none, some (.inl (l3 + (1 : Int32))), none]) (st' := []) rfl ?_
      exact ih h11 l0 (((31 : Int64) * l1) + (Int32.toInt64 x12)) (l3 + (1 : Int32))
    · refine q_run tkL_told 18 2 (pc' := 33) (L' := [some (.inr (.inr l0)), some (.inr (.inl l1)), none, some (.inl (0 : Int32)), none]) (st' := []) rfl ?_
      exact sL_told_33 X FU h l0 l1 (0 : Int32)
def fL_told (c : Nat → Option Nat) (h : Hp) (a0 : Option Nat) : Rs := fL_told_6 c FU h a0 (3 : Int64) (0 : Int32)
set_option maxHeartbeats 4000000 in
set_option maxRecDepth 100000 in
theorem soL_told (X : Cx) (h : Hp) (a0 : Option Nat) : SO X mL_told [.inr (.inr a0)] h (fL_told X.2.2.2 h a0) := by
  refine so_of (by decide +kernel) (Nat.le_of_ble_eq_true rfl) ?_
  show Gd X mL_told h (fL_told X.2.2.2 h a0) h 0 [some (.inr (.inr a0)), none, none, none, none] []
  unfold fL_told
  refine q_ldc2 (w := (3 : Int64)) (tbm tkL_told (i := 0) rfl) wd_354 ?_
  refine q_run tkL_told 1 3 (pc' := 6) (L' := [some (.inr (.inr a0)), some (.inr (.inl (3 : Int64))), none, some (.inl (0 : Int32)), none]) (st' := []) rfl ?_
  exact sL_told_6 X FU h a0 (3 : Int64) (0 : Int32)
theorem ceL_told : Ce mL_told 1 := ⟨wd_17, wd_353, by decide +kernel, by decide +kernel, by decide +kernel⟩
/-- ReceiptRollsLaw.low -/
abbrev mL_low : MI := (yL_low, cL_low, 2, some .int, 0)
def tbL_low : List TE := [(0, .iload_n 0, 1, 0, 0), (1, .ldc 7, 2, 0, 0), (3, .iand, 1, 0, 0), (4, .iload_n 1, 1, 0, 0), (5, .irem, 1, 0, 0), (6, .ireturn, 1, 0, 0)]
theorem tkL_low : ∀ x ∈ tbL_low, tbB cL_low x = true := tb_all (by decide +kernel)
def fL_low (c : Nat → Option Nat) (h : Hp) (a0 : Int32) (a1 : Int32) : Rs := dv a1 (some (h, some (.inl ((a0 &&& (2147483647 : Int32)) - (a0 &&& (2147483647 : Int32)) / a1 * a1))))
set_option maxHeartbeats 4000000 in
set_option maxRecDepth 100000 in
theorem soL_low (X : Cx) (h : Hp) (a0 : Int32) (a1 : Int32) : SO X mL_low [.inl a0, .inl a1] h (fL_low X.2.2.2 h a0 a1) := by
  refine so_of (by decide +kernel) (Nat.le_of_ble_eq_true rfl) ?_
  show Gd X mL_low h (fL_low X.2.2.2 h a0 a1) h 0 [some (.inl a0), some (.inl a1)] []
  unfold fL_low
  refine q_run tkL_low 0 1 (pc' := 1) (L' := [some (.inl a0), some (.inl a1)]) (st' := [.inl a0]) rfl ?_
  refine q_ldc (w := (2147483647 : Int32)) (tbm tkL_low (i := 1) rfl) wd_495 ?_
  refine q_run tkL_low 2 2 (pc' := 5) (L' := [some (.inl a0), some (.inl a1)]) (st' := [.inl a1, .inl (a0 &&& (2147483647 : Int32))]) rfl ?_
  refine q_rem (tbm tkL_low (i := 4) rfl) ?_
  exact q_iret (tbm tkL_low (i := 5) rfl) rfl
theorem ceL_low : Ce mL_low 2 := ⟨wd_17, wd_494, by decide +kernel, by decide +kernel, by decide +kernel⟩
/-- ReceiptRollsLaw.act -/
abbrev mL_act : MI := (yL_act, cL_act, 6, some .int, 9)
def tbL_act : List TE := [(0, .iload_n 1, 1, 0, 0), (1, .iconst 4, 1, 4, 0), (2, .ishr, 1, 0, 0), (3, .iconst 3, 1, 3, 0), (4, .invokestatic 28, 3, 0, 0), (7, .istore_n 3, 1, 0, 0), (8, .iload_n 1, 1, 0, 0), (9, .bipush 15, 2, 15, 0), (11, .iand, 1, 0, 0), (12, .tableswitch 198 0 10 #[60, 60, 71, 71, 82, 142, 147, 172, 185, 185, 185], 60, 0, 0), (72, .aload_n 0, 1, 0, 0), (73, .iload_n 3, 1, 0, 0), (74, .iload_n 2, 1, 0, 0), (75, .iconst 5, 1, 5, 0), (76, .invokestatic 28, 3, 0, 0), (79, .invokevirtual 33, 3, 0, 0), (82, .ireturn, 1, 0, 0), (83, .aload_n 0, 1, 0, 0), (84, .iload_n 3, 1, 0, 0), (85, .iload_n 2, 1, 0, 0), (86, .iconst 4, 1, 4, 0), (87, .invokestatic 28, 3, 0, 0), (90, .invokevirtual 36, 3, 0, 0), (93, .ireturn, 1, 0, 0), (94, .iload_n 2, 1, 0, 0), (95, .iconst 3, 1, 3, 0), (96, .invokestatic 28, 3, 0, 0), (99, .istore 4, 2, 0, 0), (101, .aload_n 0, 1, 0, 0), (102, .iload 4, 2, 0, 0), (104, .iload 4, 2, 0, 0), (106, .ifCond .ne 17, 3, 0, 123), (109, .bipush 15, 2, 15, 0), (111, .iload_n 2, 1, 0, 0), (112, .iconst 2, 1, 2, 0), (113, .ishr, 1, 0, 0), (114, .bipush 27, 2, 27, 0), (116, .invokestatic 28, 3, 0, 0), (119, .iadd, 1, 0, 0), (120, .goto 30, 3, 0, 150), (123, .iload 4, 2, 0, 0), (125, .iconst 1, 1, 1, 0), (126, .if_icmp .ne 16, 3, 0, 142), (129, .iconst 4, 1, 4, 0), (130, .iload_n 2, 1, 0, 0), (131, .iconst 2, 1, 2, 0), (132, .ishr, 1, 0, 0), (133, .bipush 60, 2, 60, 0), (135, .invokestatic 28, 3, 0, 0), (138, .iadd, 1, 0, 0), (139, .goto 11, 3, 0, 150), (142, .iload_n 2, 1, 0, 0), (143, .iconst 2, 1, 2, 0), (144, .ishr, 1, 0, 0), (145, .bipush 11, 2, 11, 0), (147, .invokestatic 28, 3, 0, 0), (150, .invokevirtual 39, 3, 0, 0), (153, .ireturn, 1, 0, 0), (154, .aload_n 0, 1, 0, 0), (155, .invokevirtual 42, 3, 0, 0), (158, .ireturn, 1, 0, 0), (159, .aload_n 0, 1, 0, 0), (160, .iconst 1, 1, 1, 0), (161, .iload_n 2, 1, 0, 0), (162, .aload_n 0, 1, 0, 0), (163, .iconst 1, 1, 1, 0), (164, .invokevirtual 12, 3, 0, 0), (167, .iconst 1, 1, 1, 0), (168, .iadd, 1, 0, 0), (169, .invokestatic 28, 3, 0, 0), (172, .iadd, 1, 0, 0), (173, .iload_n 2, 1, 0, 0), (174, .iconst 4, 1, 4, 0), (175, .ishr, 1, 0, 0), (176, .iconst 5, 1, 5, 0), (177, .invokestatic 28, 3, 0, 0), (180, .invokevirtual 46, 3, 0, 0), (183, .ireturn, 1, 0, 0), (184, .aload_n 0, 1, 0, 0), (185, .iconst 1, 1, 1, 0), (186, .iload_n 2, 1, 0, 0), (187, .bipush 6, 2, 6, 0), (189, .invokestatic 28, 3, 0, 0), (192, .iadd, 1, 0, 0), (193, .invokevirtual 49, 3, 0, 0), (196, .ireturn, 1, 0, 0), (197, .aload_n 0, 1, 0, 0), (198, .iconst 1, 1, 1, 0), (199, .iload_n 2, 1, 0, 0), (200, .bipush 8, 2, 8, 0), (202, .invokestatic 28, 3, 0, 0), (205, .iadd, 1, 0, 0), (206, .invokevirtual 52, 3, 0, 0), (209, .ireturn, 1, 0, 0), (210, .aload_n 0, 1, 0, 0), (211, .invokevirtual 55, 3, 0, 0), (214, .pop, 1, 0, 0), (215, .iconst 0, 1, 0, 0), (216, .istore 5, 2, 0, 0), (218, .iload 5, 2, 0, 0), (220, .iload_n 2, 1, 0, 0), (221, .bipush 12, 2, 12, 0), (223, .invokestatic 28, 3, 0, 0), (226, .if_icmp .gt 52, 3, 0, 278), (229, .aload_n 0, 1, 0, 0), (230, .iload 5, 2, 0, 0), (232, .iconst 3, 1, 3, 0), (233, .iand, 1, 0, 0), (234, .iconst 3, 1, 3, 0), (235, .if_icmp .ne 20, 3, 0, 255), (238, .iload 5, 2, 0, 0), (240, .iload_n 2, 1, 0, 0), (241, .bipush 12, 2, 12, 0), (243, .invokestatic 28, 3, 0, 0), (246, .if_icmp .ge 9, 3, 0, 255), (249, .ldc2_w 58, 3, 0, 0), (252, .goto 16, 3, 0, 268), (255, .bipush 97, 2, 97, 0), (257, .iload_n 2, 1, 0, 0), (258, .iload 5, 2, 0, 0), (260, .ishr, 1, 0, 0), (261, .bipush 26, 2, 26, 0), (263, .invokestatic 28, 3, 0, 0), (266, .iadd, 1, 0, 0), (267, .i2l, 1, 0, 0), (268, .invokevirtual 60, 3, 0, 0), (271, .pop, 1, 0, 0), (272, .iinc 5 1, 3, 1, 0), (275, .goto (-57), 3, 0, 218), (278, .aload_n 0, 1, 0, 0), (279, .iload_n 3, 1, 0, 0), (280, .iconst 1, 1, 1, 0), (281, .iload_n 2, 1, 0, 0), (282, .iconst 5, 1, 5, 0), (283, .ishr, 1, 0, 0), (284, .iload_n 2, 1, 0, 0), (285, .bipush 20, 2, 20, 0), (287, .ishr, 1, 0, 0), (288, .iconst 1, 1, 1, 0), (289, .iand, 1, 0, 0), (290, .ifCond .ne 7, 3, 0, 297), (293, .iconst 1, 1, 1, 0), (294, .goto 5, 3, 0, 299), (297, .bipush 99, 2, 99, 0), (299, .invokestatic 28, 3, 0, 0), (302, .iadd, 1, 0, 0), (303, .iconst 1, 1, 1, 0), (304, .iload_n 2, 1, 0, 0), (305, .iconst 3, 1, 3, 0), (306, .ishr, 1, 0, 0), (307, .sipush 9999, 3, 9999, 0), (310, .invokestatic 28, 3, 0, 0), (313, .iadd, 1, 0, 0), (314, .iload_n 2, 1, 0, 0), (315, .bipush 7, 2, 7, 0), (317, .ishr, 1, 0, 0), (318, .iconst 3, 1, 3, 0), (319, .invokestatic 28, 3, 0, 0), (322, .invokevirtual 64, 3, 0, 0), (325, .ireturn, 1, 0, 0)]
theorem tkL_act : ∀ x ∈ tbL_act, tbB cL_act x = true := tb_all (by decide +kernel)
def fL_act_150 (c : Nat → Option Nat) (h : Hp) (s0 : Option Nat) (s1 : Int32) (s2 : Int32) : Rs := ck h s0 7 (cc (fX5_set c h s0 s1 s2) (kI fun h1 x2 => some (h1, some (.inl x2))))
set_option maxHeartbeats 4000000 in
set_option maxRecDepth 100000 in
theorem sL_act_150 (X : Cx) {h0 : Hp} (h : Hp) (s0 : Option Nat) (s1 : Int32) (s2 : Int32) : Gd X mL_act h0 (fL_act_150 X.2.2.2 h s0 s1 s2) h 150 [none, none, none, none, none, none] [.inl s2, .inl s1, .inr (.inr s0)] := by
  unfold fL_act_150
  refine q_cv (r := s0) (ci := 7) (n := 2) (as := [.inl s1, .inl s2]) (st := []) TX5 5 (soX5_set X h s0 s1 s2) (tbm tkL_act (i := 56) rfl) rfl rfl ceX5_set wd_540 wd_541 wd_539 rfl (Nat.le_of_ble_eq_true rfl) (kI_gd (fun h1 x2 => ?_))
  exact q_iret (tbm tkL_act (i := 57) rfl) rfl
def fL_act_268 (c : Nat → Option Nat) (k218 : Hp → Option Nat → Int32 → Int32 → Int32 → Rs) (h : Hp) (l0 : Option Nat) (l2 : Int32) (l3 : Int32) (l5 : Int32) (s0 : Option Nat) (s1 : Int64) : Rs := ck h s0 7 (cc (fX5_put c h s0 s1) (kI fun h3 x4 => k218 h3 l0 l2 l3 (l5 + (1 : Int32))))
set_option maxHeartbeats 4000000 in
set_option maxRecDepth 100000 in
theorem sL_act_268 (X : Cx) {h0 : Hp} (k218 : Hp → Option Nat → Int32 → Int32 → Int32 → Rs) (hk218 : ∀ (h : Hp) (l0 : Option Nat) (l2 : Int32) (l3 : Int32) (l5 : Int32), Gd X mL_act h0 (k218 h l0 l2 l3 l5) h 218 [some (.inr (.inr l0)), none, some (.inl l2), some (.inl l3), none, some (.inl l5)] []) (h : Hp) (l0 : Option Nat) (l2 : Int32) (l3 : Int32) (l5 : Int32) (s0 : Option Nat) (s1 : Int64) : Gd X mL_act h0 (fL_act_268 X.2.2.2 k218 h l0 l2 l3 l5 s0 s1) h 268 [some (.inr (.inr l0)), none, some (.inl l2), some (.inl l3), none, some (.inl l5)] [.inr (.inl s1), .inr (.inr s0)] := by
  unfold fL_act_268
  refine q_cv (r := s0) (ci := 7) (n := 1) (as := [.inr (.inl s1)]) (st := []) TX5 5 (soX5_put X h s0 s1) (tbm tkL_act (i := 125) rfl) rfl rfl ceX5_put wd_662 wd_663 wd_661 rfl (Nat.le_of_ble_eq_true rfl) (kI_gd (fun h3 x4 => ?_))
  refine q_run tkL_act 126 3 (pc' := 218) (L' := [some (.inr (.inr l0)), none, some (.inl l2), some (.inl l3), none, some (.inl (l5 + (1 : Int32)))]) (st' := []) rfl ?_
  exact hk218 h3 l0 l2 l3 (l5 + (1 : Int32))
def fL_act_255 (c : Nat → Option Nat) (k218 : Hp → Option Nat → Int32 → Int32 → Int32 → Rs) (h : Hp) (l0 : Option Nat) (l2 : Int32) (l3 : Int32) (l5 : Int32) (s0 : Option Nat) : Rs := cc (fL_low c h (shrI l2 l5) (26 : Int32)) (kI fun h5 x6 => fL_act_268 c k218 h5 l0 l2 l3 l5 s0 (Int32.toInt64 ((97 : Int32) + x6)))
set_option maxHeartbeats 4000000 in
set_option maxRecDepth 100000 in
theorem sL_act_255 (X : Cx) {h0 : Hp} (k218 : Hp → Option Nat → Int32 → Int32 → Int32 → Rs) (hk218 : ∀ (h : Hp) (l0 : Option Nat) (l2 : Int32) (l3 : Int32) (l5 : Int32), Gd X mL_act h0 (k218 h l0 l2 l3 l5) h 218 [some (.inr (.inr l0)), none, some (.inl l2), some (.inl l3), none, some (.inl l5)] []) (h : Hp) (l0 : Option Nat) (l2 : Int32) (l3 : Int32) (l5 : Int32) (s0 : Option Nat) : Gd X mL_act h0 (fL_act_255 X.2.2.2 k218 h l0 l2 l3 l5 s0) h 255 [some (.inr (.inr l0)), none, some (.inl l2), some (.inl l3), none, some (.inl l5)] [.inr (.inr s0)] := by
  unfold fL_act_255
  refine q_run tkL_act 117 5 (pc' := 263) (L' := [some (.inr (.inr l0)), none, some (.inl l2), some (.inl l3), none, some (.inl l5)]) (st' := [.inl (26 : Int32), .inl (shrI l2 l5), .inl (97 : Int32), .inr (.inr s0)]) rfl ?_
  refine q_cs (n := 2) (as := [.inl (shrI l2 l5), .inl (26 : Int32)]) (st := [.inl (97 : Int32), .inr (.inr s0)]) (soL_low X h (shrI l2 l5) (26 : Int32)) (tbm tkL_act (i := 122) rfl) rfl ceL_low wd_493 wd_492 rfl (Nat.le_of_ble_eq_true rfl) (kI_gd (fun h5 x6 => ?_))
  refine q_run tkL_act 123 2 (pc' := 268) (L' := [some (.inr (.inr l0)), none, some (.inl l2), some (.inl l3), none, some (.inl l5)]) (st' := [.inr (.inl (Int32.toInt64 ((97 : Int32) + x6))), .inr (.inr s0)]) rfl ?_
  exact sL_act_268 X k218 hk218 h5 l0 l2 l3 l5 s0 (Int32.toInt64 ((97 : Int32) + x6))
def fL_act_299 (c : Nat → Option Nat) (h : Hp) (l2 : Int32) (s0 : Option Nat) (s1 : Int32) (s2 : Int32) (s3 : Int32) (s4 : Int32) : Rs := cc (fL_low c h s3 s4) (kI fun h7 x8 => cc (fL_low c h7 (shrI l2 (3 : Int32)) (9999 : Int32)) (kI fun h9 x10 => cc (fL_low c h9 (shrI l2 (7 : Int32)) (3 : Int32)) (kI fun h11 x12 => ck h11 s0 7 (cc (fX5_ring c h11 s0 s1 (s2 + x8) ((1 : Int32) + x10) x12) (kI fun h13 x14 => some (h13, some (.inl x14)))))))
set_option maxHeartbeats 4000000 in
set_option maxRecDepth 100000 in
theorem sL_act_299 (X : Cx) {h0 : Hp} (h : Hp) (l2 : Int32) (s0 : Option Nat) (s1 : Int32) (s2 : Int32) (s3 : Int32) (s4 : Int32) : Gd X mL_act h0 (fL_act_299 X.2.2.2 h l2 s0 s1 s2 s3 s4) h 299 [none, none, some (.inl l2), none, none, none] [.inl s4, .inl s3, .inl s2, .inl s1, .inr (.inr s0)] := by
  unfold fL_act_299
  refine q_cs (n := 2) (as := [.inl s3, .inl s4]) (st := [.inl s2, .inl s1, .inr (.inr s0)]) (soL_low X h s3 s4) (tbm tkL_act (i := 144) rfl) rfl ceL_low wd_493 wd_492 rfl (Nat.le_of_ble_eq_true rfl) (kI_gd (fun h7 x8 => ?_))
  refine q_run tkL_act 145 6 (pc' := 310) (L' := [none, none, some (.inl l2), none, none, none]) (st' := [.inl (9999 : Int32), .inl (shrI l2 (3 : Int32)), .inl (1 : Int32), .inl (s2 + x8), .inl s1, .inr (.inr s0)]) rfl ?_
  refine q_cs (n := 2) (as := [.inl (shrI l2 (3 : Int32)), .inl (9999 : Int32)]) (st := [.inl (1 : Int32), .inl (s2 + x8), .inl s1, .inr (.inr s0)]) (soL_low X h7 (shrI l2 (3 : Int32)) (9999 : Int32)) (tbm tkL_act (i := 151) rfl) rfl ceL_low wd_493 wd_492 rfl (Nat.le_of_ble_eq_true rfl) (kI_gd (fun h9 x10 => ?_))
  refine q_run tkL_act 152 5 (pc' := 319) (L' := [none, none, some (.inl l2), none, none, none]) (st' := [.inl (3 : Int32), .inl (shrI l2 (7 : Int32)), .inl ((1 : Int32) + x10), .inl (s2 + x8), .inl s1, .inr (.inr s0)]) rfl ?_
  refine q_cs (n := 2) (as := [.inl (shrI l2 (7 : Int32)), .inl (3 : Int32)]) (st := [.inl ((1 : Int32) + x10), .inl (s2 + x8), .inl s1, .inr (.inr s0)]) (soL_low X h9 (shrI l2 (7 : Int32)) (3 : Int32)) (tbm tkL_act (i := 157) rfl) rfl ceL_low wd_493 wd_492 rfl (Nat.le_of_ble_eq_true rfl) (kI_gd (fun h11 x12 => ?_))
  refine q_cv (r := s0) (ci := 7) (n := 4) (as := [.inl s1, .inl (s2 + x8), .inl ((1 : Int32) + x10), .inl x12]) (st := []) TX5 5 (soX5_ring X h11 s0 s1 (s2 + x8) ((1 : Int32) + x10) x12) (tbm tkL_act (i := 158) rfl) rfl rfl ceX5_ring wd_708 wd_709 wd_707 rfl (Nat.le_of_ble_eq_true rfl) (kI_gd (fun h13 x14 => ?_))
  exact q_iret (tbm tkL_act (i := 159) rfl) rfl
def fL_act_218 (c : Nat → Option Nat) : Nat → Hp → Option Nat → Int32 → Int32 → Int32 → Rs
  | 0, _, _, _, _, _ => none
  | n + 1, h, l0, l2, l3, l5 => cc (fL_low c h l2 (12 : Int32)) (kI fun h15 x16 => if x16 < l5 then (if ((shrI l2 (20 : Int32)) &&& (1 : Int32)) = 0 then (fL_act_299 c h15 l2 l0 l3 (1 : Int32) (shrI l2 (5 : Int32)) (1 : Int32)) else (fL_act_299 c h15 l2 l0 l3 (1 : Int32) (shrI l2 (5 : Int32)) (99 : Int32))) else (if (l5 &&& (3 : Int32)) = (3 : Int32) then (cc (fL_low c h15 l2 (12 : Int32)) (kI fun h17 x18 => if l5 < x18 then (fL_act_268 c (fL_act_218 c n) h17 l0 l2 l3 l5 l0 (95 : Int64)) else (fL_act_255 c (fL_act_218 c n) h17 l0 l2 l3 l5 l0))) else (fL_act_255 c (fL_act_218 c n) h15 l0 l2 l3 l5 l0)))
set_option maxHeartbeats 4000000 in
set_option maxRecDepth 100000 in
theorem sL_act_218 (X : Cx) {h0 : Hp} : ∀ (n : Nat) (h : Hp) (l0 : Option Nat) (l2 : Int32) (l3 : Int32) (l5 : Int32), Gd X mL_act h0 (fL_act_218 X.2.2.2 n h l0 l2 l3 l5) h 218 [some (.inr (.inr l0)), none, some (.inl l2), some (.inl l3), none, some (.inl l5)] [] := by
  intro n
  induction n with
  | zero => intros; exact gd_none
  | succ n ih =>
    intro h l0 l2 l3 l5
    unfold fL_act_218
    refine q_run tkL_act 99 3 (pc' := 223) (L' := [some (.inr (.inr l0)), none, some (.inl l2), some (.inl l3), none, some (.inl l5)]) (st' := [.inl (12 : Int32), .inl l2, .inl l5]) rfl ?_
    refine q_cs (n := 2) (as := [.inl l2, .inl (12 : Int32)]) (st := [.inl l5]) (soL_low X h l2 (12 : Int32)) (tbm tkL_act (i := 102) rfl) rfl ceL_low wd_493 wd_492 rfl (Nat.le_of_ble_eq_true rfl) (kI_gd (fun h15 x16 => ?_))
    refine q_icmp_gt (tbm tkL_act (i := 103) rfl) ?_ ?_
    · refine q_run tkL_act 129 11 (pc' := 290) (L' := [some (.inr (.inr l0)), none, some (.inl l2), some (.inl l3), none, some (.inl l5)]) (st' := [.inl ((shrI l2 (20 : Int32)) &&& (1 : Int32)), .inl (shrI l2 (5 : Int32)), .inl (1 : Int32), .inl l3, .inr (.inr l0)]) rfl ?_
      refine q_if_ne (tbm tkL_act (i := 140) rfl) ?_ ?_
      · refine q_run tkL_act 141 2 (pc' := 299) (L' := [some (.inr (.inr l0)), none, some (.inl l2), some (.inl l3), none, some (.inl l5)]) (st' := [.inl (1 : Int32), .inl (shrI l2 (5 : Int32)), .inl (1 : Int32), .inl l3, .inr (.inr l0)]) rfl ?_
        refine q_le (L' := [none, none, some (.inl l2), none, none, none]) (lvLe_n (lvLe_n (lvLe_s (lvLe_n (lvLe_n (lvLe_n lvLe_0)))))) ?_
        exact sL_act_299 X h15 l2 l0 l3 (1 : Int32) (shrI l2 (5 : Int32)) (1 : Int32)
      · refine q_run tkL_act 143 1 (pc' := 299) (L' := [some (.inr (.inr l0)), none, some (.inl l2), some (.inl l3), none, some (.inl l5)]) (st' := [.inl (99 : Int32), .inl (shrI l2 (5 : Int32)), .inl (1 : Int32), .inl l3, .inr (.inr l0)]) rfl ?_
        refine q_le (L' := [none, none, some (.inl l2), none, none, none]) (lvLe_n (lvLe_n (lvLe_s (lvLe_n (lvLe_n (lvLe_n lvLe_0)))))) ?_
        exact sL_act_299 X h15 l2 l0 l3 (1 : Int32) (shrI l2 (5 : Int32)) (99 : Int32)
    · refine q_run tkL_act 104 5 (pc' := 235) (L' := [some (.inr (.inr l0)), none, some (.inl l2), some (.inl l3), none, some (.inl l5)]) (st' := [.inl (3 : Int32), .inl (l5 &&& (3 : Int32)), .inr (.inr l0)]) rfl ?_
      refine q_icmp_ne (tbm tkL_act (i := 109) rfl) ?_ ?_
      · refine q_run tkL_act 110 3 (pc' := 243) (L' := [some (.inr (.inr l0)), none, some (.inl l2), some (.inl l3), none, some (.inl l5)]) (st' := [.inl (12 : Int32), .inl l2, .inl l5, .inr (.inr l0)]) rfl ?_
        refine q_cs (n := 2) (as := [.inl l2, .inl (12 : Int32)]) (st := [.inl l5, .inr (.inr l0)]) (soL_low X h15 l2 (12 : Int32)) (tbm tkL_act (i := 113) rfl) rfl ceL_low wd_493 wd_492 rfl (Nat.le_of_ble_eq_true rfl) (kI_gd (fun h17 x18 => ?_))
        refine q_icmp_ge (tbm tkL_act (i := 114) rfl) ?_ ?_
        · refine q_ldc2 (w := (95 : Int64)) (tbm tkL_act (i := 115) rfl) wd_660 ?_
          refine q_run tkL_act 116 1 (pc' := 268) (L' := [some (.inr (.inr l0)), none, some (.inl l2), some (.inl l3), none, some (.inl l5)]) (st' := [.inr (.inl (95 : Int64)), .inr (.inr l0)]) rfl ?_
          exact sL_act_268 X (fL_act_218 X.2.2.2 n) ih h17 l0 l2 l3 l5 l0 (95 : Int64)
        · exact sL_act_255 X (fL_act_218 X.2.2.2 n) ih h17 l0 l2 l3 l5 l0
      · exact sL_act_255 X (fL_act_218 X.2.2.2 n) ih h15 l0 l2 l3 l5 l0
def fL_act (c : Nat → Option Nat) (h : Hp) (a0 : Option Nat) (a1 : Int32) (a2 : Int32) : Rs := cc (fL_low c h (shrI a1 (4 : Int32)) (3 : Int32)) (kI fun h19 x20 => swf (a1 &&& (15 : Int32)) [((0 : Int32), cc (fL_low c h19 a2 (5 : Int32)) (kI fun h23 x24 => ck h23 a0 7 (cc (fX5_close c h23 a0 x20 x24) (kI fun h25 x26 => some (h25, some (.inl x26)))))), ((1 : Int32), cc (fL_low c h19 a2 (5 : Int32)) (kI fun h27 x28 => ck h27 a0 7 (cc (fX5_close c h27 a0 x20 x28) (kI fun h29 x30 => some (h29, some (.inl x30)))))), ((2 : Int32), cc (fL_low c h19 a2 (4 : Int32)) (kI fun h31 x32 => ck h31 a0 7 (cc (fX5_strike c h31 a0 x20 x32) (kI fun h33 x34 => some (h33, some (.inl x34)))))), ((3 : Int32), cc (fL_low c h19 a2 (4 : Int32)) (kI fun h35 x36 => ck h35 a0 7 (cc (fX5_strike c h35 a0 x20 x36) (kI fun h37 x38 => some (h37, some (.inl x38)))))), ((4 : Int32), cc (fL_low c h19 a2 (3 : Int32)) (kI fun h39 x40 => if x40 = 0 then (cc (fL_low c h39 (shrI a2 (2 : Int32)) (27 : Int32)) (kI fun h41 x42 => fL_act_150 c h41 a0 x40 ((15 : Int32) + x42))) else (if x40 = (1 : Int32) then (cc (fL_low c h39 (shrI a2 (2 : Int32)) (60 : Int32)) (kI fun h43 x44 => fL_act_150 c h43 a0 x40 ((4 : Int32) + x44))) else (cc (fL_low c h39 (shrI a2 (2 : Int32)) (11 : Int32)) (kI fun h45 x46 => fL_act_150 c h45 a0 x40 x46))))), ((5 : Int32), ck h19 a0 7 (cc (fX5_newRoll c h19 a0) (kI fun h47 x48 => some (h47, some (.inl x48))))), ((6 : Int32), ck h19 a0 7 (cc (fX5_count c h19 a0 (1 : Int32)) (kI fun h49 x50 => cc (fL_low c h49 a2 (x50 + (1 : Int32))) (kI fun h51 x52 => cc (fL_low c h51 (shrI a2 (4 : Int32)) (5 : Int32)) (kI fun h53 x54 => ck h53 a0 7 (cc (fX5_hurry c h53 a0 ((1 : Int32) + x52) x54) (kI fun h55 x56 => some (h55, some (.inl x56))))))))), ((7 : Int32), cc (fL_low c h19 a2 (6 : Int32)) (kI fun h57 x58 => ck h57 a0 7 (cc (fX5_tear c h57 a0 ((1 : Int32) + x58)) (kI fun h59 x60 => some (h59, some (.inl x60)))))), ((8 : Int32), cc (fL_low c h19 a2 (8 : Int32)) (kI fun h61 x62 => ck h61 a0 7 (cc (fX5_pass c h61 a0 ((1 : Int32) + x62)) (kI fun h63 x64 => some (h63, some (.inl x64)))))), ((9 : Int32), cc (fL_low c h19 a2 (8 : Int32)) (kI fun h65 x66 => ck h65 a0 7 (cc (fX5_pass c h65 a0 ((1 : Int32) + x66)) (kI fun h67 x68 => some (h67, some (.inl x68)))))), ((10 : Int32), cc (fL_low c h19 a2 (8 : Int32)) (kI fun h69 x70 => ck h69 a0 7 (cc (fX5_pass c h69 a0 ((1 : Int32) + x70)) (kI fun h71 x72 => some (h71, some (.inl x72))))))] (ck h19 a0 7 (cc (fX5_wipe c h19 a0) (kI fun h21 x22 => fL_act_218 c FU h21 a0 a2 x20 (0 : Int32)))))
set_option maxHeartbeats 4000000 in
set_option maxRecDepth 100000 in
theorem soL_act (X : Cx) (h : Hp) (a0 : Option Nat) (a1 : Int32) (a2 : Int32) : SO X mL_act [.inr (.inr a0), .inl a1, .inl a2] h (fL_act X.2.2.2 h a0 a1 a2) := by
  refine so_of (by decide +kernel) (Nat.le_of_ble_eq_true rfl) ?_
  show Gd X mL_act h (fL_act X.2.2.2 h a0 a1 a2) h 0 [some (.inr (.inr a0)), some (.inl a1), some (.inl a2), none, none, none] []
  unfold fL_act
  refine q_run tkL_act 0 4 (pc' := 4) (L' := [some (.inr (.inr a0)), some (.inl a1), some (.inl a2), none, none, none]) (st' := [.inl (3 : Int32), .inl (shrI a1 (4 : Int32))]) rfl ?_
  refine q_cs (n := 2) (as := [.inl (shrI a1 (4 : Int32)), .inl (3 : Int32)]) (st := []) (soL_low X h (shrI a1 (4 : Int32)) (3 : Int32)) (tbm tkL_act (i := 4) rfl) rfl ceL_low wd_493 wd_492 rfl (Nat.le_of_ble_eq_true rfl) (kI_gd (fun h19 x20 => ?_))
  refine q_run tkL_act 5 4 (pc' := 12) (L' := [some (.inr (.inr a0)), some (.inl a1), some (.inl a2), some (.inl x20), none, none]) (st' := [.inl (a1 &&& (15 : Int32))]) rfl ?_
  refine q_sw [((0 : Int32), 72), ((1 : Int32), 72), ((2 : Int32), 83), ((3 : Int32), 83), ((4 : Int32), 94), ((5 : Int32), 154), ((6 : Int32), 159), ((7 : Int32), 184), ((8 : Int32), 197), ((9 : Int32), 197), ((10 : Int32), 197)] 210 (tbm tkL_act (i := 9) rfl) (by decide +kernel) ?_ ⟨⟨rfl, ?_⟩, ⟨rfl, ?_⟩, ⟨rfl, ?_⟩, ⟨rfl, ?_⟩, ⟨rfl, ?_⟩, ⟨rfl, ?_⟩, ⟨rfl, ?_⟩, ⟨rfl, ?_⟩, ⟨rfl, ?_⟩, ⟨rfl, ?_⟩, ⟨rfl, ?_⟩, trivial⟩
  · refine q_run tkL_act 94 1 (pc' := 211) (L' := [some (.inr (.inr a0)), some (.inl a1), some (.inl a2), some (.inl x20), none, none]) (st' := [.inr (.inr a0)]) rfl ?_
    refine q_cv (r := a0) (ci := 7) (n := 0) (as := []) (st := []) TX5 5 (soX5_wipe X h19 a0) (tbm tkL_act (i := 95) rfl) rfl rfl ceX5_wipe wd_599 wd_600 wd_598 rfl (Nat.le_of_ble_eq_true rfl) (kI_gd (fun h21 x22 => ?_))
    refine q_run tkL_act 96 3 (pc' := 218) (L' := [some (.inr (.inr a0)), some (.inl a1), some (.inl a2), some (.inl x20), none, some (.inl (0 : Int32))]) (st' := []) rfl ?_
    refine q_le (L' := [some (.inr (.inr a0)), none, some (.inl a2), some (.inl x20), none, some (.inl (0 : Int32))]) (lvLe_s (lvLe_n (lvLe_s (lvLe_s (lvLe_n (lvLe_s lvLe_0)))))) ?_
    exact sL_act_218 X FU h21 a0 a2 x20 (0 : Int32)
  · refine q_run tkL_act 10 4 (pc' := 76) (L' := [some (.inr (.inr a0)), some (.inl a1), some (.inl a2), some (.inl x20), none, none]) (st' := [.inl (5 : Int32), .inl a2, .inl x20, .inr (.inr a0)]) rfl ?_
    refine q_cs (n := 2) (as := [.inl a2, .inl (5 : Int32)]) (st := [.inl x20, .inr (.inr a0)]) (soL_low X h19 a2 (5 : Int32)) (tbm tkL_act (i := 14) rfl) rfl ceL_low wd_493 wd_492 rfl (Nat.le_of_ble_eq_true rfl) (kI_gd (fun h23 x24 => ?_))
    refine q_cv (r := a0) (ci := 7) (n := 2) (as := [.inl x20, .inl x24]) (st := []) TX5 5 (soX5_close X h23 a0 x20 x24) (tbm tkL_act (i := 15) rfl) rfl rfl ceX5_close wd_497 wd_498 wd_496 rfl (Nat.le_of_ble_eq_true rfl) (kI_gd (fun h25 x26 => ?_))
    exact q_iret (tbm tkL_act (i := 16) rfl) rfl
  · refine q_run tkL_act 10 4 (pc' := 76) (L' := [some (.inr (.inr a0)), some (.inl a1), some (.inl a2), some (.inl x20), none, none]) (st' := [.inl (5 : Int32), .inl a2, .inl x20, .inr (.inr a0)]) rfl ?_
    refine q_cs (n := 2) (as := [.inl a2, .inl (5 : Int32)]) (st := [.inl x20, .inr (.inr a0)]) (soL_low X h19 a2 (5 : Int32)) (tbm tkL_act (i := 14) rfl) rfl ceL_low wd_493 wd_492 rfl (Nat.le_of_ble_eq_true rfl) (kI_gd (fun h27 x28 => ?_))
    refine q_cv (r := a0) (ci := 7) (n := 2) (as := [.inl x20, .inl x28]) (st := []) TX5 5 (soX5_close X h27 a0 x20 x28) (tbm tkL_act (i := 15) rfl) rfl rfl ceX5_close wd_497 wd_498 wd_496 rfl (Nat.le_of_ble_eq_true rfl) (kI_gd (fun h29 x30 => ?_))
    exact q_iret (tbm tkL_act (i := 16) rfl) rfl
  · refine q_run tkL_act 17 4 (pc' := 87) (L' := [some (.inr (.inr a0)), some (.inl a1), some (.inl a2), some (.inl x20), none, none]) (st' := [.inl (4 : Int32), .inl a2, .inl x20, .inr (.inr a0)]) rfl ?_
    refine q_cs (n := 2) (as := [.inl a2, .inl (4 : Int32)]) (st := [.inl x20, .inr (.inr a0)]) (soL_low X h19 a2 (4 : Int32)) (tbm tkL_act (i := 21) rfl) rfl ceL_low wd_493 wd_492 rfl (Nat.le_of_ble_eq_true rfl) (kI_gd (fun h31 x32 => ?_))
    refine q_cv (r := a0) (ci := 7) (n := 2) (as := [.inl x20, .inl x32]) (st := []) TX5 5 (soX5_strike X h31 a0 x20 x32) (tbm tkL_act (i := 22) rfl) rfl rfl ceX5_strike wd_525 wd_526 wd_524 rfl (Nat.le_of_ble_eq_true rfl) (kI_gd (fun h33 x34 => ?_))
    exact q_iret (tbm tkL_act (i := 23) rfl) rfl
  · refine q_run tkL_act 17 4 (pc' := 87) (L' := [some (.inr (.inr a0)), some (.inl a1), some (.inl a2), some (.inl x20), none, none]) (st' := [.inl (4 : Int32), .inl a2, .inl x20, .inr (.inr a0)]) rfl ?_
    refine q_cs (n := 2) (as := [.inl a2, .inl (4 : Int32)]) (st := [.inl x20, .inr (.inr a0)]) (soL_low X h19 a2 (4 : Int32)) (tbm tkL_act (i := 21) rfl) rfl ceL_low wd_493 wd_492 rfl (Nat.le_of_ble_eq_true rfl) (kI_gd (fun h35 x36 => ?_))
    refine q_cv (r := a0) (ci := 7) (n := 2) (as := [.inl x20, .inl x36]) (st := []) TX5 5 (soX5_strike X h35 a0 x20 x36) (tbm tkL_act (i := 22) rfl) rfl rfl ceX5_strike wd_525 wd_526 wd_524 rfl (Nat.le_of_ble_eq_true rfl) (kI_gd (fun h37 x38 => ?_))
    exact q_iret (tbm tkL_act (i := 23) rfl) rfl
  · refine q_run tkL_act 24 2 (pc' := 96) (L' := [some (.inr (.inr a0)), some (.inl a1), some (.inl a2), some (.inl x20), none, none]) (st' := [.inl (3 : Int32), .inl a2]) rfl ?_
    refine q_cs (n := 2) (as := [.inl a2, .inl (3 : Int32)]) (st := []) (soL_low X h19 a2 (3 : Int32)) (tbm tkL_act (i := 26) rfl) rfl ceL_low wd_493 wd_492 rfl (Nat.le_of_ble_eq_true rfl) (kI_gd (fun h39 x40 => ?_))
    refine q_run tkL_act 27 4 (pc' := 106) (L' := [some (.inr (.inr a0)), some (.inl a1), some (.inl a2), some (.inl x20), some (.inl x40), none]) (st' := [.inl x40, .inl x40, .inr (.inr a0)]) rfl ?_
    refine q_if_ne (tbm tkL_act (i := 31) rfl) ?_ ?_
    · refine q_run tkL_act 32 5 (pc' := 116) (L' := [some (.inr (.inr a0)), some (.inl a1), some (.inl a2), some (.inl x20), some (.inl x40), none]) (st' := [.inl (27 : Int32), .inl (shrI a2 (2 : Int32)), .inl (15 : Int32), .inl x40, .inr (.inr a0)]) rfl ?_
      refine q_cs (n := 2) (as := [.inl (shrI a2 (2 : Int32)), .inl (27 : Int32)]) (st := [.inl (15 : Int32), .inl x40, .inr (.inr a0)]) (soL_low X h39 (shrI a2 (2 : Int32)) (27 : Int32)) (tbm tkL_act (i := 37) rfl) rfl ceL_low wd_493 wd_492 rfl (Nat.le_of_ble_eq_true rfl) (kI_gd (fun h41 x42 => ?_))
      refine q_run tkL_act 38 2 (pc' := 150) (L' := [some (.inr (.inr a0)), some (.inl a1), some (.inl a2), some (.inl x20), some (.inl x40), none]) (st' := [.inl ((15 : Int32) + x42), .inl x40, .inr (.inr a0)]) rfl ?_
      refine q_le (L' := [none, none, none, none, none, none]) (lvLe_n (lvLe_n (lvLe_n (lvLe_n (lvLe_n (lvLe_n lvLe_0)))))) ?_
      exact sL_act_150 X h41 a0 x40 ((15 : Int32) + x42)
    · refine q_run tkL_act 40 2 (pc' := 126) (L' := [some (.inr (.inr a0)), some (.inl a1), some (.inl a2), some (.inl x20), some (.inl x40), none]) (st' := [.inl (1 : Int32), .inl x40, .inl x40, .inr (.inr a0)]) rfl ?_
      refine q_icmp_ne (tbm tkL_act (i := 42) rfl) ?_ ?_
      · refine q_run tkL_act 43 5 (pc' := 135) (L' := [some (.inr (.inr a0)), some (.inl a1), some (.inl a2), some (.inl x20), some (.inl x40), none]) (st' := [.inl (60 : Int32), .inl (shrI a2 (2 : Int32)), .inl (4 : Int32), .inl x40, .inr (.inr a0)]) rfl ?_
        refine q_cs (n := 2) (as := [.inl (shrI a2 (2 : Int32)), .inl (60 : Int32)]) (st := [.inl (4 : Int32), .inl x40, .inr (.inr a0)]) (soL_low X h39 (shrI a2 (2 : Int32)) (60 : Int32)) (tbm tkL_act (i := 48) rfl) rfl ceL_low wd_493 wd_492 rfl (Nat.le_of_ble_eq_true rfl) (kI_gd (fun h43 x44 => ?_))
        refine q_run tkL_act 49 2 (pc' := 150) (L' := [some (.inr (.inr a0)), some (.inl a1), some (.inl a2), some (.inl x20), some (.inl x40), none]) (st' := [.inl ((4 : Int32) + x44), .inl x40, .inr (.inr a0)]) rfl ?_
        refine q_le (L' := [none, none, none, none, none, none]) (lvLe_n (lvLe_n (lvLe_n (lvLe_n (lvLe_n (lvLe_n lvLe_0)))))) ?_
        exact sL_act_150 X h43 a0 x40 ((4 : Int32) + x44)
      · refine q_run tkL_act 51 4 (pc' := 147) (L' := [some (.inr (.inr a0)), some (.inl a1), some (.inl a2), some (.inl x20), some (.inl x40), none]) (st' := [.inl (11 : Int32), .inl (shrI a2 (2 : Int32)), .inl x40, .inr (.inr a0)]) rfl ?_
        refine q_cs (n := 2) (as := [.inl (shrI a2 (2 : Int32)), .inl (11 : Int32)]) (st := [.inl x40, .inr (.inr a0)]) (soL_low X h39 (shrI a2 (2 : Int32)) (11 : Int32)) (tbm tkL_act (i := 55) rfl) rfl ceL_low wd_493 wd_492 rfl (Nat.le_of_ble_eq_true rfl) (kI_gd (fun h45 x46 => ?_))
        refine q_le (L' := [none, none, none, none, none, none]) (lvLe_n (lvLe_n (lvLe_n (lvLe_n (lvLe_n (lvLe_n lvLe_0)))))) ?_
        exact sL_act_150 X h45 a0 x40 x46
  · refine q_run tkL_act 58 1 (pc' := 155) (L' := [some (.inr (.inr a0)), some (.inl a1), some (.inl a2), some (.inl x20), none, none]) (st' := [.inr (.inr a0)]) rfl ?_
    refine q_cv (r := a0) (ci := 7) (n := 0) (as := []) (st := []) TX5 5 (soX5_newRoll X h19 a0) (tbm tkL_act (i := 59) rfl) rfl rfl ceX5_newRoll wd_553 wd_554 wd_552 rfl (Nat.le_of_ble_eq_true rfl) (kI_gd (fun h47 x48 => ?_))
    exact q_iret (tbm tkL_act (i := 60) rfl) rfl
  · refine q_run tkL_act 61 5 (pc' := 164) (L' := [some (.inr (.inr a0)), some (.inl a1), some (.inl a2), some (.inl x20), none, none]) (st' := [.inl (1 : Int32), .inr (.inr a0), .inl a2, .inl (1 : Int32), .inr (.inr a0)]) rfl ?_
    refine q_cv (r := a0) (ci := 7) (n := 1) (as := [.inl (1 : Int32)]) (st := [.inl a2, .inl (1 : Int32), .inr (.inr a0)]) TX5 5 (soX5_count X h19 a0 (1 : Int32)) (tbm tkL_act (i := 66) rfl) rfl rfl ceX5_count wd_311 wd_312 wd_310 rfl (Nat.le_of_ble_eq_true rfl) (kI_gd (fun h49 x50 => ?_))
    refine q_run tkL_act 67 2 (pc' := 169) (L' := [some (.inr (.inr a0)), some (.inl a1), some (.inl a2), some (.inl x20), none, none]) (st' := [.inl (x50 + (1 : Int32)), .inl a2, .inl (1 : Int32), .inr (.inr a0)]) rfl ?_
    refine q_cs (n := 2) (as := [.inl a2, .inl (x50 + (1 : Int32))]) (st := [.inl (1 : Int32), .inr (.inr a0)]) (soL_low X h49 a2 (x50 + (1 : Int32))) (tbm tkL_act (i := 69) rfl) rfl ceL_low wd_493 wd_492 rfl (Nat.le_of_ble_eq_true rfl) (kI_gd (fun h51 x52 => ?_))
    refine q_run tkL_act 70 5 (pc' := 177) (L' := [some (.inr (.inr a0)), some (.inl a1), some (.inl a2), some (.inl x20), none, none]) (st' := [.inl (5 : Int32), .inl (shrI a2 (4 : Int32)), .inl ((1 : Int32) + x52), .inr (.inr a0)]) rfl ?_
    refine q_cs (n := 2) (as := [.inl (shrI a2 (4 : Int32)), .inl (5 : Int32)]) (st := [.inl ((1 : Int32) + x52), .inr (.inr a0)]) (soL_low X h51 (shrI a2 (4 : Int32)) (5 : Int32)) (tbm tkL_act (i := 75) rfl) rfl ceL_low wd_493 wd_492 rfl (Nat.le_of_ble_eq_true rfl) (kI_gd (fun h53 x54 => ?_))
    refine q_cv (r := a0) (ci := 7) (n := 2) (as := [.inl ((1 : Int32) + x52), .inl x54]) (st := []) TX5 5 (soX5_hurry X h53 a0 ((1 : Int32) + x52) x54) (tbm tkL_act (i := 76) rfl) rfl rfl ceX5_hurry wd_557 wd_558 wd_556 rfl (Nat.le_of_ble_eq_true rfl) (kI_gd (fun h55 x56 => ?_))
    exact q_iret (tbm tkL_act (i := 77) rfl) rfl
  · refine q_run tkL_act 78 4 (pc' := 189) (L' := [some (.inr (.inr a0)), some (.inl a1), some (.inl a2), some (.inl x20), none, none]) (st' := [.inl (6 : Int32), .inl a2, .inl (1 : Int32), .inr (.inr a0)]) rfl ?_
    refine q_cs (n := 2) (as := [.inl a2, .inl (6 : Int32)]) (st := [.inl (1 : Int32), .inr (.inr a0)]) (soL_low X h19 a2 (6 : Int32)) (tbm tkL_act (i := 82) rfl) rfl ceL_low wd_493 wd_492 rfl (Nat.le_of_ble_eq_true rfl) (kI_gd (fun h57 x58 => ?_))
    refine q_run tkL_act 83 1 (pc' := 193) (L' := [some (.inr (.inr a0)), some (.inl a1), some (.inl a2), some (.inl x20), none, none]) (st' := [.inl ((1 : Int32) + x58), .inr (.inr a0)]) rfl ?_
    refine q_cv (r := a0) (ci := 7) (n := 1) (as := [.inl ((1 : Int32) + x58)]) (st := []) TX5 5 (soX5_tear X h57 a0 ((1 : Int32) + x58)) (tbm tkL_act (i := 84) rfl) rfl rfl ceX5_tear wd_561 wd_562 wd_560 rfl (Nat.le_of_ble_eq_true rfl) (kI_gd (fun h59 x60 => ?_))
    exact q_iret (tbm tkL_act (i := 85) rfl) rfl
  · refine q_run tkL_act 86 4 (pc' := 202) (L' := [some (.inr (.inr a0)), some (.inl a1), some (.inl a2), some (.inl x20), none, none]) (st' := [.inl (8 : Int32), .inl a2, .inl (1 : Int32), .inr (.inr a0)]) rfl ?_
    refine q_cs (n := 2) (as := [.inl a2, .inl (8 : Int32)]) (st := [.inl (1 : Int32), .inr (.inr a0)]) (soL_low X h19 a2 (8 : Int32)) (tbm tkL_act (i := 90) rfl) rfl ceL_low wd_493 wd_492 rfl (Nat.le_of_ble_eq_true rfl) (kI_gd (fun h61 x62 => ?_))
    refine q_run tkL_act 91 1 (pc' := 206) (L' := [some (.inr (.inr a0)), some (.inl a1), some (.inl a2), some (.inl x20), none, none]) (st' := [.inl ((1 : Int32) + x62), .inr (.inr a0)]) rfl ?_
    refine q_cv (r := a0) (ci := 7) (n := 1) (as := [.inl ((1 : Int32) + x62)]) (st := []) TX5 5 (soX5_pass X h61 a0 ((1 : Int32) + x62)) (tbm tkL_act (i := 92) rfl) rfl rfl ceX5_pass wd_565 wd_566 wd_564 rfl (Nat.le_of_ble_eq_true rfl) (kI_gd (fun h63 x64 => ?_))
    exact q_iret (tbm tkL_act (i := 93) rfl) rfl
  · refine q_run tkL_act 86 4 (pc' := 202) (L' := [some (.inr (.inr a0)), some (.inl a1), some (.inl a2), some (.inl x20), none, none]) (st' := [.inl (8 : Int32), .inl a2, .inl (1 : Int32), .inr (.inr a0)]) rfl ?_
    refine q_cs (n := 2) (as := [.inl a2, .inl (8 : Int32)]) (st := [.inl (1 : Int32), .inr (.inr a0)]) (soL_low X h19 a2 (8 : Int32)) (tbm tkL_act (i := 90) rfl) rfl ceL_low wd_493 wd_492 rfl (Nat.le_of_ble_eq_true rfl) (kI_gd (fun h65 x66 => ?_))
    refine q_run tkL_act 91 1 (pc' := 206) (L' := [some (.inr (.inr a0)), some (.inl a1), some (.inl a2), some (.inl x20), none, none]) (st' := [.inl ((1 : Int32) + x66), .inr (.inr a0)]) rfl ?_
    refine q_cv (r := a0) (ci := 7) (n := 1) (as := [.inl ((1 : Int32) + x66)]) (st := []) TX5 5 (soX5_pass X h65 a0 ((1 : Int32) + x66)) (tbm tkL_act (i := 92) rfl) rfl rfl ceX5_pass wd_565 wd_566 wd_564 rfl (Nat.le_of_ble_eq_true rfl) (kI_gd (fun h67 x68 => ?_))
    exact q_iret (tbm tkL_act (i := 93) rfl) rfl
  · refine q_run tkL_act 86 4 (pc' := 202) (L' := [some (.inr (.inr a0)), some (.inl a1), some (.inl a2), some (.inl x20), none, none]) (st' := [.inl (8 : Int32), .inl a2, .inl (1 : Int32), .inr (.inr a0)]) rfl ?_
    refine q_cs (n := 2) (as := [.inl a2, .inl (8 : Int32)]) (st := [.inl (1 : Int32), .inr (.inr a0)]) (soL_low X h19 a2 (8 : Int32)) (tbm tkL_act (i := 90) rfl) rfl ceL_low wd_493 wd_492 rfl (Nat.le_of_ble_eq_true rfl) (kI_gd (fun h69 x70 => ?_))
    refine q_run tkL_act 91 1 (pc' := 206) (L' := [some (.inr (.inr a0)), some (.inl a1), some (.inl a2), some (.inl x20), none, none]) (st' := [.inl ((1 : Int32) + x70), .inr (.inr a0)]) rfl ?_
    refine q_cv (r := a0) (ci := 7) (n := 1) (as := [.inl ((1 : Int32) + x70)]) (st := []) TX5 5 (soX5_pass X h69 a0 ((1 : Int32) + x70)) (tbm tkL_act (i := 92) rfl) rfl rfl ceX5_pass wd_565 wd_566 wd_564 rfl (Nat.le_of_ble_eq_true rfl) (kI_gd (fun h71 x72 => ?_))
    exact q_iret (tbm tkL_act (i := 93) rfl) rfl
theorem ceL_act : Ce mL_act 3 := ⟨wd_17, wd_491, by decide +kernel, by decide +kernel, by decide +kernel⟩
/-- ReceiptRollsLaw.isSummed -/
abbrev mL_isSummed : MI := (yL_isSummed, cL_isSummed, 7, some .boolean, 9)
def tbL_isSummed : List TE := [(0, .aload_n 0, 1, 0, 0), (1, .iload_n 1, 1, 0, 0), (2, .bipush 8, 2, 8, 0), (4, .invokevirtual 25, 3, 0, 0), (7, .istore_n 2, 1, 0, 0), (8, .aload_n 0, 1, 0, 0), (9, .iload_n 1, 1, 0, 0), (10, .iconst 5, 1, 5, 0), (11, .invokevirtual 25, 3, 0, 0), (14, .istore_n 3, 1, 0, 0), (15, .aload_n 0, 1, 0, 0), (16, .iload_n 1, 1, 0, 0), (17, .bipush 6, 2, 6, 0), (19, .invokevirtual 25, 3, 0, 0), (22, .istore 4, 2, 0, 0), (24, .iload 4, 2, 0, 0), (26, .iconst 1, 1, 1, 0), (27, .isub, 1, 0, 0), (28, .istore 5, 2, 0, 0), (30, .iload 5, 2, 0, 0), (32, .iload 4, 2, 0, 0), (34, .iconst 4, 1, 4, 0), (35, .isub, 1, 0, 0), (36, .if_icmp .le 190, 3, 0, 226), (39, .iload 5, 2, 0, 0), (41, .ifCond .le 185, 3, 0, 226), (44, .aload_n 0, 1, 0, 0), (45, .iload_n 1, 1, 0, 0), (46, .iload 5, 2, 0, 0), (48, .iconst 0, 1, 0, 0), (49, .invokevirtual 68, 3, 0, 0), (52, .bipush 115, 2, 115, 0), (54, .if_icmp .ne 166, 3, 0, 220), (57, .aload_n 0, 1, 0, 0), (58, .iload_n 1, 1, 0, 0), (59, .iload 5, 2, 0, 0), (61, .iconst 1, 1, 1, 0), (62, .invokevirtual 68, 3, 0, 0), (65, .bipush 117, 2, 117, 0), (67, .if_icmp .ne 153, 3, 0, 220), (70, .aload_n 0, 1, 0, 0), (71, .iload_n 1, 1, 0, 0), (72, .iload 5, 2, 0, 0), (74, .iconst 2, 1, 2, 0), (75, .invokevirtual 68, 3, 0, 0), (78, .bipush 109, 2, 109, 0), (80, .if_icmp .ne 140, 3, 0, 220), (83, .aload_n 0, 1, 0, 0), (84, .iload_n 1, 1, 0, 0), (85, .iload 5, 2, 0, 0), (87, .iconst 3, 1, 3, 0), (88, .invokevirtual 68, 3, 0, 0), (91, .bipush 32, 2, 32, 0), (93, .if_icmp .ne 127, 3, 0, 220), (96, .aload_n 0, 1, 0, 0), (97, .iload_n 1, 1, 0, 0), (98, .iload 5, 2, 0, 0), (100, .iload_n 2, 1, 0, 0), (101, .iconst 1, 1, 1, 0), (102, .isub, 1, 0, 0), (103, .invokevirtual 68, 3, 0, 0), (106, .bipush 48, 2, 48, 0), (108, .iload_n 3, 1, 0, 0), (109, .bipush 10, 2, 10, 0), (111, .irem, 1, 0, 0), (112, .iadd, 1, 0, 0), (113, .if_icmp .ne 68, 3, 0, 181), (116, .aload_n 0, 1, 0, 0), (117, .iload_n 1, 1, 0, 0), (118, .iload 5, 2, 0, 0), (120, .iload_n 2, 1, 0, 0), (121, .iconst 2, 1, 2, 0), (122, .isub, 1, 0, 0), (123, .invokevirtual 68, 3, 0, 0), (126, .bipush 48, 2, 48, 0), (128, .iload_n 3, 1, 0, 0), (129, .bipush 10, 2, 10, 0), (131, .idiv, 1, 0, 0), (132, .bipush 10, 2, 10, 0), (134, .irem, 1, 0, 0), (135, .iadd, 1, 0, 0), (136, .if_icmp .ne 45, 3, 0, 181), (139, .aload_n 0, 1, 0, 0), (140, .iload_n 1, 1, 0, 0), (141, .iload 5, 2, 0, 0), (143, .iload_n 2, 1, 0, 0), (144, .iconst 3, 1, 3, 0), (145, .isub, 1, 0, 0), (146, .invokevirtual 68, 3, 0, 0), (149, .bipush 46, 2, 46, 0), (151, .if_icmp .ne 30, 3, 0, 181), (154, .aload_n 0, 1, 0, 0), (155, .iload_n 1, 1, 0, 0), (156, .iload 5, 2, 0, 0), (158, .iload_n 2, 1, 0, 0), (159, .iconst 4, 1, 4, 0), (160, .isub, 1, 0, 0), (161, .invokevirtual 68, 3, 0, 0), (164, .bipush 48, 2, 48, 0), (166, .iload_n 3, 1, 0, 0), (167, .bipush 100, 2, 100, 0), (169, .idiv, 1, 0, 0), (170, .bipush 10, 2, 10, 0), (172, .irem, 1, 0, 0), (173, .iadd, 1, 0, 0), (174, .if_icmp .ne 7, 3, 0, 181), (177, .iconst 1, 1, 1, 0), (178, .goto 4, 3, 0, 182), (181, .iconst 0, 1, 0, 0), (182, .istore 6, 2, 0, 0), (184, .iload 6, 2, 0, 0), (186, .ifCond .eq 32, 3, 0, 218), (189, .aload_n 0, 1, 0, 0), (190, .iload_n 1, 1, 0, 0), (191, .iload 5, 2, 0, 0), (193, .iload_n 2, 1, 0, 0), (194, .invokevirtual 68, 3, 0, 0), (197, .bipush (-2), 2, -2, 0), (199, .if_icmp .ne 19, 3, 0, 218), (202, .aload_n 0, 1, 0, 0), (203, .iload_n 1, 1, 0, 0), (204, .iload 4, 2, 0, 0), (206, .iconst 0, 1, 0, 0), (207, .invokevirtual 68, 3, 0, 0), (210, .iconst (-1), 1, -1, 0), (211, .if_icmp .ne 7, 3, 0, 218), (214, .iconst 1, 1, 1, 0), (215, .goto 4, 3, 0, 219), (218, .iconst 0, 1, 0, 0), (219, .ireturn, 1, 0, 0), (220, .iinc 5 (-1), 3, -1, 0), (223, .goto (-193), 3, 0, 30), (226, .iconst 0, 1, 0, 0), (227, .ireturn, 1, 0, 0)]
theorem tkL_isSummed : ∀ x ∈ tbL_isSummed, tbB cL_isSummed x = true := tb_all (by decide +kernel)
def fL_isSummed_219 (c : Nat → Option Nat) (h : Hp) (s0 : Int32) : Rs := rtI .boolean h s0
set_option maxHeartbeats 4000000 in
set_option maxRecDepth 100000 in
theorem sL_isSummed_219 (X : Cx) {h0 : Hp} (h : Hp) (s0 : Int32) : Gd X mL_isSummed h0 (fL_isSummed_219 X.2.2.2 h s0) h 219 [none, none, none, none, none, none, none] [.inl s0] := by
  unfold fL_isSummed_219
  exact q_zret (tbm tkL_isSummed (i := 129) rfl) rfl
def fL_isSummed_218 (c : Nat → Option Nat) (h : Hp) : Rs := fL_isSummed_219 c h (0 : Int32)
set_option maxHeartbeats 4000000 in
set_option maxRecDepth 100000 in
theorem sL_isSummed_218 (X : Cx) {h0 : Hp} (h : Hp) : Gd X mL_isSummed h0 (fL_isSummed_218 X.2.2.2 h) h 218 [none, none, none, none, none, none, none] [] := by
  unfold fL_isSummed_218
  refine q_run tkL_isSummed 128 1 (pc' := 219) (L' := [none, none, none, none, none, none, none]) (st' := [.inl (0 : Int32)]) rfl ?_
  exact sL_isSummed_219 X h (0 : Int32)
def fL_isSummed_182 (c : Nat → Option Nat) (h : Hp) (l0 : Option Nat) (l1 : Int32) (l2 : Int32) (l4 : Int32) (l5 : Int32) (s0 : Int32) : Rs := if s0 = 0 then (fL_isSummed_218 c h) else (ck h l0 7 (cc (fX5_sign c h l0 l1 l5 l2) (kI fun h1 x2 => if x2 = (-2 : Int32) then (ck h1 l0 7 (cc (fX5_sign c h1 l0 l1 l4 (0 : Int32)) (kI fun h3 x4 => if x4 = (-1 : Int32) then (fL_isSummed_219 c h3 (1 : Int32)) else (fL_isSummed_218 c h3)))) else (fL_isSummed_218 c h1))))
set_option maxHeartbeats 4000000 in
set_option maxRecDepth 100000 in
theorem sL_isSummed_182 (X : Cx) {h0 : Hp} (h : Hp) (l0 : Option Nat) (l1 : Int32) (l2 : Int32) (l4 : Int32) (l5 : Int32) (s0 : Int32) : Gd X mL_isSummed h0 (fL_isSummed_182 X.2.2.2 h l0 l1 l2 l4 l5 s0) h 182 [some (.inr (.inr l0)), some (.inl l1), some (.inl l2), none, some (.inl l4), some (.inl l5), none] [.inl s0] := by
  unfold fL_isSummed_182
  refine q_run tkL_isSummed 109 2 (pc' := 186) (L' := [some (.inr (.inr l0)), some (.inl l1), some (.inl l2), none, some (.inl l4), some (.inl l5), some (.inl s0)]) (st' := [.inl s0]) rfl ?_
  refine q_if_eq (tbm tkL_isSummed (i := 111) rfl) ?_ ?_
  · refine q_le (L' := [none, none, none, none, none, none, none]) (lvLe_n (lvLe_n (lvLe_n (lvLe_n (lvLe_n (lvLe_n (lvLe_n lvLe_0))))))) ?_
    exact sL_isSummed_218 X h
  · refine q_run tkL_isSummed 112 4 (pc' := 194) (L' := [some (.inr (.inr l0)), some (.inl l1), some (.inl l2), none, some (.inl l4), some (.inl l5), some (.inl s0)]) (st' := [.inl l2, .inl l5, .inl l1, .inr (.inr l0)]) rfl ?_
    refine q_cv (r := l0) (ci := 7) (n := 3) (as := [.inl l1, .inl l5, .inl l2]) (st := []) TX5 5 (soX5_sign X h l0 l1 l5 l2) (tbm tkL_isSummed (i := 116) rfl) rfl rfl ceX5_sign wd_809 wd_810 wd_808 rfl (Nat.le_of_ble_eq_true rfl) (kI_gd (fun h1 x2 => ?_))
    refine q_run tkL_isSummed 117 1 (pc' := 199) (L' := [some (.inr (.inr l0)), some (.inl l1), some (.inl l2), none, some (.inl l4), some (.inl l5), some (.inl s0)]) (st' := [.inl (-2 : Int32), .inl x2]) rfl ?_
    refine q_icmp_ne (tbm tkL_isSummed (i := 118) rfl) ?_ ?_
    · refine q_run tkL_isSummed 119 4 (pc' := 207) (L' := [some (.inr (.inr l0)), some (.inl l1), some (.inl l2), none, some (.inl l4), some (.inl l5), some (.inl s0)]) (st' := [.inl (0 : Int32), .inl l4, .inl l1, .inr (.inr l0)]) rfl ?_
      refine q_cv (r := l0) (ci := 7) (n := 3) (as := [.inl l1, .inl l4, .inl (0 : Int32)]) (st := []) TX5 5 (soX5_sign X h1 l0 l1 l4 (0 : Int32)) (tbm tkL_isSummed (i := 123) rfl) rfl rfl ceX5_sign wd_809 wd_810 wd_808 rfl (Nat.le_of_ble_eq_true rfl) (kI_gd (fun h3 x4 => ?_))
      refine q_run tkL_isSummed 124 1 (pc' := 211) (L' := [some (.inr (.inr l0)), some (.inl l1), some (.inl l2), none, some (.inl l4), some (.inl l5), some (.inl s0)]) (st' := [.inl (-1 : Int32), .inl x4]) rfl ?_
      refine q_icmp_ne (tbm tkL_isSummed (i := 125) rfl) ?_ ?_
      · refine q_run tkL_isSummed 126 2 (pc' := 219) (L' := [some (.inr (.inr l0)), some (.inl l1), some (.inl l2), none, some (.inl l4), some (.inl l5), some (.inl s0)]) (st' := [.inl (1 : Int32)]) rfl ?_
        refine q_le (L' := [none, none, none, none, none, none, none]) (lvLe_n (lvLe_n (lvLe_n (lvLe_n (lvLe_n (lvLe_n (lvLe_n lvLe_0))))))) ?_
        exact sL_isSummed_219 X h3 (1 : Int32)
      · refine q_le (L' := [none, none, none, none, none, none, none]) (lvLe_n (lvLe_n (lvLe_n (lvLe_n (lvLe_n (lvLe_n (lvLe_n lvLe_0))))))) ?_
        exact sL_isSummed_218 X h3
    · refine q_le (L' := [none, none, none, none, none, none, none]) (lvLe_n (lvLe_n (lvLe_n (lvLe_n (lvLe_n (lvLe_n (lvLe_n lvLe_0))))))) ?_
      exact sL_isSummed_218 X h1
def fL_isSummed_181 (c : Nat → Option Nat) (h : Hp) (l0 : Option Nat) (l1 : Int32) (l2 : Int32) (l4 : Int32) (l5 : Int32) : Rs := fL_isSummed_182 c h l0 l1 l2 l4 l5 (0 : Int32)
set_option maxHeartbeats 4000000 in
set_option maxRecDepth 100000 in
theorem sL_isSummed_181 (X : Cx) {h0 : Hp} (h : Hp) (l0 : Option Nat) (l1 : Int32) (l2 : Int32) (l4 : Int32) (l5 : Int32) : Gd X mL_isSummed h0 (fL_isSummed_181 X.2.2.2 h l0 l1 l2 l4 l5) h 181 [some (.inr (.inr l0)), some (.inl l1), some (.inl l2), none, some (.inl l4), some (.inl l5), none] [] := by
  unfold fL_isSummed_181
  refine q_run tkL_isSummed 108 1 (pc' := 182) (L' := [some (.inr (.inr l0)), some (.inl l1), some (.inl l2), none, some (.inl l4), some (.inl l5), none]) (st' := [.inl (0 : Int32)]) rfl ?_
  exact sL_isSummed_182 X h l0 l1 l2 l4 l5 (0 : Int32)
def fL_isSummed_220 (c : Nat → Option Nat) (k30 : Hp → Option Nat → Int32 → Int32 → Int32 → Int32 → Int32 → Rs) (h : Hp) (l0 : Option Nat) (l1 : Int32) (l2 : Int32) (l3 : Int32) (l4 : Int32) (l5 : Int32) : Rs := k30 h l0 l1 l2 l3 l4 (l5 + (-1 : Int32))
set_option maxHeartbeats 4000000 in
set_option maxRecDepth 100000 in
theorem sL_isSummed_220 (X : Cx) {h0 : Hp} (k30 : Hp → Option Nat → Int32 → Int32 → Int32 → Int32 → Int32 → Rs) (hk30 : ∀ (h : Hp) (l0 : Option Nat) (l1 : Int32) (l2 : Int32) (l3 : Int32) (l4 : Int32) (l5 : Int32), Gd X mL_isSummed h0 (k30 h l0 l1 l2 l3 l4 l5) h 30 [some (.inr (.inr l0)), some (.inl l1), some (.inl l2), some (.inl l3), some (.inl l4), some (.inl l5), none] []) (h : Hp) (l0 : Option Nat) (l1 : Int32) (l2 : Int32) (l3 : Int32) (l4 : Int32) (l5 : Int32) : Gd X mL_isSummed h0 (fL_isSummed_220 X.2.2.2 k30 h l0 l1 l2 l3 l4 l5) h 220 [some (.inr (.inr l0)), some (.inl l1), some (.inl l2), some (.inl l3), some (.inl l4), some (.inl l5), none] [] := by
  unfold fL_isSummed_220
  refine q_run tkL_isSummed 130 2 (pc' := 30) (L' := [some (.inr (.inr l0)), some (.inl l1), some (.inl l2), some (.inl l3), some (.inl l4), some (.inl (l5 + (-1 : Int32))), none]) (st' := []) rfl ?_
  exact hk30 h l0 l1 l2 l3 l4 (l5 + (-1 : Int32))
def fL_isSummed_226 (c : Nat → Option Nat) (h : Hp) : Rs := rtI .boolean h (0 : Int32)
set_option maxHeartbeats 4000000 in
set_option maxRecDepth 100000 in
theorem sL_isSummed_226 (X : Cx) {h0 : Hp} (h : Hp) : Gd X mL_isSummed h0 (fL_isSummed_226 X.2.2.2 h) h 226 [none, none, none, none, none, none, none] [] := by
  unfold fL_isSummed_226
  refine q_run tkL_isSummed 132 1 (pc' := 227) (L' := [none, none, none, none, none, none, none]) (st' := [.inl (0 : Int32)]) rfl ?_
  exact q_zret (tbm tkL_isSummed (i := 133) rfl) rfl
def fL_isSummed_30 (c : Nat → Option Nat) : Nat → Hp → Option Nat → Int32 → Int32 → Int32 → Int32 → Int32 → Rs
  | 0, _, _, _, _, _, _, _ => none
  | n + 1, h, l0, l1, l2, l3, l4, l5 => if (l4 - (4 : Int32)) < l5 then (if 0 < l5 then (ck h l0 7 (cc (fX5_sign c h l0 l1 l5 (0 : Int32)) (kI fun h5 x6 => if x6 = (115 : Int32) then (ck h5 l0 7 (cc (fX5_sign c h5 l0 l1 l5 (1 : Int32)) (kI fun h7 x8 => if x8 = (117 : Int32) then (ck h7 l0 7 (cc (fX5_sign c h7 l0 l1 l5 (2 : Int32)) (kI fun h9 x10 => if x10 = (109 : Int32) then (ck h9 l0 7 (cc (fX5_sign c h9 l0 l1 l5 (3 : Int32)) (kI fun h11 x12 => if x12 = (32 : Int32) then (ck h11 l0 7 (cc (fX5_sign c h11 l0 l1 l5 (l2 - (1 : Int32))) (kI fun h13 x14 => dv (10 : Int32) (if x14 = ((48 : Int32) + (l3 - l3 / (10 : Int32) * (10 : Int32))) then (ck h13 l0 7 (cc (fX5_sign c h13 l0 l1 l5 (l2 - (2 : Int32))) (kI fun h15 x16 => dv (10 : Int32) (dv (10 : Int32) (if x16 = ((48 : Int32) + ((l3 / (10 : Int32)) - (l3 / (10 : Int32)) / (10 : Int32) * (10 : Int32))) then (ck h15 l0 7 (cc (fX5_sign c h15 l0 l1 l5 (l2 - (3 : Int32))) (kI fun h17 x18 => if x18 = (46 : Int32) then (ck h17 l0 7 (cc (fX5_sign c h17 l0 l1 l5 (l2 - (4 : Int32))) (kI fun h19 x20 => dv (100 : Int32) (dv (10 : Int32) (if x20 = ((48 : Int32) + ((l3 / (100 : Int32)) - (l3 / (100 : Int32)) / (10 : Int32) * (10 : Int32))) then (fL_isSummed_182 c h19 l0 l1 l2 l4 l5 (1 : Int32)) else (fL_isSummed_181 c h19 l0 l1 l2 l4 l5)))))) else (fL_isSummed_181 c h17 l0 l1 l2 l4 l5)))) else (fL_isSummed_181 c h15 l0 l1 l2 l4 l5)))))) else (fL_isSummed_181 c h13 l0 l1 l2 l4 l5))))) else (fL_isSummed_220 c (fL_isSummed_30 c n) h11 l0 l1 l2 l3 l4 l5)))) else (fL_isSummed_220 c (fL_isSummed_30 c n) h9 l0 l1 l2 l3 l4 l5)))) else (fL_isSummed_220 c (fL_isSummed_30 c n) h7 l0 l1 l2 l3 l4 l5)))) else (fL_isSummed_220 c (fL_isSummed_30 c n) h5 l0 l1 l2 l3 l4 l5)))) else (fL_isSummed_226 c h)) else (fL_isSummed_226 c h)
set_option maxHeartbeats 4000000 in
set_option maxRecDepth 100000 in
theorem sL_isSummed_30 (X : Cx) {h0 : Hp} : ∀ (n : Nat) (h : Hp) (l0 : Option Nat) (l1 : Int32) (l2 : Int32) (l3 : Int32) (l4 : Int32) (l5 : Int32), Gd X mL_isSummed h0 (fL_isSummed_30 X.2.2.2 n h l0 l1 l2 l3 l4 l5) h 30 [some (.inr (.inr l0)), some (.inl l1), some (.inl l2), some (.inl l3), some (.inl l4), some (.inl l5), none] [] := by
  intro n
  induction n with
  | zero => intros; exact gd_none
  | succ n ih =>
    intro h l0 l1 l2 l3 l4 l5
    unfold fL_isSummed_30
    refine q_run tkL_isSummed 19 4 (pc' := 36) (L' := [some (.inr (.inr l0)), some (.inl l1), some (.inl l2), some (.inl l3), some (.inl l4), some (.inl l5), none]) (st' := [.inl (l4 - (4 : Int32)), .inl l5]) rfl ?_
    refine q_icmp_le (tbm tkL_isSummed (i := 23) rfl) ?_ ?_
    · refine q_run tkL_isSummed 24 1 (pc' := 41) (L' := [some (.inr (.inr l0)), some (.inl l1), some (.inl l2), some (.inl l3), some (.inl l4), some (.inl l5), none]) (st' := [.inl l5]) rfl ?_
      refine q_if_le (tbm tkL_isSummed (i := 25) rfl) ?_ ?_
      · refine q_run tkL_isSummed 26 4 (pc' := 49) (L' := [some (.inr (.inr l0)), some (.inl l1), some (.inl l2), some (.inl l3), some (.inl l4), some (.inl l5), none]) (st' := [.inl (0 : Int32), .inl l5, .inl l1, .inr (.inr l0)]) rfl ?_
        refine q_cv (r := l0) (ci := 7) (n := 3) (as := [.inl l1, .inl l5, .inl (0 : Int32)]) (st := []) TX5 5 (soX5_sign X h l0 l1 l5 (0 : Int32)) (tbm tkL_isSummed (i := 30) rfl) rfl rfl ceX5_sign wd_809 wd_810 wd_808 rfl (Nat.le_of_ble_eq_true rfl) (kI_gd (fun h5 x6 => ?_))
        refine q_run tkL_isSummed 31 1 (pc' := 54) (L' := [some (.inr (.inr l0)), some (.inl l1), some (.inl l2), some (.inl l3), some (.inl l4), some (.inl l5), none]) (st' := [.inl (115 : Int32), .inl x6]) rfl ?_
        refine q_icmp_ne (tbm tkL_isSummed (i := 32) rfl) ?_ ?_
        · refine q_run tkL_isSummed 33 4 (pc' := 62) (L' := [some (.inr (.inr l0)), some (.inl l1), some (.inl l2), some (.inl l3), some (.inl l4), some (.inl l5), none]) (st' := [.inl (1 : Int32), .inl l5, .inl l1, .inr (.inr l0)]) rfl ?_
          refine q_cv (r := l0) (ci := 7) (n := 3) (as := [.inl l1, .inl l5, .inl (1 : Int32)]) (st := []) TX5 5 (soX5_sign X h5 l0 l1 l5 (1 : Int32)) (tbm tkL_isSummed (i := 37) rfl) rfl rfl ceX5_sign wd_809 wd_810 wd_808 rfl (Nat.le_of_ble_eq_true rfl) (kI_gd (fun h7 x8 => ?_))
          refine q_run tkL_isSummed 38 1 (pc' := 67) (L' := [some (.inr (.inr l0)), some (.inl l1), some (.inl l2), some (.inl l3), some (.inl l4), some (.inl l5), none]) (st' := [.inl (117 : Int32), .inl x8]) rfl ?_
          refine q_icmp_ne (tbm tkL_isSummed (i := 39) rfl) ?_ ?_
          · refine q_run tkL_isSummed 40 4 (pc' := 75) (L' := [some (.inr (.inr l0)), some (.inl l1), some (.inl l2), some (.inl l3), some (.inl l4), some (.inl l5), none]) (st' := [.inl (2 : Int32), .inl l5, .inl l1, .inr (.inr l0)]) rfl ?_
            refine q_cv (r := l0) (ci := 7) (n := 3) (as := [.inl l1, .inl l5, .inl (2 : Int32)]) (st := []) TX5 5 (soX5_sign X h7 l0 l1 l5 (2 : Int32)) (tbm tkL_isSummed (i := 44) rfl) rfl rfl ceX5_sign wd_809 wd_810 wd_808 rfl (Nat.le_of_ble_eq_true rfl) (kI_gd (fun h9 x10 => ?_))
            refine q_run tkL_isSummed 45 1 (pc' := 80) (L' := [some (.inr (.inr l0)), some (.inl l1), some (.inl l2), some (.inl l3), some (.inl l4), some (.inl l5), none]) (st' := [.inl (109 : Int32), .inl x10]) rfl ?_
            refine q_icmp_ne (tbm tkL_isSummed (i := 46) rfl) ?_ ?_
            · refine q_run tkL_isSummed 47 4 (pc' := 88) (L' := [some (.inr (.inr l0)), some (.inl l1), some (.inl l2), some (.inl l3), some (.inl l4), some (.inl l5), none]) (st' := [.inl (3 : Int32), .inl l5, .inl l1, .inr (.inr l0)]) rfl ?_
              refine q_cv (r := l0) (ci := 7) (n := 3) (as := [.inl l1, .inl l5, .inl (3 : Int32)]) (st := []) TX5 5 (soX5_sign X h9 l0 l1 l5 (3 : Int32)) (tbm tkL_isSummed (i := 51) rfl) rfl rfl ceX5_sign wd_809 wd_810 wd_808 rfl (Nat.le_of_ble_eq_true rfl) (kI_gd (fun h11 x12 => ?_))
              refine q_run tkL_isSummed 52 1 (pc' := 93) (L' := [some (.inr (.inr l0)), some (.inl l1), some (.inl l2), some (.inl l3), some (.inl l4), some (.inl l5), none]) (st' := [.inl (32 : Int32), .inl x12]) rfl ?_
              refine q_icmp_ne (tbm tkL_isSummed (i := 53) rfl) ?_ ?_
              · refine q_run tkL_isSummed 54 6 (pc' := 103) (L' := [some (.inr (.inr l0)), some (.inl l1), some (.inl l2), some (.inl l3), some (.inl l4), some (.inl l5), none]) (st' := [.inl (l2 - (1 : Int32)), .inl l5, .inl l1, .inr (.inr l0)]) rfl ?_
                refine q_cv (r := l0) (ci := 7) (n := 3) (as := [.inl l1, .inl l5, .inl (l2 - (1 : Int32))]) (st := []) TX5 5 (soX5_sign X h11 l0 l1 l5 (l2 - (1 : Int32))) (tbm tkL_isSummed (i := 60) rfl) rfl rfl ceX5_sign wd_809 wd_810 wd_808 rfl (Nat.le_of_ble_eq_true rfl) (kI_gd (fun h13 x14 => ?_))
                refine q_run tkL_isSummed 61 3 (pc' := 111) (L' := [some (.inr (.inr l0)), some (.inl l1), some (.inl l2), some (.inl l3), some (.inl l4), some (.inl l5), none]) (st' := [.inl (10 : Int32), .inl l3, .inl (48 : Int32), .inl x14]) rfl ?_
                refine q_rem (tbm tkL_isSummed (i := 64) rfl) ?_
                refine q_run tkL_isSummed 65 1 (pc' := 113) (L' := [some (.inr (.inr l0)), some (.inl l1), some (.inl l2), some (.inl l3), some (.inl l4), some (.inl l5), none]) (st' := [.inl ((48 : Int32) + (l3 - l3 / (10 : Int32) * (10 : Int32))), .inl x14]) rfl ?_
                refine q_icmp_ne (tbm tkL_isSummed (i := 66) rfl) ?_ ?_
                · refine q_run tkL_isSummed 67 6 (pc' := 123) (L' := [some (.inr (.inr l0)), some (.inl l1), some (.inl l2), some (.inl l3), some (.inl l4), some (.inl l5), none]) (st' := [.inl (l2 - (2 : Int32)), .inl l5, .inl l1, .inr (.inr l0)]) rfl ?_
                  refine q_cv (r := l0) (ci := 7) (n := 3) (as := [.inl l1, .inl l5, .inl (l2 - (2 : Int32))]) (st := []) TX5 5 (soX5_sign X h13 l0 l1 l5 (l2 - (2 : Int32))) (tbm tkL_isSummed (i := 73) rfl) rfl rfl ceX5_sign wd_809 wd_810 wd_808 rfl (Nat.le_of_ble_eq_true rfl) (kI_gd (fun h15 x16 => ?_))
                  refine q_run tkL_isSummed 74 3 (pc' := 131) (L' := [some (.inr (.inr l0)), some (.inl l1), some (.inl l2), some (.inl l3), some (.inl l4), some (.inl l5), none]) (st' := [.inl (10 : Int32), .inl l3, .inl (48 : Int32), .inl x16]) rfl ?_
                  refine q_div (tbm tkL_isSummed (i := 77) rfl) ?_
                  refine q_run tkL_isSummed 78 1 (pc' := 134) (L' := [some (.inr (.inr l0)), some (.inl l1), some (.inl l2), some (.inl l3), some (.inl l4), some (.inl l5), none]) (st' := [.inl (10 : Int32), .inl (l3 / (10 : Int32)), .inl (48 : Int32), .inl x16]) rfl ?_
                  refine q_rem (tbm tkL_isSummed (i := 79) rfl) ?_
                  refine q_run tkL_isSummed 80 1 (pc' := 136) (L' := [some (.inr (.inr l0)), some (.inl l1), some (.inl l2), some (.inl l3), some (.inl l4), some (.inl l5), none]) (st' := [.inl ((48 : Int32) + ((l3 / (10 : Int32)) - (l3 / (10 : Int32)) / (10 : Int32) * (10 : Int32))), .inl x16]) rfl ?_
                  refine q_icmp_ne (tbm tkL_isSummed (i := 81) rfl) ?_ ?_
                  · refine q_run tkL_isSummed 82 6 (pc' := 146) (L' := [some (.inr (.inr l0)), some (.inl l1), some (.inl l2), some (.inl l3), some (.inl l4), some (.inl l5), none]) (st' := [.inl (l2 - (3 : Int32)), .inl l5, .inl l1, .inr (.inr l0)]) rfl ?_
                    refine q_cv (r := l0) (ci := 7) (n := 3) (as := [.inl l1, .inl l5, .inl (l2 - (3 : Int32))]) (st := []) TX5 5 (soX5_sign X h15 l0 l1 l5 (l2 - (3 : Int32))) (tbm tkL_isSummed (i := 88) rfl) rfl rfl ceX5_sign wd_809 wd_810 wd_808 rfl (Nat.le_of_ble_eq_true rfl) (kI_gd (fun h17 x18 => ?_))
                    refine q_run tkL_isSummed 89 1 (pc' := 151) (L' := [some (.inr (.inr l0)), some (.inl l1), some (.inl l2), some (.inl l3), some (.inl l4), some (.inl l5), none]) (st' := [.inl (46 : Int32), .inl x18]) rfl ?_
                    refine q_icmp_ne (tbm tkL_isSummed (i := 90) rfl) ?_ ?_
                    · refine q_run tkL_isSummed 91 6 (pc' := 161) (L' := [some (.inr (.inr l0)), some (.inl l1), some (.inl l2), some (.inl l3), some (.inl l4), some (.inl l5), none]) (st' := [.inl (l2 - (4 : Int32)), .inl l5, .inl l1, .inr (.inr l0)]) rfl ?_
                      refine q_cv (r := l0) (ci := 7) (n := 3) (as := [.inl l1, .inl l5, .inl (l2 - (4 : Int32))]) (st := []) TX5 5 (soX5_sign X h17 l0 l1 l5 (l2 - (4 : Int32))) (tbm tkL_isSummed (i := 97) rfl) rfl rfl ceX5_sign wd_809 wd_810 wd_808 rfl (Nat.le_of_ble_eq_true rfl) (kI_gd (fun h19 x20 => ?_))
                      refine q_run tkL_isSummed 98 3 (pc' := 169) (L' := [some (.inr (.inr l0)), some (.inl l1), some (.inl l2), some (.inl l3), some (.inl l4), some (.inl l5), none]) (st' := [.inl (100 : Int32), .inl l3, .inl (48 : Int32), .inl x20]) rfl ?_
                      refine q_div (tbm tkL_isSummed (i := 101) rfl) ?_
                      refine q_run tkL_isSummed 102 1 (pc' := 172) (L' := [some (.inr (.inr l0)), some (.inl l1), some (.inl l2), some (.inl l3), some (.inl l4), some (.inl l5), none]) (st' := [.inl (10 : Int32), .inl (l3 / (100 : Int32)), .inl (48 : Int32), .inl x20]) rfl ?_
                      refine q_rem (tbm tkL_isSummed (i := 103) rfl) ?_
                      refine q_run tkL_isSummed 104 1 (pc' := 174) (L' := [some (.inr (.inr l0)), some (.inl l1), some (.inl l2), some (.inl l3), some (.inl l4), some (.inl l5), none]) (st' := [.inl ((48 : Int32) + ((l3 / (100 : Int32)) - (l3 / (100 : Int32)) / (10 : Int32) * (10 : Int32))), .inl x20]) rfl ?_
                      refine q_icmp_ne (tbm tkL_isSummed (i := 105) rfl) ?_ ?_
                      · refine q_run tkL_isSummed 106 2 (pc' := 182) (L' := [some (.inr (.inr l0)), some (.inl l1), some (.inl l2), some (.inl l3), some (.inl l4), some (.inl l5), none]) (st' := [.inl (1 : Int32)]) rfl ?_
                        refine q_le (L' := [some (.inr (.inr l0)), some (.inl l1), some (.inl l2), none, some (.inl l4), some (.inl l5), none]) (lvLe_s (lvLe_s (lvLe_s (lvLe_n (lvLe_s (lvLe_s (lvLe_n lvLe_0))))))) ?_
                        exact sL_isSummed_182 X h19 l0 l1 l2 l4 l5 (1 : Int32)
                      · refine q_le (L' := [some (.inr (.inr l0)), some (.inl l1), some (.inl l2), none, some (.inl l4), some (.inl l5), none]) (lvLe_s (lvLe_s (lvLe_s (lvLe_n (lvLe_s (lvLe_s (lvLe_n lvLe_0))))))) ?_
                        exact sL_isSummed_181 X h19 l0 l1 l2 l4 l5
                    · refine q_le (L' := [some (.inr (.inr l0)), some (.inl l1), some (.inl l2), none, some (.inl l4), some (.inl l5), none]) (lvLe_s (lvLe_s (lvLe_s (lvLe_n (lvLe_s (lvLe_s (lvLe_n lvLe_0))))))) ?_
                      exact sL_isSummed_181 X h17 l0 l1 l2 l4 l5
                  · refine q_le (L' := [some (.inr (.inr l0)), some (.inl l1), some (.inl l2), none, some (.inl l4), some (.inl l5), none]) (lvLe_s (lvLe_s (lvLe_s (lvLe_n (lvLe_s (lvLe_s (lvLe_n lvLe_0))))))) ?_
                    exact sL_isSummed_181 X h15 l0 l1 l2 l4 l5
                · refine q_le (L' := [some (.inr (.inr l0)), some (.inl l1), some (.inl l2), none, some (.inl l4), some (.inl l5), none]) (lvLe_s (lvLe_s (lvLe_s (lvLe_n (lvLe_s (lvLe_s (lvLe_n lvLe_0))))))) ?_
                  exact sL_isSummed_181 X h13 l0 l1 l2 l4 l5
              · exact sL_isSummed_220 X (fL_isSummed_30 X.2.2.2 n) ih h11 l0 l1 l2 l3 l4 l5
            · exact sL_isSummed_220 X (fL_isSummed_30 X.2.2.2 n) ih h9 l0 l1 l2 l3 l4 l5
          · exact sL_isSummed_220 X (fL_isSummed_30 X.2.2.2 n) ih h7 l0 l1 l2 l3 l4 l5
        · exact sL_isSummed_220 X (fL_isSummed_30 X.2.2.2 n) ih h5 l0 l1 l2 l3 l4 l5
      · refine q_le (L' := [none, none, none, none, none, none, none]) (lvLe_n (lvLe_n (lvLe_n (lvLe_n (lvLe_n (lvLe_n (lvLe_n lvLe_0))))))) ?_
        exact sL_isSummed_226 X h
    · refine q_le (L' := [none, none, none, none, none, none, none]) (lvLe_n (lvLe_n (lvLe_n (lvLe_n (lvLe_n (lvLe_n (lvLe_n lvLe_0))))))) ?_
      exact sL_isSummed_226 X h
def fL_isSummed (c : Nat → Option Nat) (h : Hp) (a0 : Option Nat) (a1 : Int32) : Rs := ck h a0 7 (cc (fX5_ofReceipt c h a0 a1 (8 : Int32)) (kI fun h21 x22 => ck h21 a0 7 (cc (fX5_ofReceipt c h21 a0 a1 (5 : Int32)) (kI fun h23 x24 => ck h23 a0 7 (cc (fX5_ofReceipt c h23 a0 a1 (6 : Int32)) (kI fun h25 x26 => fL_isSummed_30 c FU h25 a0 a1 x22 x24 x26 (x26 - (1 : Int32))))))))
set_option maxHeartbeats 4000000 in
set_option maxRecDepth 100000 in
theorem soL_isSummed (X : Cx) (h : Hp) (a0 : Option Nat) (a1 : Int32) : SO X mL_isSummed [.inr (.inr a0), .inl a1] h (fL_isSummed X.2.2.2 h a0 a1) := by
  refine so_of (by decide +kernel) (Nat.le_of_ble_eq_true rfl) ?_
  show Gd X mL_isSummed h (fL_isSummed X.2.2.2 h a0 a1) h 0 [some (.inr (.inr a0)), some (.inl a1), none, none, none, none, none] []
  unfold fL_isSummed
  refine q_run tkL_isSummed 0 3 (pc' := 4) (L' := [some (.inr (.inr a0)), some (.inl a1), none, none, none, none, none]) (st' := [.inl (8 : Int32), .inl a1, .inr (.inr a0)]) rfl ?_
  refine q_cv (r := a0) (ci := 7) (n := 2) (as := [.inl a1, .inl (8 : Int32)]) (st := []) TX5 5 (soX5_ofReceipt X h a0 a1 (8 : Int32)) (tbm tkL_isSummed (i := 3) rfl) rfl rfl ceX5_ofReceipt wd_265 wd_266 wd_264 rfl (Nat.le_of_ble_eq_true rfl) (kI_gd (fun h21 x22 => ?_))
  refine q_run tkL_isSummed 4 4 (pc' := 11) (L' := [some (.inr (.inr a0)), some (.inl a1), some (.inl x22), none, none, none, none]) (st' := [.inl (5 : Int32), .inl a1, .inr (.inr a0)]) rfl ?_
  refine q_cv (r := a0) (ci := 7) (n := 2) (as := [.inl a1, .inl (5 : Int32)]) (st := []) TX5 5 (soX5_ofReceipt X h21 a0 a1 (5 : Int32)) (tbm tkL_isSummed (i := 8) rfl) rfl rfl ceX5_ofReceipt wd_265 wd_266 wd_264 rfl (Nat.le_of_ble_eq_true rfl) (kI_gd (fun h23 x24 => ?_))
  refine q_run tkL_isSummed 9 4 (pc' := 19) (L' := [some (.inr (.inr a0)), some (.inl a1), some (.inl x22), some (.inl x24), none, none, none]) (st' := [.inl (6 : Int32), .inl a1, .inr (.inr a0)]) rfl ?_
  refine q_cv (r := a0) (ci := 7) (n := 2) (as := [.inl a1, .inl (6 : Int32)]) (st := []) TX5 5 (soX5_ofReceipt X h23 a0 a1 (6 : Int32)) (tbm tkL_isSummed (i := 13) rfl) rfl rfl ceX5_ofReceipt wd_265 wd_266 wd_264 rfl (Nat.le_of_ble_eq_true rfl) (kI_gd (fun h25 x26 => ?_))
  refine q_run tkL_isSummed 14 5 (pc' := 30) (L' := [some (.inr (.inr a0)), some (.inl a1), some (.inl x22), some (.inl x24), some (.inl x26), some (.inl (x26 - (1 : Int32))), none]) (st' := []) rfl ?_
  exact sL_isSummed_30 X FU h25 a0 a1 x22 x24 x26 (x26 - (1 : Int32))
theorem ceL_isSummed : Ce mL_isSummed 2 := ⟨wd_17, wd_807, by decide +kernel, by decide +kernel, by decide +kernel⟩
/-- ReceiptRollsLaw.holds -/
abbrev mL_holds : MI := (yL_holds, cL_holds, 9, some .boolean, 10)
def tbL_holds : List TE := [(0, .iconst 0, 1, 0, 0), (1, .istore_n 2, 1, 0, 0), (2, .iconst 0, 1, 0, 0), (3, .istore_n 3, 1, 0, 0), (4, .iconst 0, 1, 0, 0), (5, .istore 4, 2, 0, 0), (7, .iconst 1, 1, 1, 0), (8, .istore 5, 2, 0, 0), (10, .iload 5, 2, 0, 0), (12, .aload_n 0, 1, 0, 0), (13, .iconst 1, 1, 1, 0), (14, .invokevirtual 12, 3, 0, 0), (17, .if_icmp .gt 177, 3, 0, 194), (20, .aload_n 0, 1, 0, 0), (21, .iload 5, 2, 0, 0), (23, .iconst 0, 1, 0, 0), (24, .invokevirtual 25, 3, 0, 0), (27, .istore 6, 2, 0, 0), (29, .iload 6, 2, 0, 0), (31, .ifCond .lt 157, 3, 0, 188), (34, .aload_n 0, 1, 0, 0), (35, .iload 5, 2, 0, 0), (37, .bipush 6, 2, 6, 0), (39, .invokevirtual 25, 3, 0, 0), (42, .istore 7, 2, 0, 0), (44, .aload_n 0, 1, 0, 0), (45, .iload 5, 2, 0, 0), (47, .bipush 7, 2, 7, 0), (49, .invokevirtual 25, 3, 0, 0), (52, .istore 8, 2, 0, 0), (54, .iload_n 2, 1, 0, 0), (55, .iload 6, 2, 0, 0), (57, .ifCond .ne 7, 3, 0, 64), (60, .iconst 1, 1, 1, 0), (61, .goto 4, 3, 0, 65), (64, .iconst 0, 1, 0, 0), (65, .iadd, 1, 0, 0), (66, .istore_n 2, 1, 0, 0), (67, .iload_n 3, 1, 0, 0), (68, .iload 6, 2, 0, 0), (70, .iconst 1, 1, 1, 0), (71, .if_icmp .ne 7, 3, 0, 78), (74, .iconst 1, 1, 1, 0), (75, .goto 4, 3, 0, 79), (78, .iconst 0, 1, 0, 0), (79, .iadd, 1, 0, 0), (80, .istore_n 3, 1, 0, 0), (81, .iload 4, 2, 0, 0), (83, .iload 6, 2, 0, 0), (85, .iconst 2, 1, 2, 0), (86, .if_icmp .ge 11, 3, 0, 97), (89, .iload 7, 2, 0, 0), (91, .iload 8, 2, 0, 0), (93, .isub, 1, 0, 0), (94, .goto 4, 3, 0, 98), (97, .iconst 0, 1, 0, 0), (98, .iadd, 1, 0, 0), (99, .istore 4, 2, 0, 0), (101, .iload 6, 2, 0, 0), (103, .ifCond .ne 8, 3, 0, 111), (106, .iload 8, 2, 0, 0), (108, .ifCond .ne 78, 3, 0, 186), (111, .iload 6, 2, 0, 0), (113, .iconst 2, 1, 2, 0), (114, .if_icmp .ne 10, 3, 0, 124), (117, .iload 8, 2, 0, 0), (119, .iload 7, 2, 0, 0), (121, .if_icmp .ne 65, 3, 0, 186), (124, .iload 6, 2, 0, 0), (126, .iconst 1, 1, 1, 0), (127, .if_icmp .ne 20, 3, 0, 147), (130, .iload 8, 2, 0, 0), (132, .iload 7, 2, 0, 0), (134, .if_icmp .ge 52, 3, 0, 186), (137, .aload_n 0, 1, 0, 0), (138, .iconst 0, 1, 0, 0), (139, .invokevirtual 18, 3, 0, 0), (142, .iload 5, 2, 0, 0), (144, .if_icmp .ne 42, 3, 0, 186), (147, .iload 6, 2, 0, 0), (149, .iconst 2, 1, 2, 0), (150, .if_icmp .ne 7, 3, 0, 157), (153, .iconst 1, 1, 1, 0), (154, .goto 4, 3, 0, 158), (157, .iconst 0, 1, 0, 0), (158, .aload_n 0, 1, 0, 0), (159, .iload 5, 2, 0, 0), (161, .bipush 9, 2, 9, 0), (163, .invokevirtual 25, 3, 0, 0), (166, .ifCond .lt 7, 3, 0, 173), (169, .iconst 1, 1, 1, 0), (170, .goto 4, 3, 0, 174), (173, .iconst 0, 1, 0, 0), (174, .if_icmp .ne 12, 3, 0, 186), (177, .aload_n 0, 1, 0, 0), (178, .iload 5, 2, 0, 0), (180, .invokestatic 72, 3, 0, 0), (183, .ifCond .ne 5, 3, 0, 188), (186, .iconst 0, 1, 0, 0), (187, .ireturn, 1, 0, 0), (188, .iinc 5 1, 3, 1, 0), (191, .goto (-181), 3, 0, 10), (194, .aload_n 0, 1, 0, 0), (195, .iconst 0, 1, 0, 0), (196, .invokevirtual 18, 3, 0, 0), (199, .istore 5, 2, 0, 0), (201, .aload_n 0, 1, 0, 0), (202, .iconst 2, 1, 2, 0), (203, .invokevirtual 18, 3, 0, 0), (206, .aload_n 0, 1, 0, 0), (207, .iconst 3, 1, 3, 0), (208, .invokevirtual 18, 3, 0, 0), (211, .isub, 1, 0, 0), (212, .iload_n 1, 1, 0, 0), (213, .iload 5, 2, 0, 0), (215, .ifCond .ge 7, 3, 0, 222), (218, .iconst 0, 1, 0, 0), (219, .goto 11, 3, 0, 230), (222, .aload_n 0, 1, 0, 0), (223, .iload 5, 2, 0, 0), (225, .bipush 7, 2, 7, 0), (227, .invokevirtual 25, 3, 0, 0), (230, .iadd, 1, 0, 0), (231, .if_icmp .ne 7, 3, 0, 238), (234, .iconst 1, 1, 1, 0), (235, .goto 4, 3, 0, 239), (238, .iconst 0, 1, 0, 0), (239, .istore 6, 2, 0, 0), (241, .iload_n 3, 1, 0, 0), (242, .iconst 1, 1, 1, 0), (243, .if_icmp .gt 77, 3, 0, 320), (246, .iload_n 3, 1, 0, 0), (247, .ifCond .ne 7, 3, 0, 254), (250, .iconst 1, 1, 1, 0), (251, .goto 4, 3, 0, 255), (254, .iconst 0, 1, 0, 0), (255, .iload 5, 2, 0, 0), (257, .ifCond .ge 7, 3, 0, 264), (260, .iconst 1, 1, 1, 0), (261, .goto 4, 3, 0, 265), (264, .iconst 0, 1, 0, 0), (265, .if_icmp .ne 55, 3, 0, 320), (268, .iload_n 2, 1, 0, 0), (269, .aload_n 0, 1, 0, 0), (270, .iconst 2, 1, 2, 0), (271, .invokevirtual 12, 3, 0, 0), (274, .if_icmp .ne 46, 3, 0, 320), (277, .iload 4, 2, 0, 0), (279, .aload_n 0, 1, 0, 0), (280, .invokevirtual 76, 3, 0, 0), (283, .if_icmp .ne 37, 3, 0, 320), (286, .iload 6, 2, 0, 0), (288, .ifCond .eq 32, 3, 0, 320), (291, .aload_n 0, 1, 0, 0), (292, .iconst 1, 1, 1, 0), (293, .invokevirtual 12, 3, 0, 0), (296, .aload_n 0, 1, 0, 0), (297, .iconst 3, 1, 3, 0), (298, .invokevirtual 12, 3, 0, 0), (301, .iload_n 2, 1, 0, 0), (302, .iadd, 1, 0, 0), (303, .iload_n 3, 1, 0, 0), (304, .iadd, 1, 0, 0), (305, .if_icmp .ne 15, 3, 0, 320), (308, .aload_n 0, 1, 0, 0), (309, .iconst 1, 1, 1, 0), (310, .invokevirtual 18, 3, 0, 0), (313, .ifCond .lt 7, 3, 0, 320), (316, .iconst 1, 1, 1, 0), (317, .goto 4, 3, 0, 321), (320, .iconst 0, 1, 0, 0), (321, .ireturn, 1, 0, 0)]
theorem tkL_holds : ∀ x ∈ tbL_holds, tbB cL_holds x = true := tb_all (by decide +kernel)
def fL_holds_186 (c : Nat → Option Nat) (h : Hp) : Rs := rtI .boolean h (0 : Int32)
set_option maxHeartbeats 4000000 in
set_option maxRecDepth 100000 in
theorem sL_holds_186 (X : Cx) {h0 : Hp} (h : Hp) : Gd X mL_holds h0 (fL_holds_186 X.2.2.2 h) h 186 [none, none, none, none, none, none, none, none, none] [] := by
  unfold fL_holds_186
  refine q_run tkL_holds 98 1 (pc' := 187) (L' := [none, none, none, none, none, none, none, none, none]) (st' := [.inl (0 : Int32)]) rfl ?_
  exact q_zret (tbm tkL_holds (i := 99) rfl) rfl
def fL_holds_188 (c : Nat → Option Nat) (k10 : Hp → Option Nat → Int32 → Int32 → Int32 → Int32 → Int32 → Rs) (h : Hp) (l0 : Option Nat) (l1 : Int32) (l2 : Int32) (l3 : Int32) (l4 : Int32) (l5 : Int32) : Rs := k10 h l0 l1 l2 l3 l4 (l5 + (1 : Int32))
set_option maxHeartbeats 4000000 in
set_option maxRecDepth 100000 in
theorem sL_holds_188 (X : Cx) {h0 : Hp} (k10 : Hp → Option Nat → Int32 → Int32 → Int32 → Int32 → Int32 → Rs) (hk10 : ∀ (h : Hp) (l0 : Option Nat) (l1 : Int32) (l2 : Int32) (l3 : Int32) (l4 : Int32) (l5 : Int32), Gd X mL_holds h0 (k10 h l0 l1 l2 l3 l4 l5) h 10 [some (.inr (.inr l0)), some (.inl l1), some (.inl l2), some (.inl l3), some (.inl l4), some (.inl l5), none, none, none] []) (h : Hp) (l0 : Option Nat) (l1 : Int32) (l2 : Int32) (l3 : Int32) (l4 : Int32) (l5 : Int32) : Gd X mL_holds h0 (fL_holds_188 X.2.2.2 k10 h l0 l1 l2 l3 l4 l5) h 188 [some (.inr (.inr l0)), some (.inl l1), some (.inl l2), some (.inl l3), some (.inl l4), some (.inl l5), none, none, none] [] := by
  unfold fL_holds_188
  refine q_run tkL_holds 100 2 (pc' := 10) (L' := [some (.inr (.inr l0)), some (.inl l1), some (.inl l2), some (.inl l3), some (.inl l4), some (.inl (l5 + (1 : Int32))), none, none, none]) (st' := []) rfl ?_
  exact hk10 h l0 l1 l2 l3 l4 (l5 + (1 : Int32))
def fL_holds_174 (c : Nat → Option Nat) (k10 : Hp → Option Nat → Int32 → Int32 → Int32 → Int32 → Int32 → Rs) (h : Hp) (l0 : Option Nat) (l1 : Int32) (l2 : Int32) (l3 : Int32) (l4 : Int32) (l5 : Int32) (s0 : Int32) (s1 : Int32) : Rs := if s0 = s1 then (cc (fL_isSummed c h l0 l5) (kI fun h1 x2 => if x2 = 0 then (fL_holds_186 c h1) else (fL_holds_188 c k10 h1 l0 l1 l2 l3 l4 l5))) else (fL_holds_186 c h)
set_option maxHeartbeats 4000000 in
set_option maxRecDepth 100000 in
theorem sL_holds_174 (X : Cx) {h0 : Hp} (k10 : Hp → Option Nat → Int32 → Int32 → Int32 → Int32 → Int32 → Rs) (hk10 : ∀ (h : Hp) (l0 : Option Nat) (l1 : Int32) (l2 : Int32) (l3 : Int32) (l4 : Int32) (l5 : Int32), Gd X mL_holds h0 (k10 h l0 l1 l2 l3 l4 l5) h 10 [some (.inr (.inr l0)), some (.inl l1), some (.inl l2), some (.inl l3), some (.inl l4), some (.inl l5), none, none, none] []) (h : Hp) (l0 : Option Nat) (l1 : Int32) (l2 : Int32) (l3 : Int32) (l4 : Int32) (l5 : Int32) (s0 : Int32) (s1 : Int32) : Gd X mL_holds h0 (fL_holds_174 X.2.2.2 k10 h l0 l1 l2 l3 l4 l5 s0 s1) h 174 [some (.inr (.inr l0)), some (.inl l1), some (.inl l2), some (.inl l3), some (.inl l4), some (.inl l5), none, none, none] [.inl s1, .inl s0] := by
  unfold fL_holds_174
  refine q_icmp_ne (tbm tkL_holds (i := 93) rfl) ?_ ?_
  · refine q_run tkL_holds 94 2 (pc' := 180) (L' := [some (.inr (.inr l0)), some (.inl l1), some (.inl l2), some (.inl l3), some (.inl l4), some (.inl l5), none, none, none]) (st' := [.inl l5, .inr (.inr l0)]) rfl ?_
    refine q_cs (n := 2) (as := [.inr (.inr l0), .inl l5]) (st := []) (soL_isSummed X h l0 l5) (tbm tkL_holds (i := 96) rfl) rfl ceL_isSummed wd_806 wd_805 rfl (Nat.le_of_ble_eq_true rfl) (kI_gd (fun h1 x2 => ?_))
    refine q_if_ne (tbm tkL_holds (i := 97) rfl) ?_ ?_
    · refine q_le (L' := [none, none, none, none, none, none, none, none, none]) (lvLe_n (lvLe_n (lvLe_n (lvLe_n (lvLe_n (lvLe_n (lvLe_n (lvLe_n (lvLe_n lvLe_0))))))))) ?_
      exact sL_holds_186 X h1
    · exact sL_holds_188 X k10 hk10 h1 l0 l1 l2 l3 l4 l5
  · refine q_le (L' := [none, none, none, none, none, none, none, none, none]) (lvLe_n (lvLe_n (lvLe_n (lvLe_n (lvLe_n (lvLe_n (lvLe_n (lvLe_n (lvLe_n lvLe_0))))))))) ?_
    exact sL_holds_186 X h
def fL_holds_158 (c : Nat → Option Nat) (k10 : Hp → Option Nat → Int32 → Int32 → Int32 → Int32 → Int32 → Rs) (h : Hp) (l0 : Option Nat) (l1 : Int32) (l2 : Int32) (l3 : Int32) (l4 : Int32) (l5 : Int32) (s0 : Int32) : Rs := ck h l0 7 (cc (fX5_ofReceipt c h l0 l5 (9 : Int32)) (kI fun h3 x4 => if x4 < 0 then (fL_holds_174 c k10 h3 l0 l1 l2 l3 l4 l5 s0 (0 : Int32)) else (fL_holds_174 c k10 h3 l0 l1 l2 l3 l4 l5 s0 (1 : Int32))))
set_option maxHeartbeats 4000000 in
set_option maxRecDepth 100000 in
theorem sL_holds_158 (X : Cx) {h0 : Hp} (k10 : Hp → Option Nat → Int32 → Int32 → Int32 → Int32 → Int32 → Rs) (hk10 : ∀ (h : Hp) (l0 : Option Nat) (l1 : Int32) (l2 : Int32) (l3 : Int32) (l4 : Int32) (l5 : Int32), Gd X mL_holds h0 (k10 h l0 l1 l2 l3 l4 l5) h 10 [some (.inr (.inr l0)), some (.inl l1), some (.inl l2), some (.inl l3), some (.inl l4), some (.inl l5), none, none, none] []) (h : Hp) (l0 : Option Nat) (l1 : Int32) (l2 : Int32) (l3 : Int32) (l4 : Int32) (l5 : Int32) (s0 : Int32) : Gd X mL_holds h0 (fL_holds_158 X.2.2.2 k10 h l0 l1 l2 l3 l4 l5 s0) h 158 [some (.inr (.inr l0)), some (.inl l1), some (.inl l2), some (.inl l3), some (.inl l4), some (.inl l5), none, none, none] [.inl s0] := by
  unfold fL_holds_158
  refine q_run tkL_holds 85 3 (pc' := 163) (L' := [some (.inr (.inr l0)), some (.inl l1), some (.inl l2), some (.inl l3), some (.inl l4), some (.inl l5), none, none, none]) (st' := [.inl (9 : Int32), .inl l5, .inr (.inr l0), .inl s0]) rfl ?_
  refine q_cv (r := l0) (ci := 7) (n := 2) (as := [.inl l5, .inl (9 : Int32)]) (st := [.inl s0]) TX5 5 (soX5_ofReceipt X h l0 l5 (9 : Int32)) (tbm tkL_holds (i := 88) rfl) rfl rfl ceX5_ofReceipt wd_265 wd_266 wd_264 rfl (Nat.le_of_ble_eq_true rfl) (kI_gd (fun h3 x4 => ?_))
  refine q_if_lt (tbm tkL_holds (i := 89) rfl) ?_ ?_
  · refine q_run tkL_holds 92 1 (pc' := 174) (L' := [some (.inr (.inr l0)), some (.inl l1), some (.inl l2), some (.inl l3), some (.inl l4), some (.inl l5), none, none, none]) (st' := [.inl (0 : Int32), .inl s0]) rfl ?_
    exact sL_holds_174 X k10 hk10 h3 l0 l1 l2 l3 l4 l5 s0 (0 : Int32)
  · refine q_run tkL_holds 90 2 (pc' := 174) (L' := [some (.inr (.inr l0)), some (.inl l1), some (.inl l2), some (.inl l3), some (.inl l4), some (.inl l5), none, none, none]) (st' := [.inl (1 : Int32), .inl s0]) rfl ?_
    exact sL_holds_174 X k10 hk10 h3 l0 l1 l2 l3 l4 l5 s0 (1 : Int32)
def fL_holds_147 (c : Nat → Option Nat) (k10 : Hp → Option Nat → Int32 → Int32 → Int32 → Int32 → Int32 → Rs) (h : Hp) (l0 : Option Nat) (l1 : Int32) (l2 : Int32) (l3 : Int32) (l4 : Int32) (l5 : Int32) (l6 : Int32) : Rs := if l6 = (2 : Int32) then (fL_holds_158 c k10 h l0 l1 l2 l3 l4 l5 (1 : Int32)) else (fL_holds_158 c k10 h l0 l1 l2 l3 l4 l5 (0 : Int32))
set_option maxHeartbeats 4000000 in
set_option maxRecDepth 100000 in
theorem sL_holds_147 (X : Cx) {h0 : Hp} (k10 : Hp → Option Nat → Int32 → Int32 → Int32 → Int32 → Int32 → Rs) (hk10 : ∀ (h : Hp) (l0 : Option Nat) (l1 : Int32) (l2 : Int32) (l3 : Int32) (l4 : Int32) (l5 : Int32), Gd X mL_holds h0 (k10 h l0 l1 l2 l3 l4 l5) h 10 [some (.inr (.inr l0)), some (.inl l1), some (.inl l2), some (.inl l3), some (.inl l4), some (.inl l5), none, none, none] []) (h : Hp) (l0 : Option Nat) (l1 : Int32) (l2 : Int32) (l3 : Int32) (l4 : Int32) (l5 : Int32) (l6 : Int32) : Gd X mL_holds h0 (fL_holds_147 X.2.2.2 k10 h l0 l1 l2 l3 l4 l5 l6) h 147 [some (.inr (.inr l0)), some (.inl l1), some (.inl l2), some (.inl l3), some (.inl l4), some (.inl l5), some (.inl l6), none, none] [] := by
  unfold fL_holds_147
  refine q_run tkL_holds 79 2 (pc' := 150) (L' := [some (.inr (.inr l0)), some (.inl l1), some (.inl l2), some (.inl l3), some (.inl l4), some (.inl l5), some (.inl l6), none, none]) (st' := [.inl (2 : Int32), .inl l6]) rfl ?_
  refine q_icmp_ne (tbm tkL_holds (i := 81) rfl) ?_ ?_
  · refine q_run tkL_holds 82 2 (pc' := 158) (L' := [some (.inr (.inr l0)), some (.inl l1), some (.inl l2), some (.inl l3), some (.inl l4), some (.inl l5), some (.inl l6), none, none]) (st' := [.inl (1 : Int32)]) rfl ?_
    refine q_le (L' := [some (.inr (.inr l0)), some (.inl l1), some (.inl l2), some (.inl l3), some (.inl l4), some (.inl l5), none, none, none]) (lvLe_s (lvLe_s (lvLe_s (lvLe_s (lvLe_s (lvLe_s (lvLe_n (lvLe_n (lvLe_n lvLe_0))))))))) ?_
    exact sL_holds_158 X k10 hk10 h l0 l1 l2 l3 l4 l5 (1 : Int32)
  · refine q_run tkL_holds 84 1 (pc' := 158) (L' := [some (.inr (.inr l0)), some (.inl l1), some (.inl l2), some (.inl l3), some (.inl l4), some (.inl l5), some (.inl l6), none, none]) (st' := [.inl (0 : Int32)]) rfl ?_
    refine q_le (L' := [some (.inr (.inr l0)), some (.inl l1), some (.inl l2), some (.inl l3), some (.inl l4), some (.inl l5), none, none, none]) (lvLe_s (lvLe_s (lvLe_s (lvLe_s (lvLe_s (lvLe_s (lvLe_n (lvLe_n (lvLe_n lvLe_0))))))))) ?_
    exact sL_holds_158 X k10 hk10 h l0 l1 l2 l3 l4 l5 (0 : Int32)
def fL_holds_124 (c : Nat → Option Nat) (k10 : Hp → Option Nat → Int32 → Int32 → Int32 → Int32 → Int32 → Rs) (h : Hp) (l0 : Option Nat) (l1 : Int32) (l2 : Int32) (l3 : Int32) (l4 : Int32) (l5 : Int32) (l6 : Int32) (l7 : Int32) (l8 : Int32) : Rs := if l6 = (1 : Int32) then (if l8 < l7 then (ck h l0 7 (cc (fX5_printer c h l0 (0 : Int32)) (kI fun h5 x6 => if x6 = l5 then (fL_holds_147 c k10 h5 l0 l1 l2 l3 l4 l5 l6) else (fL_holds_186 c h5)))) else (fL_holds_186 c h)) else (fL_holds_147 c k10 h l0 l1 l2 l3 l4 l5 l6)
set_option maxHeartbeats 4000000 in
set_option maxRecDepth 100000 in
theorem sL_holds_124 (X : Cx) {h0 : Hp} (k10 : Hp → Option Nat → Int32 → Int32 → Int32 → Int32 → Int32 → Rs) (hk10 : ∀ (h : Hp) (l0 : Option Nat) (l1 : Int32) (l2 : Int32) (l3 : Int32) (l4 : Int32) (l5 : Int32), Gd X mL_holds h0 (k10 h l0 l1 l2 l3 l4 l5) h 10 [some (.inr (.inr l0)), some (.inl l1), some (.inl l2), some (.inl l3), some (.inl l4), some (.inl l5), none, none, none] []) (h : Hp) (l0 : Option Nat) (l1 : Int32) (l2 : Int32) (l3 : Int32) (l4 : Int32) (l5 : Int32) (l6 : Int32) (l7 : Int32) (l8 : Int32) : Gd X mL_holds h0 (fL_holds_124 X.2.2.2 k10 h l0 l1 l2 l3 l4 l5 l6 l7 l8) h 124 [some (.inr (.inr l0)), some (.inl l1), some (.inl l2), some (.inl l3), some (.inl l4), some (.inl l5), some (.inl l6), some (.inl l7), some (.inl l8)] [] := by
  unfold fL_holds_124
  refine q_run tkL_holds 68 2 (pc' := 127) (L' := [some (.inr (.inr l0)), some (.inl l1), some (.inl l2), some (.inl l3), some (.inl l4), some (.inl l5), some (.inl l6), some (.inl l7), some (.inl l8)]) (st' := [.inl (1 : Int32), .inl l6]) rfl ?_
  refine q_icmp_ne (tbm tkL_holds (i := 70) rfl) ?_ ?_
  · refine q_run tkL_holds 71 2 (pc' := 134) (L' := [some (.inr (.inr l0)), some (.inl l1), some (.inl l2), some (.inl l3), some (.inl l4), some (.inl l5), some (.inl l6), some (.inl l7), some (.inl l8)]) (st' := [.inl l7, .inl l8]) rfl ?_
    refine q_icmp_ge (tbm tkL_holds (i := 73) rfl) ?_ ?_
    · refine q_run tkL_holds 74 2 (pc' := 139) (L' := [some (.inr (.inr l0)), some (.inl l1), some (.inl l2), some (.inl l3), some (.inl l4), some (.inl l5), some (.inl l6), some (.inl l7), some (.inl l8)]) (st' := [.inl (0 : Int32), .inr (.inr l0)]) rfl ?_
      refine q_cv (r := l0) (ci := 7) (n := 1) (as := [.inl (0 : Int32)]) (st := []) TX5 5 (soX5_printer X h l0 (0 : Int32)) (tbm tkL_holds (i := 76) rfl) rfl rfl ceX5_printer wd_307 wd_308 wd_306 rfl (Nat.le_of_ble_eq_true rfl) (kI_gd (fun h5 x6 => ?_))
      refine q_run tkL_holds 77 1 (pc' := 144) (L' := [some (.inr (.inr l0)), some (.inl l1), some (.inl l2), some (.inl l3), some (.inl l4), some (.inl l5), some (.inl l6), some (.inl l7), some (.inl l8)]) (st' := [.inl l5, .inl x6]) rfl ?_
      refine q_icmp_ne (tbm tkL_holds (i := 78) rfl) ?_ ?_
      · refine q_le (L' := [some (.inr (.inr l0)), some (.inl l1), some (.inl l2), some (.inl l3), some (.inl l4), some (.inl l5), some (.inl l6), none, none]) (lvLe_s (lvLe_s (lvLe_s (lvLe_s (lvLe_s (lvLe_s (lvLe_s (lvLe_n (lvLe_n lvLe_0))))))))) ?_
        exact sL_holds_147 X k10 hk10 h5 l0 l1 l2 l3 l4 l5 l6
      · refine q_le (L' := [none, none, none, none, none, none, none, none, none]) (lvLe_n (lvLe_n (lvLe_n (lvLe_n (lvLe_n (lvLe_n (lvLe_n (lvLe_n (lvLe_n lvLe_0))))))))) ?_
        exact sL_holds_186 X h5
    · refine q_le (L' := [none, none, none, none, none, none, none, none, none]) (lvLe_n (lvLe_n (lvLe_n (lvLe_n (lvLe_n (lvLe_n (lvLe_n (lvLe_n (lvLe_n lvLe_0))))))))) ?_
      exact sL_holds_186 X h
  · refine q_le (L' := [some (.inr (.inr l0)), some (.inl l1), some (.inl l2), some (.inl l3), some (.inl l4), some (.inl l5), some (.inl l6), none, none]) (lvLe_s (lvLe_s (lvLe_s (lvLe_s (lvLe_s (lvLe_s (lvLe_s (lvLe_n (lvLe_n lvLe_0))))))))) ?_
    exact sL_holds_147 X k10 hk10 h l0 l1 l2 l3 l4 l5 l6
def fL_holds_111 (c : Nat → Option Nat) (k10 : Hp → Option Nat → Int32 → Int32 → Int32 → Int32 → Int32 → Rs) (h : Hp) (l0 : Option Nat) (l1 : Int32) (l2 : Int32) (l3 : Int32) (l4 : Int32) (l5 : Int32) (l6 : Int32) (l7 : Int32) (l8 : Int32) : Rs := if l6 = (2 : Int32) then (if l8 = l7 then (fL_holds_124 c k10 h l0 l1 l2 l3 l4 l5 l6 l7 l8) else (fL_holds_186 c h)) else (fL_holds_124 c k10 h l0 l1 l2 l3 l4 l5 l6 l7 l8)
set_option maxHeartbeats 4000000 in
set_option maxRecDepth 100000 in
theorem sL_holds_111 (X : Cx) {h0 : Hp} (k10 : Hp → Option Nat → Int32 → Int32 → Int32 → Int32 → Int32 → Rs) (hk10 : ∀ (h : Hp) (l0 : Option Nat) (l1 : Int32) (l2 : Int32) (l3 : Int32) (l4 : Int32) (l5 : Int32), Gd X mL_holds h0 (k10 h l0 l1 l2 l3 l4 l5) h 10 [some (.inr (.inr l0)), some (.inl l1), some (.inl l2), some (.inl l3), some (.inl l4), some (.inl l5), none, none, none] []) (h : Hp) (l0 : Option Nat) (l1 : Int32) (l2 : Int32) (l3 : Int32) (l4 : Int32) (l5 : Int32) (l6 : Int32) (l7 : Int32) (l8 : Int32) : Gd X mL_holds h0 (fL_holds_111 X.2.2.2 k10 h l0 l1 l2 l3 l4 l5 l6 l7 l8) h 111 [some (.inr (.inr l0)), some (.inl l1), some (.inl l2), some (.inl l3), some (.inl l4), some (.inl l5), some (.inl l6), some (.inl l7), some (.inl l8)] [] := by
  unfold fL_holds_111
  refine q_run tkL_holds 62 2 (pc' := 114) (L' := [some (.inr (.inr l0)), some (.inl l1), some (.inl l2), some (.inl l3), some (.inl l4), some (.inl l5), some (.inl l6), some (.inl l7), some (.inl l8)]) (st' := [.inl (2 : Int32), .inl l6]) rfl ?_
  refine q_icmp_ne (tbm tkL_holds (i := 64) rfl) ?_ ?_
  · refine q_run tkL_holds 65 2 (pc' := 121) (L' := [some (.inr (.inr l0)), some (.inl l1), some (.inl l2), some (.inl l3), some (.inl l4), some (.inl l5), some (.inl l6), some (.inl l7), some (.inl l8)]) (st' := [.inl l7, .inl l8]) rfl ?_
    refine q_icmp_ne (tbm tkL_holds (i := 67) rfl) ?_ ?_
    · exact sL_holds_124 X k10 hk10 h l0 l1 l2 l3 l4 l5 l6 l7 l8
    · refine q_le (L' := [none, none, none, none, none, none, none, none, none]) (lvLe_n (lvLe_n (lvLe_n (lvLe_n (lvLe_n (lvLe_n (lvLe_n (lvLe_n (lvLe_n lvLe_0))))))))) ?_
      exact sL_holds_186 X h
  · exact sL_holds_124 X k10 hk10 h l0 l1 l2 l3 l4 l5 l6 l7 l8
def fL_holds_98 (c : Nat → Option Nat) (k10 : Hp → Option Nat → Int32 → Int32 → Int32 → Int32 → Int32 → Rs) (h : Hp) (l0 : Option Nat) (l1 : Int32) (l2 : Int32) (l3 : Int32) (l5 : Int32) (l6 : Int32) (l7 : Int32) (l8 : Int32) (s0 : Int32) (s1 : Int32) : Rs := if l6 = 0 then (if l8 = 0 then (fL_holds_111 c k10 h l0 l1 l2 l3 (s0 + s1) l5 l6 l7 l8) else (fL_holds_186 c h)) else (fL_holds_111 c k10 h l0 l1 l2 l3 (s0 + s1) l5 l6 l7 l8)
set_option maxHeartbeats 4000000 in
set_option maxRecDepth 100000 in
theorem sL_holds_98 (X : Cx) {h0 : Hp} (k10 : Hp → Option Nat → Int32 → Int32 → Int32 → Int32 → Int32 → Rs) (hk10 : ∀ (h : Hp) (l0 : Option Nat) (l1 : Int32) (l2 : Int32) (l3 : Int32) (l4 : Int32) (l5 : Int32), Gd X mL_holds h0 (k10 h l0 l1 l2 l3 l4 l5) h 10 [some (.inr (.inr l0)), some (.inl l1), some (.inl l2), some (.inl l3), some (.inl l4), some (.inl l5), none, none, none] []) (h : Hp) (l0 : Option Nat) (l1 : Int32) (l2 : Int32) (l3 : Int32) (l5 : Int32) (l6 : Int32) (l7 : Int32) (l8 : Int32) (s0 : Int32) (s1 : Int32) : Gd X mL_holds h0 (fL_holds_98 X.2.2.2 k10 h l0 l1 l2 l3 l5 l6 l7 l8 s0 s1) h 98 [some (.inr (.inr l0)), some (.inl l1), some (.inl l2), some (.inl l3), none, some (.inl l5), some (.inl l6), some (.inl l7), some (.inl l8)] [.inl s1, .inl s0] := by
  unfold fL_holds_98
  refine q_run tkL_holds 56 3 (pc' := 103) (L' := [some (.inr (.inr l0)), some (.inl l1), some (.inl l2), some (.inl l3), some (.inl (s0 + s1)), some (.inl l5), some (.inl l6), some (.inl l7), some (.inl l8)]) (st' := [.inl l6]) rfl ?_
  refine q_if_ne (tbm tkL_holds (i := 59) rfl) ?_ ?_
  · refine q_run tkL_holds 60 1 (pc' := 108) (L' := [some (.inr (.inr l0)), some (.inl l1), some (.inl l2), some (.inl l3), some (.inl (s0 + s1)), some (.inl l5), some (.inl l6), some (.inl l7), some (.inl l8)]) (st' := [.inl l8]) rfl ?_
    refine q_if_ne (tbm tkL_holds (i := 61) rfl) ?_ ?_
    · exact sL_holds_111 X k10 hk10 h l0 l1 l2 l3 (s0 + s1) l5 l6 l7 l8
    · refine q_le (L' := [none, none, none, none, none, none, none, none, none]) (lvLe_n (lvLe_n (lvLe_n (lvLe_n (lvLe_n (lvLe_n (lvLe_n (lvLe_n (lvLe_n lvLe_0))))))))) ?_
      exact sL_holds_186 X h
  · exact sL_holds_111 X k10 hk10 h l0 l1 l2 l3 (s0 + s1) l5 l6 l7 l8
def fL_holds_79 (c : Nat → Option Nat) (k10 : Hp → Option Nat → Int32 → Int32 → Int32 → Int32 → Int32 → Rs) (h : Hp) (l0 : Option Nat) (l1 : Int32) (l2 : Int32) (l4 : Int32) (l5 : Int32) (l6 : Int32) (l7 : Int32) (l8 : Int32) (s0 : Int32) (s1 : Int32) : Rs := if l6 < (2 : Int32) then (fL_holds_98 c k10 h l0 l1 l2 (s0 + s1) l5 l6 l7 l8 l4 (l7 - l8)) else (fL_holds_98 c k10 h l0 l1 l2 (s0 + s1) l5 l6 l7 l8 l4 (0 : Int32))
set_option maxHeartbeats 4000000 in
set_option maxRecDepth 100000 in
theorem sL_holds_79 (X : Cx) {h0 : Hp} (k10 : Hp → Option Nat → Int32 → Int32 → Int32 → Int32 → Int32 → Rs) (hk10 : ∀ (h : Hp) (l0 : Option Nat) (l1 : Int32) (l2 : Int32) (l3 : Int32) (l4 : Int32) (l5 : Int32), Gd X mL_holds h0 (k10 h l0 l1 l2 l3 l4 l5) h 10 [some (.inr (.inr l0)), some (.inl l1), some (.inl l2), some (.inl l3), some (.inl l4), some (.inl l5), none, none, none] []) (h : Hp) (l0 : Option Nat) (l1 : Int32) (l2 : Int32) (l4 : Int32) (l5 : Int32) (l6 : Int32) (l7 : Int32) (l8 : Int32) (s0 : Int32) (s1 : Int32) : Gd X mL_holds h0 (fL_holds_79 X.2.2.2 k10 h l0 l1 l2 l4 l5 l6 l7 l8 s0 s1) h 79 [some (.inr (.inr l0)), some (.inl l1), some (.inl l2), none, some (.inl l4), some (.inl l5), some (.inl l6), some (.inl l7), some (.inl l8)] [.inl s1, .inl s0] := by
  unfold fL_holds_79
  refine q_run tkL_holds 45 5 (pc' := 86) (L' := [some (.inr (.inr l0)), some (.inl l1), some (.inl l2), some (.inl (s0 + s1)), some (.inl l4), some (.inl l5), some (.inl l6), some (.inl l7), some (.inl l8)]) (st' := [.inl (2 : Int32), .inl l6, .inl l4]) rfl ?_
  refine q_icmp_ge (tbm tkL_holds (i := 50) rfl) ?_ ?_
  · refine q_run tkL_holds 51 4 (pc' := 98) (L' := [some (.inr (.inr l0)), some (.inl l1), some (.inl l2), some (.inl (s0 + s1)), some (.inl l4), some (.inl l5), some (.inl l6), some (.inl l7), some (.inl l8)]) (st' := [.inl (l7 - l8), .inl l4]) rfl ?_
    refine q_le (L' := [some (.inr (.inr l0)), some (.inl l1), some (.inl l2), some (.inl (s0 + s1)), none, some (.inl l5), some (.inl l6), some (.inl l7), some (.inl l8)]) (lvLe_s (lvLe_s (lvLe_s (lvLe_s (lvLe_n (lvLe_s (lvLe_s (lvLe_s (lvLe_s lvLe_0))))))))) ?_
    exact sL_holds_98 X k10 hk10 h l0 l1 l2 (s0 + s1) l5 l6 l7 l8 l4 (l7 - l8)
  · refine q_run tkL_holds 55 1 (pc' := 98) (L' := [some (.inr (.inr l0)), some (.inl l1), some (.inl l2), some (.inl (s0 + s1)), some (.inl l4), some (.inl l5), some (.inl l6), some (.inl l7), some (.inl l8)]) (st' := [.inl (0 : Int32), .inl l4]) rfl ?_
    refine q_le (L' := [some (.inr (.inr l0)), some (.inl l1), some (.inl l2), some (.inl (s0 + s1)), none, some (.inl l5), some (.inl l6), some (.inl l7), some (.inl l8)]) (lvLe_s (lvLe_s (lvLe_s (lvLe_s (lvLe_n (lvLe_s (lvLe_s (lvLe_s (lvLe_s lvLe_0))))))))) ?_
    exact sL_holds_98 X k10 hk10 h l0 l1 l2 (s0 + s1) l5 l6 l7 l8 l4 (0 : Int32)
def fL_holds_65 (c : Nat → Option Nat) (k10 : Hp → Option Nat → Int32 → Int32 → Int32 → Int32 → Int32 → Rs) (h : Hp) (l0 : Option Nat) (l1 : Int32) (l3 : Int32) (l4 : Int32) (l5 : Int32) (l6 : Int32) (l7 : Int32) (l8 : Int32) (s0 : Int32) (s1 : Int32) : Rs := if l6 = (1 : Int32) then (fL_holds_79 c k10 h l0 l1 (s0 + s1) l4 l5 l6 l7 l8 l3 (1 : Int32)) else (fL_holds_79 c k10 h l0 l1 (s0 + s1) l4 l5 l6 l7 l8 l3 (0 : Int32))
set_option maxHeartbeats 4000000 in
set_option maxRecDepth 100000 in
theorem sL_holds_65 (X : Cx) {h0 : Hp} (k10 : Hp → Option Nat → Int32 → Int32 → Int32 → Int32 → Int32 → Rs) (hk10 : ∀ (h : Hp) (l0 : Option Nat) (l1 : Int32) (l2 : Int32) (l3 : Int32) (l4 : Int32) (l5 : Int32), Gd X mL_holds h0 (k10 h l0 l1 l2 l3 l4 l5) h 10 [some (.inr (.inr l0)), some (.inl l1), some (.inl l2), some (.inl l3), some (.inl l4), some (.inl l5), none, none, none] []) (h : Hp) (l0 : Option Nat) (l1 : Int32) (l3 : Int32) (l4 : Int32) (l5 : Int32) (l6 : Int32) (l7 : Int32) (l8 : Int32) (s0 : Int32) (s1 : Int32) : Gd X mL_holds h0 (fL_holds_65 X.2.2.2 k10 h l0 l1 l3 l4 l5 l6 l7 l8 s0 s1) h 65 [some (.inr (.inr l0)), some (.inl l1), none, some (.inl l3), some (.inl l4), some (.inl l5), some (.inl l6), some (.inl l7), some (.inl l8)] [.inl s1, .inl s0] := by
  unfold fL_holds_65
  refine q_run tkL_holds 36 5 (pc' := 71) (L' := [some (.inr (.inr l0)), some (.inl l1), some (.inl (s0 + s1)), some (.inl l3), some (.inl l4), some (.inl l5), some (.inl l6), some (.inl l7), some (.inl l8)]) (st' := [.inl (1 : Int32), .inl l6, .inl l3]) rfl ?_
  refine q_icmp_ne (tbm tkL_holds (i := 41) rfl) ?_ ?_
  · refine q_run tkL_holds 42 2 (pc' := 79) (L' := [some (.inr (.inr l0)), some (.inl l1), some (.inl (s0 + s1)), some (.inl l3), some (.inl l4), some (.inl l5), some (.inl l6), some (.inl l7), some (.inl l8)]) (st' := [.inl (1 : Int32), .inl l3]) rfl ?_
    refine q_le (L' := [some (.inr (.inr l0)), some (.inl l1), some (.inl (s0 + s1)), none, some (.inl l4), some (.inl l5), some (.inl l6), some (.inl l7), some (.inl l8)]) (lvLe_s (lvLe_s (lvLe_s (lvLe_n (lvLe_s (lvLe_s (lvLe_s (lvLe_s (lvLe_s lvLe_0))))))))) ?_
    exact sL_holds_79 X k10 hk10 h l0 l1 (s0 + s1) l4 l5 l6 l7 l8 l3 (1 : Int32)
  · refine q_run tkL_holds 44 1 (pc' := 79) (L' := [some (.inr (.inr l0)), some (.inl l1), some (.inl (s0 + s1)), some (.inl l3), some (.inl l4), some (.inl l5), some (.inl l6), some (.inl l7), some (.inl l8)]) (st' := [.inl (0 : Int32), .inl l3]) rfl ?_
    refine q_le (L' := [some (.inr (.inr l0)), some (.inl l1), some (.inl (s0 + s1)), none, some (.inl l4), some (.inl l5), some (.inl l6), some (.inl l7), some (.inl l8)]) (lvLe_s (lvLe_s (lvLe_s (lvLe_n (lvLe_s (lvLe_s (lvLe_s (lvLe_s (lvLe_s lvLe_0))))))))) ?_
    exact sL_holds_79 X k10 hk10 h l0 l1 (s0 + s1) l4 l5 l6 l7 l8 l3 (0 : Int32)
def fL_holds_321 (c : Nat → Option Nat) (h : Hp) (s0 : Int32) : Rs := rtI .boolean h s0
set_option maxHeartbeats 4000000 in
set_option maxRecDepth 100000 in
theorem sL_holds_321 (X : Cx) {h0 : Hp} (h : Hp) (s0 : Int32) : Gd X mL_holds h0 (fL_holds_321 X.2.2.2 h s0) h 321 [none, none, none, none, none, none, none, none, none] [.inl s0] := by
  unfold fL_holds_321
  exact q_zret (tbm tkL_holds (i := 171) rfl) rfl
def fL_holds_320 (c : Nat → Option Nat) (h : Hp) : Rs := fL_holds_321 c h (0 : Int32)
set_option maxHeartbeats 4000000 in
set_option maxRecDepth 100000 in
theorem sL_holds_320 (X : Cx) {h0 : Hp} (h : Hp) : Gd X mL_holds h0 (fL_holds_320 X.2.2.2 h) h 320 [none, none, none, none, none, none, none, none, none] [] := by
  unfold fL_holds_320
  refine q_run tkL_holds 170 1 (pc' := 321) (L' := [none, none, none, none, none, none, none, none, none]) (st' := [.inl (0 : Int32)]) rfl ?_
  exact sL_holds_321 X h (0 : Int32)
def fL_holds_265 (c : Nat → Option Nat) (h : Hp) (l0 : Option Nat) (l2 : Int32) (l3 : Int32) (l4 : Int32) (l6 : Int32) (s0 : Int32) (s1 : Int32) : Rs := if s0 = s1 then (ck h l0 7 (cc (fX5_count c h l0 (2 : Int32)) (kI fun h7 x8 => if l2 = x8 then (ck h7 l0 7 (cc (fX5_linesLeft c h7 l0) (kI fun h9 x10 => if l4 = x10 then (if l6 = 0 then (fL_holds_320 c h9) else (ck h9 l0 7 (cc (fX5_count c h9 l0 (1 : Int32)) (kI fun h11 x12 => ck h11 l0 7 (cc (fX5_count c h11 l0 (3 : Int32)) (kI fun h13 x14 => if x12 = ((x14 + l2) + l3) then (ck h13 l0 7 (cc (fX5_printer c h13 l0 (1 : Int32)) (kI fun h15 x16 => if x16 < 0 then (fL_holds_320 c h15) else (fL_holds_321 c h15 (1 : Int32))))) else (fL_holds_320 c h13))))))) else (fL_holds_320 c h9)))) else (fL_holds_320 c h7)))) else (fL_holds_320 c h)
set_option maxHeartbeats 4000000 in
set_option maxRecDepth 100000 in
theorem sL_holds_265 (X : Cx) {h0 : Hp} (h : Hp) (l0 : Option Nat) (l2 : Int32) (l3 : Int32) (l4 : Int32) (l6 : Int32) (s0 : Int32) (s1 : Int32) : Gd X mL_holds h0 (fL_holds_265 X.2.2.2 h l0 l2 l3 l4 l6 s0 s1) h 265 [some (.inr (.inr l0)), none, some (.inl l2), some (.inl l3), some (.inl l4), none, some (.inl l6), none, none] [.inl s1, .inl s0] := by
  unfold fL_holds_265
  refine q_icmp_ne (tbm tkL_holds (i := 141) rfl) ?_ ?_
  · refine q_run tkL_holds 142 3 (pc' := 271) (L' := [some (.inr (.inr l0)), none, some (.inl l2), some (.inl l3), some (.inl l4), none, some (.inl l6), none, none]) (st' := [.inl (2 : Int32), .inr (.inr l0), .inl l2]) rfl ?_
    refine q_cv (r := l0) (ci := 7) (n := 1) (as := [.inl (2 : Int32)]) (st := [.inl l2]) TX5 5 (soX5_count X h l0 (2 : Int32)) (tbm tkL_holds (i := 145) rfl) rfl rfl ceX5_count wd_311 wd_312 wd_310 rfl (Nat.le_of_ble_eq_true rfl) (kI_gd (fun h7 x8 => ?_))
    refine q_icmp_ne (tbm tkL_holds (i := 146) rfl) ?_ ?_
    · refine q_run tkL_holds 147 2 (pc' := 280) (L' := [some (.inr (.inr l0)), none, some (.inl l2), some (.inl l3), some (.inl l4), none, some (.inl l6), none, none]) (st' := [.inr (.inr l0), .inl l4]) rfl ?_
      refine q_cv (r := l0) (ci := 7) (n := 0) (as := []) (st := [.inl l4]) TX5 5 (soX5_linesLeft X h7 l0) (tbm tkL_holds (i := 149) rfl) rfl rfl ceX5_linesLeft wd_817 wd_818 wd_816 rfl (Nat.le_of_ble_eq_true rfl) (kI_gd (fun h9 x10 => ?_))
      refine q_icmp_ne (tbm tkL_holds (i := 150) rfl) ?_ ?_
      · refine q_run tkL_holds 151 1 (pc' := 288) (L' := [some (.inr (.inr l0)), none, some (.inl l2), some (.inl l3), some (.inl l4), none, some (.inl l6), none, none]) (st' := [.inl l6]) rfl ?_
        refine q_if_eq (tbm tkL_holds (i := 152) rfl) ?_ ?_
        · refine q_le (L' := [none, none, none, none, none, none, none, none, none]) (lvLe_n (lvLe_n (lvLe_n (lvLe_n (lvLe_n (lvLe_n (lvLe_n (lvLe_n (lvLe_n lvLe_0))))))))) ?_
          exact sL_holds_320 X h9
        · refine q_run tkL_holds 153 2 (pc' := 293) (L' := [some (.inr (.inr l0)), none, some (.inl l2), some (.inl l3), some (.inl l4), none, some (.inl l6), none, none]) (st' := [.inl (1 : Int32), .inr (.inr l0)]) rfl ?_
          refine q_cv (r := l0) (ci := 7) (n := 1) (as := [.inl (1 : Int32)]) (st := []) TX5 5 (soX5_count X h9 l0 (1 : Int32)) (tbm tkL_holds (i := 155) rfl) rfl rfl ceX5_count wd_311 wd_312 wd_310 rfl (Nat.le_of_ble_eq_true rfl) (kI_gd (fun h11 x12 => ?_))
          refine q_run tkL_holds 156 2 (pc' := 298) (L' := [some (.inr (.inr l0)), none, some (.inl l2), some (.inl l3), some (.inl l4), none, some (.inl l6), none, none]) (st' := [.inl (3 : Int32), .inr (.inr l0), .inl x12]) rfl ?_
          refine q_cv (r := l0) (ci := 7) (n := 1) (as := [.inl (3 : Int32)]) (st := [.inl x12]) TX5 5 (soX5_count X h11 l0 (3 : Int32)) (tbm tkL_holds (i := 158) rfl) rfl rfl ceX5_count wd_311 wd_312 wd_310 rfl (Nat.le_of_ble_eq_true rfl) (kI_gd (fun h13 x14 => ?_))
          refine q_run tkL_holds 159 4 (pc' := 305) (L' := [some (.inr (.inr l0)), none, some (.inl l2), some (.inl l3), some (.inl l4), none, some (.inl l6), none, none]) (st' := [.inl ((x14 + l2) + l3), .inl x12]) rfl ?_
          refine q_icmp_ne (tbm tkL_holds (i := 163) rfl) ?_ ?_
          · refine q_run tkL_holds 164 2 (pc' := 310) (L' := [some (.inr (.inr l0)), none, some (.inl l2), some (.inl l3), some (.inl l4), none, some (.inl l6), none, none]) (st' := [.inl (1 : Int32), .inr (.inr l0)]) rfl ?_
            refine q_cv (r := l0) (ci := 7) (n := 1) (as := [.inl (1 : Int32)]) (st := []) TX5 5 (soX5_printer X h13 l0 (1 : Int32)) (tbm tkL_holds (i := 166) rfl) rfl rfl ceX5_printer wd_307 wd_308 wd_306 rfl (Nat.le_of_ble_eq_true rfl) (kI_gd (fun h15 x16 => ?_))
            refine q_if_lt (tbm tkL_holds (i := 167) rfl) ?_ ?_
            · refine q_le (L' := [none, none, none, none, none, none, none, none, none]) (lvLe_n (lvLe_n (lvLe_n (lvLe_n (lvLe_n (lvLe_n (lvLe_n (lvLe_n (lvLe_n lvLe_0))))))))) ?_
              exact sL_holds_320 X h15
            · refine q_run tkL_holds 168 2 (pc' := 321) (L' := [some (.inr (.inr l0)), none, some (.inl l2), some (.inl l3), some (.inl l4), none, some (.inl l6), none, none]) (st' := [.inl (1 : Int32)]) rfl ?_
              refine q_le (L' := [none, none, none, none, none, none, none, none, none]) (lvLe_n (lvLe_n (lvLe_n (lvLe_n (lvLe_n (lvLe_n (lvLe_n (lvLe_n (lvLe_n lvLe_0))))))))) ?_
              exact sL_holds_321 X h15 (1 : Int32)
          · refine q_le (L' := [none, none, none, none, none, none, none, none, none]) (lvLe_n (lvLe_n (lvLe_n (lvLe_n (lvLe_n (lvLe_n (lvLe_n (lvLe_n (lvLe_n lvLe_0))))))))) ?_
            exact sL_holds_320 X h13
      · refine q_le (L' := [none, none, none, none, none, none, none, none, none]) (lvLe_n (lvLe_n (lvLe_n (lvLe_n (lvLe_n (lvLe_n (lvLe_n (lvLe_n (lvLe_n lvLe_0))))))))) ?_
        exact sL_holds_320 X h9
    · refine q_le (L' := [none, none, none, none, none, none, none, none, none]) (lvLe_n (lvLe_n (lvLe_n (lvLe_n (lvLe_n (lvLe_n (lvLe_n (lvLe_n (lvLe_n lvLe_0))))))))) ?_
      exact sL_holds_320 X h7
  · refine q_le (L' := [none, none, none, none, none, none, none, none, none]) (lvLe_n (lvLe_n (lvLe_n (lvLe_n (lvLe_n (lvLe_n (lvLe_n (lvLe_n (lvLe_n lvLe_0))))))))) ?_
    exact sL_holds_320 X h
def fL_holds_255 (c : Nat → Option Nat) (h : Hp) (l0 : Option Nat) (l2 : Int32) (l3 : Int32) (l4 : Int32) (l5 : Int32) (l6 : Int32) (s0 : Int32) : Rs := if l5 < 0 then (fL_holds_265 c h l0 l2 l3 l4 l6 s0 (1 : Int32)) else (fL_holds_265 c h l0 l2 l3 l4 l6 s0 (0 : Int32))
set_option maxHeartbeats 4000000 in
set_option maxRecDepth 100000 in
theorem sL_holds_255 (X : Cx) {h0 : Hp} (h : Hp) (l0 : Option Nat) (l2 : Int32) (l3 : Int32) (l4 : Int32) (l5 : Int32) (l6 : Int32) (s0 : Int32) : Gd X mL_holds h0 (fL_holds_255 X.2.2.2 h l0 l2 l3 l4 l5 l6 s0) h 255 [some (.inr (.inr l0)), none, some (.inl l2), some (.inl l3), some (.inl l4), some (.inl l5), some (.inl l6), none, none] [.inl s0] := by
  unfold fL_holds_255
  refine q_run tkL_holds 136 1 (pc' := 257) (L' := [some (.inr (.inr l0)), none, some (.inl l2), some (.inl l3), some (.inl l4), some (.inl l5), some (.inl l6), none, none]) (st' := [.inl l5, .inl s0]) rfl ?_
  refine q_if_ge (tbm tkL_holds (i := 137) rfl) ?_ ?_
  · refine q_run tkL_holds 138 2 (pc' := 265) (L' := [some (.inr (.inr l0)), none, some (.inl l2), some (.inl l3), some (.inl l4), some (.inl l5), some (.inl l6), none, none]) (st' := [.inl (1 : Int32), .inl s0]) rfl ?_
    refine q_le (L' := [some (.inr (.inr l0)), none, some (.inl l2), some (.inl l3), some (.inl l4), none, some (.inl l6), none, none]) (lvLe_s (lvLe_n (lvLe_s (lvLe_s (lvLe_s (lvLe_n (lvLe_s (lvLe_n (lvLe_n lvLe_0))))))))) ?_
    exact sL_holds_265 X h l0 l2 l3 l4 l6 s0 (1 : Int32)
  · refine q_run tkL_holds 140 1 (pc' := 265) (L' := [some (.inr (.inr l0)), none, some (.inl l2), some (.inl l3), some (.inl l4), some (.inl l5), some (.inl l6), none, none]) (st' := [.inl (0 : Int32), .inl s0]) rfl ?_
    refine q_le (L' := [some (.inr (.inr l0)), none, some (.inl l2), some (.inl l3), some (.inl l4), none, some (.inl l6), none, none]) (lvLe_s (lvLe_n (lvLe_s (lvLe_s (lvLe_s (lvLe_n (lvLe_s (lvLe_n (lvLe_n lvLe_0))))))))) ?_
    exact sL_holds_265 X h l0 l2 l3 l4 l6 s0 (0 : Int32)
def fL_holds_239 (c : Nat → Option Nat) (h : Hp) (l0 : Option Nat) (l2 : Int32) (l3 : Int32) (l4 : Int32) (l5 : Int32) (s0 : Int32) : Rs := if (1 : Int32) < l3 then (fL_holds_320 c h) else (if l3 = 0 then (fL_holds_255 c h l0 l2 l3 l4 l5 s0 (1 : Int32)) else (fL_holds_255 c h l0 l2 l3 l4 l5 s0 (0 : Int32)))
set_option maxHeartbeats 4000000 in
set_option maxRecDepth 100000 in
theorem sL_holds_239 (X : Cx) {h0 : Hp} (h : Hp) (l0 : Option Nat) (l2 : Int32) (l3 : Int32) (l4 : Int32) (l5 : Int32) (s0 : Int32) : Gd X mL_holds h0 (fL_holds_239 X.2.2.2 h l0 l2 l3 l4 l5 s0) h 239 [some (.inr (.inr l0)), none, some (.inl l2), some (.inl l3), some (.inl l4), some (.inl l5), none, none, none] [.inl s0] := by
  unfold fL_holds_239
  refine q_run tkL_holds 127 3 (pc' := 243) (L' := [some (.inr (.inr l0)), none, some (.inl l2), some (.inl l3), some (.inl l4), some (.inl l5), some (.inl s0), none, none]) (st' := [.inl (1 : Int32), .inl l3]) rfl ?_
  refine q_icmp_gt (tbm tkL_holds (i := 130) rfl) ?_ ?_
  · refine q_le (L' := [none, none, none, none, none, none, none, none, none]) (lvLe_n (lvLe_n (lvLe_n (lvLe_n (lvLe_n (lvLe_n (lvLe_n (lvLe_n (lvLe_n lvLe_0))))))))) ?_
    exact sL_holds_320 X h
  · refine q_run tkL_holds 131 1 (pc' := 247) (L' := [some (.inr (.inr l0)), none, some (.inl l2), some (.inl l3), some (.inl l4), some (.inl l5), some (.inl s0), none, none]) (st' := [.inl l3]) rfl ?_
    refine q_if_ne (tbm tkL_holds (i := 132) rfl) ?_ ?_
    · refine q_run tkL_holds 133 2 (pc' := 255) (L' := [some (.inr (.inr l0)), none, some (.inl l2), some (.inl l3), some (.inl l4), some (.inl l5), some (.inl s0), none, none]) (st' := [.inl (1 : Int32)]) rfl ?_
      exact sL_holds_255 X h l0 l2 l3 l4 l5 s0 (1 : Int32)
    · refine q_run tkL_holds 135 1 (pc' := 255) (L' := [some (.inr (.inr l0)), none, some (.inl l2), some (.inl l3), some (.inl l4), some (.inl l5), some (.inl s0), none, none]) (st' := [.inl (0 : Int32)]) rfl ?_
      exact sL_holds_255 X h l0 l2 l3 l4 l5 s0 (0 : Int32)
def fL_holds_230 (c : Nat → Option Nat) (h : Hp) (l0 : Option Nat) (l2 : Int32) (l3 : Int32) (l4 : Int32) (l5 : Int32) (s0 : Int32) (s1 : Int32) (s2 : Int32) : Rs := if s0 = (s1 + s2) then (fL_holds_239 c h l0 l2 l3 l4 l5 (1 : Int32)) else (fL_holds_239 c h l0 l2 l3 l4 l5 (0 : Int32))
set_option maxHeartbeats 4000000 in
set_option maxRecDepth 100000 in
theorem sL_holds_230 (X : Cx) {h0 : Hp} (h : Hp) (l0 : Option Nat) (l2 : Int32) (l3 : Int32) (l4 : Int32) (l5 : Int32) (s0 : Int32) (s1 : Int32) (s2 : Int32) : Gd X mL_holds h0 (fL_holds_230 X.2.2.2 h l0 l2 l3 l4 l5 s0 s1 s2) h 230 [some (.inr (.inr l0)), none, some (.inl l2), some (.inl l3), some (.inl l4), some (.inl l5), none, none, none] [.inl s2, .inl s1, .inl s0] := by
  unfold fL_holds_230
  refine q_run tkL_holds 122 1 (pc' := 231) (L' := [some (.inr (.inr l0)), none, some (.inl l2), some (.inl l3), some (.inl l4), some (.inl l5), none, none, none]) (st' := [.inl (s1 + s2), .inl s0]) rfl ?_
  refine q_icmp_ne (tbm tkL_holds (i := 123) rfl) ?_ ?_
  · refine q_run tkL_holds 124 2 (pc' := 239) (L' := [some (.inr (.inr l0)), none, some (.inl l2), some (.inl l3), some (.inl l4), some (.inl l5), none, none, none]) (st' := [.inl (1 : Int32)]) rfl ?_
    exact sL_holds_239 X h l0 l2 l3 l4 l5 (1 : Int32)
  · refine q_run tkL_holds 126 1 (pc' := 239) (L' := [some (.inr (.inr l0)), none, some (.inl l2), some (.inl l3), some (.inl l4), some (.inl l5), none, none, none]) (st' := [.inl (0 : Int32)]) rfl ?_
    exact sL_holds_239 X h l0 l2 l3 l4 l5 (0 : Int32)
def fL_holds_10 (c : Nat → Option Nat) : Nat → Hp → Option Nat → Int32 → Int32 → Int32 → Int32 → Int32 → Rs
  | 0, _, _, _, _, _, _, _ => none
  | n + 1, h, l0, l1, l2, l3, l4, l5 => ck h l0 7 (cc (fX5_count c h l0 (1 : Int32)) (kI fun h17 x18 => if x18 < l5 then (ck h17 l0 7 (cc (fX5_printer c h17 l0 (0 : Int32)) (kI fun h19 x20 => ck h19 l0 7 (cc (fX5_printer c h19 l0 (2 : Int32)) (kI fun h21 x22 => ck h21 l0 7 (cc (fX5_printer c h21 l0 (3 : Int32)) (kI fun h23 x24 => if x20 < 0 then (fL_holds_230 c h23 l0 l2 l3 l4 x20 (x22 - x24) l1 (0 : Int32)) else (ck h23 l0 7 (cc (fX5_ofReceipt c h23 l0 x20 (7 : Int32)) (kI fun h25 x26 => fL_holds_230 c h25 l0 l2 l3 l4 x20 (x22 - x24) l1 x26)))))))))) else (ck h17 l0 7 (cc (fX5_ofReceipt c h17 l0 l5 (0 : Int32)) (kI fun h27 x28 => if x28 < 0 then (fL_holds_188 c (fL_holds_10 c n) h27 l0 l1 l2 l3 l4 l5) else (ck h27 l0 7 (cc (fX5_ofReceipt c h27 l0 l5 (6 : Int32)) (kI fun h29 x30 => ck h29 l0 7 (cc (fX5_ofReceipt c h29 l0 l5 (7 : Int32)) (kI fun h31 x32 => if x28 = 0 then (fL_holds_65 c (fL_holds_10 c n) h31 l0 l1 l3 l4 l5 x28 x30 x32 l2 (1 : Int32)) else (fL_holds_65 c (fL_holds_10 c n) h31 l0 l1 l3 l4 l5 x28 x30 x32 l2 (0 : Int32))))))))))))
set_option maxHeartbeats 4000000 in
set_option maxRecDepth 100000 in
theorem sL_holds_10 (X : Cx) {h0 : Hp} : ∀ (n : Nat) (h : Hp) (l0 : Option Nat) (l1 : Int32) (l2 : Int32) (l3 : Int32) (l4 : Int32) (l5 : Int32), Gd X mL_holds h0 (fL_holds_10 X.2.2.2 n h l0 l1 l2 l3 l4 l5) h 10 [some (.inr (.inr l0)), some (.inl l1), some (.inl l2), some (.inl l3), some (.inl l4), some (.inl l5), none, none, none] [] := by
  intro n
  induction n with
  | zero => intros; exact gd_none
  | succ n ih =>
    intro h l0 l1 l2 l3 l4 l5
    unfold fL_holds_10
    refine q_run tkL_holds 8 3 (pc' := 14) (L' := [some (.inr (.inr l0)), some (.inl l1), some (.inl l2), some (.inl l3), some (.inl l4), some (.inl l5), none, none, none]) (st' := [.inl (1 : Int32), .inr (.inr l0), .inl l5]) rfl ?_
    refine q_cv (r := l0) (ci := 7) (n := 1) (as := [.inl (1 : Int32)]) (st := [.inl l5]) TX5 5 (soX5_count X h l0 (1 : Int32)) (tbm tkL_holds (i := 11) rfl) rfl rfl ceX5_count wd_311 wd_312 wd_310 rfl (Nat.le_of_ble_eq_true rfl) (kI_gd (fun h17 x18 => ?_))
    refine q_icmp_gt (tbm tkL_holds (i := 12) rfl) ?_ ?_
    · refine q_run tkL_holds 102 2 (pc' := 196) (L' := [some (.inr (.inr l0)), some (.inl l1), some (.inl l2), some (.inl l3), some (.inl l4), some (.inl l5), none, none, none]) (st' := [.inl (0 : Int32), .inr (.inr l0)]) rfl ?_
      refine q_cv (r := l0) (ci := 7) (n := 1) (as := [.inl (0 : Int32)]) (st := []) TX5 5 (soX5_printer X h17 l0 (0 : Int32)) (tbm tkL_holds (i := 104) rfl) rfl rfl ceX5_printer wd_307 wd_308 wd_306 rfl (Nat.le_of_ble_eq_true rfl) (kI_gd (fun h19 x20 => ?_))
      refine q_run tkL_holds 105 3 (pc' := 203) (L' := [some (.inr (.inr l0)), some (.inl l1), some (.inl l2), some (.inl l3), some (.inl l4), some (.inl x20), none, none, none]) (st' := [.inl (2 : Int32), .inr (.inr l0)]) rfl ?_
      refine q_cv (r := l0) (ci := 7) (n := 1) (as := [.inl (2 : Int32)]) (st := []) TX5 5 (soX5_printer X h19 l0 (2 : Int32)) (tbm tkL_holds (i := 108) rfl) rfl rfl ceX5_printer wd_307 wd_308 wd_306 rfl (Nat.le_of_ble_eq_true rfl) (kI_gd (fun h21 x22 => ?_))
      refine q_run tkL_holds 109 2 (pc' := 208) (L' := [some (.inr (.inr l0)), some (.inl l1), some (.inl l2), some (.inl l3), some (.inl l4), some (.inl x20), none, none, none]) (st' := [.inl (3 : Int32), .inr (.inr l0), .inl x22]) rfl ?_
      refine q_cv (r := l0) (ci := 7) (n := 1) (as := [.inl (3 : Int32)]) (st := [.inl x22]) TX5 5 (soX5_printer X h21 l0 (3 : Int32)) (tbm tkL_holds (i := 111) rfl) rfl rfl ceX5_printer wd_307 wd_308 wd_306 rfl (Nat.le_of_ble_eq_true rfl) (kI_gd (fun h23 x24 => ?_))
      refine q_run tkL_holds 112 3 (pc' := 215) (L' := [some (.inr (.inr l0)), some (.inl l1), some (.inl l2), some (.inl l3), some (.inl l4), some (.inl x20), none, none, none]) (st' := [.inl x20, .inl l1, .inl (x22 - x24)]) rfl ?_
      refine q_if_ge (tbm tkL_holds (i := 115) rfl) ?_ ?_
      · refine q_run tkL_holds 116 2 (pc' := 230) (L' := [some (.inr (.inr l0)), some (.inl l1), some (.inl l2), some (.inl l3), some (.inl l4), some (.inl x20), none, none, none]) (st' := [.inl (0 : Int32), .inl l1, .inl (x22 - x24)]) rfl ?_
        refine q_le (L' := [some (.inr (.inr l0)), none, some (.inl l2), some (.inl l3), some (.inl l4), some (.inl x20), none, none, none]) (lvLe_s (lvLe_n (lvLe_s (lvLe_s (lvLe_s (lvLe_s (lvLe_n (lvLe_n (lvLe_n lvLe_0))))))))) ?_
        exact sL_holds_230 X h23 l0 l2 l3 l4 x20 (x22 - x24) l1 (0 : Int32)
      · refine q_run tkL_holds 118 3 (pc' := 227) (L' := [some (.inr (.inr l0)), some (.inl l1), some (.inl l2), some (.inl l3), some (.inl l4), some (.inl x20), none, none, none]) (st' := [.inl (7 : Int32), .inl x20, .inr (.inr l0), .inl l1, .inl (x22 - x24)]) rfl ?_
        refine q_cv (r := l0) (ci := 7) (n := 2) (as := [.inl x20, .inl (7 : Int32)]) (st := [.inl l1, .inl (x22 - x24)]) TX5 5 (soX5_ofReceipt X h23 l0 x20 (7 : Int32)) (tbm tkL_holds (i := 121) rfl) rfl rfl ceX5_ofReceipt wd_265 wd_266 wd_264 rfl (Nat.le_of_ble_eq_true rfl) (kI_gd (fun h25 x26 => ?_))
        refine q_le (L' := [some (.inr (.inr l0)), none, some (.inl l2), some (.inl l3), some (.inl l4), some (.inl x20), none, none, none]) (lvLe_s (lvLe_n (lvLe_s (lvLe_s (lvLe_s (lvLe_s (lvLe_n (lvLe_n (lvLe_n lvLe_0))))))))) ?_
        exact sL_holds_230 X h25 l0 l2 l3 l4 x20 (x22 - x24) l1 x26
    · refine q_run tkL_holds 13 3 (pc' := 24) (L' := [some (.inr (.inr l0)), some (.inl l1), some (.inl l2), some (.inl l3), some (.inl l4), some (.inl l5), none, none, none]) (st' := [.inl (0 : Int32), .inl l5, .inr (.inr l0)]) rfl ?_
      refine q_cv (r := l0) (ci := 7) (n := 2) (as := [.inl l5, .inl (0 : Int32)]) (st := []) TX5 5 (soX5_ofReceipt X h17 l0 l5 (0 : Int32)) (tbm tkL_holds (i := 16) rfl) rfl rfl ceX5_ofReceipt wd_265 wd_266 wd_264 rfl (Nat.le_of_ble_eq_true rfl) (kI_gd (fun h27 x28 => ?_))
      refine q_run tkL_holds 17 2 (pc' := 31) (L' := [some (.inr (.inr l0)), some (.inl l1), some (.inl l2), some (.inl l3), some (.inl l4), some (.inl l5), some (.inl x28), none, none]) (st' := [.inl x28]) rfl ?_
      refine q_if_lt (tbm tkL_holds (i := 19) rfl) ?_ ?_
      · refine q_le (L' := [some (.inr (.inr l0)), some (.inl l1), some (.inl l2), some (.inl l3), some (.inl l4), some (.inl l5), none, none, none]) (lvLe_s (lvLe_s (lvLe_s (lvLe_s (lvLe_s (lvLe_s (lvLe_n (lvLe_n (lvLe_n lvLe_0))))))))) ?_
        exact sL_holds_188 X (fL_holds_10 X.2.2.2 n) ih h27 l0 l1 l2 l3 l4 l5
      · refine q_run tkL_holds 20 3 (pc' := 39) (L' := [some (.inr (.inr l0)), some (.inl l1), some (.inl l2), some (.inl l3), some (.inl l4), some (.inl l5), some (.inl x28), none, none]) (st' := [.inl (6 : Int32), .inl l5, .inr (.inr l0)]) rfl ?_
        refine q_cv (r := l0) (ci := 7) (n := 2) (as := [.inl l5, .inl (6 : Int32)]) (st := []) TX5 5 (soX5_ofReceipt X h27 l0 l5 (6 : Int32)) (tbm tkL_holds (i := 23) rfl) rfl rfl ceX5_ofReceipt wd_265 wd_266 wd_264 rfl (Nat.le_of_ble_eq_true rfl) (kI_gd (fun h29 x30 => ?_))
        refine q_run tkL_holds 24 4 (pc' := 49) (L' := [some (.inr (.inr l0)), some (.inl l1), some (.inl l2), some (.inl l3), some (.inl l4), some (.inl l5), some (.inl x28), some (.inl x30), none]) (st' := [.inl (7 : Int32), .inl l5, .inr (.inr l0)]) rfl ?_
        refine q_cv (r := l0) (ci := 7) (n := 2) (as := [.inl l5, .inl (7 : Int32)]) (st := []) TX5 5 (soX5_ofReceipt X h29 l0 l5 (7 : Int32)) (tbm tkL_holds (i := 28) rfl) rfl rfl ceX5_ofReceipt wd_265 wd_266 wd_264 rfl (Nat.le_of_ble_eq_true rfl) (kI_gd (fun h31 x32 => ?_))
        refine q_run tkL_holds 29 3 (pc' := 57) (L' := [some (.inr (.inr l0)), some (.inl l1), some (.inl l2), some (.inl l3), some (.inl l4), some (.inl l5), some (.inl x28), some (.inl x30), some (.inl x32)]) (st' := [.inl x28, .inl l2]) rfl ?_
        refine q_if_ne (tbm tkL_holds (i := 32) rfl) ?_ ?_
        · refine q_run tkL_holds 33 2 (pc' := 65) (L' := [some (.inr (.inr l0)), some (.inl l1), some (.inl l2), some (.inl l3), some (.inl l4), some (.inl l5), some (.inl x28), some (.inl x30), some (.inl x32)]) (st' := [.inl (1 : Int32), .inl l2]) rfl ?_
          refine q_le (L' := [some (.inr (.inr l0)), some (.inl l1), none, some (.inl l3), some (.inl l4), some (.inl l5), some (.inl x28), some (.inl x30), some (.inl x32)]) (lvLe_s (lvLe_s (lvLe_n (lvLe_s (lvLe_s (lvLe_s (lvLe_s (lvLe_s (lvLe_s lvLe_0))))))))) ?_
          exact sL_holds_65 X (fL_holds_10 X.2.2.2 n) ih h31 l0 l1 l3 l4 l5 x28 x30 x32 l2 (1 : Int32)
        · refine q_run tkL_holds 35 1 (pc' := 65) (L' := [some (.inr (.inr l0)), some (.inl l1), some (.inl l2), some (.inl l3), some (.inl l4), some (.inl l5), some (.inl x28), some (.inl x30), some (.inl x32)]) (st' := [.inl (0 : Int32), .inl l2]) rfl ?_
          refine q_le (L' := [some (.inr (.inr l0)), some (.inl l1), none, some (.inl l3), some (.inl l4), some (.inl l5), some (.inl x28), some (.inl x30), some (.inl x32)]) (lvLe_s (lvLe_s (lvLe_n (lvLe_s (lvLe_s (lvLe_s (lvLe_s (lvLe_s (lvLe_s lvLe_0))))))))) ?_
          exact sL_holds_65 X (fL_holds_10 X.2.2.2 n) ih h31 l0 l1 l3 l4 l5 x28 x30 x32 l2 (0 : Int32)
def fL_holds (c : Nat → Option Nat) (h : Hp) (a0 : Option Nat) (a1 : Int32) : Rs := fL_holds_10 c FU h a0 a1 (0 : Int32) (0 : Int32) (0 : Int32) (1 : Int32)
set_option maxHeartbeats 4000000 in
set_option maxRecDepth 100000 in
theorem soL_holds (X : Cx) (h : Hp) (a0 : Option Nat) (a1 : Int32) : SO X mL_holds [.inr (.inr a0), .inl a1] h (fL_holds X.2.2.2 h a0 a1) := by
  refine so_of (by decide +kernel) (Nat.le_of_ble_eq_true rfl) ?_
  show Gd X mL_holds h (fL_holds X.2.2.2 h a0 a1) h 0 [some (.inr (.inr a0)), some (.inl a1), none, none, none, none, none, none, none] []
  unfold fL_holds
  refine q_run tkL_holds 0 8 (pc' := 10) (L' := [some (.inr (.inr a0)), some (.inl a1), some (.inl (0 : Int32)), some (.inl (0 : Int32)), some (.inl (0 : Int32)), some (.inl (1 : Int32)), none, none, none]) (st' := []) rfl ?_
  exact sL_holds_10 X FU h a0 a1 (0 : Int32) (0 : Int32) (0 : Int32) (1 : Int32)
theorem ceL_holds : Ce mL_holds 2 := ⟨wd_17, wd_804, by decide +kernel, by decide +kernel, by decide +kernel⟩
/-- ReceiptRollsLaw.law -/
abbrev mL_law : MI := (yL_law, cL_law, 16, some .boolean, 11)
def tbL_law : List TE := [(0, .new 13, 3, 0, 0), (3, .dup, 1, 0, 0), (4, .invokespecial 79, 3, 0, 0), (7, .astore_n 1, 1, 0, 0), (8, .iconst 0, 1, 0, 0), (9, .istore_n 2, 1, 0, 0), (10, .bipush 40, 2, 40, 0), (12, .istore_n 3, 1, 0, 0), (13, .iconst 0, 1, 0, 0), (14, .istore 4, 2, 0, 0), (16, .iload 4, 2, 0, 0), (18, .bipush 34, 2, 34, 0), (20, .if_icmp .ge 327, 3, 0, 347), (23, .iload 4, 2, 0, 0), (25, .iconst 3, 1, 3, 0), (26, .if_icmp .ge 17, 3, 0, 43), (29, .aload_n 0, 1, 0, 0), (30, .iconst 2, 1, 2, 0), (31, .iload 4, 2, 0, 0), (33, .imul, 1, 0, 0), (34, .invokestatic 80, 3, 0, 0), (37, .bipush 15, 2, 15, 0), (39, .ior, 1, 0, 0), (40, .goto 11, 3, 0, 51), (43, .aload_n 0, 1, 0, 0), (44, .iconst 2, 1, 2, 0), (45, .iload 4, 2, 0, 0), (47, .imul, 1, 0, 0), (48, .invokestatic 80, 3, 0, 0), (51, .istore 5, 2, 0, 0), (53, .aload_n 0, 1, 0, 0), (54, .iconst 2, 1, 2, 0), (55, .iload 4, 2, 0, 0), (57, .imul, 1, 0, 0), (58, .iconst 1, 1, 1, 0), (59, .iadd, 1, 0, 0), (60, .invokestatic 80, 3, 0, 0), (63, .istore 6, 2, 0, 0), (65, .iload 5, 2, 0, 0), (67, .bipush 15, 2, 15, 0), (69, .iand, 1, 0, 0), (70, .istore 7, 2, 0, 0), (72, .aload_n 1, 1, 0, 0), (73, .invokestatic 84, 3, 0, 0), (76, .lstore 8, 2, 0, 0), (78, .aload_n 1, 1, 0, 0), (79, .bipush 9, 2, 9, 0), (81, .invokevirtual 12, 3, 0, 0), (84, .istore 10, 2, 0, 0), (86, .aload_n 1, 1, 0, 0), (87, .iconst 3, 1, 3, 0), (88, .invokevirtual 12, 3, 0, 0), (91, .istore 11, 2, 0, 0), (93, .aload_n 1, 1, 0, 0), (94, .iload 5, 2, 0, 0), (96, .iload 6, 2, 0, 0), (98, .invokestatic 88, 3, 0, 0), (101, .istore 12, 2, 0, 0), (103, .aload_n 1, 1, 0, 0), (104, .invokestatic 84, 3, 0, 0), (107, .lstore 13, 2, 0, 0), (109, .iload 12, 2, 0, 0), (111, .ifCond .ge 25, 3, 0, 136), (114, .lload 13, 2, 0, 0), (116, .lload 8, 2, 0, 0), (118, .lcmp, 1, 0, 0), (119, .ifCond .ne 42, 3, 0, 161), (122, .aload_n 1, 1, 0, 0), (123, .bipush 9, 2, 9, 0), (125, .invokevirtual 12, 3, 0, 0), (128, .iload 10, 2, 0, 0), (130, .if_icmp .eq 33, 3, 0, 163), (133, .goto 28, 3, 0, 161), (136, .aload_n 1, 1, 0, 0), (137, .bipush 9, 2, 9, 0), (139, .invokevirtual 12, 3, 0, 0), (142, .iload 10, 2, 0, 0), (144, .bipush 6, 2, 6, 0), (146, .if_icmp .ge 10, 3, 0, 156), (149, .iload 10, 2, 0, 0), (151, .iconst 1, 1, 1, 0), (152, .iadd, 1, 0, 0), (153, .goto 5, 3, 0, 158), (156, .bipush 6, 2, 6, 0), (158, .if_icmp .eq 5, 3, 0, 163), (161, .iconst 0, 1, 0, 0), (162, .ireturn, 1, 0, 0), (163, .iload 12, 2, 0, 0), (165, .ifCond .lt 67, 3, 0, 232), (168, .iload 5, 2, 0, 0), (170, .bipush 10, 2, 10, 0), (172, .ishr, 1, 0, 0), (173, .iconst 1, 1, 1, 0), (174, .iand, 1, 0, 0), (175, .ifCond .ne 57, 3, 0, 232), (178, .aload_n 1, 1, 0, 0), (179, .bipush 9, 2, 9, 0), (181, .invokevirtual 12, 3, 0, 0), (184, .iconst 1, 1, 1, 0), (185, .isub, 1, 0, 0), (186, .istore 15, 2, 0, 0), (188, .aload_n 1, 1, 0, 0), (189, .invokevirtual 92, 3, 0, 0), (192, .iload 15, 2, 0, 0), (194, .if_icmp .ne 36, 3, 0, 230), (197, .aload_n 1, 1, 0, 0), (198, .invokestatic 84, 3, 0, 0), (201, .lload 8, 2, 0, 0), (203, .lcmp, 1, 0, 0), (204, .ifCond .ne 26, 3, 0, 230), (207, .aload_n 1, 1, 0, 0), (208, .iload 5, 2, 0, 0), (210, .iload 6, 2, 0, 0), (212, .invokestatic 88, 3, 0, 0), (215, .iload 12, 2, 0, 0), (217, .if_icmp .ne 13, 3, 0, 230), (220, .aload_n 1, 1, 0, 0), (221, .invokestatic 84, 3, 0, 0), (224, .lload 13, 2, 0, 0), (226, .lcmp, 1, 0, 0), (227, .ifCond .eq 5, 3, 0, 232), (230, .iconst 0, 1, 0, 0), (231, .ireturn, 1, 0, 0), (232, .iload_n 3, 1, 0, 0), (233, .iload 12, 2, 0, 0), (235, .ifCond .lt 18, 3, 0, 253), (238, .iload 7, 2, 0, 0), (240, .iconst 5, 1, 5, 0), (241, .if_icmp .ne 12, 3, 0, 253), (244, .aload_n 1, 1, 0, 0), (245, .bipush 6, 2, 6, 0), (247, .invokevirtual 12, 3, 0, 0), (250, .goto 4, 3, 0, 254), (253, .iconst 0, 1, 0, 0), (254, .iadd, 1, 0, 0), (255, .istore_n 3, 1, 0, 0), (256, .aload_n 1, 1, 0, 0), (257, .iconst 3, 1, 3, 0), (258, .invokevirtual 12, 3, 0, 0), (261, .iload 11, 2, 0, 0), (263, .if_icmp .le 39, 3, 0, 302), (266, .aload_n 1, 1, 0, 0), (267, .iconst 2, 1, 2, 0), (268, .invokevirtual 18, 3, 0, 0), (271, .aload_n 1, 1, 0, 0), (272, .iconst 3, 1, 3, 0), (273, .invokevirtual 18, 3, 0, 0), (276, .isub, 1, 0, 0), (277, .aload_n 1, 1, 0, 0), (278, .iconst 0, 1, 0, 0), (279, .invokevirtual 18, 3, 0, 0), (282, .ifCond .ge 7, 3, 0, 289), (285, .iconst 0, 1, 0, 0), (286, .goto 14, 3, 0, 300), (289, .aload_n 1, 1, 0, 0), (290, .aload_n 1, 1, 0, 0), (291, .iconst 0, 1, 0, 0), (292, .invokevirtual 18, 3, 0, 0), (295, .bipush 7, 2, 7, 0), (297, .invokevirtual 25, 3, 0, 0), (300, .isub, 1, 0, 0), (301, .istore_n 2, 1, 0, 0), (302, .aload_n 1, 1, 0, 0), (303, .iconst 2, 1, 2, 0), (304, .invokevirtual 18, 3, 0, 0), (307, .aload_n 1, 1, 0, 0), (308, .iconst 1, 1, 1, 0), (309, .invokevirtual 18, 3, 0, 0), (312, .iadd, 1, 0, 0), (313, .aload_n 1, 1, 0, 0), (314, .iconst 5, 1, 5, 0), (315, .invokevirtual 18, 3, 0, 0), (318, .iadd, 1, 0, 0), (319, .iload_n 3, 1, 0, 0), (320, .if_icmp .ne 19, 3, 0, 339), (323, .iload 4, 2, 0, 0), (325, .iconst 2, 1, 2, 0), (326, .irem, 1, 0, 0), (327, .iconst 1, 1, 1, 0), (328, .if_icmp .ne 13, 3, 0, 341), (331, .aload_n 1, 1, 0, 0), (332, .iload_n 2, 1, 0, 0), (333, .invokestatic 95, 3, 0, 0), (336, .ifCond .ne 5, 3, 0, 341), (339, .iconst 0, 1, 0, 0), (340, .ireturn, 1, 0, 0), (341, .iinc 4 1, 3, 1, 0), (344, .goto (-328), 3, 0, 16), (347, .iconst 1, 1, 1, 0), (348, .ireturn, 1, 0, 0)]
theorem tkL_law : ∀ x ∈ tbL_law, tbB cL_law x = true := tb_all (by decide +kernel)
def fL_law_161 (c : Nat → Option Nat) (h : Hp) : Rs := rtI .boolean h (0 : Int32)
set_option maxHeartbeats 4000000 in
set_option maxRecDepth 100000 in
theorem sL_law_161 (X : Cx) {h0 : Hp} (h : Hp) : Gd X mL_law h0 (fL_law_161 X.2.2.2 h) h 161 [none, none, none, none, none, none, none, none, none, none, none, none, none, none, none, none] [] := by
  unfold fL_law_161
  refine q_run tkL_law 85 1 (pc' := 162) (L' := [none, none, none, none, none, none, none, none, none, none, none, none, none, none, none, none]) (st' := [.inl (0 : Int32)]) rfl ?_
  exact q_zret (tbm tkL_law (i := 86) rfl) rfl
def fL_law_230 (c : Nat → Option Nat) (h : Hp) : Rs := rtI .boolean h (0 : Int32)
set_option maxHeartbeats 4000000 in
set_option maxRecDepth 100000 in
theorem sL_law_230 (X : Cx) {h0 : Hp} (h : Hp) : Gd X mL_law h0 (fL_law_230 X.2.2.2 h) h 230 [none, none, none, none, none, none, none, none, none, none, none, none, none, none, none, none] [] := by
  unfold fL_law_230
  refine q_run tkL_law 121 1 (pc' := 231) (L' := [none, none, none, none, none, none, none, none, none, none, none, none, none, none, none, none]) (st' := [.inl (0 : Int32)]) rfl ?_
  exact q_zret (tbm tkL_law (i := 122) rfl) rfl
def fL_law_339 (c : Nat → Option Nat) (h : Hp) : Rs := rtI .boolean h (0 : Int32)
set_option maxHeartbeats 4000000 in
set_option maxRecDepth 100000 in
theorem sL_law_339 (X : Cx) {h0 : Hp} (h : Hp) : Gd X mL_law h0 (fL_law_339 X.2.2.2 h) h 339 [none, none, none, none, none, none, none, none, none, none, none, none, none, none, none, none] [] := by
  unfold fL_law_339
  refine q_run tkL_law 184 1 (pc' := 340) (L' := [none, none, none, none, none, none, none, none, none, none, none, none, none, none, none, none]) (st' := [.inl (0 : Int32)]) rfl ?_
  exact q_zret (tbm tkL_law (i := 185) rfl) rfl
def fL_law_341 (c : Nat → Option Nat) (k16 : Hp → Option Nat → Option Nat → Int32 → Int32 → Int32 → Rs) (h : Hp) (l0 : Option Nat) (l1 : Option Nat) (l2 : Int32) (l3 : Int32) (l4 : Int32) : Rs := k16 h l0 l1 l2 l3 (l4 + (1 : Int32))
set_option maxHeartbeats 4000000 in
set_option maxRecDepth 100000 in
theorem sL_law_341 (X : Cx) {h0 : Hp} (k16 : Hp → Option Nat → Option Nat → Int32 → Int32 → Int32 → Rs) (hk16 : ∀ (h : Hp) (l0 : Option Nat) (l1 : Option Nat) (l2 : Int32) (l3 : Int32) (l4 : Int32), Gd X mL_law h0 (k16 h l0 l1 l2 l3 l4) h 16 [some (.inr (.inr l0)), some (.inr (.inr l1)), some (.inl l2), some (.inl l3), some (.inl l4), none, none, none, none, none, none, none, none, none, none, none] []) (h : Hp) (l0 : Option Nat) (l1 : Option Nat) (l2 : Int32) (l3 : Int32) (l4 : Int32) : Gd X mL_law h0 (fL_law_341 X.2.2.2 k16 h l0 l1 l2 l3 l4) h 341 [some (.inr (.inr l0)), some (.inr (.inr l1)), some (.inl l2), some (.inl l3), some (.inl l4), none, none, none, none, none, none, none, none, none, none, none] [] := by
  unfold fL_law_341
  refine q_run tkL_law 186 2 (pc' := 16) (L' := [some (.inr (.inr l0)), some (.inr (.inr l1)), some (.inl l2), some (.inl l3), some (.inl (l4 + (1 : Int32))), none, none, none, none, none, none, none, none, none, none, none]) (st' := []) rfl ?_
  exact hk16 h l0 l1 l2 l3 (l4 + (1 : Int32))
def fL_law_302 (c : Nat → Option Nat) (k16 : Hp → Option Nat → Option Nat → Int32 → Int32 → Int32 → Rs) (h : Hp) (l0 : Option Nat) (l1 : Option Nat) (l2 : Int32) (l3 : Int32) (l4 : Int32) : Rs := ck h l1 7 (cc (fX5_printer c h l1 (2 : Int32)) (kI fun h1 x2 => ck h1 l1 7 (cc (fX5_printer c h1 l1 (1 : Int32)) (kI fun h3 x4 => ck h3 l1 7 (cc (fX5_printer c h3 l1 (5 : Int32)) (kI fun h5 x6 => if ((x2 + x4) + x6) = l3 then (dv (2 : Int32) (if (l4 - l4 / (2 : Int32) * (2 : Int32)) = (1 : Int32) then (cc (fL_holds c h5 l1 l2) (kI fun h7 x8 => if x8 = 0 then (fL_law_339 c h7) else (fL_law_341 c k16 h7 l0 l1 l2 l3 l4))) else (fL_law_341 c k16 h5 l0 l1 l2 l3 l4))) else (fL_law_339 c h5)))))))
set_option maxHeartbeats 4000000 in
set_option maxRecDepth 100000 in
theorem sL_law_302 (X : Cx) {h0 : Hp} (k16 : Hp → Option Nat → Option Nat → Int32 → Int32 → Int32 → Rs) (hk16 : ∀ (h : Hp) (l0 : Option Nat) (l1 : Option Nat) (l2 : Int32) (l3 : Int32) (l4 : Int32), Gd X mL_law h0 (k16 h l0 l1 l2 l3 l4) h 16 [some (.inr (.inr l0)), some (.inr (.inr l1)), some (.inl l2), some (.inl l3), some (.inl l4), none, none, none, none, none, none, none, none, none, none, none] []) (h : Hp) (l0 : Option Nat) (l1 : Option Nat) (l2 : Int32) (l3 : Int32) (l4 : Int32) : Gd X mL_law h0 (fL_law_302 X.2.2.2 k16 h l0 l1 l2 l3 l4) h 302 [some (.inr (.inr l0)), some (.inr (.inr l1)), some (.inl l2), some (.inl l3), some (.inl l4), none, none, none, none, none, none, none, none, none, none, none] [] := by
  unfold fL_law_302
  refine q_run tkL_law 162 2 (pc' := 304) (L' := [some (.inr (.inr l0)), some (.inr (.inr l1)), some (.inl l2), some (.inl l3), some (.inl l4), none, none, none, none, none, none, none, none, none, none, none]) (st' := [.inl (2 : Int32), .inr (.inr l1)]) rfl ?_
  refine q_cv (r := l1) (ci := 7) (n := 1) (as := [.inl (2 : Int32)]) (st := []) TX5 5 (soX5_printer X h l1 (2 : Int32)) (tbm tkL_law (i := 164) rfl) rfl rfl ceX5_printer wd_307 wd_308 wd_306 rfl (Nat.le_of_ble_eq_true rfl) (kI_gd (fun h1 x2 => ?_))
  refine q_run tkL_law 165 2 (pc' := 309) (L' := [some (.inr (.inr l0)), some (.inr (.inr l1)), some (.inl l2), some (.inl l3), some (.inl l4), none, none, none, none, none, none, none, none, none, none, none]) (st' := [.inl (1 : Int32), .inr (.inr l1), .inl x2]) rfl ?_
  refine q_cv (r := l1) (ci := 7) (n := 1) (as := [.inl (1 : Int32)]) (st := [.inl x2]) TX5 5 (soX5_printer X h1 l1 (1 : Int32)) (tbm tkL_law (i := 167) rfl) rfl rfl ceX5_printer wd_307 wd_308 wd_306 rfl (Nat.le_of_ble_eq_true rfl) (kI_gd (fun h3 x4 => ?_))
  refine q_run tkL_law 168 3 (pc' := 315) (L' := [some (.inr (.inr l0)), some (.inr (.inr l1)), some (.inl l2), some (.inl l3), some (.inl l4), none, none, none, none, none, none, none, none, none, none, none]) (st' := [.inl (5 : Int32), .inr (.inr l1), .inl (x2 + x4)]) rfl ?_
  refine q_cv (r := l1) (ci := 7) (n := 1) (as := [.inl (5 : Int32)]) (st := [.inl (x2 + x4)]) TX5 5 (soX5_printer X h3 l1 (5 : Int32)) (tbm tkL_law (i := 171) rfl) rfl rfl ceX5_printer wd_307 wd_308 wd_306 rfl (Nat.le_of_ble_eq_true rfl) (kI_gd (fun h5 x6 => ?_))
  refine q_run tkL_law 172 2 (pc' := 320) (L' := [some (.inr (.inr l0)), some (.inr (.inr l1)), some (.inl l2), some (.inl l3), some (.inl l4), none, none, none, none, none, none, none, none, none, none, none]) (st' := [.inl l3, .inl ((x2 + x4) + x6)]) rfl ?_
  refine q_icmp_ne (tbm tkL_law (i := 174) rfl) ?_ ?_
  · refine q_run tkL_law 175 2 (pc' := 326) (L' := [some (.inr (.inr l0)), some (.inr (.inr l1)), some (.inl l2), some (.inl l3), some (.inl l4), none, none, none, none, none, none, none, none, none, none, none]) (st' := [.inl (2 : Int32), .inl l4]) rfl ?_
    refine q_rem (tbm tkL_law (i := 177) rfl) ?_
    refine q_run tkL_law 178 1 (pc' := 328) (L' := [some (.inr (.inr l0)), some (.inr (.inr l1)), some (.inl l2), some (.inl l3), some (.inl l4), none, none, none, none, none, none, none, none, none, none, none]) (st' := [.inl (1 : Int32), .inl (l4 - l4 / (2 : Int32) * (2 : Int32))]) rfl ?_
    refine q_icmp_ne (tbm tkL_law (i := 179) rfl) ?_ ?_
    · refine q_run tkL_law 180 2 (pc' := 333) (L' := [some (.inr (.inr l0)), some (.inr (.inr l1)), some (.inl l2), some (.inl l3), some (.inl l4), none, none, none, none, none, none, none, none, none, none, none]) (st' := [.inl l2, .inr (.inr l1)]) rfl ?_
      refine q_cs (n := 2) (as := [.inr (.inr l1), .inl l2]) (st := []) (soL_holds X h5 l1 l2) (tbm tkL_law (i := 182) rfl) rfl ceL_holds wd_803 wd_802 rfl (Nat.le_of_ble_eq_true rfl) (kI_gd (fun h7 x8 => ?_))
      refine q_if_ne (tbm tkL_law (i := 183) rfl) ?_ ?_
      · refine q_le (L' := [none, none, none, none, none, none, none, none, none, none, none, none, none, none, none, none]) (lvLe_n (lvLe_n (lvLe_n (lvLe_n (lvLe_n (lvLe_n (lvLe_n (lvLe_n (lvLe_n (lvLe_n (lvLe_n (lvLe_n (lvLe_n (lvLe_n (lvLe_n (lvLe_n lvLe_0)))))))))))))))) ?_
        exact sL_law_339 X h7
      · exact sL_law_341 X k16 hk16 h7 l0 l1 l2 l3 l4
    · exact sL_law_341 X k16 hk16 h5 l0 l1 l2 l3 l4
  · refine q_le (L' := [none, none, none, none, none, none, none, none, none, none, none, none, none, none, none, none]) (lvLe_n (lvLe_n (lvLe_n (lvLe_n (lvLe_n (lvLe_n (lvLe_n (lvLe_n (lvLe_n (lvLe_n (lvLe_n (lvLe_n (lvLe_n (lvLe_n (lvLe_n (lvLe_n lvLe_0)))))))))))))))) ?_
    exact sL_law_339 X h5
def fL_law_300 (c : Nat → Option Nat) (k16 : Hp → Option Nat → Option Nat → Int32 → Int32 → Int32 → Rs) (h : Hp) (l0 : Option Nat) (l1 : Option Nat) (l3 : Int32) (l4 : Int32) (s0 : Int32) (s1 : Int32) : Rs := fL_law_302 c k16 h l0 l1 (s0 - s1) l3 l4
set_option maxHeartbeats 4000000 in
set_option maxRecDepth 100000 in
theorem sL_law_300 (X : Cx) {h0 : Hp} (k16 : Hp → Option Nat → Option Nat → Int32 → Int32 → Int32 → Rs) (hk16 : ∀ (h : Hp) (l0 : Option Nat) (l1 : Option Nat) (l2 : Int32) (l3 : Int32) (l4 : Int32), Gd X mL_law h0 (k16 h l0 l1 l2 l3 l4) h 16 [some (.inr (.inr l0)), some (.inr (.inr l1)), some (.inl l2), some (.inl l3), some (.inl l4), none, none, none, none, none, none, none, none, none, none, none] []) (h : Hp) (l0 : Option Nat) (l1 : Option Nat) (l3 : Int32) (l4 : Int32) (s0 : Int32) (s1 : Int32) : Gd X mL_law h0 (fL_law_300 X.2.2.2 k16 h l0 l1 l3 l4 s0 s1) h 300 [some (.inr (.inr l0)), some (.inr (.inr l1)), none, some (.inl l3), some (.inl l4), none, none, none, none, none, none, none, none, none, none, none] [.inl s1, .inl s0] := by
  unfold fL_law_300
  refine q_run tkL_law 160 2 (pc' := 302) (L' := [some (.inr (.inr l0)), some (.inr (.inr l1)), some (.inl (s0 - s1)), some (.inl l3), some (.inl l4), none, none, none, none, none, none, none, none, none, none, none]) (st' := []) rfl ?_
  exact sL_law_302 X k16 hk16 h l0 l1 (s0 - s1) l3 l4
def fL_law_254 (c : Nat → Option Nat) (k16 : Hp → Option Nat → Option Nat → Int32 → Int32 → Int32 → Rs) (h : Hp) (l0 : Option Nat) (l1 : Option Nat) (l2 : Int32) (l4 : Int32) (l11 : Int32) (s0 : Int32) (s1 : Int32) : Rs := ck h l1 7 (cc (fX5_count c h l1 (3 : Int32)) (kI fun h9 x10 => if l11 < x10 then (ck h9 l1 7 (cc (fX5_printer c h9 l1 (2 : Int32)) (kI fun h11 x12 => ck h11 l1 7 (cc (fX5_printer c h11 l1 (3 : Int32)) (kI fun h13 x14 => ck h13 l1 7 (cc (fX5_printer c h13 l1 (0 : Int32)) (kI fun h15 x16 => if x16 < 0 then (fL_law_300 c k16 h15 l0 l1 (s0 + s1) l4 (x12 - x14) (0 : Int32)) else (ck h15 l1 7 (cc (fX5_printer c h15 l1 (0 : Int32)) (kI fun h17 x18 => ck h17 l1 7 (cc (fX5_ofReceipt c h17 l1 x18 (7 : Int32)) (kI fun h19 x20 => fL_law_300 c k16 h19 l0 l1 (s0 + s1) l4 (x12 - x14) x20)))))))))))) else (fL_law_302 c k16 h9 l0 l1 l2 (s0 + s1) l4)))
set_option maxHeartbeats 4000000 in
set_option maxRecDepth 100000 in
theorem sL_law_254 (X : Cx) {h0 : Hp} (k16 : Hp → Option Nat → Option Nat → Int32 → Int32 → Int32 → Rs) (hk16 : ∀ (h : Hp) (l0 : Option Nat) (l1 : Option Nat) (l2 : Int32) (l3 : Int32) (l4 : Int32), Gd X mL_law h0 (k16 h l0 l1 l2 l3 l4) h 16 [some (.inr (.inr l0)), some (.inr (.inr l1)), some (.inl l2), some (.inl l3), some (.inl l4), none, none, none, none, none, none, none, none, none, none, none] []) (h : Hp) (l0 : Option Nat) (l1 : Option Nat) (l2 : Int32) (l4 : Int32) (l11 : Int32) (s0 : Int32) (s1 : Int32) : Gd X mL_law h0 (fL_law_254 X.2.2.2 k16 h l0 l1 l2 l4 l11 s0 s1) h 254 [some (.inr (.inr l0)), some (.inr (.inr l1)), some (.inl l2), none, some (.inl l4), none, none, none, none, none, none, some (.inl l11), none, none, none, none] [.inl s1, .inl s0] := by
  unfold fL_law_254
  refine q_run tkL_law 134 4 (pc' := 258) (L' := [some (.inr (.inr l0)), some (.inr (.inr l1)), some (.inl l2), some (.inl (s0 + s1)), some (.inl l4), none, none, none, none, none, none, some (.inl l11), none, none, none, none]) (st' := [.inl (3 : Int32), .inr (.inr l1)]) rfl ?_
  refine q_cv (r := l1) (ci := 7) (n := 1) (as := [.inl (3 : Int32)]) (st := []) TX5 5 (soX5_count X h l1 (3 : Int32)) (tbm tkL_law (i := 138) rfl) rfl rfl ceX5_count wd_311 wd_312 wd_310 rfl (Nat.le_of_ble_eq_true rfl) (kI_gd (fun h9 x10 => ?_))
  refine q_run tkL_law 139 1 (pc' := 263) (L' := [some (.inr (.inr l0)), some (.inr (.inr l1)), some (.inl l2), some (.inl (s0 + s1)), some (.inl l4), none, none, none, none, none, none, some (.inl l11), none, none, none, none]) (st' := [.inl l11, .inl x10]) rfl ?_
  refine q_icmp_le (tbm tkL_law (i := 140) rfl) ?_ ?_
  · refine q_run tkL_law 141 2 (pc' := 268) (L' := [some (.inr (.inr l0)), some (.inr (.inr l1)), some (.inl l2), some (.inl (s0 + s1)), some (.inl l4), none, none, none, none, none, none, some (.inl l11), none, none, none, none]) (st' := [.inl (2 : Int32), .inr (.inr l1)]) rfl ?_
    refine q_cv (r := l1) (ci := 7) (n := 1) (as := [.inl (2 : Int32)]) (st := []) TX5 5 (soX5_printer X h9 l1 (2 : Int32)) (tbm tkL_law (i := 143) rfl) rfl rfl ceX5_printer wd_307 wd_308 wd_306 rfl (Nat.le_of_ble_eq_true rfl) (kI_gd (fun h11 x12 => ?_))
    refine q_run tkL_law 144 2 (pc' := 273) (L' := [some (.inr (.inr l0)), some (.inr (.inr l1)), some (.inl l2), some (.inl (s0 + s1)), some (.inl l4), none, none, none, none, none, none, some (.inl l11), none, none, none, none]) (st' := [.inl (3 : Int32), .inr (.inr l1), .inl x12]) rfl ?_
    refine q_cv (r := l1) (ci := 7) (n := 1) (as := [.inl (3 : Int32)]) (st := [.inl x12]) TX5 5 (soX5_printer X h11 l1 (3 : Int32)) (tbm tkL_law (i := 146) rfl) rfl rfl ceX5_printer wd_307 wd_308 wd_306 rfl (Nat.le_of_ble_eq_true rfl) (kI_gd (fun h13 x14 => ?_))
    refine q_run tkL_law 147 3 (pc' := 279) (L' := [some (.inr (.inr l0)), some (.inr (.inr l1)), some (.inl l2), some (.inl (s0 + s1)), some (.inl l4), none, none, none, none, none, none, some (.inl l11), none, none, none, none]) (st' := [.inl (0 : Int32), .inr (.inr l1), .inl (x12 - x14)]) rfl ?_
    refine q_cv (r := l1) (ci := 7) (n := 1) (as := [.inl (0 : Int32)]) (st := [.inl (x12 - x14)]) TX5 5 (soX5_printer X h13 l1 (0 : Int32)) (tbm tkL_law (i := 150) rfl) rfl rfl ceX5_printer wd_307 wd_308 wd_306 rfl (Nat.le_of_ble_eq_true rfl) (kI_gd (fun h15 x16 => ?_))
    refine q_if_ge (tbm tkL_law (i := 151) rfl) ?_ ?_
    · refine q_run tkL_law 152 2 (pc' := 300) (L' := [some (.inr (.inr l0)), some (.inr (.inr l1)), some (.inl l2), some (.inl (s0 + s1)), some (.inl l4), none, none, none, none, none, none, some (.inl l11), none, none, none, none]) (st' := [.inl (0 : Int32), .inl (x12 - x14)]) rfl ?_
      refine q_le (L' := [some (.inr (.inr l0)), some (.inr (.inr l1)), none, some (.inl (s0 + s1)), some (.inl l4), none, none, none, none, none, none, none, none, none, none, none]) (lvLe_s (lvLe_s (lvLe_n (lvLe_s (lvLe_s (lvLe_n (lvLe_n (lvLe_n (lvLe_n (lvLe_n (lvLe_n (lvLe_n (lvLe_n (lvLe_n (lvLe_n (lvLe_n lvLe_0)))))))))))))))) ?_
      exact sL_law_300 X k16 hk16 h15 l0 l1 (s0 + s1) l4 (x12 - x14) (0 : Int32)
    · refine q_run tkL_law 154 3 (pc' := 292) (L' := [some (.inr (.inr l0)), some (.inr (.inr l1)), some (.inl l2), some (.inl (s0 + s1)), some (.inl l4), none, none, none, none, none, none, some (.inl l11), none, none, none, none]) (st' := [.inl (0 : Int32), .inr (.inr l1), .inr (.inr l1), .inl (x12 - x14)]) rfl ?_
      refine q_cv (r := l1) (ci := 7) (n := 1) (as := [.inl (0 : Int32)]) (st := [.inr (.inr l1), .inl (x12 - x14)]) TX5 5 (soX5_printer X h15 l1 (0 : Int32)) (tbm tkL_law (i := 157) rfl) rfl rfl ceX5_printer wd_307 wd_308 wd_306 rfl (Nat.le_of_ble_eq_true rfl) (kI_gd (fun h17 x18 => ?_))
      refine q_run tkL_law 158 1 (pc' := 297) (L' := [some (.inr (.inr l0)), some (.inr (.inr l1)), some (.inl l2), some (.inl (s0 + s1)), some (.inl l4), none, none, none, none, none, none, some (.inl l11), none, none, none, none]) (st' := [.inl (7 : Int32), .inl x18, .inr (.inr l1), .inl (x12 - x14)]) rfl ?_
      refine q_cv (r := l1) (ci := 7) (n := 2) (as := [.inl x18, .inl (7 : Int32)]) (st := [.inl (x12 - x14)]) TX5 5 (soX5_ofReceipt X h17 l1 x18 (7 : Int32)) (tbm tkL_law (i := 159) rfl) rfl rfl ceX5_ofReceipt wd_265 wd_266 wd_264 rfl (Nat.le_of_ble_eq_true rfl) (kI_gd (fun h19 x20 => ?_))
      refine q_le (L' := [some (.inr (.inr l0)), some (.inr (.inr l1)), none, some (.inl (s0 + s1)), some (.inl l4), none, none, none, none, none, none, none, none, none, none, none]) (lvLe_s (lvLe_s (lvLe_n (lvLe_s (lvLe_s (lvLe_n (lvLe_n (lvLe_n (lvLe_n (lvLe_n (lvLe_n (lvLe_n (lvLe_n (lvLe_n (lvLe_n (lvLe_n lvLe_0)))))))))))))))) ?_
      exact sL_law_300 X k16 hk16 h19 l0 l1 (s0 + s1) l4 (x12 - x14) x20
  · refine q_le (L' := [some (.inr (.inr l0)), some (.inr (.inr l1)), some (.inl l2), some (.inl (s0 + s1)), some (.inl l4), none, none, none, none, none, none, none, none, none, none, none]) (lvLe_s (lvLe_s (lvLe_s (lvLe_s (lvLe_s (lvLe_n (lvLe_n (lvLe_n (lvLe_n (lvLe_n (lvLe_n (lvLe_n (lvLe_n (lvLe_n (lvLe_n (lvLe_n lvLe_0)))))))))))))))) ?_
    exact sL_law_302 X k16 hk16 h9 l0 l1 l2 (s0 + s1) l4
def fL_law_253 (c : Nat → Option Nat) (k16 : Hp → Option Nat → Option Nat → Int32 → Int32 → Int32 → Rs) (h : Hp) (l0 : Option Nat) (l1 : Option Nat) (l2 : Int32) (l4 : Int32) (l11 : Int32) (s0 : Int32) : Rs := fL_law_254 c k16 h l0 l1 l2 l4 l11 s0 (0 : Int32)
set_option maxHeartbeats 4000000 in
set_option maxRecDepth 100000 in
theorem sL_law_253 (X : Cx) {h0 : Hp} (k16 : Hp → Option Nat → Option Nat → Int32 → Int32 → Int32 → Rs) (hk16 : ∀ (h : Hp) (l0 : Option Nat) (l1 : Option Nat) (l2 : Int32) (l3 : Int32) (l4 : Int32), Gd X mL_law h0 (k16 h l0 l1 l2 l3 l4) h 16 [some (.inr (.inr l0)), some (.inr (.inr l1)), some (.inl l2), some (.inl l3), some (.inl l4), none, none, none, none, none, none, none, none, none, none, none] []) (h : Hp) (l0 : Option Nat) (l1 : Option Nat) (l2 : Int32) (l4 : Int32) (l11 : Int32) (s0 : Int32) : Gd X mL_law h0 (fL_law_253 X.2.2.2 k16 h l0 l1 l2 l4 l11 s0) h 253 [some (.inr (.inr l0)), some (.inr (.inr l1)), some (.inl l2), none, some (.inl l4), none, none, none, none, none, none, some (.inl l11), none, none, none, none] [.inl s0] := by
  unfold fL_law_253
  refine q_run tkL_law 133 1 (pc' := 254) (L' := [some (.inr (.inr l0)), some (.inr (.inr l1)), some (.inl l2), none, some (.inl l4), none, none, none, none, none, none, some (.inl l11), none, none, none, none]) (st' := [.inl (0 : Int32), .inl s0]) rfl ?_
  exact sL_law_254 X k16 hk16 h l0 l1 l2 l4 l11 s0 (0 : Int32)
def fL_law_232 (c : Nat → Option Nat) (k16 : Hp → Option Nat → Option Nat → Int32 → Int32 → Int32 → Rs) (h : Hp) (l0 : Option Nat) (l1 : Option Nat) (l2 : Int32) (l3 : Int32) (l4 : Int32) (l7 : Int32) (l11 : Int32) (l12 : Int32) : Rs := if l12 < 0 then (fL_law_253 c k16 h l0 l1 l2 l4 l11 l3) else (if l7 = (5 : Int32) then (ck h l1 7 (cc (fX5_count c h l1 (6 : Int32)) (kI fun h21 x22 => fL_law_254 c k16 h21 l0 l1 l2 l4 l11 l3 x22))) else (fL_law_253 c k16 h l0 l1 l2 l4 l11 l3))
set_option maxHeartbeats 4000000 in
set_option maxRecDepth 100000 in
theorem sL_law_232 (X : Cx) {h0 : Hp} (k16 : Hp → Option Nat → Option Nat → Int32 → Int32 → Int32 → Rs) (hk16 : ∀ (h : Hp) (l0 : Option Nat) (l1 : Option Nat) (l2 : Int32) (l3 : Int32) (l4 : Int32), Gd X mL_law h0 (k16 h l0 l1 l2 l3 l4) h 16 [some (.inr (.inr l0)), some (.inr (.inr l1)), some (.inl l2), some (.inl l3), some (.inl l4), none, none, none, none, none, none, none, none, none, none, none] []) (h : Hp) (l0 : Option Nat) (l1 : Option Nat) (l2 : Int32) (l3 : Int32) (l4 : Int32) (l7 : Int32) (l11 : Int32) (l12 : Int32) : Gd X mL_law h0 (fL_law_232 X.2.2.2 k16 h l0 l1 l2 l3 l4 l7 l11 l12) h 232 [some (.inr (.inr l0)), some (.inr (.inr l1)), some (.inl l2), some (.inl l3), some (.inl l4), none, none, some (.inl l7), none, none, none, some (.inl l11), some (.inl l12), none, none, none] [] := by
  unfold fL_law_232
  refine q_run tkL_law 123 2 (pc' := 235) (L' := [some (.inr (.inr l0)), some (.inr (.inr l1)), some (.inl l2), some (.inl l3), some (.inl l4), none, none, some (.inl l7), none, none, none, some (.inl l11), some (.inl l12), none, none, none]) (st' := [.inl l12, .inl l3]) rfl ?_
  refine q_if_lt (tbm tkL_law (i := 125) rfl) ?_ ?_
  · refine q_le (L' := [some (.inr (.inr l0)), some (.inr (.inr l1)), some (.inl l2), none, some (.inl l4), none, none, none, none, none, none, some (.inl l11), none, none, none, none]) (lvLe_s (lvLe_s (lvLe_s (lvLe_n (lvLe_s (lvLe_n (lvLe_n (lvLe_n (lvLe_n (lvLe_n (lvLe_n (lvLe_s (lvLe_n (lvLe_n (lvLe_n (lvLe_n lvLe_0)))))))))))))))) ?_
    exact sL_law_253 X k16 hk16 h l0 l1 l2 l4 l11 l3
  · refine q_run tkL_law 126 2 (pc' := 241) (L' := [some (.inr (.inr l0)), some (.inr (.inr l1)), some (.inl l2), some (.inl l3), some (.inl l4), none, none, some (.inl l7), none, none, none, some (.inl l11), some (.inl l12), none, none, none]) (st' := [.inl (5 : Int32), .inl l7, .inl l3]) rfl ?_
    refine q_icmp_ne (tbm tkL_law (i := 128) rfl) ?_ ?_
    · refine q_run tkL_law 129 2 (pc' := 247) (L' := [some (.inr (.inr l0)), some (.inr (.inr l1)), some (.inl l2), some (.inl l3), some (.inl l4), none, none, some (.inl l7), none, none, none, some (.inl l11), some (.inl l12), none, none, none]) (st' := [.inl (6 : Int32), .inr (.inr l1), .inl l3]) rfl ?_
      refine q_cv (r := l1) (ci := 7) (n := 1) (as := [.inl (6 : Int32)]) (st := [.inl l3]) TX5 5 (soX5_count X h l1 (6 : Int32)) (tbm tkL_law (i := 131) rfl) rfl rfl ceX5_count wd_311 wd_312 wd_310 rfl (Nat.le_of_ble_eq_true rfl) (kI_gd (fun h21 x22 => ?_))
      refine q_run tkL_law 132 1 (pc' := 254) (L' := [some (.inr (.inr l0)), some (.inr (.inr l1)), some (.inl l2), some (.inl l3), some (.inl l4), none, none, some (.inl l7), none, none, none, some (.inl l11), some (.inl l12), none, none, none]) (st' := [.inl x22, .inl l3]) rfl ?_
      refine q_le (L' := [some (.inr (.inr l0)), some (.inr (.inr l1)), some (.inl l2), none, some (.inl l4), none, none, none, none, none, none, some (.inl l11), none, none, none, none]) (lvLe_s (lvLe_s (lvLe_s (lvLe_n (lvLe_s (lvLe_n (lvLe_n (lvLe_n (lvLe_n (lvLe_n (lvLe_n (lvLe_s (lvLe_n (lvLe_n (lvLe_n (lvLe_n lvLe_0)))))))))))))))) ?_
      exact sL_law_254 X k16 hk16 h21 l0 l1 l2 l4 l11 l3 x22
    · refine q_le (L' := [some (.inr (.inr l0)), some (.inr (.inr l1)), some (.inl l2), none, some (.inl l4), none, none, none, none, none, none, some (.inl l11), none, none, none, none]) (lvLe_s (lvLe_s (lvLe_s (lvLe_n (lvLe_s (lvLe_n (lvLe_n (lvLe_n (lvLe_n (lvLe_n (lvLe_n (lvLe_s (lvLe_n (lvLe_n (lvLe_n (lvLe_n lvLe_0)))))))))))))))) ?_
      exact sL_law_253 X k16 hk16 h l0 l1 l2 l4 l11 l3
def fL_law_163 (c : Nat → Option Nat) (k16 : Hp → Option Nat → Option Nat → Int32 → Int32 → Int32 → Rs) (h : Hp) (l0 : Option Nat) (l1 : Option Nat) (l2 : Int32) (l3 : Int32) (l4 : Int32) (l5 : Int32) (l6 : Int32) (l7 : Int32) (l8 : Int64) (l11 : Int32) (l12 : Int32) (l13 : Int64) : Rs := if l12 < 0 then (fL_law_232 c k16 h l0 l1 l2 l3 l4 l7 l11 l12) else (if ((shrI l5 (10 : Int32)) &&& (1 : Int32)) = 0 then (ck h l1 7 (cc (fX5_count c h l1 (9 : Int32)) (kI fun h23 x24 => ck h23 l1 7 (cc (fX5_undo c h23 l1) (kI fun h25 x26 => if x26 = (x24 - (1 : Int32)) then (cc (fL_told c h25 l1) (kJ fun h27 y28 => if (lg_cmp y28 l8) = 0 then (cc (fL_act c h27 l1 l5 l6) (kI fun h29 x30 => if x30 = l12 then (cc (fL_told c h29 l1) (kJ fun h31 y32 => if (lg_cmp y32 l13) = 0 then (fL_law_232 c k16 h31 l0 l1 l2 l3 l4 l7 l11 l12) else (fL_law_230 c h31))) else (fL_law_230 c h29))) else (fL_law_230 c h27))) else (fL_law_230 c h25)))))) else (fL_law_232 c k16 h l0 l1 l2 l3 l4 l7 l11 l12))
set_option maxHeartbeats 4000000 in
set_option maxRecDepth 100000 in
theorem sL_law_163 (X : Cx) {h0 : Hp} (k16 : Hp → Option Nat → Option Nat → Int32 → Int32 → Int32 → Rs) (hk16 : ∀ (h : Hp) (l0 : Option Nat) (l1 : Option Nat) (l2 : Int32) (l3 : Int32) (l4 : Int32), Gd X mL_law h0 (k16 h l0 l1 l2 l3 l4) h 16 [some (.inr (.inr l0)), some (.inr (.inr l1)), some (.inl l2), some (.inl l3), some (.inl l4), none, none, none, none, none, none, none, none, none, none, none] []) (h : Hp) (l0 : Option Nat) (l1 : Option Nat) (l2 : Int32) (l3 : Int32) (l4 : Int32) (l5 : Int32) (l6 : Int32) (l7 : Int32) (l8 : Int64) (l11 : Int32) (l12 : Int32) (l13 : Int64) : Gd X mL_law h0 (fL_law_163 X.2.2.2 k16 h l0 l1 l2 l3 l4 l5 l6 l7 l8 l11 l12 l13) h 163 [some (.inr (.inr l0)), some (.inr (.inr l1)), some (.inl l2), some (.inl l3), some (.inl l4), some (.inl l5), some (.inl l6), some (.inl l7), some (.inr (.inl l8)), none, none, some (.inl l11), some (.inl l12), some (.inr (.inl l13)), none, none] [] := by
  unfold fL_law_163
  refine q_run tkL_law 87 1 (pc' := 165) (L' := [some (.inr (.inr l0)), some (.inr (.inr l1)), some (.inl l2), some (.inl l3), some (.inl l4), some (.inl l5), some (.inl l6), some (.inl l7), some (.inr (.inl l8)), none, none, some (.inl l11), some (.inl l12), some (.inr (.inl l13)), none, none]) (st' := [.inl l12]) rfl ?_
  refine q_if_lt (tbm tkL_law (i := 88) rfl) ?_ ?_
  · refine q_le (L' := [some (.inr (.inr l0)), some (.inr (.inr l1)), some (.inl l2), some (.inl l3), some (.inl l4), none, none, some (.inl l7), none, none, none, some (.inl l11), some (.inl l12), none, none, none]) (lvLe_s (lvLe_s (lvLe_s (lvLe_s (lvLe_s (lvLe_n (lvLe_n (lvLe_s (lvLe_n (lvLe_n (lvLe_n (lvLe_s (lvLe_s (lvLe_n (lvLe_n (lvLe_n lvLe_0)))))))))))))))) ?_
    exact sL_law_232 X k16 hk16 h l0 l1 l2 l3 l4 l7 l11 l12
  · refine q_run tkL_law 89 5 (pc' := 175) (L' := [some (.inr (.inr l0)), some (.inr (.inr l1)), some (.inl l2), some (.inl l3), some (.inl l4), some (.inl l5), some (.inl l6), some (.inl l7), some (.inr (.inl l8)), none, none, some (.inl l11), some (.inl l12), some (.inr (.inl l13)), none, none]) (st' := [.inl ((shrI l5 (10 : Int32)) &&& (1 : Int32))]) rfl ?_
    refine q_if_ne (tbm tkL_law (i := 94) rfl) ?_ ?_
    · refine q_run tkL_law 95 2 (pc' := 181) (L' := [some (.inr (.inr l0)), some (.inr (.inr l1)), some (.inl l2), some (.inl l3), some (.inl l4), some (.inl l5), some (.inl l6), some (.inl l7), some (.inr (.inl l8)), none, none, some (.inl l11), some (.inl l12), some (.inr (.inl l13)), none, none]) (st' := [.inl (9 : Int32), .inr (.inr l1)]) rfl ?_
      refine q_cv (r := l1) (ci := 7) (n := 1) (as := [.inl (9 : Int32)]) (st := []) TX5 5 (soX5_count X h l1 (9 : Int32)) (tbm tkL_law (i := 97) rfl) rfl rfl ceX5_count wd_311 wd_312 wd_310 rfl (Nat.le_of_ble_eq_true rfl) (kI_gd (fun h23 x24 => ?_))
      refine q_run tkL_law 98 4 (pc' := 189) (L' := [some (.inr (.inr l0)), some (.inr (.inr l1)), some (.inl l2), some (.inl l3), some (.inl l4), some (.inl l5), some (.inl l6), some (.inl l7), some (.inr (.inl l8)), none, none, some (.inl l11), some (.inl l12), some (.inr (.inl l13)), none, some (.inl (x24 - (1 : Int32)))]) (st' := [.inr (.inr l1)]) rfl ?_
      refine q_cv (r := l1) (ci := 7) (n := 0) (as := []) (st := []) TX5 5 (soX5_undo X h23 l1) (tbm tkL_law (i := 102) rfl) rfl rfl ceX5_undo wd_330 wd_331 wd_329 rfl (Nat.le_of_ble_eq_true rfl) (kI_gd (fun h25 x26 => ?_))
      refine q_run tkL_law 103 1 (pc' := 194) (L' := [some (.inr (.inr l0)), some (.inr (.inr l1)), some (.inl l2), some (.inl l3), some (.inl l4), some (.inl l5), some (.inl l6), some (.inl l7), some (.inr (.inl l8)), none, none, some (.inl l11), some (.inl l12), some (.inr (.inl l13)), none, some (.inl (x24 - (1 : Int32)))]) (st' := [.inl (x24 - (1 : Int32)), .inl x26]) rfl ?_
      refine q_icmp_ne (tbm tkL_law (i := 104) rfl) ?_ ?_
      · refine q_run tkL_law 105 1 (pc' := 198) (L' := [some (.inr (.inr l0)), some (.inr (.inr l1)), some (.inl l2), some (.inl l3), some (.inl l4), some (.inl l5), some (.inl l6), some (.inl l7), some (.inr (.inl l8)), none, none, some (.inl l11), some (.inl l12), some (.inr (.inl l13)), none, some (.inl (x24 - (1 : Int32)))]) (st' := [.inr (.inr l1)]) rfl ?_
        refine q_cs (n := 1) (as := [.inr (.inr l1)]) (st := []) (soL_told X h25 l1) (tbm tkL_law (i := 106) rfl) rfl ceL_told wd_352 wd_351 rfl (Nat.le_of_ble_eq_true rfl) (kJ_gd (fun h27 y28 => ?_))
        refine q_run tkL_law 107 2 (pc' := 204) (L' := [some (.inr (.inr l0)), some (.inr (.inr l1)), some (.inl l2), some (.inl l3), some (.inl l4), some (.inl l5), some (.inl l6), some (.inl l7), some (.inr (.inl l8)), none, none, some (.inl l11), some (.inl l12), some (.inr (.inl l13)), none, some (.inl (x24 - (1 : Int32)))]) (st' := [.inl (lg_cmp y28 l8)]) rfl ?_
        refine q_if_ne (tbm tkL_law (i := 109) rfl) ?_ ?_
        · refine q_run tkL_law 110 3 (pc' := 212) (L' := [some (.inr (.inr l0)), some (.inr (.inr l1)), some (.inl l2), some (.inl l3), some (.inl l4), some (.inl l5), some (.inl l6), some (.inl l7), some (.inr (.inl l8)), none, none, some (.inl l11), some (.inl l12), some (.inr (.inl l13)), none, some (.inl (x24 - (1 : Int32)))]) (st' := [.inl l6, .inl l5, .inr (.inr l1)]) rfl ?_
          refine q_cs (n := 3) (as := [.inr (.inr l1), .inl l5, .inl l6]) (st := []) (soL_act X h27 l1 l5 l6) (tbm tkL_law (i := 113) rfl) rfl ceL_act wd_490 wd_489 rfl (Nat.le_of_ble_eq_true rfl) (kI_gd (fun h29 x30 => ?_))
          refine q_run tkL_law 114 1 (pc' := 217) (L' := [some (.inr (.inr l0)), some (.inr (.inr l1)), some (.inl l2), some (.inl l3), some (.inl l4), some (.inl l5), some (.inl l6), some (.inl l7), some (.inr (.inl l8)), none, none, some (.inl l11), some (.inl l12), some (.inr (.inl l13)), none, some (.inl (x24 - (1 : Int32)))]) (st' := [.inl l12, .inl x30]) rfl ?_
          refine q_icmp_ne (tbm tkL_law (i := 115) rfl) ?_ ?_
          · refine q_run tkL_law 116 1 (pc' := 221) (L' := [some (.inr (.inr l0)), some (.inr (.inr l1)), some (.inl l2), some (.inl l3), some (.inl l4), some (.inl l5), some (.inl l6), some (.inl l7), some (.inr (.inl l8)), none, none, some (.inl l11), some (.inl l12), some (.inr (.inl l13)), none, some (.inl (x24 - (1 : Int32)))]) (st' := [.inr (.inr l1)]) rfl ?_
            refine q_cs (n := 1) (as := [.inr (.inr l1)]) (st := []) (soL_told X h29 l1) (tbm tkL_law (i := 117) rfl) rfl ceL_told wd_352 wd_351 rfl (Nat.le_of_ble_eq_true rfl) (kJ_gd (fun h31 y32 => ?_))
            refine q_run tkL_law 118 2 (pc' := 227) (L' := [some (.inr (.inr l0)), some (.inr (.inr l1)), some (.inl l2), some (.inl l3), some (.inl l4), some (.inl l5), some (.inl l6), some (.inl l7), some (.inr (.inl l8)), none, none, some (.inl l11), some (.inl l12), some (.inr (.inl l13)), none, some (.inl (x24 - (1 : Int32)))]) (st' := [.inl (lg_cmp y32 l13)]) rfl ?_
            refine q_if_eq (tbm tkL_law (i := 120) rfl) ?_ ?_
            · refine q_le (L' := [some (.inr (.inr l0)), some (.inr (.inr l1)), some (.inl l2), some (.inl l3), some (.inl l4), none, none, some (.inl l7), none, none, none, some (.inl l11), some (.inl l12), none, none, none]) (lvLe_s (lvLe_s (lvLe_s (lvLe_s (lvLe_s (lvLe_n (lvLe_n (lvLe_s (lvLe_n (lvLe_n (lvLe_n (lvLe_s (lvLe_s (lvLe_n (lvLe_n (lvLe_n lvLe_0)))))))))))))))) ?_
              exact sL_law_232 X k16 hk16 h31 l0 l1 l2 l3 l4 l7 l11 l12
            · refine q_le (L' := [none, none, none, none, none, none, none, none, none, none, none, none, none, none, none, none]) (lvLe_n (lvLe_n (lvLe_n (lvLe_n (lvLe_n (lvLe_n (lvLe_n (lvLe_n (lvLe_n (lvLe_n (lvLe_n (lvLe_n (lvLe_n (lvLe_n (lvLe_n (lvLe_n lvLe_0)))))))))))))))) ?_
              exact sL_law_230 X h31
          · refine q_le (L' := [none, none, none, none, none, none, none, none, none, none, none, none, none, none, none, none]) (lvLe_n (lvLe_n (lvLe_n (lvLe_n (lvLe_n (lvLe_n (lvLe_n (lvLe_n (lvLe_n (lvLe_n (lvLe_n (lvLe_n (lvLe_n (lvLe_n (lvLe_n (lvLe_n lvLe_0)))))))))))))))) ?_
            exact sL_law_230 X h29
        · refine q_le (L' := [none, none, none, none, none, none, none, none, none, none, none, none, none, none, none, none]) (lvLe_n (lvLe_n (lvLe_n (lvLe_n (lvLe_n (lvLe_n (lvLe_n (lvLe_n (lvLe_n (lvLe_n (lvLe_n (lvLe_n (lvLe_n (lvLe_n (lvLe_n (lvLe_n lvLe_0)))))))))))))))) ?_
          exact sL_law_230 X h27
      · refine q_le (L' := [none, none, none, none, none, none, none, none, none, none, none, none, none, none, none, none]) (lvLe_n (lvLe_n (lvLe_n (lvLe_n (lvLe_n (lvLe_n (lvLe_n (lvLe_n (lvLe_n (lvLe_n (lvLe_n (lvLe_n (lvLe_n (lvLe_n (lvLe_n (lvLe_n lvLe_0)))))))))))))))) ?_
        exact sL_law_230 X h25
    · refine q_le (L' := [some (.inr (.inr l0)), some (.inr (.inr l1)), some (.inl l2), some (.inl l3), some (.inl l4), none, none, some (.inl l7), none, none, none, some (.inl l11), some (.inl l12), none, none, none]) (lvLe_s (lvLe_s (lvLe_s (lvLe_s (lvLe_s (lvLe_n (lvLe_n (lvLe_s (lvLe_n (lvLe_n (lvLe_n (lvLe_s (lvLe_s (lvLe_n (lvLe_n (lvLe_n lvLe_0)))))))))))))))) ?_
      exact sL_law_232 X k16 hk16 h l0 l1 l2 l3 l4 l7 l11 l12
def fL_law_158 (c : Nat → Option Nat) (k16 : Hp → Option Nat → Option Nat → Int32 → Int32 → Int32 → Rs) (h : Hp) (l0 : Option Nat) (l1 : Option Nat) (l2 : Int32) (l3 : Int32) (l4 : Int32) (l5 : Int32) (l6 : Int32) (l7 : Int32) (l8 : Int64) (l11 : Int32) (l12 : Int32) (l13 : Int64) (s0 : Int32) (s1 : Int32) : Rs := if s0 = s1 then (fL_law_163 c k16 h l0 l1 l2 l3 l4 l5 l6 l7 l8 l11 l12 l13) else (fL_law_161 c h)
set_option maxHeartbeats 4000000 in
set_option maxRecDepth 100000 in
theorem sL_law_158 (X : Cx) {h0 : Hp} (k16 : Hp → Option Nat → Option Nat → Int32 → Int32 → Int32 → Rs) (hk16 : ∀ (h : Hp) (l0 : Option Nat) (l1 : Option Nat) (l2 : Int32) (l3 : Int32) (l4 : Int32), Gd X mL_law h0 (k16 h l0 l1 l2 l3 l4) h 16 [some (.inr (.inr l0)), some (.inr (.inr l1)), some (.inl l2), some (.inl l3), some (.inl l4), none, none, none, none, none, none, none, none, none, none, none] []) (h : Hp) (l0 : Option Nat) (l1 : Option Nat) (l2 : Int32) (l3 : Int32) (l4 : Int32) (l5 : Int32) (l6 : Int32) (l7 : Int32) (l8 : Int64) (l11 : Int32) (l12 : Int32) (l13 : Int64) (s0 : Int32) (s1 : Int32) : Gd X mL_law h0 (fL_law_158 X.2.2.2 k16 h l0 l1 l2 l3 l4 l5 l6 l7 l8 l11 l12 l13 s0 s1) h 158 [some (.inr (.inr l0)), some (.inr (.inr l1)), some (.inl l2), some (.inl l3), some (.inl l4), some (.inl l5), some (.inl l6), some (.inl l7), some (.inr (.inl l8)), none, none, some (.inl l11), some (.inl l12), some (.inr (.inl l13)), none, none] [.inl s1, .inl s0] := by
  unfold fL_law_158
  refine q_icmp_eq (tbm tkL_law (i := 84) rfl) ?_ ?_
  · exact sL_law_163 X k16 hk16 h l0 l1 l2 l3 l4 l5 l6 l7 l8 l11 l12 l13
  · refine q_le (L' := [none, none, none, none, none, none, none, none, none, none, none, none, none, none, none, none]) (lvLe_n (lvLe_n (lvLe_n (lvLe_n (lvLe_n (lvLe_n (lvLe_n (lvLe_n (lvLe_n (lvLe_n (lvLe_n (lvLe_n (lvLe_n (lvLe_n (lvLe_n (lvLe_n lvLe_0)))))))))))))))) ?_
    exact sL_law_161 X h
def fL_law_51 (c : Nat → Option Nat) (k16 : Hp → Option Nat → Option Nat → Int32 → Int32 → Int32 → Rs) (h : Hp) (l0 : Option Nat) (l1 : Option Nat) (l2 : Int32) (l3 : Int32) (l4 : Int32) (s0 : Int32) : Rs := cc (fL_cell c h l0 (((2 : Int32) * l4) + (1 : Int32))) (kI fun h33 x34 => cc (fL_told c h33 l1) (kJ fun h35 y36 => ck h35 l1 7 (cc (fX5_count c h35 l1 (9 : Int32)) (kI fun h37 x38 => ck h37 l1 7 (cc (fX5_count c h37 l1 (3 : Int32)) (kI fun h39 x40 => cc (fL_act c h39 l1 s0 x34) (kI fun h41 x42 => cc (fL_told c h41 l1) (kJ fun h43 y44 => if x42 < 0 then (if (lg_cmp y44 y36) = 0 then (ck h43 l1 7 (cc (fX5_count c h43 l1 (9 : Int32)) (kI fun h45 x46 => if x46 = x38 then (fL_law_163 c k16 h45 l0 l1 l2 l3 l4 s0 x34 (s0 &&& (15 : Int32)) y36 x40 x42 y44) else (fL_law_161 c h45)))) else (fL_law_161 c h43)) else (ck h43 l1 7 (cc (fX5_count c h43 l1 (9 : Int32)) (kI fun h47 x48 => if x38 < (6 : Int32) then (fL_law_158 c k16 h47 l0 l1 l2 l3 l4 s0 x34 (s0 &&& (15 : Int32)) y36 x40 x42 y44 x48 (x38 + (1 : Int32))) else (fL_law_158 c k16 h47 l0 l1 l2 l3 l4 s0 x34 (s0 &&& (15 : Int32)) y36 x40 x42 y44 x48 (6 : Int32)))))))))))))
set_option maxHeartbeats 4000000 in
set_option maxRecDepth 100000 in
theorem sL_law_51 (X : Cx) {h0 : Hp} (k16 : Hp → Option Nat → Option Nat → Int32 → Int32 → Int32 → Rs) (hk16 : ∀ (h : Hp) (l0 : Option Nat) (l1 : Option Nat) (l2 : Int32) (l3 : Int32) (l4 : Int32), Gd X mL_law h0 (k16 h l0 l1 l2 l3 l4) h 16 [some (.inr (.inr l0)), some (.inr (.inr l1)), some (.inl l2), some (.inl l3), some (.inl l4), none, none, none, none, none, none, none, none, none, none, none] []) (h : Hp) (l0 : Option Nat) (l1 : Option Nat) (l2 : Int32) (l3 : Int32) (l4 : Int32) (s0 : Int32) : Gd X mL_law h0 (fL_law_51 X.2.2.2 k16 h l0 l1 l2 l3 l4 s0) h 51 [some (.inr (.inr l0)), some (.inr (.inr l1)), some (.inl l2), some (.inl l3), some (.inl l4), none, none, none, none, none, none, none, none, none, none, none] [.inl s0] := by
  unfold fL_law_51
  refine q_run tkL_law 29 7 (pc' := 60) (L' := [some (.inr (.inr l0)), some (.inr (.inr l1)), some (.inl l2), some (.inl l3), some (.inl l4), some (.inl s0), none, none, none, none, none, none, none, none, none, none]) (st' := [.inl (((2 : Int32) * l4) + (1 : Int32)), .inr (.inr l0)]) rfl ?_
  refine q_cs (n := 2) (as := [.inr (.inr l0), .inl (((2 : Int32) * l4) + (1 : Int32))]) (st := []) (soL_cell X h l0 (((2 : Int32) * l4) + (1 : Int32))) (tbm tkL_law (i := 36) rfl) rfl ceL_cell wd_349 wd_348 rfl (Nat.le_of_ble_eq_true rfl) (kI_gd (fun h33 x34 => ?_))
  refine q_run tkL_law 37 6 (pc' := 73) (L' := [some (.inr (.inr l0)), some (.inr (.inr l1)), some (.inl l2), some (.inl l3), some (.inl l4), some (.inl s0), some (.inl x34), some (.inl (s0 &&& (15 : Int32))), none, none, none, none, none, none, none, none]) (st' := [.inr (.inr l1)]) rfl ?_
  refine q_cs (n := 1) (as := [.inr (.inr l1)]) (st := []) (soL_told X h33 l1) (tbm tkL_law (i := 43) rfl) rfl ceL_told wd_352 wd_351 rfl (Nat.le_of_ble_eq_true rfl) (kJ_gd (fun h35 y36 => ?_))
  refine q_run tkL_law 44 3 (pc' := 81) (L' := [some (.inr (.inr l0)), some (.inr (.inr l1)), some (.inl l2), some (.inl l3), some (.inl l4), some (.inl s0), some (.inl x34), some (.inl (s0 &&& (15 : Int32))), some (.inr (.inl y36)), none, none, none, none, none, none, none]) (st' := [.inl (9 : Int32), .inr (.inr l1)]) rfl ?_
  refine q_cv (r := l1) (ci := 7) (n := 1) (as := [.inl (9 : Int32)]) (st := []) TX5 5 (soX5_count X h35 l1 (9 : Int32)) (tbm tkL_law (i := 47) rfl) rfl rfl ceX5_count wd_311 wd_312 wd_310 rfl (Nat.le_of_ble_eq_true rfl) (kI_gd (fun h37 x38 => ?_))
  refine q_run tkL_law 48 3 (pc' := 88) (L' := [some (.inr (.inr l0)), some (.inr (.inr l1)), some (.inl l2), some (.inl l3), some (.inl l4), some (.inl s0), some (.inl x34), some (.inl (s0 &&& (15 : Int32))), some (.inr (.inl y36)), none, some (.inl x38), none, none, none, none, none]) (st' := [.inl (3 : Int32), .inr (.inr l1)]) rfl ?_
  refine q_cv (r := l1) (ci := 7) (n := 1) (as := [.inl (3 : Int32)]) (st := []) TX5 5 (soX5_count X h37 l1 (3 : Int32)) (tbm tkL_law (i := 51) rfl) rfl rfl ceX5_count wd_311 wd_312 wd_310 rfl (Nat.le_of_ble_eq_true rfl) (kI_gd (fun h39 x40 => ?_))
  refine q_run tkL_law 52 4 (pc' := 98) (L' := [some (.inr (.inr l0)), some (.inr (.inr l1)), some (.inl l2), some (.inl l3), some (.inl l4), some (.inl s0), some (.inl x34), some (.inl (s0 &&& (15 : Int32))), some (.inr (.inl y36)), none, some (.inl x38), some (.inl x40), none, none, none, none]) (st' := [.inl x34, .inl s0, .inr (.inr l1)]) rfl ?_
  refine q_cs (n := 3) (as := [.inr (.inr l1), .inl s0, .inl x34]) (st := []) (soL_act X h39 l1 s0 x34) (tbm tkL_law (i := 56) rfl) rfl ceL_act wd_490 wd_489 rfl (Nat.le_of_ble_eq_true rfl) (kI_gd (fun h41 x42 => ?_))
  refine q_run tkL_law 57 2 (pc' := 104) (L' := [some (.inr (.inr l0)), some (.inr (.inr l1)), some (.inl l2), some (.inl l3), some (.inl l4), some (.inl s0), some (.inl x34), some (.inl (s0 &&& (15 : Int32))), some (.inr (.inl y36)), none, some (.inl x38), some (.inl x40), some (.inl x42), none, none, none]) (st' := [.inr (.inr l1)]) rfl ?_
  refine q_cs (n := 1) (as := [.inr (.inr l1)]) (st := []) (soL_told X h41 l1) (tbm tkL_law (i := 59) rfl) rfl ceL_told wd_352 wd_351 rfl (Nat.le_of_ble_eq_true rfl) (kJ_gd (fun h43 y44 => ?_))
  refine q_run tkL_law 60 2 (pc' := 111) (L' := [some (.inr (.inr l0)), some (.inr (.inr l1)), some (.inl l2), some (.inl l3), some (.inl l4), some (.inl s0), some (.inl x34), some (.inl (s0 &&& (15 : Int32))), some (.inr (.inl y36)), none, some (.inl x38), some (.inl x40), some (.inl x42), some (.inr (.inl y44)), none, none]) (st' := [.inl x42]) rfl ?_
  refine q_if_ge (tbm tkL_law (i := 62) rfl) ?_ ?_
  · refine q_run tkL_law 63 3 (pc' := 119) (L' := [some (.inr (.inr l0)), some (.inr (.inr l1)), some (.inl l2), some (.inl l3), some (.inl l4), some (.inl s0), some (.inl x34), some (.inl (s0 &&& (15 : Int32))), some (.inr (.inl y36)), none, some (.inl x38), some (.inl x40), some (.inl x42), some (.inr (.inl y44)), none, none]) (st' := [.inl (lg_cmp y44 y36)]) rfl ?_
    refine q_if_ne (tbm tkL_law (i := 66) rfl) ?_ ?_
    · refine q_run tkL_law 67 2 (pc' := 125) (L' := [some (.inr (.inr l0)), some (.inr (.inr l1)), some (.inl l2), some (.inl l3), some (.inl l4), some (.inl s0), some (.inl x34), some (.inl (s0 &&& (15 : Int32))), some (.inr (.inl y36)), none, some (.inl x38), some (.inl x40), some (.inl x42), some (.inr (.inl y44)), none, none]) (st' := [.inl (9 : Int32), .inr (.inr l1)]) rfl ?_
      refine q_cv (r := l1) (ci := 7) (n := 1) (as := [.inl (9 : Int32)]) (st := []) TX5 5 (soX5_count X h43 l1 (9 : Int32)) (tbm tkL_law (i := 69) rfl) rfl rfl ceX5_count wd_311 wd_312 wd_310 rfl (Nat.le_of_ble_eq_true rfl) (kI_gd (fun h45 x46 => ?_))
      refine q_run tkL_law 70 1 (pc' := 130) (L' := [some (.inr (.inr l0)), some (.inr (.inr l1)), some (.inl l2), some (.inl l3), some (.inl l4), some (.inl s0), some (.inl x34), some (.inl (s0 &&& (15 : Int32))), some (.inr (.inl y36)), none, some (.inl x38), some (.inl x40), some (.inl x42), some (.inr (.inl y44)), none, none]) (st' := [.inl x38, .inl x46]) rfl ?_
      refine q_icmp_eq (tbm tkL_law (i := 71) rfl) ?_ ?_
      · refine q_le (L' := [some (.inr (.inr l0)), some (.inr (.inr l1)), some (.inl l2), some (.inl l3), some (.inl l4), some (.inl s0), some (.inl x34), some (.inl (s0 &&& (15 : Int32))), some (.inr (.inl y36)), none, none, some (.inl x40), some (.inl x42), some (.inr (.inl y44)), none, none]) (lvLe_s (lvLe_s (lvLe_s (lvLe_s (lvLe_s (lvLe_s (lvLe_s (lvLe_s (lvLe_s (lvLe_n (lvLe_n (lvLe_s (lvLe_s (lvLe_s (lvLe_n (lvLe_n lvLe_0)))))))))))))))) ?_
        exact sL_law_163 X k16 hk16 h45 l0 l1 l2 l3 l4 s0 x34 (s0 &&& (15 : Int32)) y36 x40 x42 y44
      · refine q_run tkL_law 72 1 (pc' := 161) (L' := [some (.inr (.inr l0)), some (.inr (.inr l1)), some (.inl l2), some (.inl l3), some (.inl l4), some (.inl s0), some (.inl x34), some (.inl (s0 &&& (15 : Int32))), some (.inr (.inl y36)), none, some (.inl x38), some (.inl x40), some (.inl x42), some (.inr (.inl y44)), none, none]) (st' := []) rfl ?_
        refine q_le (L' := [none, none, none, none, none, none, none, none, none, none, none, none, none, none, none, none]) (lvLe_n (lvLe_n (lvLe_n (lvLe_n (lvLe_n (lvLe_n (lvLe_n (lvLe_n (lvLe_n (lvLe_n (lvLe_n (lvLe_n (lvLe_n (lvLe_n (lvLe_n (lvLe_n lvLe_0)))))))))))))))) ?_
        exact sL_law_161 X h45
    · refine q_le (L' := [none, none, none, none, none, none, none, none, none, none, none, none, none, none, none, none]) (lvLe_n (lvLe_n (lvLe_n (lvLe_n (lvLe_n (lvLe_n (lvLe_n (lvLe_n (lvLe_n (lvLe_n (lvLe_n (lvLe_n (lvLe_n (lvLe_n (lvLe_n (lvLe_n lvLe_0)))))))))))))))) ?_
      exact sL_law_161 X h43
  · refine q_run tkL_law 73 2 (pc' := 139) (L' := [some (.inr (.inr l0)), some (.inr (.inr l1)), some (.inl l2), some (.inl l3), some (.inl l4), some (.inl s0), some (.inl x34), some (.inl (s0 &&& (15 : Int32))), some (.inr (.inl y36)), none, some (.inl x38), some (.inl x40), some (.inl x42), some (.inr (.inl y44)), none, none]) (st' := [.inl (9 : Int32), .inr (.inr l1)]) rfl ?_
    refine q_cv (r := l1) (ci := 7) (n := 1) (as := [.inl (9 : Int32)]) (st := []) TX5 5 (soX5_count X h43 l1 (9 : Int32)) (tbm tkL_law (i := 75) rfl) rfl rfl ceX5_count wd_311 wd_312 wd_310 rfl (Nat.le_of_ble_eq_true rfl) (kI_gd (fun h47 x48 => ?_))
    refine q_run tkL_law 76 2 (pc' := 146) (L' := [some (.inr (.inr l0)), some (.inr (.inr l1)), some (.inl l2), some (.inl l3), some (.inl l4), some (.inl s0), some (.inl x34), some (.inl (s0 &&& (15 : Int32))), some (.inr (.inl y36)), none, some (.inl x38), some (.inl x40), some (.inl x42), some (.inr (.inl y44)), none, none]) (st' := [.inl (6 : Int32), .inl x38, .inl x48]) rfl ?_
    refine q_icmp_ge (tbm tkL_law (i := 78) rfl) ?_ ?_
    · refine q_run tkL_law 79 4 (pc' := 158) (L' := [some (.inr (.inr l0)), some (.inr (.inr l1)), some (.inl l2), some (.inl l3), some (.inl l4), some (.inl s0), some (.inl x34), some (.inl (s0 &&& (15 : Int32))), some (.inr (.inl y36)), none, some (.inl x38), some (.inl x40), some (.inl x42), some (.inr (.inl y44)), none, none]) (st' := [.inl (x38 + (1 : Int32)), .inl x48]) rfl ?_
      refine q_le (L' := [some (.inr (.inr l0)), some (.inr (.inr l1)), some (.inl l2), some (.inl l3), some (.inl l4), some (.inl s0), some (.inl x34), some (.inl (s0 &&& (15 : Int32))), some (.inr (.inl y36)), none, none, some (.inl x40), some (.inl x42), some (.inr (.inl y44)), none, none]) (lvLe_s (lvLe_s (lvLe_s (lvLe_s (lvLe_s (lvLe_s (lvLe_s (lvLe_s (lvLe_s (lvLe_n (lvLe_n (lvLe_s (lvLe_s (lvLe_s (lvLe_n (lvLe_n lvLe_0)))))))))))))))) ?_
      exact sL_law_158 X k16 hk16 h47 l0 l1 l2 l3 l4 s0 x34 (s0 &&& (15 : Int32)) y36 x40 x42 y44 x48 (x38 + (1 : Int32))
    · refine q_run tkL_law 83 1 (pc' := 158) (L' := [some (.inr (.inr l0)), some (.inr (.inr l1)), some (.inl l2), some (.inl l3), some (.inl l4), some (.inl s0), some (.inl x34), some (.inl (s0 &&& (15 : Int32))), some (.inr (.inl y36)), none, some (.inl x38), some (.inl x40), some (.inl x42), some (.inr (.inl y44)), none, none]) (st' := [.inl (6 : Int32), .inl x48]) rfl ?_
      refine q_le (L' := [some (.inr (.inr l0)), some (.inr (.inr l1)), some (.inl l2), some (.inl l3), some (.inl l4), some (.inl s0), some (.inl x34), some (.inl (s0 &&& (15 : Int32))), some (.inr (.inl y36)), none, none, some (.inl x40), some (.inl x42), some (.inr (.inl y44)), none, none]) (lvLe_s (lvLe_s (lvLe_s (lvLe_s (lvLe_s (lvLe_s (lvLe_s (lvLe_s (lvLe_s (lvLe_n (lvLe_n (lvLe_s (lvLe_s (lvLe_s (lvLe_n (lvLe_n lvLe_0)))))))))))))))) ?_
      exact sL_law_158 X k16 hk16 h47 l0 l1 l2 l3 l4 s0 x34 (s0 &&& (15 : Int32)) y36 x40 x42 y44 x48 (6 : Int32)
def fL_law_16 (c : Nat → Option Nat) : Nat → Hp → Option Nat → Option Nat → Int32 → Int32 → Int32 → Rs
  | 0, _, _, _, _, _, _ => none
  | n + 1, h, l0, l1, l2, l3, l4 => if l4 < (34 : Int32) then (if l4 < (3 : Int32) then (cc (fL_cell c h l0 ((2 : Int32) * l4)) (kI fun h49 x50 => fL_law_51 c (fL_law_16 c n) h49 l0 l1 l2 l3 l4 (x50 ||| (15 : Int32)))) else (cc (fL_cell c h l0 ((2 : Int32) * l4)) (kI fun h51 x52 => fL_law_51 c (fL_law_16 c n) h51 l0 l1 l2 l3 l4 x52))) else (rtI .boolean h (1 : Int32))
set_option maxHeartbeats 4000000 in
set_option maxRecDepth 100000 in
theorem sL_law_16 (X : Cx) {h0 : Hp} : ∀ (n : Nat) (h : Hp) (l0 : Option Nat) (l1 : Option Nat) (l2 : Int32) (l3 : Int32) (l4 : Int32), Gd X mL_law h0 (fL_law_16 X.2.2.2 n h l0 l1 l2 l3 l4) h 16 [some (.inr (.inr l0)), some (.inr (.inr l1)), some (.inl l2), some (.inl l3), some (.inl l4), none, none, none, none, none, none, none, none, none, none, none] [] := by
  intro n
  induction n with
  | zero => intros; exact gd_none
  | succ n ih =>
    intro h l0 l1 l2 l3 l4
    unfold fL_law_16
    refine q_run tkL_law 10 2 (pc' := 20) (L' := [some (.inr (.inr l0)), some (.inr (.inr l1)), some (.inl l2), some (.inl l3), some (.inl l4), none, none, none, none, none, none, none, none, none, none, none]) (st' := [.inl (34 : Int32), .inl l4]) rfl ?_
    refine q_icmp_ge (tbm tkL_law (i := 12) rfl) ?_ ?_
    · refine q_run tkL_law 13 2 (pc' := 26) (L' := [some (.inr (.inr l0)), some (.inr (.inr l1)), some (.inl l2), some (.inl l3), some (.inl l4), none, none, none, none, none, none, none, none, none, none, none]) (st' := [.inl (3 : Int32), .inl l4]) rfl ?_
      refine q_icmp_ge (tbm tkL_law (i := 15) rfl) ?_ ?_
      · refine q_run tkL_law 16 4 (pc' := 34) (L' := [some (.inr (.inr l0)), some (.inr (.inr l1)), some (.inl l2), some (.inl l3), some (.inl l4), none, none, none, none, none, none, none, none, none, none, none]) (st' := [.inl ((2 : Int32) * l4), .inr (.inr l0)]) rfl ?_
        refine q_cs (n := 2) (as := [.inr (.inr l0), .inl ((2 : Int32) * l4)]) (st := []) (soL_cell X h l0 ((2 : Int32) * l4)) (tbm tkL_law (i := 20) rfl) rfl ceL_cell wd_349 wd_348 rfl (Nat.le_of_ble_eq_true rfl) (kI_gd (fun h49 x50 => ?_))
        refine q_run tkL_law 21 3 (pc' := 51) (L' := [some (.inr (.inr l0)), some (.inr (.inr l1)), some (.inl l2), some (.inl l3), some (.inl l4), none, none, none, none, none, none, none, none, none, none, none]) (st' := [.inl (x50 ||| (15 : Int32))]) rfl ?_
        exact sL_law_51 X (fL_law_16 X.2.2.2 n) ih h49 l0 l1 l2 l3 l4 (x50 ||| (15 : Int32))
      · refine q_run tkL_law 24 4 (pc' := 48) (L' := [some (.inr (.inr l0)), some (.inr (.inr l1)), some (.inl l2), some (.inl l3), some (.inl l4), none, none, none, none, none, none, none, none, none, none, none]) (st' := [.inl ((2 : Int32) * l4), .inr (.inr l0)]) rfl ?_
        refine q_cs (n := 2) (as := [.inr (.inr l0), .inl ((2 : Int32) * l4)]) (st := []) (soL_cell X h l0 ((2 : Int32) * l4)) (tbm tkL_law (i := 28) rfl) rfl ceL_cell wd_349 wd_348 rfl (Nat.le_of_ble_eq_true rfl) (kI_gd (fun h51 x52 => ?_))
        exact sL_law_51 X (fL_law_16 X.2.2.2 n) ih h51 l0 l1 l2 l3 l4 x52
    · refine q_run tkL_law 188 1 (pc' := 348) (L' := [some (.inr (.inr l0)), some (.inr (.inr l1)), some (.inl l2), some (.inl l3), some (.inl l4), none, none, none, none, none, none, none, none, none, none, none]) (st' := [.inl (1 : Int32)]) rfl ?_
      exact q_zret (tbm tkL_law (i := 189) rfl) rfl
def fL_law (c : Nat → Option Nat) (h : Hp) (a0 : Option Nat) : Rs := nwO h 7 (fun h53 r54 => dn r54 (cc (fX5_init c h53 r54) (kV fun h55 => fL_law_16 c FU h55 a0 r54 (0 : Int32) (40 : Int32) (0 : Int32))))
set_option maxHeartbeats 4000000 in
set_option maxRecDepth 100000 in
theorem gdL_law (X : Cx) {h0 : Hp} (h : Hp) (a0 : Option Nat) : Gd X mL_law h0 (fL_law X.2.2.2 h a0) h 0 [some (.inr (.inr a0)), none, none, none, none, none, none, none, none, none, none, none, none, none, none, none] [] := by
  unfold fL_law
  refine q_new RX5 TX5 5 (tbm tkL_law (i := 0) rfl) (Nat.le_of_ble_eq_true rfl) rfl ⟨wd_35, wd_36, wd_18⟩ (fun h53 r54 => ?_)
  refine q_run tkL_law 1 1 (pc' := 4) (L' := [some (.inr (.inr a0)), none, none, none, none, none, none, none, none, none, none, none, none, none, none, none]) (st' := [.inr (.inr r54), .inr (.inr r54)]) rfl ?_
  refine q_ci (r := r54) (n := 0) (as := []) (st := [.inr (.inr r54)]) (soX5_init X h53 r54) (tbm tkL_law (i := 2) rfl) rfl ceX5_init wd_38 rfl rfl wd_37 rfl (Nat.le_of_ble_eq_true rfl) (kV_gd (fun h55 => ?_))
  refine q_run tkL_law 3 7 (pc' := 16) (L' := [some (.inr (.inr a0)), some (.inr (.inr r54)), some (.inl (0 : Int32)), some (.inl (40 : Int32)), some (.inl (0 : Int32)), none, none, none, none, none, none, none, none, none, none, none]) (st' := []) rfl ?_
  exact sL_law_16 X FU h55 a0 r54 (0 : Int32) (40 : Int32) (0 : Int32)
