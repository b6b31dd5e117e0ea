/-- ReceiptRolls.init -/
abbrev mX5_init : MI := (yX5_init, cX5_init, 1, none, 4)
def tbX5_init : List TE := [(0, .aload_n 0, 1, 0, 0), (1, .invokespecial 1, 3, 0, 0), (4, .aload_n 0, 1, 0, 0), (5, .new 7, 3, 0, 0), (8, .dup, 1, 0, 0), (9, .invokespecial 9, 3, 0, 0), (12, .putfield 10, 3, 0, 0), (15, .aload_n 0, 1, 0, 0), (16, .new 16, 3, 0, 0), (19, .dup, 1, 0, 0), (20, .invokespecial 18, 3, 0, 0), (23, .putfield 19, 3, 0, 0), (26, .aload_n 0, 1, 0, 0), (27, .iconst 2, 1, 2, 0), (28, .anewarray 7, 3, 0, 0), (31, .putfield 23, 3, 0, 0), (34, .aload_n 0, 1, 0, 0), (35, .new 27, 3, 0, 0), (38, .dup, 1, 0, 0), (39, .invokespecial 29, 3, 0, 0), (42, .putfield 30, 3, 0, 0), (45, .aload_n 0, 1, 0, 0), (46, .new 34, 3, 0, 0), (49, .dup, 1, 0, 0), (50, .invokespecial 36, 3, 0, 0), (53, .putfield 37, 3, 0, 0), (56, .return_, 1, 0, 0)]
theorem tkX5_init : ∀ x ∈ tbX5_init, tbB cX5_init x = true := tb_all (by decide +kernel)
def fX5_init (c : Nat → Option Nat) (h : Hp) (a0 : Option Nat) : Rs := dn a0 (nwO h 6 (fun h1 r2 => dn r2 (cc (fX4_init c h1 r2) (kV fun h3 => wr h3 a0 7 0 (.inr (.inr r2)) (fun h4 => nwO h4 2 (fun h5 r6 => dn r6 (cc (fX0_init c h5 r6) (kV fun h7 => wr h7 a0 7 1 (.inr (.inr r6)) (fun h8 => nwR h8 6 (2 : Int32) (fun h9 r10 => wr h9 a0 7 2 (.inr (.inr r10)) (fun h11 => nwO h11 1 (fun h12 r13 => dn r13 (cc (fJ4_init_da8c8 c h12 r13) (kV fun h14 => wr h14 a0 7 3 (.inr (.inr r13)) (fun h15 => nwO h15 5 (fun h16 r17 => dn r17 (cc (fX3_init c h16 r17) (kV fun h18 => wr h18 a0 7 4 (.inr (.inr r17)) (fun h19 => some (h19, none))))))))))))))))))))
set_option maxHeartbeats 4000000 in
set_option maxRecDepth 100000 in
theorem soX5_init (X : Cx) (h : Hp) (a0 : Option Nat) : SO X mX5_init [.inr (.inr a0)] h (fX5_init X.2.2.2 h a0) := by
  refine so_of (by decide +kernel) (Nat.le_of_ble_eq_true rfl) ?_
  show Gd X mX5_init h (fX5_init X.2.2.2 h a0) h 0 [some (.inr (.inr a0))] []
  unfold fX5_init
  refine q_run tkX5_init 0 1 (pc' := 1) (L' := [some (.inr (.inr a0))]) (st' := [.inr (.inr a0)]) rfl ?_
  refine q_obj (tbm tkX5_init (i := 1) rfl) (Nat.le_of_ble_eq_true rfl) (Nat.le_of_ble_eq_true rfl) ⟨wd_40, wd_oi, wd_oc⟩ ?_
  refine q_run tkX5_init 2 1 (pc' := 5) (L' := [some (.inr (.inr a0))]) (st' := [.inr (.inr a0)]) rfl ?_
  refine q_new RX4 TX4 13 (tbm tkX5_init (i := 3) rfl) (Nat.le_of_ble_eq_true rfl) rfl ⟨wd_43, wd_44, wd_19⟩ (fun h1 r2 => ?_)
  refine q_run tkX5_init 4 1 (pc' := 9) (L' := [some (.inr (.inr a0))]) (st' := [.inr (.inr r2), .inr (.inr r2), .inr (.inr a0)]) rfl ?_
  refine q_ci (r := r2) (n := 0) (as := []) (st := [.inr (.inr r2), .inr (.inr a0)]) (soX4_init X h1 r2) (tbm tkX5_init (i := 5) rfl) rfl ceX4_init wd_46 rfl rfl wd_45 rfl (Nat.le_of_ble_eq_true rfl) (kV_gd (fun h3 => ?_))
  refine q_wr RX5 TX5 5 (tbm tkX5_init (i := 6) rfl) rfl (Nat.le_of_ble_eq_true rfl) (Or.inr ⟨rfl, rfl⟩) wd_248 (fun h4 => ?_)
  refine q_run tkX5_init 7 1 (pc' := 16) (L' := [some (.inr (.inr a0))]) (st' := [.inr (.inr a0)]) rfl ?_
  refine q_new RX0 TX0 2 (tbm tkX5_init (i := 8) rfl) (Nat.le_of_ble_eq_true rfl) rfl ⟨wd_169, wd_170, wd_21⟩ (fun h5 r6 => ?_)
  refine q_run tkX5_init 9 1 (pc' := 20) (L' := [some (.inr (.inr a0))]) (st' := [.inr (.inr r6), .inr (.inr r6), .inr (.inr a0)]) rfl ?_
  refine q_ci (r := r6) (n := 0) (as := []) (st := [.inr (.inr r6), .inr (.inr a0)]) (soX0_init X h5 r6) (tbm tkX5_init (i := 10) rfl) rfl ceX0_init wd_172 rfl rfl wd_171 rfl (Nat.le_of_ble_eq_true rfl) (kV_gd (fun h7 => ?_))
  refine q_wr RX5 TX5 5 (tbm tkX5_init (i := 11) rfl) rfl (Nat.le_of_ble_eq_true rfl) (Or.inr ⟨rfl, rfl⟩) wd_249 (fun h8 => ?_)
  refine q_run tkX5_init 12 2 (pc' := 28) (L' := [some (.inr (.inr a0))]) (st' := [.inl (2 : Int32), .inr (.inr a0)]) rfl ?_
  refine q_newr (k := 6) (Nat.le_of_ble_eq_true rfl) (Nat.le_of_ble_eq_true rfl) (tbm tkX5_init (i := 14) rfl) wd_43 (fun h9 r10 => ?_)
  refine q_wr RX5 TX5 5 (tbm tkX5_init (i := 15) rfl) rfl (Nat.le_of_ble_eq_true rfl) (Or.inr ⟨rfl, rfl⟩) wd_250 (fun h11 => ?_)
  refine q_run tkX5_init 16 1 (pc' := 35) (L' := [some (.inr (.inr a0))]) (st' := [.inr (.inr a0)]) rfl ?_
  refine q_new RJ4 TJ4 4 (tbm tkX5_init (i := 17) rfl) (Nat.le_of_ble_eq_true rfl) rfl ⟨wd_186, wd_187, wd_23⟩ (fun h12 r13 => ?_)
  refine q_run tkX5_init 18 1 (pc' := 39) (L' := [some (.inr (.inr a0))]) (st' := [.inr (.inr r13), .inr (.inr r13), .inr (.inr a0)]) rfl ?_
  refine q_ci (r := r13) (n := 0) (as := []) (st := [.inr (.inr r13), .inr (.inr a0)]) (soJ4_init_da8c8 X h12 r13) (tbm tkX5_init (i := 19) rfl) rfl ceJ4_init_da8c8 wd_189 rfl rfl wd_188 rfl (Nat.le_of_ble_eq_true rfl) (kV_gd (fun h14 => ?_))
  refine q_wr RX5 TX5 5 (tbm tkX5_init (i := 20) rfl) rfl (Nat.le_of_ble_eq_true rfl) (Or.inr ⟨rfl, rfl⟩) wd_251 (fun h15 => ?_)
  refine q_run tkX5_init 21 1 (pc' := 46) (L' := [some (.inr (.inr a0))]) (st' := [.inr (.inr a0)]) rfl ?_
  refine q_new RX3 TX3 6 (tbm tkX5_init (i := 22) rfl) (Nat.le_of_ble_eq_true rfl) rfl ⟨wd_219, wd_220, wd_26⟩ (fun h16 r17 => ?_)
  refine q_run tkX5_init 23 1 (pc' := 50) (L' := [some (.inr (.inr a0))]) (st' := [.inr (.inr r17), .inr (.inr r17), .inr (.inr a0)]) rfl ?_
  refine q_cin (r := r17) (n := 0) (as := []) (st := [.inr (.inr r17), .inr (.inr a0)]) "ReceiptRolls" (soX3_init X h16 r17) (tbm tkX5_init (i := 24) rfl) rfl ceX3_init wd_222 rfl rfl e_mX5 rfl (Nat.le_of_ble_eq_true rfl) (kV_gd (fun h18 => ?_))
  refine q_wr RX5 TX5 5 (tbm tkX5_init (i := 25) rfl) rfl (Nat.le_of_ble_eq_true rfl) (Or.inr ⟨rfl, rfl⟩) wd_252 (fun h19 => ?_)
  exact q_vret (tbm tkX5_init (i := 26) rfl) rfl
theorem ceX5_init : Ce mX5_init 0 := ⟨wd_18, wd_39, by decide +kernel, by decide +kernel, by decide +kernel⟩
/-- ReceiptRolls.count -/
abbrev mX5_count : MI := (yX5_count, cX5_count, 2, some .int, 2)
def tbX5_count : List TE := [(0, .iload_n 1, 1, 0, 0), (1, .tableswitch 138 0 9 #[55, 63, 71, 79, 87, 95, 104, 113, 122, 130], 55, 0, 0), (56, .aload_n 0, 1, 0, 0), (57, .getfield 10, 3, 0, 0), (60, .getfield 175, 3, 0, 0), (63, .ireturn, 1, 0, 0), (64, .aload_n 0, 1, 0, 0), (65, .getfield 10, 3, 0, 0), (68, .getfield 114, 3, 0, 0), (71, .ireturn, 1, 0, 0), (72, .aload_n 0, 1, 0, 0), (73, .getfield 10, 3, 0, 0), (76, .invokevirtual 233, 3, 0, 0), (79, .ireturn, 1, 0, 0), (80, .aload_n 0, 1, 0, 0), (81, .getfield 10, 3, 0, 0), (84, .getfield 117, 3, 0, 0), (87, .ireturn, 1, 0, 0), (88, .aload_n 0, 1, 0, 0), (89, .getfield 10, 3, 0, 0), (92, .getfield 101, 3, 0, 0), (95, .ireturn, 1, 0, 0), (96, .aload_n 0, 1, 0, 0), (97, .getfield 10, 3, 0, 0), (100, .iconst 0, 1, 0, 0), (101, .invokevirtual 156, 3, 0, 0), (104, .ireturn, 1, 0, 0), (105, .aload_n 0, 1, 0, 0), (106, .getfield 10, 3, 0, 0), (109, .iconst 1, 1, 1, 0), (110, .invokevirtual 156, 3, 0, 0), (113, .ireturn, 1, 0, 0), (114, .aload_n 0, 1, 0, 0), (115, .getfield 10, 3, 0, 0), (118, .iconst 2, 1, 2, 0), (119, .invokevirtual 156, 3, 0, 0), (122, .ireturn, 1, 0, 0), (123, .aload_n 0, 1, 0, 0), (124, .getfield 30, 3, 0, 0), (127, .invokevirtual 236, 3, 0, 0), (130, .ireturn, 1, 0, 0), (131, .aload_n 0, 1, 0, 0), (132, .getfield 19, 3, 0, 0), (135, .getfield 237, 3, 0, 0), (138, .ireturn, 1, 0, 0), (139, .bipush (-2), 2, -2, 0), (141, .ireturn, 1, 0, 0)]
theorem tkX5_count : ∀ x ∈ tbX5_count, tbB cX5_count x = true := tb_all (by decide +kernel)
def fX5_count (c : Nat → Option Nat) (h : Hp) (a0 : Option Nat) (a1 : Int32) : Rs := swf a1 [((0 : Int32), rdR h a0 7 0 (fun r1 => rdI h r1 6 5 (fun x2 => some (h, some (.inl x2))))), ((1 : Int32), rdR h a0 7 0 (fun r3 => rdI h r3 6 6 (fun x4 => some (h, some (.inl x4))))), ((2 : Int32), rdR h a0 7 0 (fun r5 => ck h r5 6 (cc (fX4_receiptsWaiting c h r5) (kI fun h6 x7 => some (h6, some (.inl x7)))))), ((3 : Int32), rdR h a0 7 0 (fun r8 => rdI h r8 6 7 (fun x9 => some (h, some (.inl x9))))), ((4 : Int32), rdR h a0 7 0 (fun r10 => rdI h r10 6 8 (fun x11 => some (h, some (.inl x11))))), ((5 : Int32), rdR h a0 7 0 (fun r12 => ck h r12 6 (cc (fX4_settingAt c h r12 (0 : Int32)) (kI fun h13 x14 => some (h13, some (.inl x14)))))), ((6 : Int32), rdR h a0 7 0 (fun r15 => ck h r15 6 (cc (fX4_settingAt c h r15 (1 : Int32)) (kI fun h16 x17 => some (h16, some (.inl x17)))))), ((7 : Int32), rdR h a0 7 0 (fun r18 => ck h r18 6 (cc (fX4_settingAt c h r18 (2 : Int32)) (kI fun h19 x20 => some (h19, some (.inl x20)))))), ((8 : Int32), rdR h a0 7 3 (fun r21 => ck h r21 1 (cc (fJ4_length_8abf5 c h r21) (kI fun h22 x23 => some (h22, some (.inl x23)))))), ((9 : Int32), rdR h a0 7 1 (fun r24 => rdI h r24 2 0 (fun x25 => some (h, some (.inl x25)))))] (some (h, some (.inl (-2 : Int32))))
set_option maxHeartbeats 4000000 in
set_option maxRecDepth 100000 in
theorem soX5_count (X : Cx) (h : Hp) (a0 : Option Nat) (a1 : Int32) : SO X mX5_count [.inr (.inr a0), .inl a1] h (fX5_count X.2.2.2 h a0 a1) := by
  refine so_of (by decide +kernel) (Nat.le_of_ble_eq_true rfl) ?_
  show Gd X mX5_count h (fX5_count X.2.2.2 h a0 a1) h 0 [some (.inr (.inr a0)), some (.inl a1)] []
  unfold fX5_count
  refine q_run tkX5_count 0 1 (pc' := 1) (L' := [some (.inr (.inr a0)), some (.inl a1)]) (st' := [.inl a1]) rfl ?_
  refine q_sw [((0 : Int32), 56), ((1 : Int32), 64), ((2 : Int32), 72), ((3 : Int32), 80), ((4 : Int32), 88), ((5 : Int32), 96), ((6 : Int32), 105), ((7 : Int32), 114), ((8 : Int32), 123), ((9 : Int32), 131)] 139 (tbm tkX5_count (i := 1) rfl) (by decide +kernel) ?_ ⟨⟨rfl, ?_⟩, ⟨rfl, ?_⟩, ⟨rfl, ?_⟩, ⟨rfl, ?_⟩, ⟨rfl, ?_⟩, ⟨rfl, ?_⟩, ⟨rfl, ?_⟩, ⟨rfl, ?_⟩, ⟨rfl, ?_⟩, ⟨rfl, ?_⟩, trivial⟩
  · refine q_run tkX5_count 45 1 (pc' := 141) (L' := [some (.inr (.inr a0)), some (.inl a1)]) (st' := [.inl (-2 : Int32)]) rfl ?_
    exact q_iret (tbm tkX5_count (i := 46) rfl) rfl
  · refine q_run tkX5_count 2 1 (pc' := 57) (L' := [some (.inr (.inr a0)), some (.inl a1)]) (st' := [.inr (.inr a0)]) rfl ?_
    refine q_rdR RX5 TX5 5 (tbm tkX5_count (i := 3) rfl) rfl (Nat.le_of_ble_eq_true rfl) wd_248 (fun r1 => ?_)
    refine q_rdI RX4 TX4 13 (tbm tkX5_count (i := 4) rfl) rfl (Nat.le_of_ble_eq_true rfl) wd_130 (fun x2 => ?_)
    exact q_iret (tbm tkX5_count (i := 5) rfl) rfl
  · refine q_run tkX5_count 6 1 (pc' := 65) (L' := [some (.inr (.inr a0)), some (.inl a1)]) (st' := [.inr (.inr a0)]) rfl ?_
    refine q_rdR RX5 TX5 5 (tbm tkX5_count (i := 7) rfl) rfl (Nat.le_of_ble_eq_true rfl) wd_248 (fun r3 => ?_)
    refine q_rdI RX4 TX4 13 (tbm tkX5_count (i := 8) rfl) rfl (Nat.le_of_ble_eq_true rfl) wd_132 (fun x4 => ?_)
    exact q_iret (tbm tkX5_count (i := 9) rfl) rfl
  · refine q_run tkX5_count 10 1 (pc' := 73) (L' := [some (.inr (.inr a0)), some (.inl a1)]) (st' := [.inr (.inr a0)]) rfl ?_
    refine q_rdR RX5 TX5 5 (tbm tkX5_count (i := 11) rfl) rfl (Nat.le_of_ble_eq_true rfl) wd_248 (fun r5 => ?_)
    refine q_cv (r := r5) (ci := 6) (n := 0) (as := []) (st := []) TX4 13 (soX4_receiptsWaiting X h r5) (tbm tkX5_count (i := 12) rfl) rfl rfl ceX4_receiptsWaiting wd_315 wd_316 wd_314 rfl (Nat.le_of_ble_eq_true rfl) (kI_gd (fun h6 x7 => ?_))
    exact q_iret (tbm tkX5_count (i := 13) rfl) rfl
  · refine q_run tkX5_count 14 1 (pc' := 81) (L' := [some (.inr (.inr a0)), some (.inl a1)]) (st' := [.inr (.inr a0)]) rfl ?_
    refine q_rdR RX5 TX5 5 (tbm tkX5_count (i := 15) rfl) rfl (Nat.le_of_ble_eq_true rfl) wd_248 (fun r8 => ?_)
    refine q_rdI RX4 TX4 13 (tbm tkX5_count (i := 16) rfl) rfl (Nat.le_of_ble_eq_true rfl) wd_134 (fun x9 => ?_)
    exact q_iret (tbm tkX5_count (i := 17) rfl) rfl
  · refine q_run tkX5_count 18 1 (pc' := 89) (L' := [some (.inr (.inr a0)), some (.inl a1)]) (st' := [.inr (.inr a0)]) rfl ?_
    refine q_rdR RX5 TX5 5 (tbm tkX5_count (i := 19) rfl) rfl (Nat.le_of_ble_eq_true rfl) wd_248 (fun r10 => ?_)
    refine q_rdI RX4 TX4 13 (tbm tkX5_count (i := 20) rfl) rfl (Nat.le_of_ble_eq_true rfl) wd_136 (fun x11 => ?_)
    exact q_iret (tbm tkX5_count (i := 21) rfl) rfl
  · refine q_run tkX5_count 22 1 (pc' := 97) (L' := [some (.inr (.inr a0)), some (.inl a1)]) (st' := [.inr (.inr a0)]) rfl ?_
    refine q_rdR RX5 TX5 5 (tbm tkX5_count (i := 23) rfl) rfl (Nat.le_of_ble_eq_true rfl) wd_248 (fun r12 => ?_)
    refine q_run tkX5_count 24 1 (pc' := 101) (L' := [some (.inr (.inr a0)), some (.inl a1)]) (st' := [.inl (0 : Int32), .inr (.inr r12)]) rfl ?_
    refine q_cv (r := r12) (ci := 6) (n := 1) (as := [.inl (0 : Int32)]) (st := []) TX4 13 (soX4_settingAt X h r12 (0 : Int32)) (tbm tkX5_count (i := 25) rfl) rfl rfl ceX4_settingAt wd_319 wd_320 wd_318 rfl (Nat.le_of_ble_eq_true rfl) (kI_gd (fun h13 x14 => ?_))
    exact q_iret (tbm tkX5_count (i := 26) rfl) rfl
  · refine q_run tkX5_count 27 1 (pc' := 106) (L' := [some (.inr (.inr a0)), some (.inl a1)]) (st' := [.inr (.inr a0)]) rfl ?_
    refine q_rdR RX5 TX5 5 (tbm tkX5_count (i := 28) rfl) rfl (Nat.le_of_ble_eq_true rfl) wd_248 (fun r15 => ?_)
    refine q_run tkX5_count 29 1 (pc' := 110) (L' := [some (.inr (.inr a0)), some (.inl a1)]) (st' := [.inl (1 : Int32), .inr (.inr r15)]) rfl ?_
    refine q_cv (r := r15) (ci := 6) (n := 1) (as := [.inl (1 : Int32)]) (st := []) TX4 13 (soX4_settingAt X h r15 (1 : Int32)) (tbm tkX5_count (i := 30) rfl) rfl rfl ceX4_settingAt wd_319 wd_320 wd_318 rfl (Nat.le_of_ble_eq_true rfl) (kI_gd (fun h16 x17 => ?_))
    exact q_iret (tbm tkX5_count (i := 31) rfl) rfl
  · refine q_run tkX5_count 32 1 (pc' := 115) (L' := [some (.inr (.inr a0)), some (.inl a1)]) (st' := [.inr (.inr a0)]) rfl ?_
    refine q_rdR RX5 TX5 5 (tbm tkX5_count (i := 33) rfl) rfl (Nat.le_of_ble_eq_true rfl) wd_248 (fun r18 => ?_)
    refine q_run tkX5_count 34 1 (pc' := 119) (L' := [some (.inr (.inr a0)), some (.inl a1)]) (st' := [.inl (2 : Int32), .inr (.inr r18)]) rfl ?_
    refine q_cv (r := r18) (ci := 6) (n := 1) (as := [.inl (2 : Int32)]) (st := []) TX4 13 (soX4_settingAt X h r18 (2 : Int32)) (tbm tkX5_count (i := 35) rfl) rfl rfl ceX4_settingAt wd_319 wd_320 wd_318 rfl (Nat.le_of_ble_eq_true rfl) (kI_gd (fun h19 x20 => ?_))
    exact q_iret (tbm tkX5_count (i := 36) rfl) rfl
  · refine q_run tkX5_count 37 1 (pc' := 124) (L' := [some (.inr (.inr a0)), some (.inl a1)]) (st' := [.inr (.inr a0)]) rfl ?_
    refine q_rdR RX5 TX5 5 (tbm tkX5_count (i := 38) rfl) rfl (Nat.le_of_ble_eq_true rfl) wd_251 (fun r21 => ?_)
    refine q_cv (r := r21) (ci := 1) (n := 0) (as := []) (st := []) TJ4 4 (soJ4_length_8abf5 X h r21) (tbm tkX5_count (i := 39) rfl) rfl rfl ceJ4_length_8abf5 wd_323 wd_324 wd_322 rfl (Nat.le_of_ble_eq_true rfl) (kI_gd (fun h22 x23 => ?_))
    exact q_iret (tbm tkX5_count (i := 40) rfl) rfl
  · refine q_run tkX5_count 41 1 (pc' := 132) (L' := [some (.inr (.inr a0)), some (.inl a1)]) (st' := [.inr (.inr a0)]) rfl ?_
    refine q_rdR RX5 TX5 5 (tbm tkX5_count (i := 42) rfl) rfl (Nat.le_of_ble_eq_true rfl) wd_249 (fun r24 => ?_)
    refine q_rdI RX0 TX0 2 (tbm tkX5_count (i := 43) rfl) rfl (Nat.le_of_ble_eq_true rfl) wd_179 (fun x25 => ?_)
    exact q_iret (tbm tkX5_count (i := 44) rfl) rfl
theorem ceX5_count : Ce mX5_count 1 := ⟨wd_18, wd_313, by decide +kernel, by decide +kernel, by decide +kernel⟩
/-- ReceiptRolls.printer -/
abbrev mX5_printer : MI := (yX5_printer, cX5_printer, 2, some .int, 0)
def tbX5_printer : List TE := [(0, .iload_n 1, 1, 0, 0), (1, .tableswitch 102 0 5 #[39, 62, 70, 78, 86, 94], 39, 0, 0), (40, .aload_n 0, 1, 0, 0), (41, .getfield 10, 3, 0, 0), (44, .getfield 163, 3, 0, 0), (47, .ifCond .ne 8, 3, 0, 55), (50, .bipush (-6), 2, -6, 0), (52, .goto 10, 3, 0, 62), (55, .aload_n 0, 1, 0, 0), (56, .getfield 10, 3, 0, 0), (59, .getfield 163, 3, 0, 0), (62, .ireturn, 1, 0, 0), (63, .aload_n 0, 1, 0, 0), (64, .getfield 10, 3, 0, 0), (67, .getfield 150, 3, 0, 0), (70, .ireturn, 1, 0, 0), (71, .aload_n 0, 1, 0, 0), (72, .getfield 10, 3, 0, 0), (75, .getfield 230, 3, 0, 0), (78, .ireturn, 1, 0, 0), (79, .aload_n 0, 1, 0, 0), (80, .getfield 10, 3, 0, 0), (83, .getfield 172, 3, 0, 0), (86, .ireturn, 1, 0, 0), (87, .aload_n 0, 1, 0, 0), (88, .getfield 10, 3, 0, 0), (91, .getfield 160, 3, 0, 0), (94, .ireturn, 1, 0, 0), (95, .aload_n 0, 1, 0, 0), (96, .getfield 10, 3, 0, 0), (99, .getfield 153, 3, 0, 0), (102, .ireturn, 1, 0, 0), (103, .bipush (-2), 2, -2, 0), (105, .ireturn, 1, 0, 0)]
theorem tkX5_printer : ∀ x ∈ tbX5_printer, tbB cX5_printer x = true := tb_all (by decide +kernel)
def fX5_printer_62 (c : Nat → Option Nat) (h : Hp) (s0 : Int32) : Rs := some (h, some (.inl s0))
set_option maxHeartbeats 4000000 in
set_option maxRecDepth 100000 in
theorem sX5_printer_62 (X : Cx) {h0 : Hp} (h : Hp) (s0 : Int32) : Gd X mX5_printer h0 (fX5_printer_62 X.2.2.2 h s0) h 62 [none, none] [.inl s0] := by
  unfold fX5_printer_62
  exact q_iret (tbm tkX5_printer (i := 11) rfl) rfl
def fX5_printer (c : Nat → Option Nat) (h : Hp) (a0 : Option Nat) (a1 : Int32) : Rs := swf a1 [((0 : Int32), rdR h a0 7 0 (fun r1 => rdI h r1 6 9 (fun x2 => if x2 = 0 then (fX5_printer_62 c h (-6 : Int32)) else (rdR h a0 7 0 (fun r3 => rdI h r3 6 9 (fun x4 => fX5_printer_62 c h x4)))))), ((1 : Int32), rdR h a0 7 0 (fun r5 => rdI h r5 6 0 (fun x6 => some (h, some (.inl x6))))), ((2 : Int32), rdR h a0 7 0 (fun r7 => rdI h r7 6 1 (fun x8 => some (h, some (.inl x8))))), ((3 : Int32), rdR h a0 7 0 (fun r9 => rdI h r9 6 2 (fun x10 => some (h, some (.inl x10))))), ((4 : Int32), rdR h a0 7 0 (fun r11 => rdI h r11 6 3 (fun x12 => some (h, some (.inl x12))))), ((5 : Int32), rdR h a0 7 0 (fun r13 => rdI h r13 6 4 (fun x14 => some (h, some (.inl x14)))))] (some (h, some (.inl (-2 : Int32))))
set_option maxHeartbeats 4000000 in
set_option maxRecDepth 100000 in
theorem soX5_printer (X : Cx) (h : Hp) (a0 : Option Nat) (a1 : Int32) : SO X mX5_printer [.inr (.inr a0), .inl a1] h (fX5_printer X.2.2.2 h a0 a1) := by
  refine so_of (by decide +kernel) (Nat.le_of_ble_eq_true rfl) ?_
  show Gd X mX5_printer h (fX5_printer X.2.2.2 h a0 a1) h 0 [some (.inr (.inr a0)), some (.inl a1)] []
  unfold fX5_printer
  refine q_run tkX5_printer 0 1 (pc' := 1) (L' := [some (.inr (.inr a0)), some (.inl a1)]) (st' := [.inl a1]) rfl ?_
  refine q_sw [((0 : Int32), 40), ((1 : Int32), 63), ((2 : Int32), 71), ((3 : Int32), 79), ((4 : Int32), 87), ((5 : Int32), 95)] 103 (tbm tkX5_printer (i := 1) rfl) (by decide +kernel) ?_ ⟨⟨rfl, ?_⟩, ⟨rfl, ?_⟩, ⟨rfl, ?_⟩, ⟨rfl, ?_⟩, ⟨rfl, ?_⟩, ⟨rfl, ?_⟩, trivial⟩
  · refine q_run tkX5_printer 32 1 (pc' := 105) (L' := [some (.inr (.inr a0)), some (.inl a1)]) (st' := [.inl (-2 : Int32)]) rfl ?_
    exact q_iret (tbm tkX5_printer (i := 33) rfl) rfl
  · refine q_run tkX5_printer 2 1 (pc' := 41) (L' := [some (.inr (.inr a0)), some (.inl a1)]) (st' := [.inr (.inr a0)]) rfl ?_
    refine q_rdR RX5 TX5 5 (tbm tkX5_printer (i := 3) rfl) rfl (Nat.le_of_ble_eq_true rfl) wd_248 (fun r1 => ?_)
    refine q_rdI RX4 TX4 13 (tbm tkX5_printer (i := 4) rfl) rfl (Nat.le_of_ble_eq_true rfl) wd_138 (fun x2 => ?_)
    refine q_if_ne (tbm tkX5_printer (i := 5) rfl) ?_ ?_
    · refine q_run tkX5_printer 6 2 (pc' := 62) (L' := [some (.inr (.inr a0)), some (.inl a1)]) (st' := [.inl (-6 : Int32)]) rfl ?_
      refine q_le (L' := [none, none]) (lvLe_n (lvLe_n lvLe_0)) ?_
      exact sX5_printer_62 X h (-6 : Int32)
    · refine q_run tkX5_printer 8 1 (pc' := 56) (L' := [some (.inr (.inr a0)), some (.inl a1)]) (st' := [.inr (.inr a0)]) rfl ?_
      refine q_rdR RX5 TX5 5 (tbm tkX5_printer (i := 9) rfl) rfl (Nat.le_of_ble_eq_true rfl) wd_248 (fun r3 => ?_)
      refine q_rdI RX4 TX4 13 (tbm tkX5_printer (i := 10) rfl) rfl (Nat.le_of_ble_eq_true rfl) wd_138 (fun x4 => ?_)
      refine q_le (L' := [none, none]) (lvLe_n (lvLe_n lvLe_0)) ?_
      exact sX5_printer_62 X h x4
  · refine q_run tkX5_printer 12 1 (pc' := 64) (L' := [some (.inr (.inr a0)), some (.inl a1)]) (st' := [.inr (.inr a0)]) rfl ?_
    refine q_rdR RX5 TX5 5 (tbm tkX5_printer (i := 13) rfl) rfl (Nat.le_of_ble_eq_true rfl) wd_248 (fun r5 => ?_)
    refine q_rdI RX4 TX4 13 (tbm tkX5_printer (i := 14) rfl) rfl (Nat.le_of_ble_eq_true rfl) wd_120 (fun x6 => ?_)
    exact q_iret (tbm tkX5_printer (i := 15) rfl) rfl
  · refine q_run tkX5_printer 16 1 (pc' := 72) (L' := [some (.inr (.inr a0)), some (.inl a1)]) (st' := [.inr (.inr a0)]) rfl ?_
    refine q_rdR RX5 TX5 5 (tbm tkX5_printer (i := 17) rfl) rfl (Nat.le_of_ble_eq_true rfl) wd_248 (fun r7 => ?_)
    refine q_rdI RX4 TX4 13 (tbm tkX5_printer (i := 18) rfl) rfl (Nat.le_of_ble_eq_true rfl) wd_122 (fun x8 => ?_)
    exact q_iret (tbm tkX5_printer (i := 19) rfl) rfl
  · refine q_run tkX5_printer 20 1 (pc' := 80) (L' := [some (.inr (.inr a0)), some (.inl a1)]) (st' := [.inr (.inr a0)]) rfl ?_
    refine q_rdR RX5 TX5 5 (tbm tkX5_printer (i := 21) rfl) rfl (Nat.le_of_ble_eq_true rfl) wd_248 (fun r9 => ?_)
    refine q_rdI RX4 TX4 13 (tbm tkX5_printer (i := 22) rfl) rfl (Nat.le_of_ble_eq_true rfl) wd_124 (fun x10 => ?_)
    exact q_iret (tbm tkX5_printer (i := 23) rfl) rfl
  · refine q_run tkX5_printer 24 1 (pc' := 88) (L' := [some (.inr (.inr a0)), some (.inl a1)]) (st' := [.inr (.inr a0)]) rfl ?_
    refine q_rdR RX5 TX5 5 (tbm tkX5_printer (i := 25) rfl) rfl (Nat.le_of_ble_eq_true rfl) wd_248 (fun r11 => ?_)
    refine q_rdI RX4 TX4 13 (tbm tkX5_printer (i := 26) rfl) rfl (Nat.le_of_ble_eq_true rfl) wd_126 (fun x12 => ?_)
    exact q_iret (tbm tkX5_printer (i := 27) rfl) rfl
  · refine q_run tkX5_printer 28 1 (pc' := 96) (L' := [some (.inr (.inr a0)), some (.inl a1)]) (st' := [.inr (.inr a0)]) rfl ?_
    refine q_rdR RX5 TX5 5 (tbm tkX5_printer (i := 29) rfl) rfl (Nat.le_of_ble_eq_true rfl) wd_248 (fun r13 => ?_)
    refine q_rdI RX4 TX4 13 (tbm tkX5_printer (i := 30) rfl) rfl (Nat.le_of_ble_eq_true rfl) wd_128 (fun x14 => ?_)
    exact q_iret (tbm tkX5_printer (i := 31) rfl) rfl
theorem ceX5_printer : Ce mX5_printer 1 := ⟨wd_18, wd_309, by decide +kernel, by decide +kernel, by decide +kernel⟩
/-- ReceiptRolls.layLines -/
abbrev mX5_layLines : MI := (yX5_layLines, cX5_layLines, 3, some .int, 7)
def tbX5_layLines : List TE := [(0, .aload_n 1, 1, 0, 0), (1, .getfield 227, 3, 0, 0), (4, .ifCond .le 21, 3, 0, 25), (7, .aload_n 0, 1, 0, 0), (8, .getfield 37, 3, 0, 0), (11, .aload_n 1, 1, 0, 0), (12, .aload_n 1, 1, 0, 0), (13, .getfield 227, 3, 0, 0), (16, .aload_n 1, 1, 0, 0), (17, .getfield 217, 3, 0, 0), (20, .iload_n 2, 1, 0, 0), (21, .invokevirtual 261, 3, 0, 0), (24, .ireturn, 1, 0, 0), (25, .aload_n 0, 1, 0, 0), (26, .getfield 37, 3, 0, 0), (29, .aload_n 1, 1, 0, 0), (30, .aload_n 0, 1, 0, 0), (31, .getfield 10, 3, 0, 0), (34, .getfield 114, 3, 0, 0), (37, .iconst 1, 1, 1, 0), (38, .iadd, 1, 0, 0), (39, .aload_n 0, 1, 0, 0), (40, .getfield 10, 3, 0, 0), (43, .iconst 0, 1, 0, 0), (44, .invokevirtual 156, 3, 0, 0), (47, .iload_n 2, 1, 0, 0), (48, .invokevirtual 261, 3, 0, 0), (51, .ireturn, 1, 0, 0)]
theorem tkX5_layLines : ∀ x ∈ tbX5_layLines, tbB cX5_layLines x = true := tb_all (by decide +kernel)
def fX5_layLines (c : Nat → Option Nat) (h : Hp) (a0 : Option Nat) (a1 : Option Nat) (a2 : Int32) : Rs := rdI h a1 4 0 (fun x1 => if 0 < x1 then (rdR h a0 7 4 (fun r2 => rdI h a1 4 0 (fun x3 => rdI h a1 4 4 (fun x4 => ck h r2 5 (cc (fX3_lay c h r2 a1 x3 x4 a2) (kI fun h5 x6 => some (h5, some (.inl x6)))))))) else (rdR h a0 7 4 (fun r7 => rdR h a0 7 0 (fun r8 => rdI h r8 6 6 (fun x9 => rdR h a0 7 0 (fun r10 => ck h r10 6 (cc (fX4_settingAt c h r10 (0 : Int32)) (kI fun h11 x12 => ck h11 r7 5 (cc (fX3_lay c h11 r7 a1 (x9 + (1 : Int32)) x12 a2) (kI fun h13 x14 => some (h13, some (.inl x14))))))))))))
set_option maxHeartbeats 4000000 in
set_option maxRecDepth 100000 in
theorem soX5_layLines (X : Cx) (h : Hp) (a0 : Option Nat) (a1 : Option Nat) (a2 : Int32) : SO X mX5_layLines [.inr (.inr a0), .inr (.inr a1), .inl a2] h (fX5_layLines X.2.2.2 h a0 a1 a2) := by
  refine so_of (by decide +kernel) (Nat.le_of_ble_eq_true rfl) ?_
  show Gd X mX5_layLines h (fX5_layLines X.2.2.2 h a0 a1 a2) h 0 [some (.inr (.inr a0)), some (.inr (.inr a1)), some (.inl a2)] []
  unfold fX5_layLines
  refine q_run tkX5_layLines 0 1 (pc' := 1) (L' := [some (.inr (.inr a0)), some (.inr (.inr a1)), some (.inl a2)]) (st' := [.inr (.inr a1)]) rfl ?_
  refine q_rdI RX2 TX2 14 (tbm tkX5_layLines (i := 1) rfl) rfl (Nat.le_of_ble_eq_true rfl) wd_60 (fun x1 => ?_)
  refine q_if_le (tbm tkX5_layLines (i := 2) rfl) ?_ ?_
  · refine q_run tkX5_layLines 3 1 (pc' := 8) (L' := [some (.inr (.inr a0)), some (.inr (.inr a1)), some (.inl a2)]) (st' := [.inr (.inr a0)]) rfl ?_
    refine q_rdR RX5 TX5 5 (tbm tkX5_layLines (i := 4) rfl) rfl (Nat.le_of_ble_eq_true rfl) wd_252 (fun r2 => ?_)
    refine q_run tkX5_layLines 5 2 (pc' := 13) (L' := [some (.inr (.inr a0)), some (.inr (.inr a1)), some (.inl a2)]) (st' := [.inr (.inr a1), .inr (.inr a1), .inr (.inr r2)]) rfl ?_
    refine q_rdI RX2 TX2 14 (tbm tkX5_layLines (i := 7) rfl) rfl (Nat.le_of_ble_eq_true rfl) wd_60 (fun x3 => ?_)
    refine q_run tkX5_layLines 8 1 (pc' := 17) (L' := [some (.inr (.inr a0)), some (.inr (.inr a1)), some (.inl a2)]) (st' := [.inr (.inr a1), .inl x3, .inr (.inr a1), .inr (.inr r2)]) rfl ?_
    refine q_rdI RX2 TX2 14 (tbm tkX5_layLines (i := 9) rfl) rfl (Nat.le_of_ble_eq_true rfl) wd_69 (fun x4 => ?_)
    refine q_run tkX5_layLines 10 1 (pc' := 21) (L' := [some (.inr (.inr a0)), some (.inr (.inr a1)), some (.inl a2)]) (st' := [.inl a2, .inl x4, .inl x3, .inr (.inr a1), .inr (.inr r2)]) rfl ?_
    refine q_cv (r := r2) (ci := 5) (n := 4) (as := [.inr (.inr a1), .inl x3, .inl x4, .inl a2]) (st := []) TX3 6 (soX3_lay X h r2 a1 x3 x4 a2) (tbm tkX5_layLines (i := 11) rfl) rfl rfl ceX3_lay wd_369 wd_370 wd_368 rfl (Nat.le_of_ble_eq_true rfl) (kI_gd (fun h5 x6 => ?_))
    exact q_iret (tbm tkX5_layLines (i := 12) rfl) rfl
  · refine q_run tkX5_layLines 13 1 (pc' := 26) (L' := [some (.inr (.inr a0)), some (.inr (.inr a1)), some (.inl a2)]) (st' := [.inr (.inr a0)]) rfl ?_
    refine q_rdR RX5 TX5 5 (tbm tkX5_layLines (i := 14) rfl) rfl (Nat.le_of_ble_eq_true rfl) wd_252 (fun r7 => ?_)
    refine q_run tkX5_layLines 15 2 (pc' := 31) (L' := [some (.inr (.inr a0)), some (.inr (.inr a1)), some (.inl a2)]) (st' := [.inr (.inr a0), .inr (.inr a1), .inr (.inr r7)]) rfl ?_
    refine q_rdR RX5 TX5 5 (tbm tkX5_layLines (i := 17) rfl) rfl (Nat.le_of_ble_eq_true rfl) wd_248 (fun r8 => ?_)
    refine q_rdI RX4 TX4 13 (tbm tkX5_layLines (i := 18) rfl) rfl (Nat.le_of_ble_eq_true rfl) wd_132 (fun x9 => ?_)
    refine q_run tkX5_layLines 19 3 (pc' := 40) (L' := [some (.inr (.inr a0)), some (.inr (.inr a1)), some (.inl a2)]) (st' := [.inr (.inr a0), .inl (x9 + (1 : Int32)), .inr (.inr a1), .inr (.inr r7)]) rfl ?_
    refine q_rdR RX5 TX5 5 (tbm tkX5_layLines (i := 22) rfl) rfl (Nat.le_of_ble_eq_true rfl) wd_248 (fun r10 => ?_)
    refine q_run tkX5_layLines 23 1 (pc' := 44) (L' := [some (.inr (.inr a0)), some (.inr (.inr a1)), some (.inl a2)]) (st' := [.inl (0 : Int32), .inr (.inr r10), .inl (x9 + (1 : Int32)), .inr (.inr a1), .inr (.inr r7)]) rfl ?_
    refine q_cv (r := r10) (ci := 6) (n := 1) (as := [.inl (0 : Int32)]) (st := [.inl (x9 + (1 : Int32)), .inr (.inr a1), .inr (.inr r7)]) TX4 13 (soX4_settingAt X h r10 (0 : Int32)) (tbm tkX5_layLines (i := 24) rfl) rfl rfl ceX4_settingAt wd_319 wd_320 wd_318 rfl (Nat.le_of_ble_eq_true rfl) (kI_gd (fun h11 x12 => ?_))
    refine q_run tkX5_layLines 25 1 (pc' := 48) (L' := [some (.inr (.inr a0)), some (.inr (.inr a1)), some (.inl a2)]) (st' := [.inl a2, .inl x12, .inl (x9 + (1 : Int32)), .inr (.inr a1), .inr (.inr r7)]) rfl ?_
    refine q_cv (r := r7) (ci := 5) (n := 4) (as := [.inr (.inr a1), .inl (x9 + (1 : Int32)), .inl x12, .inl a2]) (st := []) TX3 6 (soX3_lay X h11 r7 a1 (x9 + (1 : Int32)) x12 a2) (tbm tkX5_layLines (i := 26) rfl) rfl rfl ceX3_lay wd_369 wd_370 wd_368 rfl (Nat.le_of_ble_eq_true rfl) (kI_gd (fun h13 x14 => ?_))
    exact q_iret (tbm tkX5_layLines (i := 27) rfl) rfl
theorem ceX5_layLines : Ce mX5_layLines 2 := ⟨wd_18, wd_367, by decide +kernel, by decide +kernel, by decide +kernel⟩
/-- ReceiptRolls.ofTill -/
abbrev mX5_ofTill : MI := (yX5_ofTill, cX5_ofTill, 4, some .int, 8)
def tbX5_ofTill : List TE := [(0, .aload_n 0, 1, 0, 0), (1, .getfield 10, 3, 0, 0), (4, .iload_n 1, 1, 0, 0), (5, .invokevirtual 56, 3, 0, 0), (8, .astore_n 3, 1, 0, 0), (9, .aload_n 3, 1, 0, 0), (10, .ifnonnull 5, 3, 0, 15), (13, .iconst (-1), 1, -1, 0), (14, .ireturn, 1, 0, 0), (15, .iload_n 2, 1, 0, 0), (16, .tableswitch 74 0 5 #[40, 45, 50, 55, 62, 68], 40, 0, 0), (56, .aload_n 3, 1, 0, 0), (57, .getfield 67, 3, 0, 0), (60, .ireturn, 1, 0, 0), (61, .aload_n 3, 1, 0, 0), (62, .invokevirtual 203, 3, 0, 0), (65, .ireturn, 1, 0, 0), (66, .aload_n 3, 1, 0, 0), (67, .invokevirtual 205, 3, 0, 0), (70, .ireturn, 1, 0, 0), (71, .aload_n 0, 1, 0, 0), (72, .aload_n 3, 1, 0, 0), (73, .iconst (-1), 1, -1, 0), (74, .invokevirtual 120, 3, 0, 0), (77, .ireturn, 1, 0, 0), (78, .aload_n 3, 1, 0, 0), (79, .iconst 1, 1, 1, 0), (80, .invokevirtual 208, 3, 0, 0), (83, .ireturn, 1, 0, 0), (84, .aload_n 3, 1, 0, 0), (85, .iconst 2, 1, 2, 0), (86, .invokevirtual 208, 3, 0, 0), (89, .ireturn, 1, 0, 0), (90, .bipush (-2), 2, -2, 0), (92, .ireturn, 1, 0, 0)]
theorem tkX5_ofTill : ∀ x ∈ tbX5_ofTill, tbB cX5_ofTill x = true := tb_all (by decide +kernel)
def fX5_ofTill (c : Nat → Option Nat) (h : Hp) (a0 : Option Nat) (a1 : Int32) (a2 : Int32) : Rs := rdR h a0 7 0 (fun r1 => ck h r1 6 (cc (fX4_openAt c h r1 a1) (kR fun h2 r3 => ifN r3 (some (h2, some (.inl (-1 : Int32)))) (swf a2 [((0 : Int32), rdI h2 r3 4 9 (fun x4 => some (h2, some (.inl x4)))), ((1 : Int32), ck h2 r3 4 (cc (fX2_itemsStruck c h2 r3) (kI fun h5 x6 => some (h5, some (.inl x6))))), ((2 : Int32), ck h2 r3 4 (cc (fX2_total c h2 r3) (kI fun h7 x8 => some (h7, some (.inl x8))))), ((3 : Int32), ck h2 a0 7 (cc (fX5_layLines c h2 a0 r3 (-1 : Int32)) (kI fun h9 x10 => some (h9, some (.inl x10))))), ((4 : Int32), ck h2 r3 4 (cc (fX2_taxOf c h2 r3 (1 : Int32)) (kI fun h11 x12 => some (h11, some (.inl x12))))), ((5 : Int32), ck h2 r3 4 (cc (fX2_taxOf c h2 r3 (2 : Int32)) (kI fun h13 x14 => some (h13, some (.inl x14)))))] (some (h2, some (.inl (-2 : Int32))))))))
set_option maxHeartbeats 4000000 in
set_option maxRecDepth 100000 in
theorem soX5_ofTill (X : Cx) (h : Hp) (a0 : Option Nat) (a1 : Int32) (a2 : Int32) : SO X mX5_ofTill [.inr (.inr a0), .inl a1, .inl a2] h (fX5_ofTill X.2.2.2 h a0 a1 a2) := by
  refine so_of (by decide +kernel) (Nat.le_of_ble_eq_true rfl) ?_
  show Gd X mX5_ofTill h (fX5_ofTill X.2.2.2 h a0 a1 a2) h 0 [some (.inr (.inr a0)), some (.inl a1), some (.inl a2), none] []
  unfold fX5_ofTill
  refine q_run tkX5_ofTill 0 1 (pc' := 1) (L' := [some (.inr (.inr a0)), some (.inl a1), some (.inl a2), none]) (st' := [.inr (.inr a0)]) rfl ?_
  refine q_rdR RX5 TX5 5 (tbm tkX5_ofTill (i := 1) rfl) rfl (Nat.le_of_ble_eq_true rfl) wd_248 (fun r1 => ?_)
  refine q_run tkX5_ofTill 2 1 (pc' := 5) (L' := [some (.inr (.inr a0)), some (.inl a1), some (.inl a2), none]) (st' := [.inl a1, .inr (.inr r1)]) rfl ?_
  refine q_cv (r := r1) (ci := 6) (n := 1) (as := [.inl a1]) (st := []) TX4 13 (soX4_openAt X h r1 a1) (tbm tkX5_ofTill (i := 3) rfl) rfl rfl ceX4_openAt wd_361 wd_362 wd_360 rfl (Nat.le_of_ble_eq_true rfl) (kR_gd (fun h2 r3 => ?_))
  refine q_run tkX5_ofTill 4 2 (pc' := 10) (L' := [some (.inr (.inr a0)), some (.inl a1), some (.inl a2), some (.inr (.inr r3))]) (st' := [.inr (.inr r3)]) rfl ?_
  refine q_ifnonnull (tbm tkX5_ofTill (i := 6) rfl) ?_ ?_
  · refine q_run tkX5_ofTill 7 1 (pc' := 14) (L' := [some (.inr (.inr a0)), some (.inl a1), some (.inl a2), some (.inr (.inr r3))]) (st' := [.inl (-1 : Int32)]) rfl ?_
    exact q_iret (tbm tkX5_ofTill (i := 8) rfl) rfl
  · refine q_run tkX5_ofTill 9 1 (pc' := 16) (L' := [some (.inr (.inr a0)), some (.inl a1), some (.inl a2), some (.inr (.inr r3))]) (st' := [.inl a2]) rfl ?_
    refine q_sw [((0 : Int32), 56), ((1 : Int32), 61), ((2 : Int32), 66), ((3 : Int32), 71), ((4 : Int32), 78), ((5 : Int32), 84)] 90 (tbm tkX5_ofTill (i := 10) rfl) (by decide +kernel) ?_ ⟨⟨rfl, ?_⟩, ⟨rfl, ?_⟩, ⟨rfl, ?_⟩, ⟨rfl, ?_⟩, ⟨rfl, ?_⟩, ⟨rfl, ?_⟩, trivial⟩
    · refine q_run tkX5_ofTill 33 1 (pc' := 92) (L' := [some (.inr (.inr a0)), some (.inl a1), some (.inl a2), some (.inr (.inr r3))]) (st' := [.inl (-2 : Int32)]) rfl ?_
      exact q_iret (tbm tkX5_ofTill (i := 34) rfl) rfl
    · refine q_run tkX5_ofTill 11 1 (pc' := 57) (L' := [some (.inr (.inr a0)), some (.inl a1), some (.inl a2), some (.inr (.inr r3))]) (st' := [.inr (.inr r3)]) rfl ?_
      refine q_rdI RX2 TX2 14 (tbm tkX5_ofTill (i := 12) rfl) rfl (Nat.le_of_ble_eq_true rfl) wd_82 (fun x4 => ?_)
      exact q_iret (tbm tkX5_ofTill (i := 13) rfl) rfl
    · refine q_run tkX5_ofTill 14 1 (pc' := 62) (L' := [some (.inr (.inr a0)), some (.inl a1), some (.inl a2), some (.inr (.inr r3))]) (st' := [.inr (.inr r3)]) rfl ?_
      refine q_cv (r := r3) (ci := 4) (n := 0) (as := []) (st := []) TX2 14 (soX2_itemsStruck X h2 r3) (tbm tkX5_ofTill (i := 15) rfl) rfl rfl ceX2_itemsStruck wd_281 wd_282 wd_280 rfl (Nat.le_of_ble_eq_true rfl) (kI_gd (fun h5 x6 => ?_))
      exact q_iret (tbm tkX5_ofTill (i := 16) rfl) rfl
    · refine q_run tkX5_ofTill 17 1 (pc' := 67) (L' := [some (.inr (.inr a0)), some (.inl a1), some (.inl a2), some (.inr (.inr r3))]) (st' := [.inr (.inr r3)]) rfl ?_
      refine q_cv (r := r3) (ci := 4) (n := 0) (as := []) (st := []) TX2 14 (soX2_total X h2 r3) (tbm tkX5_ofTill (i := 18) rfl) rfl rfl ceX2_total wd_291 wd_292 wd_290 rfl (Nat.le_of_ble_eq_true rfl) (kI_gd (fun h7 x8 => ?_))
      exact q_iret (tbm tkX5_ofTill (i := 19) rfl) rfl
    · refine q_run tkX5_ofTill 20 3 (pc' := 74) (L' := [some (.inr (.inr a0)), some (.inl a1), some (.inl a2), some (.inr (.inr r3))]) (st' := [.inl (-1 : Int32), .inr (.inr r3), .inr (.inr a0)]) rfl ?_
      refine q_cv (r := a0) (ci := 7) (n := 2) (as := [.inr (.inr r3), .inl (-1 : Int32)]) (st := []) TX5 5 (soX5_layLines X h2 a0 r3 (-1 : Int32)) (tbm tkX5_ofTill (i := 23) rfl) rfl rfl ceX5_layLines wd_366 wd_0 wd_364 rfl (Nat.le_of_ble_eq_true rfl) (kI_gd (fun h9 x10 => ?_))
      exact q_iret (tbm tkX5_ofTill (i := 24) rfl) rfl
    · refine q_run tkX5_ofTill 25 2 (pc' := 80) (L' := [some (.inr (.inr a0)), some (.inl a1), some (.inl a2), some (.inr (.inr r3))]) (st' := [.inl (1 : Int32), .inr (.inr r3)]) rfl ?_
      refine q_cv (r := r3) (ci := 4) (n := 1) (as := [.inl (1 : Int32)]) (st := []) TX2 14 (soX2_taxOf X h2 r3 (1 : Int32)) (tbm tkX5_ofTill (i := 27) rfl) rfl rfl ceX2_taxOf wd_483 wd_484 wd_488 rfl (Nat.le_of_ble_eq_true rfl) (kI_gd (fun h11 x12 => ?_))
      exact q_iret (tbm tkX5_ofTill (i := 28) rfl) rfl
    · refine q_run tkX5_ofTill 29 2 (pc' := 86) (L' := [some (.inr (.inr a0)), some (.inl a1), some (.inl a2), some (.inr (.inr r3))]) (st' := [.inl (2 : Int32), .inr (.inr r3)]) rfl ?_
      refine q_cv (r := r3) (ci := 4) (n := 1) (as := [.inl (2 : Int32)]) (st := []) TX2 14 (soX2_taxOf X h2 r3 (2 : Int32)) (tbm tkX5_ofTill (i := 31) rfl) rfl rfl ceX2_taxOf wd_483 wd_484 wd_488 rfl (Nat.le_of_ble_eq_true rfl) (kI_gd (fun h13 x14 => ?_))
      exact q_iret (tbm tkX5_ofTill (i := 32) rfl) rfl
theorem ceX5_ofTill : Ce mX5_ofTill 2 := ⟨wd_18, wd_359, by decide +kernel, by decide +kernel, by decide +kernel⟩
/-- ReceiptRolls.ofReceipt -/
abbrev mX5_ofReceipt : MI := (yX5_ofReceipt, cX5_ofReceipt, 4, some .int, 3)
def tbX5_ofReceipt : List TE := [(0, .aload_n 0, 1, 0, 0), (1, .getfield 10, 3, 0, 0), (4, .iload_n 1, 1, 0, 0), (5, .invokevirtual 141, 3, 0, 0), (8, .astore_n 3, 1, 0, 0), (9, .aload_n 3, 1, 0, 0), (10, .ifnonnull 5, 3, 0, 15), (13, .iconst (-1), 1, -1, 0), (14, .ireturn, 1, 0, 0), (15, .iload_n 2, 1, 0, 0), (16, .tableswitch 119 0 9 #[56, 61, 66, 71, 76, 81, 86, 91, 96, 101], 56, 0, 0), (72, .aload_n 3, 1, 0, 0), (73, .getfield 144, 3, 0, 0), (76, .ireturn, 1, 0, 0), (77, .aload_n 3, 1, 0, 0), (78, .getfield 211, 3, 0, 0), (81, .ireturn, 1, 0, 0), (82, .aload_n 3, 1, 0, 0), (83, .getfield 147, 3, 0, 0), (86, .ireturn, 1, 0, 0), (87, .aload_n 3, 1, 0, 0), (88, .getfield 67, 3, 0, 0), (91, .ireturn, 1, 0, 0), (92, .aload_n 3, 1, 0, 0), (93, .invokevirtual 203, 3, 0, 0), (96, .ireturn, 1, 0, 0), (97, .aload_n 3, 1, 0, 0), (98, .invokevirtual 205, 3, 0, 0), (101, .ireturn, 1, 0, 0), (102, .aload_n 3, 1, 0, 0), (103, .getfield 214, 3, 0, 0), (106, .ireturn, 1, 0, 0), (107, .aload_n 3, 1, 0, 0), (108, .getfield 166, 3, 0, 0), (111, .ireturn, 1, 0, 0), (112, .aload_n 3, 1, 0, 0), (113, .getfield 217, 3, 0, 0), (116, .ireturn, 1, 0, 0), (117, .aload_n 3, 1, 0, 0), (118, .getfield 144, 3, 0, 0), (121, .iconst 2, 1, 2, 0), (122, .if_icmp .ne 10, 3, 0, 132), (125, .aload_n 3, 1, 0, 0), (126, .getfield 218, 3, 0, 0), (129, .goto 5, 3, 0, 134), (132, .bipush (-6), 2, -6, 0), (134, .ireturn, 1, 0, 0), (135, .bipush (-2), 2, -2, 0), (137, .ireturn, 1, 0, 0)]
theorem tkX5_ofReceipt : ∀ x ∈ tbX5_ofReceipt, tbB cX5_ofReceipt x = true := tb_all (by decide +kernel)
def fX5_ofReceipt_134 (c : Nat → Option Nat) (h : Hp) (s0 : Int32) : Rs := some (h, some (.inl s0))
set_option maxHeartbeats 4000000 in
set_option maxRecDepth 100000 in
theorem sX5_ofReceipt_134 (X : Cx) {h0 : Hp} (h : Hp) (s0 : Int32) : Gd X mX5_ofReceipt h0 (fX5_ofReceipt_134 X.2.2.2 h s0) h 134 [none, none, none, none] [.inl s0] := by
  unfold fX5_ofReceipt_134
  exact q_iret (tbm tkX5_ofReceipt (i := 46) rfl) rfl
def fX5_ofReceipt (c : Nat → Option Nat) (h : Hp) (a0 : Option Nat) (a1 : Int32) (a2 : Int32) : Rs := rdR h a0 7 0 (fun r1 => ck h r1 6 (cc (fX4_known c h r1 a1) (kR fun h2 r3 => ifN r3 (some (h2, some (.inl (-1 : Int32)))) (swf a2 [((0 : Int32), rdI h2 r3 4 3 (fun x4 => some (h2, some (.inl x4)))), ((1 : Int32), rdI h2 r3 4 1 (fun x5 => some (h2, some (.inl x5)))), ((2 : Int32), rdI h2 r3 4 2 (fun x6 => some (h2, some (.inl x6)))), ((3 : Int32), rdI h2 r3 4 9 (fun x7 => some (h2, some (.inl x7)))), ((4 : Int32), ck h2 r3 4 (cc (fX2_itemsStruck c h2 r3) (kI fun h8 x9 => some (h8, some (.inl x9))))), ((5 : Int32), ck h2 r3 4 (cc (fX2_total c h2 r3) (kI fun h10 x11 => some (h10, some (.inl x11))))), ((6 : Int32), rdI h2 r3 4 5 (fun x12 => some (h2, some (.inl x12)))), ((7 : Int32), rdI h2 r3 4 6 (fun x13 => some (h2, some (.inl x13)))), ((8 : Int32), rdI h2 r3 4 4 (fun x14 => some (h2, some (.inl x14)))), ((9 : Int32), rdI h2 r3 4 3 (fun x15 => if x15 = (2 : Int32) then (rdI h2 r3 4 7 (fun x16 => fX5_ofReceipt_134 c h2 x16)) else (fX5_ofReceipt_134 c h2 (-6 : Int32))))] (some (h2, some (.inl (-2 : Int32))))))))
set_option maxHeartbeats 4000000 in
set_option maxRecDepth 100000 in
theorem soX5_ofReceipt (X : Cx) (h : Hp) (a0 : Option Nat) (a1 : Int32) (a2 : Int32) : SO X mX5_ofReceipt [.inr (.inr a0), .inl a1, .inl a2] h (fX5_ofReceipt X.2.2.2 h a0 a1 a2) := by
  refine so_of (by decide +kernel) (Nat.le_of_ble_eq_true rfl) ?_
  show Gd X mX5_ofReceipt h (fX5_ofReceipt X.2.2.2 h a0 a1 a2) h 0 [some (.inr (.inr a0)), some (.inl a1), some (.inl a2), none] []
  unfold fX5_ofReceipt
  refine q_run tkX5_ofReceipt 0 1 (pc' := 1) (L' := [some (.inr (.inr a0)), some (.inl a1), some (.inl a2), none]) (st' := [.inr (.inr a0)]) rfl ?_
  refine q_rdR RX5 TX5 5 (tbm tkX5_ofReceipt (i := 1) rfl) rfl (Nat.le_of_ble_eq_true rfl) wd_248 (fun r1 => ?_)
  refine q_run tkX5_ofReceipt 2 1 (pc' := 5) (L' := [some (.inr (.inr a0)), some (.inl a1), some (.inl a2), none]) (st' := [.inl a1, .inr (.inr r1)]) rfl ?_
  refine q_cv (r := r1) (ci := 6) (n := 1) (as := [.inl a1]) (st := []) TX4 13 (soX4_known X h r1 a1) (tbm tkX5_ofReceipt (i := 3) rfl) rfl rfl ceX4_known wd_269 wd_270 wd_268 rfl (Nat.le_of_ble_eq_true rfl) (kR_gd (fun h2 r3 => ?_))
  refine q_run tkX5_ofReceipt 4 2 (pc' := 10) (L' := [some (.inr (.inr a0)), some (.inl a1), some (.inl a2), some (.inr (.inr r3))]) (st' := [.inr (.inr r3)]) rfl ?_
  refine q_ifnonnull (tbm tkX5_ofReceipt (i := 6) rfl) ?_ ?_
  · refine q_run tkX5_ofReceipt 7 1 (pc' := 14) (L' := [some (.inr (.inr a0)), some (.inl a1), some (.inl a2), some (.inr (.inr r3))]) (st' := [.inl (-1 : Int32)]) rfl ?_
    exact q_iret (tbm tkX5_ofReceipt (i := 8) rfl) rfl
  · refine q_run tkX5_ofReceipt 9 1 (pc' := 16) (L' := [some (.inr (.inr a0)), some (.inl a1), some (.inl a2), some (.inr (.inr r3))]) (st' := [.inl a2]) rfl ?_
    refine q_sw [((0 : Int32), 72), ((1 : Int32), 77), ((2 : Int32), 82), ((3 : Int32), 87), ((4 : Int32), 92), ((5 : Int32), 97), ((6 : Int32), 102), ((7 : Int32), 107), ((8 : Int32), 112), ((9 : Int32), 117)] 135 (tbm tkX5_ofReceipt (i := 10) rfl) (by decide +kernel) ?_ ⟨⟨rfl, ?_⟩, ⟨rfl, ?_⟩, ⟨rfl, ?_⟩, ⟨rfl, ?_⟩, ⟨rfl, ?_⟩, ⟨rfl, ?_⟩, ⟨rfl, ?_⟩, ⟨rfl, ?_⟩, ⟨rfl, ?_⟩, ⟨rfl, ?_⟩, trivial⟩
    · refine q_run tkX5_ofReceipt 47 1 (pc' := 137) (L' := [some (.inr (.inr a0)), some (.inl a1), some (.inl a2), some (.inr (.inr r3))]) (st' := [.inl (-2 : Int32)]) rfl ?_
      exact q_iret (tbm tkX5_ofReceipt (i := 48) rfl) rfl
    · refine q_run tkX5_ofReceipt 11 1 (pc' := 73) (L' := [some (.inr (.inr a0)), some (.inl a1), some (.inl a2), some (.inr (.inr r3))]) (st' := [.inr (.inr r3)]) rfl ?_
      refine q_rdI RX2 TX2 14 (tbm tkX5_ofReceipt (i := 12) rfl) rfl (Nat.le_of_ble_eq_true rfl) wd_66 (fun x4 => ?_)
      exact q_iret (tbm tkX5_ofReceipt (i := 13) rfl) rfl
    · refine q_run tkX5_ofReceipt 14 1 (pc' := 78) (L' := [some (.inr (.inr a0)), some (.inl a1), some (.inl a2), some (.inr (.inr r3))]) (st' := [.inr (.inr r3)]) rfl ?_
      refine q_rdI RX2 TX2 14 (tbm tkX5_ofReceipt (i := 15) rfl) rfl (Nat.le_of_ble_eq_true rfl) wd_62 (fun x5 => ?_)
      exact q_iret (tbm tkX5_ofReceipt (i := 16) rfl) rfl
    · refine q_run tkX5_ofReceipt 17 1 (pc' := 83) (L' := [some (.inr (.inr a0)), some (.inl a1), some (.inl a2), some (.inr (.inr r3))]) (st' := [.inr (.inr r3)]) rfl ?_
      refine q_rdI RX2 TX2 14 (tbm tkX5_ofReceipt (i := 18) rfl) rfl (Nat.le_of_ble_eq_true rfl) wd_64 (fun x6 => ?_)
      exact q_iret (tbm tkX5_ofReceipt (i := 19) rfl) rfl
    · refine q_run tkX5_ofReceipt 20 1 (pc' := 88) (L' := [some (.inr (.inr a0)), some (.inl a1), some (.inl a2), some (.inr (.inr r3))]) (st' := [.inr (.inr r3)]) rfl ?_
      refine q_rdI RX2 TX2 14 (tbm tkX5_ofReceipt (i := 21) rfl) rfl (Nat.le_of_ble_eq_true rfl) wd_82 (fun x7 => ?_)
      exact q_iret (tbm tkX5_ofReceipt (i := 22) rfl) rfl
    · refine q_run tkX5_ofReceipt 23 1 (pc' := 93) (L' := [some (.inr (.inr a0)), some (.inl a1), some (.inl a2), some (.inr (.inr r3))]) (st' := [.inr (.inr r3)]) rfl ?_
      refine q_cv (r := r3) (ci := 4) (n := 0) (as := []) (st := []) TX2 14 (soX2_itemsStruck X h2 r3) (tbm tkX5_ofReceipt (i := 24) rfl) rfl rfl ceX2_itemsStruck wd_281 wd_282 wd_280 rfl (Nat.le_of_ble_eq_true rfl) (kI_gd (fun h8 x9 => ?_))
      exact q_iret (tbm tkX5_ofReceipt (i := 25) rfl) rfl
    · refine q_run tkX5_ofReceipt 26 1 (pc' := 98) (L' := [some (.inr (.inr a0)), some (.inl a1), some (.inl a2), some (.inr (.inr r3))]) (st' := [.inr (.inr r3)]) rfl ?_
      refine q_cv (r := r3) (ci := 4) (n := 0) (as := []) (st := []) TX2 14 (soX2_total X h2 r3) (tbm tkX5_ofReceipt (i := 27) rfl) rfl rfl ceX2_total wd_291 wd_292 wd_290 rfl (Nat.le_of_ble_eq_true rfl) (kI_gd (fun h10 x11 => ?_))
      exact q_iret (tbm tkX5_ofReceipt (i := 28) rfl) rfl
    · refine q_run tkX5_ofReceipt 29 1 (pc' := 103) (L' := [some (.inr (.inr a0)), some (.inl a1), some (.inl a2), some (.inr (.inr r3))]) (st' := [.inr (.inr r3)]) rfl ?_
      refine q_rdI RX2 TX2 14 (tbm tkX5_ofReceipt (i := 30) rfl) rfl (Nat.le_of_ble_eq_true rfl) wd_71 (fun x12 => ?_)
      exact q_iret (tbm tkX5_ofReceipt (i := 31) rfl) rfl
    · refine q_run tkX5_ofReceipt 32 1 (pc' := 108) (L' := [some (.inr (.inr a0)), some (.inl a1), some (.inl a2), some (.inr (.inr r3))]) (st' := [.inr (.inr r3)]) rfl ?_
      refine q_rdI RX2 TX2 14 (tbm tkX5_ofReceipt (i := 33) rfl) rfl (Nat.le_of_ble_eq_true rfl) wd_74 (fun x13 => ?_)
      exact q_iret (tbm tkX5_ofReceipt (i := 34) rfl) rfl
    · refine q_run tkX5_ofReceipt 35 1 (pc' := 113) (L' := [some (.inr (.inr a0)), some (.inl a1), some (.inl a2), some (.inr (.inr r3))]) (st' := [.inr (.inr r3)]) rfl ?_
      refine q_rdI RX2 TX2 14 (tbm tkX5_ofReceipt (i := 36) rfl) rfl (Nat.le_of_ble_eq_true rfl) wd_69 (fun x14 => ?_)
      exact q_iret (tbm tkX5_ofReceipt (i := 37) rfl) rfl
    · refine q_run tkX5_ofReceipt 38 1 (pc' := 118) (L' := [some (.inr (.inr a0)), some (.inl a1), some (.inl a2), some (.inr (.inr r3))]) (st' := [.inr (.inr r3)]) rfl ?_
      refine q_rdI RX2 TX2 14 (tbm tkX5_ofReceipt (i := 39) rfl) rfl (Nat.le_of_ble_eq_true rfl) wd_66 (fun x15 => ?_)
      refine q_run tkX5_ofReceipt 40 1 (pc' := 122) (L' := [some (.inr (.inr a0)), some (.inl a1), some (.inl a2), some (.inr (.inr r3))]) (st' := [.inl (2 : Int32), .inl x15]) rfl ?_
      refine q_icmp_ne (tbm tkX5_ofReceipt (i := 41) rfl) ?_ ?_
      · refine q_run tkX5_ofReceipt 42 1 (pc' := 126) (L' := [some (.inr (.inr a0)), some (.inl a1), some (.inl a2), some (.inr (.inr r3))]) (st' := [.inr (.inr r3)]) rfl ?_
        refine q_rdI RX2 TX2 14 (tbm tkX5_ofReceipt (i := 43) rfl) rfl (Nat.le_of_ble_eq_true rfl) wd_77 (fun x16 => ?_)
        refine q_run tkX5_ofReceipt 44 1 (pc' := 134) (L' := [some (.inr (.inr a0)), some (.inl a1), some (.inl a2), some (.inr (.inr r3))]) (st' := [.inl x16]) rfl ?_
        refine q_le (L' := [none, none, none, none]) (lvLe_n (lvLe_n (lvLe_n (lvLe_n lvLe_0)))) ?_
        exact sX5_ofReceipt_134 X h2 x16
      · refine q_run tkX5_ofReceipt 45 1 (pc' := 134) (L' := [some (.inr (.inr a0)), some (.inl a1), some (.inl a2), some (.inr (.inr r3))]) (st' := [.inl (-6 : Int32)]) rfl ?_
        refine q_le (L' := [none, none, none, none]) (lvLe_n (lvLe_n (lvLe_n (lvLe_n lvLe_0)))) ?_
        exact sX5_ofReceipt_134 X h2 (-6 : Int32)
theorem ceX5_ofReceipt : Ce mX5_ofReceipt 2 := ⟨wd_18, wd_267, by decide +kernel, by decide +kernel, by decide +kernel⟩
/-- ReceiptRolls.isPriority -/
abbrev mX5_isPriority : MI := (yX5_isPriority, cX5_isPriority, 1, some .boolean, 0)
def tbX5_isPriority : List TE := [(0, .iload_n 0, 1, 0, 0), (1, .ifCond .lt 12, 3, 0, 13), (4, .iload_n 0, 1, 0, 0), (5, .iconst 3, 1, 3, 0), (6, .if_icmp .gt 7, 3, 0, 13), (9, .iconst 1, 1, 1, 0), (10, .goto 4, 3, 0, 14), (13, .iconst 0, 1, 0, 0), (14, .ireturn, 1, 0, 0)]
theorem tkX5_isPriority : ∀ x ∈ tbX5_isPriority, tbB cX5_isPriority x = true := tb_all (by decide +kernel)
def fX5_isPriority_14 (c : Nat → Option Nat) (h : Hp) (s0 : Int32) : Rs := rtI .boolean h s0
set_option maxHeartbeats 4000000 in
set_option maxRecDepth 100000 in
theorem sX5_isPriority_14 (X : Cx) {h0 : Hp} (h : Hp) (s0 : Int32) : Gd X mX5_isPriority h0 (fX5_isPriority_14 X.2.2.2 h s0) h 14 [none] [.inl s0] := by
  unfold fX5_isPriority_14
  exact q_zret (tbm tkX5_isPriority (i := 8) rfl) rfl
def fX5_isPriority_13 (c : Nat → Option Nat) (h : Hp) : Rs := fX5_isPriority_14 c h (0 : Int32)
set_option maxHeartbeats 4000000 in
set_option maxRecDepth 100000 in
theorem sX5_isPriority_13 (X : Cx) {h0 : Hp} (h : Hp) : Gd X mX5_isPriority h0 (fX5_isPriority_13 X.2.2.2 h) h 13 [none] [] := by
  unfold fX5_isPriority_13
  refine q_run tkX5_isPriority 7 1 (pc' := 14) (L' := [none]) (st' := [.inl (0 : Int32)]) rfl ?_
  exact sX5_isPriority_14 X h (0 : Int32)
def fX5_isPriority (c : Nat → Option Nat) (h : Hp) (a0 : Int32) : Rs := if a0 < 0 then (fX5_isPriority_13 c h) else (if (3 : Int32) < a0 then (fX5_isPriority_13 c h) else (fX5_isPriority_14 c h (1 : Int32)))
set_option maxHeartbeats 4000000 in
set_option maxRecDepth 100000 in
theorem soX5_isPriority (X : Cx) (h : Hp) (a0 : Int32) : SO X mX5_isPriority [.inl a0] h (fX5_isPriority X.2.2.2 h a0) := by
  refine so_of (by decide +kernel) (Nat.le_of_ble_eq_true rfl) ?_
  show Gd X mX5_isPriority h (fX5_isPriority X.2.2.2 h a0) h 0 [some (.inl a0)] []
  unfold fX5_isPriority
  refine q_run tkX5_isPriority 0 1 (pc' := 1) (L' := [some (.inl a0)]) (st' := [.inl a0]) rfl ?_
  refine q_if_lt (tbm tkX5_isPriority (i := 1) rfl) ?_ ?_
  · refine q_le (L' := [none]) (lvLe_n lvLe_0) ?_
    exact sX5_isPriority_13 X h
  · refine q_run tkX5_isPriority 2 2 (pc' := 6) (L' := [some (.inl a0)]) (st' := [.inl (3 : Int32), .inl a0]) rfl ?_
    refine q_icmp_gt (tbm tkX5_isPriority (i := 4) rfl) ?_ ?_
    · refine q_le (L' := [none]) (lvLe_n lvLe_0) ?_
      exact sX5_isPriority_13 X h
    · refine q_run tkX5_isPriority 5 2 (pc' := 14) (L' := [some (.inl a0)]) (st' := [.inl (1 : Int32)]) rfl ?_
      refine q_le (L' := [none]) (lvLe_n lvLe_0) ?_
      exact sX5_isPriority_14 X h (1 : Int32)
theorem ceX5_isPriority : Ce mX5_isPriority 1 := ⟨wd_18, wd_502, by decide +kernel, by decide +kernel, by decide +kernel⟩
/-- ReceiptRolls.close -/
abbrev mX5_close : MI := (yX5_close, cX5_close, 5, some .int, 8)
def tbX5_close : List TE := [(0, .aload_n 0, 1, 0, 0), (1, .getfield 10, 3, 0, 0), (4, .iload_n 1, 1, 0, 0), (5, .invokevirtual 56, 3, 0, 0), (8, .astore_n 3, 1, 0, 0), (9, .aload_n 3, 1, 0, 0), (10, .ifnonnull 5, 3, 0, 15), (13, .iconst (-1), 1, -1, 0), (14, .ireturn, 1, 0, 0), (15, .iload_n 2, 1, 0, 0), (16, .invokestatic 107, 3, 0, 0), (19, .ifCond .ne 6, 3, 0, 25), (22, .bipush (-2), 2, -2, 0), (24, .ireturn, 1, 0, 0), (25, .aload_n 3, 1, 0, 0), (26, .getfield 67, 3, 0, 0), (29, .ifCond .ne 6, 3, 0, 35), (32, .bipush (-5), 2, -5, 0), (34, .ireturn, 1, 0, 0), (35, .aload_n 0, 1, 0, 0), (36, .getfield 10, 3, 0, 0), (39, .invokevirtual 110, 3, 0, 0), (42, .astore 4, 2, 0, 0), (44, .aload 4, 2, 0, 0), (46, .ifnull 23, 3, 0, 69), (49, .aload_n 0, 1, 0, 0), (50, .getfield 10, 3, 0, 0), (53, .getfield 114, 3, 0, 0), (56, .aload_n 0, 1, 0, 0), (57, .getfield 10, 3, 0, 0), (60, .getfield 117, 3, 0, 0), (63, .isub, 1, 0, 0), (64, .bipush 10, 2, 10, 0), (66, .if_icmp .lt 6, 3, 0, 72), (69, .bipush (-4), 2, -4, 0), (71, .ireturn, 1, 0, 0), (72, .aload_n 0, 1, 0, 0), (73, .getfield 19, 3, 0, 0), (76, .aload_n 0, 1, 0, 0), (77, .getfield 10, 3, 0, 0), (80, .invokevirtual 48, 3, 0, 0), (83, .aload_n 0, 1, 0, 0), (84, .aload_n 3, 1, 0, 0), (85, .iconst (-1), 1, -1, 0), (86, .invokevirtual 120, 3, 0, 0), (89, .pop, 1, 0, 0), (90, .aload_n 0, 1, 0, 0), (91, .getfield 10, 3, 0, 0), (94, .dup, 1, 0, 0), (95, .getfield 114, 3, 0, 0), (98, .iconst 1, 1, 1, 0), (99, .iadd, 1, 0, 0), (100, .putfield 114, 3, 0, 0), (103, .aload 4, 2, 0, 0), (105, .aload_n 3, 1, 0, 0), (106, .invokevirtual 124, 3, 0, 0), (109, .aload 4, 2, 0, 0), (111, .aload_n 0, 1, 0, 0), (112, .getfield 10, 3, 0, 0), (115, .getfield 114, 3, 0, 0), (118, .iload_n 1, 1, 0, 0), (119, .iload_n 2, 1, 0, 0), (120, .aload_n 0, 1, 0, 0), (121, .getfield 37, 3, 0, 0), (124, .getfield 128, 3, 0, 0), (127, .aload_n 0, 1, 0, 0), (128, .getfield 37, 3, 0, 0), (131, .getfield 131, 3, 0, 0), (134, .invokevirtual 134, 3, 0, 0), (137, .aload_n 3, 1, 0, 0), (138, .invokevirtual 138, 3, 0, 0), (141, .aload_n 0, 1, 0, 0), (142, .getfield 10, 3, 0, 0), (145, .getfield 114, 3, 0, 0), (148, .ireturn, 1, 0, 0)]
theorem tkX5_close : ∀ x ∈ tbX5_close, tbB cX5_close x = true := tb_all (by decide +kernel)
def fX5_close_69 (c : Nat → Option Nat) (h : Hp) : Rs := some (h, some (.inl (-4 : Int32)))
set_option maxHeartbeats 4000000 in
set_option maxRecDepth 100000 in
theorem sX5_close_69 (X : Cx) {h0 : Hp} (h : Hp) : Gd X mX5_close h0 (fX5_close_69 X.2.2.2 h) h 69 [none, none, none, none, none] [] := by
  unfold fX5_close_69
  refine q_run tkX5_close 34 1 (pc' := 71) (L' := [none, none, none, none, none]) (st' := [.inl (-4 : Int32)]) rfl ?_
  exact q_iret (tbm tkX5_close (i := 35) rfl) rfl
def fX5_close (c : Nat → Option Nat) (h : Hp) (a0 : Option Nat) (a1 : Int32) (a2 : Int32) : Rs := rdR h a0 7 0 (fun r1 => ck h r1 6 (cc (fX4_openAt c h r1 a1) (kR fun h2 r3 => ifN r3 (some (h2, some (.inl (-1 : Int32)))) (cc (fX5_isPriority c h2 a2) (kI fun h4 x5 => if x5 = 0 then (some (h4, some (.inl (-2 : Int32)))) else (rdI h4 r3 4 9 (fun x6 => if x6 = 0 then (some (h4, some (.inl (-5 : Int32)))) else (rdR h4 a0 7 0 (fun r7 => ck h4 r7 6 (cc (fX4_freePlace c h4 r7) (kR fun h8 r9 => ifN r9 (fX5_close_69 c h8) (rdR h8 a0 7 0 (fun r10 => rdI h8 r10 6 6 (fun x11 => rdR h8 a0 7 0 (fun r12 => rdI h8 r12 6 7 (fun x13 => if (x11 - x13) < (10 : Int32) then (rdR h8 a0 7 1 (fun r14 => rdR h8 a0 7 0 (fun r15 => ck h8 r14 2 (cc (fX0_remember c h8 r14 r15) (kV fun h16 => ck h16 a0 7 (cc (fX5_layLines c h16 a0 r3 (-1 : Int32)) (kI fun h17 x18 => rdR h17 a0 7 0 (fun r19 => rdI h17 r19 6 6 (fun x20 => wr h17 r19 6 6 (.inl (x20 + (1 : Int32))) (fun h21 => ck h21 r9 4 (cc (fX2_copyFrom c h21 r9 r3) (kV fun h22 => rdR h22 a0 7 0 (fun r23 => rdI h22 r23 6 6 (fun x24 => rdR h22 a0 7 4 (fun r25 => rdI h22 r25 5 0 (fun x26 => rdR h22 a0 7 4 (fun r27 => rdI h22 r27 5 1 (fun x28 => ck h22 r9 4 (cc (fX2_closeAs c h22 r9 x24 a1 a2 x26 x28) (kV fun h29 => ck h29 r3 4 (cc (fX2_clear c h29 r3) (kV fun h30 => rdR h30 a0 7 0 (fun r31 => rdI h30 r31 6 6 (fun x32 => some (h30, some (.inl x32)))))))))))))))))))))))))) else (fX5_close_69 c h8)))))))))))))))))
set_option maxHeartbeats 4000000 in
set_option maxRecDepth 100000 in
theorem soX5_close (X : Cx) (h : Hp) (a0 : Option Nat) (a1 : Int32) (a2 : Int32) : SO X mX5_close [.inr (.inr a0), .inl a1, .inl a2] h (fX5_close X.2.2.2 h a0 a1 a2) := by
  refine so_of (by decide +kernel) (Nat.le_of_ble_eq_true rfl) ?_
  show Gd X mX5_close h (fX5_close X.2.2.2 h a0 a1 a2) h 0 [some (.inr (.inr a0)), some (.inl a1), some (.inl a2), none, none] []
  unfold fX5_close
  refine q_run tkX5_close 0 1 (pc' := 1) (L' := [some (.inr (.inr a0)), some (.inl a1), some (.inl a2), none, none]) (st' := [.inr (.inr a0)]) rfl ?_
  refine q_rdR RX5 TX5 5 (tbm tkX5_close (i := 1) rfl) rfl (Nat.le_of_ble_eq_true rfl) wd_248 (fun r1 => ?_)
  refine q_run tkX5_close 2 1 (pc' := 5) (L' := [some (.inr (.inr a0)), some (.inl a1), some (.inl a2), none, none]) (st' := [.inl a1, .inr (.inr r1)]) rfl ?_
  refine q_cv (r := r1) (ci := 6) (n := 1) (as := [.inl a1]) (st := []) TX4 13 (soX4_openAt X h r1 a1) (tbm tkX5_close (i := 3) rfl) rfl rfl ceX4_openAt wd_361 wd_362 wd_360 rfl (Nat.le_of_ble_eq_true rfl) (kR_gd (fun h2 r3 => ?_))
  refine q_run tkX5_close 4 2 (pc' := 10) (L' := [some (.inr (.inr a0)), some (.inl a1), some (.inl a2), some (.inr (.inr r3)), none]) (st' := [.inr (.inr r3)]) rfl ?_
  refine q_ifnonnull (tbm tkX5_close (i := 6) rfl) ?_ ?_
  · refine q_run tkX5_close 7 1 (pc' := 14) (L' := [some (.inr (.inr a0)), some (.inl a1), some (.inl a2), some (.inr (.inr r3)), none]) (st' := [.inl (-1 : Int32)]) rfl ?_
    exact q_iret (tbm tkX5_close (i := 8) rfl) rfl
  · refine q_run tkX5_close 9 1 (pc' := 16) (L' := [some (.inr (.inr a0)), some (.inl a1), some (.inl a2), some (.inr (.inr r3)), none]) (st' := [.inl a2]) rfl ?_
    refine q_cs (n := 1) (as := [.inl a2]) (st := []) (soX5_isPriority X h2 a2) (tbm tkX5_close (i := 10) rfl) rfl ceX5_isPriority wd_501 wd_500 rfl (Nat.le_of_ble_eq_true rfl) (kI_gd (fun h4 x5 => ?_))
    refine q_if_ne (tbm tkX5_close (i := 11) rfl) ?_ ?_
    · refine q_run tkX5_close 12 1 (pc' := 24) (L' := [some (.inr (.inr a0)), some (.inl a1), some (.inl a2), some (.inr (.inr r3)), none]) (st' := [.inl (-2 : Int32)]) rfl ?_
      exact q_iret (tbm tkX5_close (i := 13) rfl) rfl
    · refine q_run tkX5_close 14 1 (pc' := 26) (L' := [some (.inr (.inr a0)), some (.inl a1), some (.inl a2), some (.inr (.inr r3)), none]) (st' := [.inr (.inr r3)]) rfl ?_
      refine q_rdI RX2 TX2 14 (tbm tkX5_close (i := 15) rfl) rfl (Nat.le_of_ble_eq_true rfl) wd_82 (fun x6 => ?_)
      refine q_if_ne (tbm tkX5_close (i := 16) rfl) ?_ ?_
      · refine q_run tkX5_close 17 1 (pc' := 34) (L' := [some (.inr (.inr a0)), some (.inl a1), some (.inl a2), some (.inr (.inr r3)), none]) (st' := [.inl (-5 : Int32)]) rfl ?_
        exact q_iret (tbm tkX5_close (i := 18) rfl) rfl
      · refine q_run tkX5_close 19 1 (pc' := 36) (L' := [some (.inr (.inr a0)), some (.inl a1), some (.inl a2), some (.inr (.inr r3)), none]) (st' := [.inr (.inr a0)]) rfl ?_
        refine q_rdR RX5 TX5 5 (tbm tkX5_close (i := 20) rfl) rfl (Nat.le_of_ble_eq_true rfl) wd_248 (fun r7 => ?_)
        refine q_cv (r := r7) (ci := 6) (n := 0) (as := []) (st := []) TX4 13 (soX4_freePlace X h4 r7) (tbm tkX5_close (i := 21) rfl) rfl rfl ceX4_freePlace wd_504 wd_505 wd_503 rfl (Nat.le_of_ble_eq_true rfl) (kR_gd (fun h8 r9 => ?_))
        refine q_run tkX5_close 22 2 (pc' := 46) (L' := [some (.inr (.inr a0)), some (.inl a1), some (.inl a2), some (.inr (.inr r3)), some (.inr (.inr r9))]) (st' := [.inr (.inr r9)]) rfl ?_
        refine q_ifnull (tbm tkX5_close (i := 24) rfl) ?_ ?_
        · refine q_le (L' := [none, none, none, none, none]) (lvLe_n (lvLe_n (lvLe_n (lvLe_n (lvLe_n lvLe_0))))) ?_
          exact sX5_close_69 X h8
        · refine q_run tkX5_close 25 1 (pc' := 50) (L' := [some (.inr (.inr a0)), some (.inl a1), some (.inl a2), some (.inr (.inr r3)), some (.inr (.inr r9))]) (st' := [.inr (.inr a0)]) rfl ?_
          refine q_rdR RX5 TX5 5 (tbm tkX5_close (i := 26) rfl) rfl (Nat.le_of_ble_eq_true rfl) wd_248 (fun r10 => ?_)
          refine q_rdI RX4 TX4 13 (tbm tkX5_close (i := 27) rfl) rfl (Nat.le_of_ble_eq_true rfl) wd_132 (fun x11 => ?_)
          refine q_run tkX5_close 28 1 (pc' := 57) (L' := [some (.inr (.inr a0)), some (.inl a1), some (.inl a2), some (.inr (.inr r3)), some (.inr (.inr r9))]) (st' := [.inr (.inr a0), .inl x11]) rfl ?_
          refine q_rdR RX5 TX5 5 (tbm tkX5_close (i := 29) rfl) rfl (Nat.le_of_ble_eq_true rfl) wd_248 (fun r12 => ?_)
          refine q_rdI RX4 TX4 13 (tbm tkX5_close (i := 30) rfl) rfl (Nat.le_of_ble_eq_true rfl) wd_134 (fun x13 => ?_)
          refine q_run tkX5_close 31 2 (pc' := 66) (L' := [some (.inr (.inr a0)), some (.inl a1), some (.inl a2), some (.inr (.inr r3)), some (.inr (.inr r9))]) (st' := [.inl (10 : Int32), .inl (x11 - x13)]) rfl ?_
          refine q_icmp_lt (tbm tkX5_close (i := 33) rfl) ?_ ?_
          · refine q_run tkX5_close 36 1 (pc' := 73) (L' := [some (.inr (.inr a0)), some (.inl a1), some (.inl a2), some (.inr (.inr r3)), some (.inr (.inr r9))]) (st' := [.inr (.inr a0)]) rfl ?_
            refine q_rdR RX5 TX5 5 (tbm tkX5_close (i := 37) rfl) rfl (Nat.le_of_ble_eq_true rfl) wd_249 (fun r14 => ?_)
            refine q_run tkX5_close 38 1 (pc' := 77) (L' := [some (.inr (.inr a0)), some (.inl a1), some (.inl a2), some (.inr (.inr r3)), some (.inr (.inr r9))]) (st' := [.inr (.inr a0), .inr (.inr r14)]) rfl ?_
            refine q_rdR RX5 TX5 5 (tbm tkX5_close (i := 39) rfl) rfl (Nat.le_of_ble_eq_true rfl) wd_248 (fun r15 => ?_)
            refine q_cv (r := r14) (ci := 2) (n := 1) (as := [.inr (.inr r15)]) (st := []) TX0 2 (soX0_remember X h8 r14 r15) (tbm tkX5_close (i := 40) rfl) rfl rfl ceX0_remember wd_508 wd_509 wd_507 rfl (Nat.le_of_ble_eq_true rfl) (kV_gd (fun h16 => ?_))
            refine q_run tkX5_close 41 3 (pc' := 86) (L' := [some (.inr (.inr a0)), some (.inl a1), some (.inl a2), some (.inr (.inr r3)), some (.inr (.inr r9))]) (st' := [.inl (-1 : Int32), .inr (.inr r3), .inr (.inr a0)]) rfl ?_
            refine q_cv (r := a0) (ci := 7) (n := 2) (as := [.inr (.inr r3), .inl (-1 : Int32)]) (st := []) TX5 5 (soX5_layLines X h16 a0 r3 (-1 : Int32)) (tbm tkX5_close (i := 44) rfl) rfl rfl ceX5_layLines wd_366 wd_0 wd_364 rfl (Nat.le_of_ble_eq_true rfl) (kI_gd (fun h17 x18 => ?_))
            refine q_run tkX5_close 45 2 (pc' := 91) (L' := [some (.inr (.inr a0)), some (.inl a1), some (.inl a2), some (.inr (.inr r3)), some (.inr (.inr r9))]) (st' := [.inr (.inr a0)]) rfl ?_
            refine q_rdR RX5 TX5 5 (tbm tkX5_close (i := 47) rfl) rfl (Nat.le_of_ble_eq_true rfl) wd_248 (fun r19 => ?_)
            refine q_run tkX5_close 48 1 (pc' := 95) (L' := [some (.inr (.inr a0)), some (.inl a1), some (.inl a2), some (.inr (.inr r3)), some (.inr (.inr r9))]) (st' := [.inr (.inr r19), .inr (.inr r19)]) rfl ?_
            refine q_rdI RX4 TX4 13 (tbm tkX5_close (i := 49) rfl) rfl (Nat.le_of_ble_eq_true rfl) wd_132 (fun x20 => ?_)
            refine q_run tkX5_close 50 2 (pc' := 100) (L' := [some (.inr (.inr a0)), some (.inl a1), some (.inl a2), some (.inr (.inr r3)), some (.inr (.inr r9))]) (st' := [.inl (x20 + (1 : Int32)), .inr (.inr r19)]) rfl ?_
            refine q_wr RX4 TX4 13 (tbm tkX5_close (i := 52) rfl) rfl (Nat.le_of_ble_eq_true rfl) (Or.inl rfl) wd_132 (fun h21 => ?_)
            refine q_run tkX5_close 53 2 (pc' := 106) (L' := [some (.inr (.inr a0)), some (.inl a1), some (.inl a2), some (.inr (.inr r3)), some (.inr (.inr r9))]) (st' := [.inr (.inr r3), .inr (.inr r9)]) rfl ?_
            refine q_cv (r := r9) (ci := 4) (n := 1) (as := [.inr (.inr r3)]) (st := []) TX2 14 (soX2_copyFrom X h21 r9 r3) (tbm tkX5_close (i := 55) rfl) rfl rfl ceX2_copyFrom wd_345 wd_346 wd_515 rfl (Nat.le_of_ble_eq_true rfl) (kV_gd (fun h22 => ?_))
            refine q_run tkX5_close 56 2 (pc' := 112) (L' := [some (.inr (.inr a0)), some (.inl a1), some (.inl a2), some (.inr (.inr r3)), some (.inr (.inr r9))]) (st' := [.inr (.inr a0), .inr (.inr r9)]) rfl ?_
            refine q_rdR RX5 TX5 5 (tbm tkX5_close (i := 58) rfl) rfl (Nat.le_of_ble_eq_true rfl) wd_248 (fun r23 => ?_)
            refine q_rdI RX4 TX4 13 (tbm tkX5_close (i := 59) rfl) rfl (Nat.le_of_ble_eq_true rfl) wd_132 (fun x24 => ?_)
            refine q_run tkX5_close 60 3 (pc' := 121) (L' := [some (.inr (.inr a0)), some (.inl a1), some (.inl a2), some (.inr (.inr r3)), some (.inr (.inr r9))]) (st' := [.inr (.inr a0), .inl a2, .inl a1, .inl x24, .inr (.inr r9)]) rfl ?_
            refine q_rdR RX5 TX5 5 (tbm tkX5_close (i := 63) rfl) rfl (Nat.le_of_ble_eq_true rfl) wd_252 (fun r25 => ?_)
            refine q_rdI RX3 TX3 6 (tbm tkX5_close (i := 64) rfl) rfl (Nat.le_of_ble_eq_true rfl) wd_226 (fun x26 => ?_)
            refine q_run tkX5_close 65 1 (pc' := 128) (L' := [some (.inr (.inr a0)), some (.inl a1), some (.inl a2), some (.inr (.inr r3)), some (.inr (.inr r9))]) (st' := [.inr (.inr a0), .inl x26, .inl a2, .inl a1, .inl x24, .inr (.inr r9)]) rfl ?_
            refine q_rdR RX5 TX5 5 (tbm tkX5_close (i := 66) rfl) rfl (Nat.le_of_ble_eq_true rfl) wd_252 (fun r27 => ?_)
            refine q_rdI RX3 TX3 6 (tbm tkX5_close (i := 67) rfl) rfl (Nat.le_of_ble_eq_true rfl) wd_228 (fun x28 => ?_)
            refine q_cv (r := r9) (ci := 4) (n := 5) (as := [.inl x24, .inl a1, .inl a2, .inl x26, .inl x28]) (st := []) TX2 14 (soX2_closeAs X h22 r9 x24 a1 a2 x26 x28) (tbm tkX5_close (i := 68) rfl) rfl rfl ceX2_closeAs wd_517 wd_518 wd_516 rfl (Nat.le_of_ble_eq_true rfl) (kV_gd (fun h29 => ?_))
            refine q_run tkX5_close 69 1 (pc' := 138) (L' := [some (.inr (.inr a0)), some (.inl a1), some (.inl a2), some (.inr (.inr r3)), some (.inr (.inr r9))]) (st' := [.inr (.inr r3)]) rfl ?_
            refine q_cv (r := r3) (ci := 4) (n := 0) (as := []) (st := []) TX2 14 (soX2_clear X h29 r3) (tbm tkX5_close (i := 70) rfl) rfl rfl ceX2_clear wd_521 wd_522 wd_520 rfl (Nat.le_of_ble_eq_true rfl) (kV_gd (fun h30 => ?_))
            refine q_run tkX5_close 71 1 (pc' := 142) (L' := [some (.inr (.inr a0)), some (.inl a1), some (.inl a2), some (.inr (.inr r3)), some (.inr (.inr r9))]) (st' := [.inr (.inr a0)]) rfl ?_
            refine q_rdR RX5 TX5 5 (tbm tkX5_close (i := 72) rfl) rfl (Nat.le_of_ble_eq_true rfl) wd_248 (fun r31 => ?_)
            refine q_rdI RX4 TX4 13 (tbm tkX5_close (i := 73) rfl) rfl (Nat.le_of_ble_eq_true rfl) wd_132 (fun x32 => ?_)
            exact q_iret (tbm tkX5_close (i := 74) rfl) rfl
          · refine q_le (L' := [none, none, none, none, none]) (lvLe_n (lvLe_n (lvLe_n (lvLe_n (lvLe_n lvLe_0))))) ?_
            exact sX5_close_69 X h8
theorem ceX5_close : Ce mX5_close 2 := ⟨wd_18, wd_499, by decide +kernel, by decide +kernel, by decide +kernel⟩
/-- ReceiptRolls.strike -/
abbrev mX5_strike : MI := (yX5_strike, cX5_strike, 5, some .int, 4)
def tbX5_strike : List TE := [(0, .aload_n 0, 1, 0, 0), (1, .getfield 10, 3, 0, 0), (4, .iload_n 1, 1, 0, 0), (5, .invokevirtual 56, 3, 0, 0), (8, .astore_n 3, 1, 0, 0), (9, .aload_n 3, 1, 0, 0), (10, .ifnonnull 7, 3, 0, 17), (13, .aconst_null, 1, 0, 0), (14, .goto 8, 3, 0, 22), (17, .aload_n 3, 1, 0, 0), (18, .iload_n 2, 1, 0, 0), (19, .invokevirtual 90, 3, 0, 0), (22, .astore 4, 2, 0, 0), (24, .aload_n 3, 1, 0, 0), (25, .ifnull 8, 3, 0, 33), (28, .aload 4, 2, 0, 0), (30, .ifnonnull 5, 3, 0, 35), (33, .iconst (-1), 1, -1, 0), (34, .ireturn, 1, 0, 0), (35, .aload_n 3, 1, 0, 0), (36, .iload_n 2, 1, 0, 0), (37, .invokevirtual 94, 3, 0, 0), (40, .ifCond .eq 6, 3, 0, 46), (43, .bipush (-5), 2, -5, 0), (45, .ireturn, 1, 0, 0), (46, .aload_n 0, 1, 0, 0), (47, .getfield 19, 3, 0, 0), (50, .aload_n 0, 1, 0, 0), (51, .getfield 10, 3, 0, 0), (54, .invokevirtual 48, 3, 0, 0), (57, .aload_n 3, 1, 0, 0), (58, .iload_n 2, 1, 0, 0), (59, .invokevirtual 98, 3, 0, 0), (62, .aload_n 0, 1, 0, 0), (63, .getfield 10, 3, 0, 0), (66, .dup, 1, 0, 0), (67, .getfield 101, 3, 0, 0), (70, .iconst 1, 1, 1, 0), (71, .iadd, 1, 0, 0), (72, .putfield 101, 3, 0, 0), (75, .aload 4, 2, 0, 0), (77, .invokevirtual 104, 3, 0, 0), (80, .ireturn, 1, 0, 0)]
theorem tkX5_strike : ∀ x ∈ tbX5_strike, tbB cX5_strike x = true := tb_all (by decide +kernel)
def fX5_strike_33 (c : Nat → Option Nat) (h : Hp) : Rs := some (h, some (.inl (-1 : Int32)))
set_option maxHeartbeats 4000000 in
set_option maxRecDepth 100000 in
theorem sX5_strike_33 (X : Cx) {h0 : Hp} (h : Hp) : Gd X mX5_strike h0 (fX5_strike_33 X.2.2.2 h) h 33 [none, none, none, none, none] [] := by
  unfold fX5_strike_33
  refine q_run tkX5_strike 17 1 (pc' := 34) (L' := [none, none, none, none, none]) (st' := [.inl (-1 : Int32)]) rfl ?_
  exact q_iret (tbm tkX5_strike (i := 18) rfl) rfl
def fX5_strike_22 (c : Nat → Option Nat) (h : Hp) (l0 : Option Nat) (l2 : Int32) (l3 : Option Nat) (s0 : Option Nat) : Rs := ifN l3 (fX5_strike_33 c h) (ifN s0 (fX5_strike_33 c h) (ck h l3 4 (cc (fX2_isStruck c h l3 l2) (kI fun h1 x2 => if x2 = 0 then (rdR h1 l0 7 1 (fun r3 => rdR h1 l0 7 0 (fun r4 => ck h1 r3 2 (cc (fX0_remember c h1 r3 r4) (kV fun h5 => ck h5 l3 4 (cc (fX2_strikeItem c h5 l3 l2) (kV fun h6 => rdR h6 l0 7 0 (fun r7 => rdI h6 r7 6 8 (fun x8 => wr h6 r7 6 8 (.inl (x8 + (1 : Int32))) (fun h9 => ck h9 s0 3 (cc (fX1_sum c h9 s0) (kI fun h10 x11 => some (h10, some (.inl x11)))))))))))))) else (some (h1, some (.inl (-5 : Int32))))))))
set_option maxHeartbeats 4000000 in
set_option maxRecDepth 100000 in
theorem sX5_strike_22 (X : Cx) {h0 : Hp} (h : Hp) (l0 : Option Nat) (l2 : Int32) (l3 : Option Nat) (s0 : Option Nat) : Gd X mX5_strike h0 (fX5_strike_22 X.2.2.2 h l0 l2 l3 s0) h 22 [some (.inr (.inr l0)), none, some (.inl l2), some (.inr (.inr l3)), none] [.inr (.inr s0)] := by
  unfold fX5_strike_22
  refine q_run tkX5_strike 12 2 (pc' := 25) (L' := [some (.inr (.inr l0)), none, some (.inl l2), some (.inr (.inr l3)), some (.inr (.inr s0))]) (st' := [.inr (.inr l3)]) rfl ?_
  refine q_ifnull (tbm tkX5_strike (i := 14) rfl) ?_ ?_
  · refine q_le (L' := [none, none, none, none, none]) (lvLe_n (lvLe_n (lvLe_n (lvLe_n (lvLe_n lvLe_0))))) ?_
    exact sX5_strike_33 X h
  · refine q_run tkX5_strike 15 1 (pc' := 30) (L' := [some (.inr (.inr l0)), none, some (.inl l2), some (.inr (.inr l3)), some (.inr (.inr s0))]) (st' := [.inr (.inr s0)]) rfl ?_
    refine q_ifnonnull (tbm tkX5_strike (i := 16) rfl) ?_ ?_
    · refine q_le (L' := [none, none, none, none, none]) (lvLe_n (lvLe_n (lvLe_n (lvLe_n (lvLe_n lvLe_0))))) ?_
      exact sX5_strike_33 X h
    · refine q_run tkX5_strike 19 2 (pc' := 37) (L' := [some (.inr (.inr l0)), none, some (.inl l2), some (.inr (.inr l3)), some (.inr (.inr s0))]) (st' := [.inl l2, .inr (.inr l3)]) rfl ?_
      refine q_cv (r := l3) (ci := 4) (n := 1) (as := [.inl l2]) (st := []) TX2 14 (soX2_isStruck X h l3 l2) (tbm tkX5_strike (i := 21) rfl) rfl rfl ceX2_isStruck wd_478 wd_479 wd_529 rfl (Nat.le_of_ble_eq_true rfl) (kI_gd (fun h1 x2 => ?_))
      refine q_if_eq (tbm tkX5_strike (i := 22) rfl) ?_ ?_
      · refine q_run tkX5_strike 25 1 (pc' := 47) (L' := [some (.inr (.inr l0)), none, some (.inl l2), some (.inr (.inr l3)), some (.inr (.inr s0))]) (st' := [.inr (.inr l0)]) rfl ?_
        refine q_rdR RX5 TX5 5 (tbm tkX5_strike (i := 26) rfl) rfl (Nat.le_of_ble_eq_true rfl) wd_249 (fun r3 => ?_)
        refine q_run tkX5_strike 27 1 (pc' := 51) (L' := [some (.inr (.inr l0)), none, some (.inl l2), some (.inr (.inr l3)), some (.inr (.inr s0))]) (st' := [.inr (.inr l0), .inr (.inr r3)]) rfl ?_
        refine q_rdR RX5 TX5 5 (tbm tkX5_strike (i := 28) rfl) rfl (Nat.le_of_ble_eq_true rfl) wd_248 (fun r4 => ?_)
        refine q_cv (r := r3) (ci := 2) (n := 1) (as := [.inr (.inr r4)]) (st := []) TX0 2 (soX0_remember X h1 r3 r4) (tbm tkX5_strike (i := 29) rfl) rfl rfl ceX0_remember wd_508 wd_509 wd_507 rfl (Nat.le_of_ble_eq_true rfl) (kV_gd (fun h5 => ?_))
        refine q_run tkX5_strike 30 2 (pc' := 59) (L' := [some (.inr (.inr l0)), none, some (.inl l2), some (.inr (.inr l3)), some (.inr (.inr s0))]) (st' := [.inl l2, .inr (.inr l3)]) rfl ?_
        refine q_cv (r := l3) (ci := 4) (n := 1) (as := [.inl l2]) (st := []) TX2 14 (soX2_strikeItem X h5 l3 l2) (tbm tkX5_strike (i := 32) rfl) rfl rfl ceX2_strikeItem wd_531 wd_532 wd_530 rfl (Nat.le_of_ble_eq_true rfl) (kV_gd (fun h6 => ?_))
        refine q_run tkX5_strike 33 1 (pc' := 63) (L' := [some (.inr (.inr l0)), none, some (.inl l2), some (.inr (.inr l3)), some (.inr (.inr s0))]) (st' := [.inr (.inr l0)]) rfl ?_
        refine q_rdR RX5 TX5 5 (tbm tkX5_strike (i := 34) rfl) rfl (Nat.le_of_ble_eq_true rfl) wd_248 (fun r7 => ?_)
        refine q_run tkX5_strike 35 1 (pc' := 67) (L' := [some (.inr (.inr l0)), none, some (.inl l2), some (.inr (.inr l3)), some (.inr (.inr s0))]) (st' := [.inr (.inr r7), .inr (.inr r7)]) rfl ?_
        refine q_rdI RX4 TX4 13 (tbm tkX5_strike (i := 36) rfl) rfl (Nat.le_of_ble_eq_true rfl) wd_136 (fun x8 => ?_)
        refine q_run tkX5_strike 37 2 (pc' := 72) (L' := [some (.inr (.inr l0)), none, some (.inl l2), some (.inr (.inr l3)), some (.inr (.inr s0))]) (st' := [.inl (x8 + (1 : Int32)), .inr (.inr r7)]) rfl ?_
        refine q_wr RX4 TX4 13 (tbm tkX5_strike (i := 39) rfl) rfl (Nat.le_of_ble_eq_true rfl) (Or.inl rfl) wd_136 (fun h9 => ?_)
        refine q_run tkX5_strike 40 1 (pc' := 77) (L' := [some (.inr (.inr l0)), none, some (.inl l2), some (.inr (.inr l3)), some (.inr (.inr s0))]) (st' := [.inr (.inr s0)]) rfl ?_
        refine q_cv (r := s0) (ci := 3) (n := 0) (as := []) (st := []) TX1 4 (soX1_sum X h9 s0) (tbm tkX5_strike (i := 41) rfl) rfl rfl ceX1_sum wd_303 wd_304 wd_538 rfl (Nat.le_of_ble_eq_true rfl) (kI_gd (fun h10 x11 => ?_))
        exact q_iret (tbm tkX5_strike (i := 42) rfl) rfl
      · refine q_run tkX5_strike 23 1 (pc' := 45) (L' := [some (.inr (.inr l0)), none, some (.inl l2), some (.inr (.inr l3)), some (.inr (.inr s0))]) (st' := [.inl (-5 : Int32)]) rfl ?_
        exact q_iret (tbm tkX5_strike (i := 24) rfl) rfl
def fX5_strike (c : Nat → Option Nat) (h : Hp) (a0 : Option Nat) (a1 : Int32) (a2 : Int32) : Rs := rdR h a0 7 0 (fun r12 => ck h r12 6 (cc (fX4_openAt c h r12 a1) (kR fun h13 r14 => ifN r14 (fX5_strike_22 c h13 a0 a2 r14 none) (ck h13 r14 4 (cc (fX2_itemAt c h13 r14 a2) (kR fun h15 r16 => fX5_strike_22 c h15 a0 a2 r14 r16))))))
set_option maxHeartbeats 4000000 in
set_option maxRecDepth 100000 in
theorem soX5_strike (X : Cx) (h : Hp) (a0 : Option Nat) (a1 : Int32) (a2 : Int32) : SO X mX5_strike [.inr (.inr a0), .inl a1, .inl a2] h (fX5_strike X.2.2.2 h a0 a1 a2) := by
  refine so_of (by decide +kernel) (Nat.le_of_ble_eq_true rfl) ?_
  show Gd X mX5_strike h (fX5_strike X.2.2.2 h a0 a1 a2) h 0 [some (.inr (.inr a0)), some (.inl a1), some (.inl a2), none, none] []
  unfold fX5_strike
  refine q_run tkX5_strike 0 1 (pc' := 1) (L' := [some (.inr (.inr a0)), some (.inl a1), some (.inl a2), none, none]) (st' := [.inr (.inr a0)]) rfl ?_
  refine q_rdR RX5 TX5 5 (tbm tkX5_strike (i := 1) rfl) rfl (Nat.le_of_ble_eq_true rfl) wd_248 (fun r12 => ?_)
  refine q_run tkX5_strike 2 1 (pc' := 5) (L' := [some (.inr (.inr a0)), some (.inl a1), some (.inl a2), none, none]) (st' := [.inl a1, .inr (.inr r12)]) rfl ?_
  refine q_cv (r := r12) (ci := 6) (n := 1) (as := [.inl a1]) (st := []) TX4 13 (soX4_openAt X h r12 a1) (tbm tkX5_strike (i := 3) rfl) rfl rfl ceX4_openAt wd_361 wd_362 wd_360 rfl (Nat.le_of_ble_eq_true rfl) (kR_gd (fun h13 r14 => ?_))
  refine q_run tkX5_strike 4 2 (pc' := 10) (L' := [some (.inr (.inr a0)), some (.inl a1), some (.inl a2), some (.inr (.inr r14)), none]) (st' := [.inr (.inr r14)]) rfl ?_
  refine q_ifnonnull (tbm tkX5_strike (i := 6) rfl) ?_ ?_
  · refine q_run tkX5_strike 7 2 (pc' := 22) (L' := [some (.inr (.inr a0)), some (.inl a1), some (.inl a2), some (.inr (.inr r14)), none]) (st' := [.inr (.inr none)]) rfl ?_
    refine q_le (L' := [some (.inr (.inr a0)), none, some (.inl a2), some (.inr (.inr r14)), none]) (lvLe_s (lvLe_n (lvLe_s (lvLe_s (lvLe_n lvLe_0))))) ?_
    exact sX5_strike_22 X h13 a0 a2 r14 none
  · refine q_run tkX5_strike 9 2 (pc' := 19) (L' := [some (.inr (.inr a0)), some (.inl a1), some (.inl a2), some (.inr (.inr r14)), none]) (st' := [.inl a2, .inr (.inr r14)]) rfl ?_
    refine q_cv (r := r14) (ci := 4) (n := 1) (as := [.inl a2]) (st := []) TX2 14 (soX2_itemAt X h13 r14 a2) (tbm tkX5_strike (i := 11) rfl) rfl rfl ceX2_itemAt wd_299 wd_300 wd_528 rfl (Nat.le_of_ble_eq_true rfl) (kR_gd (fun h15 r16 => ?_))
    refine q_le (L' := [some (.inr (.inr a0)), none, some (.inl a2), some (.inr (.inr r14)), none]) (lvLe_s (lvLe_n (lvLe_s (lvLe_s (lvLe_n lvLe_0))))) ?_
    exact sX5_strike_22 X h15 a0 a2 r14 r16
theorem ceX5_strike : Ce mX5_strike 2 := ⟨wd_18, wd_527, by decide +kernel, by decide +kernel, by decide +kernel⟩
/-- ReceiptRolls.set -/
abbrev mX5_set : MI := (yX5_set, cX5_set, 3, some .int, 4)
def tbX5_set : List TE := [(0, .iload_n 1, 1, 0, 0), (1, .ifCond .lt 19, 3, 0, 20), (4, .iload_n 1, 1, 0, 0), (5, .getstatic 41, 3, 0, 0), (8, .arraylength, 1, 0, 0), (9, .if_icmp .ge 11, 3, 0, 20), (12, .iload_n 1, 1, 0, 0), (13, .getstatic 45, 3, 0, 0), (16, .arraylength, 1, 0, 0), (17, .if_icmp .lt 6, 3, 0, 23), (20, .bipush (-2), 2, -2, 0), (22, .ireturn, 1, 0, 0), (23, .iload_n 2, 1, 0, 0), (24, .getstatic 41, 3, 0, 0), (27, .iload_n 1, 1, 0, 0), (28, .iaload, 1, 0, 0), (29, .if_icmp .lt 12, 3, 0, 41), (32, .iload_n 2, 1, 0, 0), (33, .getstatic 45, 3, 0, 0), (36, .iload_n 1, 1, 0, 0), (37, .iaload, 1, 0, 0), (38, .if_icmp .le 6, 3, 0, 44), (41, .bipush (-2), 2, -2, 0), (43, .ireturn, 1, 0, 0), (44, .aload_n 0, 1, 0, 0), (45, .getfield 19, 3, 0, 0), (48, .aload_n 0, 1, 0, 0), (49, .getfield 10, 3, 0, 0), (52, .invokevirtual 48, 3, 0, 0), (55, .aload_n 0, 1, 0, 0), (56, .getfield 10, 3, 0, 0), (59, .iload_n 1, 1, 0, 0), (60, .iload_n 2, 1, 0, 0), (61, .invokevirtual 52, 3, 0, 0), (64, .ireturn, 1, 0, 0)]
theorem tkX5_set : ∀ x ∈ tbX5_set, tbB cX5_set x = true := tb_all (by decide +kernel)
def fX5_set_41 (c : Nat → Option Nat) (h : Hp) : Rs := some (h, some (.inl (-2 : Int32)))
set_option maxHeartbeats 4000000 in
set_option maxRecDepth 100000 in
theorem sX5_set_41 (X : Cx) {h0 : Hp} (h : Hp) : Gd X mX5_set h0 (fX5_set_41 X.2.2.2 h) h 41 [none, none, none] [] := by
  unfold fX5_set_41
  refine q_run tkX5_set 22 1 (pc' := 43) (L' := [none, none, none]) (st' := [.inl (-2 : Int32)]) rfl ?_
  exact q_iret (tbm tkX5_set (i := 23) rfl) rfl
def fX5_set_20 (c : Nat → Option Nat) (h : Hp) : Rs := some (h, some (.inl (-2 : Int32)))
set_option maxHeartbeats 4000000 in
set_option maxRecDepth 100000 in
theorem sX5_set_20 (X : Cx) {h0 : Hp} (h : Hp) : Gd X mX5_set h0 (fX5_set_20 X.2.2.2 h) h 20 [none, none, none] [] := by
  unfold fX5_set_20
  refine q_run tkX5_set 10 1 (pc' := 22) (L' := [none, none, none]) (st' := [.inl (-2 : Int32)]) rfl ?_
  exact q_iret (tbm tkX5_set (i := 11) rfl) rfl
def fX5_set (c : Nat → Option Nat) (h : Hp) (a0 : Option Nat) (a1 : Int32) (a2 : Int32) : Rs := if a1 < 0 then (fX5_set_20 c h) else (lenA h (c 0) (fun x1 => if a1 < x1 then (lenA h (c 1) (fun x2 => if a1 < x2 then (aldI h (c 0) [0, 10] a1 (fun x3 => if a2 < x3 then (fX5_set_41 c h) else (aldI h (c 1) [0, 10] a1 (fun x4 => if x4 < a2 then (fX5_set_41 c h) else (rdR h a0 7 1 (fun r5 => rdR h a0 7 0 (fun r6 => ck h r5 2 (cc (fX0_remember c h r5 r6) (kV fun h7 => rdR h7 a0 7 0 (fun r8 => ck h7 r8 6 (cc (fX4_changeSetting c h7 r8 a1 a2) (kI fun h9 x10 => some (h9, some (.inl x10)))))))))))))) else (fX5_set_20 c h))) else (fX5_set_20 c h)))
set_option maxHeartbeats 4000000 in
set_option maxRecDepth 100000 in
theorem soX5_set (X : Cx) (h : Hp) (a0 : Option Nat) (a1 : Int32) (a2 : Int32) : SO X mX5_set [.inr (.inr a0), .inl a1, .inl a2] h (fX5_set X.2.2.2 h a0 a1 a2) := by
  refine so_of (by decide +kernel) (Nat.le_of_ble_eq_true rfl) ?_
  show Gd X mX5_set h (fX5_set X.2.2.2 h a0 a1 a2) h 0 [some (.inr (.inr a0)), some (.inl a1), some (.inl a2)] []
  unfold fX5_set
  refine q_run tkX5_set 0 1 (pc' := 1) (L' := [some (.inr (.inr a0)), some (.inl a1), some (.inl a2)]) (st' := [.inl a1]) rfl ?_
  refine q_if_lt (tbm tkX5_set (i := 1) rfl) ?_ ?_
  · refine q_le (L' := [none, none, none]) (lvLe_n (lvLe_n (lvLe_n lvLe_0))) ?_
    exact sX5_set_20 X h
  · refine q_run tkX5_set 2 1 (pc' := 5) (L' := [some (.inr (.inr a0)), some (.inl a1), some (.inl a2)]) (st' := [.inl a1]) rfl ?_
    refine q_gs (w := .inr (.inr (X.2.2.2 0))) (tbm tkX5_set (i := 3) rfl) e_z0 wd_543 ?_
    refine q_alen (tbm tkX5_set (i := 4) rfl) (fun x1 => ?_)
    refine q_icmp_ge (tbm tkX5_set (i := 5) rfl) ?_ ?_
    · refine q_run tkX5_set 6 1 (pc' := 13) (L' := [some (.inr (.inr a0)), some (.inl a1), some (.inl a2)]) (st' := [.inl a1]) rfl ?_
      refine q_gs (w := .inr (.inr (X.2.2.2 1))) (tbm tkX5_set (i := 7) rfl) e_z1 wd_545 ?_
      refine q_alen (tbm tkX5_set (i := 8) rfl) (fun x2 => ?_)
      refine q_icmp_lt (tbm tkX5_set (i := 9) rfl) ?_ ?_
      · refine q_run tkX5_set 12 1 (pc' := 24) (L' := [some (.inr (.inr a0)), some (.inl a1), some (.inl a2)]) (st' := [.inl a2]) rfl ?_
        refine q_gs (w := .inr (.inr (X.2.2.2 0))) (tbm tkX5_set (i := 13) rfl) e_z0 wd_543 ?_
        refine q_run tkX5_set 14 1 (pc' := 28) (L' := [some (.inr (.inr a0)), some (.inl a1), some (.inl a2)]) (st' := [.inl a1, .inr (.inr (X.2.2.2 0)), .inl a2]) rfl ?_
        refine q_iaload (tbm tkX5_set (i := 15) rfl) (fun x3 => ?_)
        refine q_icmp_lt (tbm tkX5_set (i := 16) rfl) ?_ ?_
        · refine q_le (L' := [none, none, none]) (lvLe_n (lvLe_n (lvLe_n lvLe_0))) ?_
          exact sX5_set_41 X h
        · refine q_run tkX5_set 17 1 (pc' := 33) (L' := [some (.inr (.inr a0)), some (.inl a1), some (.inl a2)]) (st' := [.inl a2]) rfl ?_
          refine q_gs (w := .inr (.inr (X.2.2.2 1))) (tbm tkX5_set (i := 18) rfl) e_z1 wd_545 ?_
          refine q_run tkX5_set 19 1 (pc' := 37) (L' := [some (.inr (.inr a0)), some (.inl a1), some (.inl a2)]) (st' := [.inl a1, .inr (.inr (X.2.2.2 1)), .inl a2]) rfl ?_
          refine q_iaload (tbm tkX5_set (i := 20) rfl) (fun x4 => ?_)
          refine q_icmp_le (tbm tkX5_set (i := 21) rfl) ?_ ?_
          · refine q_le (L' := [none, none, none]) (lvLe_n (lvLe_n (lvLe_n lvLe_0))) ?_
            exact sX5_set_41 X h
          · refine q_run tkX5_set 24 1 (pc' := 45) (L' := [some (.inr (.inr a0)), some (.inl a1), some (.inl a2)]) (st' := [.inr (.inr a0)]) rfl ?_
            refine q_rdR RX5 TX5 5 (tbm tkX5_set (i := 25) rfl) rfl (Nat.le_of_ble_eq_true rfl) wd_249 (fun r5 => ?_)
            refine q_run tkX5_set 26 1 (pc' := 49) (L' := [some (.inr (.inr a0)), some (.inl a1), some (.inl a2)]) (st' := [.inr (.inr a0), .inr (.inr r5)]) rfl ?_
            refine q_rdR RX5 TX5 5 (tbm tkX5_set (i := 27) rfl) rfl (Nat.le_of_ble_eq_true rfl) wd_248 (fun r6 => ?_)
            refine q_cv (r := r5) (ci := 2) (n := 1) (as := [.inr (.inr r6)]) (st := []) TX0 2 (soX0_remember X h r5 r6) (tbm tkX5_set (i := 28) rfl) rfl rfl ceX0_remember wd_508 wd_509 wd_507 rfl (Nat.le_of_ble_eq_true rfl) (kV_gd (fun h7 => ?_))
            refine q_run tkX5_set 29 1 (pc' := 56) (L' := [some (.inr (.inr a0)), some (.inl a1), some (.inl a2)]) (st' := [.inr (.inr a0)]) rfl ?_
            refine q_rdR RX5 TX5 5 (tbm tkX5_set (i := 30) rfl) rfl (Nat.le_of_ble_eq_true rfl) wd_248 (fun r8 => ?_)
            refine q_run tkX5_set 31 2 (pc' := 61) (L' := [some (.inr (.inr a0)), some (.inl a1), some (.inl a2)]) (st' := [.inl a2, .inl a1, .inr (.inr r8)]) rfl ?_
            refine q_cv (r := r8) (ci := 6) (n := 2) (as := [.inl a1, .inl a2]) (st := []) TX4 13 (soX4_changeSetting X h7 r8 a1 a2) (tbm tkX5_set (i := 33) rfl) rfl rfl ceX4_changeSetting wd_548 wd_549 wd_547 rfl (Nat.le_of_ble_eq_true rfl) (kI_gd (fun h9 x10 => ?_))
            exact q_iret (tbm tkX5_set (i := 34) rfl) rfl
      · refine q_le (L' := [none, none, none]) (lvLe_n (lvLe_n (lvLe_n lvLe_0))) ?_
        exact sX5_set_20 X h
    · refine q_le (L' := [none, none, none]) (lvLe_n (lvLe_n (lvLe_n lvLe_0))) ?_
      exact sX5_set_20 X h
theorem ceX5_set : Ce mX5_set 2 := ⟨wd_18, wd_542, by decide +kernel, by decide +kernel, by decide +kernel⟩
/-- ReceiptRolls.newRoll -/
abbrev mX5_newRoll : MI := (yX5_newRoll, cX5_newRoll, 2, some .int, 4)
def tbX5_newRoll : List TE := [(0, .aload_n 0, 1, 0, 0), (1, .getfield 19, 3, 0, 0), (4, .aload_n 0, 1, 0, 0), (5, .getfield 10, 3, 0, 0), (8, .invokevirtual 48, 3, 0, 0), (11, .aload_n 0, 1, 0, 0), (12, .getfield 10, 3, 0, 0), (15, .getfield 150, 3, 0, 0), (18, .istore_n 1, 1, 0, 0), (19, .aload_n 0, 1, 0, 0), (20, .getfield 10, 3, 0, 0), (23, .dup, 1, 0, 0), (24, .getfield 153, 3, 0, 0), (27, .iload_n 1, 1, 0, 0), (28, .iadd, 1, 0, 0), (29, .putfield 153, 3, 0, 0), (32, .aload_n 0, 1, 0, 0), (33, .getfield 10, 3, 0, 0), (36, .aload_n 0, 1, 0, 0), (37, .getfield 10, 3, 0, 0), (40, .iconst 1, 1, 1, 0), (41, .invokevirtual 156, 3, 0, 0), (44, .putfield 150, 3, 0, 0), (47, .aload_n 0, 1, 0, 0), (48, .getfield 10, 3, 0, 0), (51, .dup, 1, 0, 0), (52, .getfield 160, 3, 0, 0), (55, .iconst 1, 1, 1, 0), (56, .iadd, 1, 0, 0), (57, .putfield 160, 3, 0, 0), (60, .iload_n 1, 1, 0, 0), (61, .ireturn, 1, 0, 0)]
theorem tkX5_newRoll : ∀ x ∈ tbX5_newRoll, tbB cX5_newRoll x = true := tb_all (by decide +kernel)
def fX5_newRoll (c : Nat → Option Nat) (h : Hp) (a0 : Option Nat) : Rs := rdR h a0 7 1 (fun r1 => rdR h a0 7 0 (fun r2 => ck h r1 2 (cc (fX0_remember c h r1 r2) (kV fun h3 => rdR h3 a0 7 0 (fun r4 => rdI h3 r4 6 0 (fun x5 => rdR h3 a0 7 0 (fun r6 => rdI h3 r6 6 4 (fun x7 => wr h3 r6 6 4 (.inl (x7 + x5)) (fun h8 => rdR h8 a0 7 0 (fun r9 => rdR h8 a0 7 0 (fun r10 => ck h8 r10 6 (cc (fX4_settingAt c h8 r10 (1 : Int32)) (kI fun h11 x12 => wr h11 r9 6 0 (.inl x12) (fun h13 => rdR h13 a0 7 0 (fun r14 => rdI h13 r14 6 3 (fun x15 => wr h13 r14 6 3 (.inl (x15 + (1 : Int32))) (fun h16 => some (h16, some (.inl x5)))))))))))))))))))
set_option maxHeartbeats 4000000 in
set_option maxRecDepth 100000 in
theorem soX5_newRoll (X : Cx) (h : Hp) (a0 : Option Nat) : SO X mX5_newRoll [.inr (.inr a0)] h (fX5_newRoll X.2.2.2 h a0) := by
  refine so_of (by decide +kernel) (Nat.le_of_ble_eq_true rfl) ?_
  show Gd X mX5_newRoll h (fX5_newRoll X.2.2.2 h a0) h 0 [some (.inr (.inr a0)), none] []
  unfold fX5_newRoll
  refine q_run tkX5_newRoll 0 1 (pc' := 1) (L' := [some (.inr (.inr a0)), none]) (st' := [.inr (.inr a0)]) rfl ?_
  refine q_rdR RX5 TX5 5 (tbm tkX5_newRoll (i := 1) rfl) rfl (Nat.le_of_ble_eq_true rfl) wd_249 (fun r1 => ?_)
  refine q_run tkX5_newRoll 2 1 (pc' := 5) (L' := [some (.inr (.inr a0)), none]) (st' := [.inr (.inr a0), .inr (.inr r1)]) rfl ?_
  refine q_rdR RX5 TX5 5 (tbm tkX5_newRoll (i := 3) rfl) rfl (Nat.le_of_ble_eq_true rfl) wd_248 (fun r2 => ?_)
  refine q_cv (r := r1) (ci := 2) (n := 1) (as := [.inr (.inr r2)]) (st := []) TX0 2 (soX0_remember X h r1 r2) (tbm tkX5_newRoll (i := 4) rfl) rfl rfl ceX0_remember wd_508 wd_509 wd_507 rfl (Nat.le_of_ble_eq_true rfl) (kV_gd (fun h3 => ?_))
  refine q_run tkX5_newRoll 5 1 (pc' := 12) (L' := [some (.inr (.inr a0)), none]) (st' := [.inr (.inr a0)]) rfl ?_
  refine q_rdR RX5 TX5 5 (tbm tkX5_newRoll (i := 6) rfl) rfl (Nat.le_of_ble_eq_true rfl) wd_248 (fun r4 => ?_)
  refine q_rdI RX4 TX4 13 (tbm tkX5_newRoll (i := 7) rfl) rfl (Nat.le_of_ble_eq_true rfl) wd_120 (fun x5 => ?_)
  refine q_run tkX5_newRoll 8 2 (pc' := 20) (L' := [some (.inr (.inr a0)), some (.inl x5)]) (st' := [.inr (.inr a0)]) rfl ?_
  refine q_rdR RX5 TX5 5 (tbm tkX5_newRoll (i := 10) rfl) rfl (Nat.le_of_ble_eq_true rfl) wd_248 (fun r6 => ?_)
  refine q_run tkX5_newRoll 11 1 (pc' := 24) (L' := [some (.inr (.inr a0)), some (.inl x5)]) (st' := [.inr (.inr r6), .inr (.inr r6)]) rfl ?_
  refine q_rdI RX4 TX4 13 (tbm tkX5_newRoll (i := 12) rfl) rfl (Nat.le_of_ble_eq_true rfl) wd_128 (fun x7 => ?_)
  refine q_run tkX5_newRoll 13 2 (pc' := 29) (L' := [some (.inr (.inr a0)), some (.inl x5)]) (st' := [.inl (x7 + x5), .inr (.inr r6)]) rfl ?_
  refine q_wr RX4 TX4 13 (tbm tkX5_newRoll (i := 15) rfl) rfl (Nat.le_of_ble_eq_true rfl) (Or.inl rfl) wd_128 (fun h8 => ?_)
  refine q_run tkX5_newRoll 16 1 (pc' := 33) (L' := [some (.inr (.inr a0)), some (.inl x5)]) (st' := [.inr (.inr a0)]) rfl ?_
  refine q_rdR RX5 TX5 5 (tbm tkX5_newRoll (i := 17) rfl) rfl (Nat.le_of_ble_eq_true rfl) wd_248 (fun r9 => ?_)
  refine q_run tkX5_newRoll 18 1 (pc' := 37) (L' := [some (.inr (.inr a0)), some (.inl x5)]) (st' := [.inr (.inr a0), .inr (.inr r9)]) rfl ?_
  refine q_rdR RX5 TX5 5 (tbm tkX5_newRoll (i := 19) rfl) rfl (Nat.le_of_ble_eq_true rfl) wd_248 (fun r10 => ?_)
  refine q_run tkX5_newRoll 20 1 (pc' := 41) (L' := [some (.inr (.inr a0)), some (.inl x5)]) (st' := [.inl (1 : Int32), .inr (.inr r10), .inr (.inr r9)]) rfl ?_
  refine q_cv (r := r10) (ci := 6) (n := 1) (as := [.inl (1 : Int32)]) (st := [.inr (.inr r9)]) TX4 13 (soX4_settingAt X h8 r10 (1 : Int32)) (tbm tkX5_newRoll (i := 21) rfl) rfl rfl ceX4_settingAt wd_319 wd_320 wd_318 rfl (Nat.le_of_ble_eq_true rfl) (kI_gd (fun h11 x12 => ?_))
  refine q_wr RX4 TX4 13 (tbm tkX5_newRoll (i := 22) rfl) rfl (Nat.le_of_ble_eq_true rfl) (Or.inl rfl) wd_120 (fun h13 => ?_)
  refine q_run tkX5_newRoll 23 1 (pc' := 48) (L' := [some (.inr (.inr a0)), some (.inl x5)]) (st' := [.inr (.inr a0)]) rfl ?_
  refine q_rdR RX5 TX5 5 (tbm tkX5_newRoll (i := 24) rfl) rfl (Nat.le_of_ble_eq_true rfl) wd_248 (fun r14 => ?_)
  refine q_run tkX5_newRoll 25 1 (pc' := 52) (L' := [some (.inr (.inr a0)), some (.inl x5)]) (st' := [.inr (.inr r14), .inr (.inr r14)]) rfl ?_
  refine q_rdI RX4 TX4 13 (tbm tkX5_newRoll (i := 26) rfl) rfl (Nat.le_of_ble_eq_true rfl) wd_126 (fun x15 => ?_)
  refine q_run tkX5_newRoll 27 2 (pc' := 57) (L' := [some (.inr (.inr a0)), some (.inl x5)]) (st' := [.inl (x15 + (1 : Int32)), .inr (.inr r14)]) rfl ?_
  refine q_wr RX4 TX4 13 (tbm tkX5_newRoll (i := 29) rfl) rfl (Nat.le_of_ble_eq_true rfl) (Or.inl rfl) wd_126 (fun h16 => ?_)
  refine q_run tkX5_newRoll 30 1 (pc' := 61) (L' := [some (.inr (.inr a0)), some (.inl x5)]) (st' := [.inl x5]) rfl ?_
  exact q_iret (tbm tkX5_newRoll (i := 31) rfl) rfl
theorem ceX5_newRoll : Ce mX5_newRoll 0 := ⟨wd_18, wd_555, by decide +kernel, by decide +kernel, by decide +kernel⟩
/-- ReceiptRolls.hurry -/
abbrev mX5_hurry : MI := (yX5_hurry, cX5_hurry, 5, some .int, 4)
def tbX5_hurry : List TE := [(0, .aload_n 0, 1, 0, 0), (1, .getfield 10, 3, 0, 0), (4, .iload_n 1, 1, 0, 0), (5, .invokevirtual 141, 3, 0, 0), (8, .astore_n 3, 1, 0, 0), (9, .aload_n 3, 1, 0, 0), (10, .ifnonnull 5, 3, 0, 15), (13, .iconst (-1), 1, -1, 0), (14, .ireturn, 1, 0, 0), (15, .iload_n 2, 1, 0, 0), (16, .invokestatic 107, 3, 0, 0), (19, .ifCond .ne 6, 3, 0, 25), (22, .bipush (-2), 2, -2, 0), (24, .ireturn, 1, 0, 0), (25, .aload_n 3, 1, 0, 0), (26, .getfield 144, 3, 0, 0), (29, .ifCond .eq 6, 3, 0, 35), (32, .bipush (-5), 2, -5, 0), (34, .ireturn, 1, 0, 0), (35, .aload_n 0, 1, 0, 0), (36, .getfield 19, 3, 0, 0), (39, .aload_n 0, 1, 0, 0), (40, .getfield 10, 3, 0, 0), (43, .invokevirtual 48, 3, 0, 0), (46, .aload_n 3, 1, 0, 0), (47, .getfield 147, 3, 0, 0), (50, .istore 4, 2, 0, 0), (52, .aload_n 3, 1, 0, 0), (53, .iload_n 2, 1, 0, 0), (54, .putfield 147, 3, 0, 0), (57, .iload 4, 2, 0, 0), (59, .ireturn, 1, 0, 0)]
theorem tkX5_hurry : ∀ x ∈ tbX5_hurry, tbB cX5_hurry x = true := tb_all (by decide +kernel)
def fX5_hurry (c : Nat → Option Nat) (h : Hp) (a0 : Option Nat) (a1 : Int32) (a2 : Int32) : Rs := rdR h a0 7 0 (fun r1 => ck h r1 6 (cc (fX4_known c h r1 a1) (kR fun h2 r3 => ifN r3 (some (h2, some (.inl (-1 : Int32)))) (cc (fX5_isPriority c h2 a2) (kI fun h4 x5 => if x5 = 0 then (some (h4, some (.inl (-2 : Int32)))) else (rdI h4 r3 4 3 (fun x6 => if x6 = 0 then (rdR h4 a0 7 1 (fun r7 => rdR h4 a0 7 0 (fun r8 => ck h4 r7 2 (cc (fX0_remember c h4 r7 r8) (kV fun h9 => rdI h9 r3 4 2 (fun x10 => wr h9 r3 4 2 (.inl a2) (fun h11 => some (h11, some (.inl x10))))))))) else (some (h4, some (.inl (-5 : Int32)))))))))))
set_option maxHeartbeats 4000000 in
set_option maxRecDepth 100000 in
theorem soX5_hurry (X : Cx) (h : Hp) (a0 : Option Nat) (a1 : Int32) (a2 : Int32) : SO X mX5_hurry [.inr (.inr a0), .inl a1, .inl a2] h (fX5_hurry X.2.2.2 h a0 a1 a2) := by
  refine so_of (by decide +kernel) (Nat.le_of_ble_eq_true rfl) ?_
  show Gd X mX5_hurry h (fX5_hurry X.2.2.2 h a0 a1 a2) h 0 [some (.inr (.inr a0)), some (.inl a1), some (.inl a2), none, none] []
  unfold fX5_hurry
  refine q_run tkX5_hurry 0 1 (pc' := 1) (L' := [some (.inr (.inr a0)), some (.inl a1), some (.inl a2), none, none]) (st' := [.inr (.inr a0)]) rfl ?_
  refine q_rdR RX5 TX5 5 (tbm tkX5_hurry (i := 1) rfl) rfl (Nat.le_of_ble_eq_true rfl) wd_248 (fun r1 => ?_)
  refine q_run tkX5_hurry 2 1 (pc' := 5) (L' := [some (.inr (.inr a0)), some (.inl a1), some (.inl a2), none, none]) (st' := [.inl a1, .inr (.inr r1)]) rfl ?_
  refine q_cv (r := r1) (ci := 6) (n := 1) (as := [.inl a1]) (st := []) TX4 13 (soX4_known X h r1 a1) (tbm tkX5_hurry (i := 3) rfl) rfl rfl ceX4_known wd_269 wd_270 wd_268 rfl (Nat.le_of_ble_eq_true rfl) (kR_gd (fun h2 r3 => ?_))
  refine q_run tkX5_hurry 4 2 (pc' := 10) (L' := [some (.inr (.inr a0)), some (.inl a1), some (.inl a2), some (.inr (.inr r3)), none]) (st' := [.inr (.inr r3)]) rfl ?_
  refine q_ifnonnull (tbm tkX5_hurry (i := 6) rfl) ?_ ?_
  · refine q_run tkX5_hurry 7 1 (pc' := 14) (L' := [some (.inr (.inr a0)), some (.inl a1), some (.inl a2), some (.inr (.inr r3)), none]) (st' := [.inl (-1 : Int32)]) rfl ?_
    exact q_iret (tbm tkX5_hurry (i := 8) rfl) rfl
  · refine q_run tkX5_hurry 9 1 (pc' := 16) (L' := [some (.inr (.inr a0)), some (.inl a1), some (.inl a2), some (.inr (.inr r3)), none]) (st' := [.inl a2]) rfl ?_
    refine q_cs (n := 1) (as := [.inl a2]) (st := []) (soX5_isPriority X h2 a2) (tbm tkX5_hurry (i := 10) rfl) rfl ceX5_isPriority wd_501 wd_500 rfl (Nat.le_of_ble_eq_true rfl) (kI_gd (fun h4 x5 => ?_))
    refine q_if_ne (tbm tkX5_hurry (i := 11) rfl) ?_ ?_
    · refine q_run tkX5_hurry 12 1 (pc' := 24) (L' := [some (.inr (.inr a0)), some (.inl a1), some (.inl a2), some (.inr (.inr r3)), none]) (st' := [.inl (-2 : Int32)]) rfl ?_
      exact q_iret (tbm tkX5_hurry (i := 13) rfl) rfl
    · refine q_run tkX5_hurry 14 1 (pc' := 26) (L' := [some (.inr (.inr a0)), some (.inl a1), some (.inl a2), some (.inr (.inr r3)), none]) (st' := [.inr (.inr r3)]) rfl ?_
      refine q_rdI RX2 TX2 14 (tbm tkX5_hurry (i := 15) rfl) rfl (Nat.le_of_ble_eq_true rfl) wd_66 (fun x6 => ?_)
      refine q_if_eq (tbm tkX5_hurry (i := 16) rfl) ?_ ?_
      · refine q_run tkX5_hurry 19 1 (pc' := 36) (L' := [some (.inr (.inr a0)), some (.inl a1), some (.inl a2), some (.inr (.inr r3)), none]) (st' := [.inr (.inr a0)]) rfl ?_
        refine q_rdR RX5 TX5 5 (tbm tkX5_hurry (i := 20) rfl) rfl (Nat.le_of_ble_eq_true rfl) wd_249 (fun r7 => ?_)
        refine q_run tkX5_hurry 21 1 (pc' := 40) (L' := [some (.inr (.inr a0)), some (.inl a1), some (.inl a2), some (.inr (.inr r3)), none]) (st' := [.inr (.inr a0), .inr (.inr r7)]) rfl ?_
        refine q_rdR RX5 TX5 5 (tbm tkX5_hurry (i := 22) rfl) rfl (Nat.le_of_ble_eq_true rfl) wd_248 (fun r8 => ?_)
        refine q_cv (r := r7) (ci := 2) (n := 1) (as := [.inr (.inr r8)]) (st := []) TX0 2 (soX0_remember X h4 r7 r8) (tbm tkX5_hurry (i := 23) rfl) rfl rfl ceX0_remember wd_508 wd_509 wd_507 rfl (Nat.le_of_ble_eq_true rfl) (kV_gd (fun h9 => ?_))
        refine q_run tkX5_hurry 24 1 (pc' := 47) (L' := [some (.inr (.inr a0)), some (.inl a1), some (.inl a2), some (.inr (.inr r3)), none]) (st' := [.inr (.inr r3)]) rfl ?_
        refine q_rdI RX2 TX2 14 (tbm tkX5_hurry (i := 25) rfl) rfl (Nat.le_of_ble_eq_true rfl) wd_64 (fun x10 => ?_)
        refine q_run tkX5_hurry 26 3 (pc' := 54) (L' := [some (.inr (.inr a0)), some (.inl a1), some (.inl a2), some (.inr (.inr r3)), some (.inl x10)]) (st' := [.inl a2, .inr (.inr r3)]) rfl ?_
        refine q_wr RX2 TX2 14 (tbm tkX5_hurry (i := 29) rfl) rfl (Nat.le_of_ble_eq_true rfl) (Or.inl rfl) wd_64 (fun h11 => ?_)
        refine q_run tkX5_hurry 30 1 (pc' := 59) (L' := [some (.inr (.inr a0)), some (.inl a1), some (.inl a2), some (.inr (.inr r3)), some (.inl x10)]) (st' := [.inl x10]) rfl ?_
        exact q_iret (tbm tkX5_hurry (i := 31) rfl) rfl
      · refine q_run tkX5_hurry 17 1 (pc' := 34) (L' := [some (.inr (.inr a0)), some (.inl a1), some (.inl a2), some (.inr (.inr r3)), none]) (st' := [.inl (-5 : Int32)]) rfl ?_
        exact q_iret (tbm tkX5_hurry (i := 18) rfl) rfl
theorem ceX5_hurry : Ce mX5_hurry 2 := ⟨wd_18, wd_559, by decide +kernel, by decide +kernel, by decide +kernel⟩
/-- ReceiptRolls.tear -/
abbrev mX5_tear : MI := (yX5_tear, cX5_tear, 4, some .int, 8)
def tbX5_tear : List TE := [(0, .iload_n 1, 1, 0, 0), (1, .iconst 1, 1, 1, 0), (2, .if_icmp .lt 9, 3, 0, 11), (5, .iload_n 1, 1, 0, 0), (6, .bipush 99, 2, 99, 0), (8, .if_icmp .le 6, 3, 0, 14), (11, .bipush (-2), 2, -2, 0), (13, .ireturn, 1, 0, 0), (14, .aload_n 0, 1, 0, 0), (15, .getfield 10, 3, 0, 0), (18, .aload_n 0, 1, 0, 0), (19, .getfield 10, 3, 0, 0), (22, .getfield 163, 3, 0, 0), (25, .invokevirtual 141, 3, 0, 0), (28, .astore_n 2, 1, 0, 0), (29, .aload_n 2, 1, 0, 0), (30, .ifnull 11, 3, 0, 41), (33, .aload_n 2, 1, 0, 0), (34, .getfield 166, 3, 0, 0), (37, .iload_n 1, 1, 0, 0), (38, .if_icmp .ge 6, 3, 0, 44), (41, .bipush (-5), 2, -5, 0), (43, .ireturn, 1, 0, 0), (44, .aload_n 0, 1, 0, 0), (45, .getfield 19, 3, 0, 0), (48, .aload_n 0, 1, 0, 0), (49, .getfield 10, 3, 0, 0), (52, .invokevirtual 48, 3, 0, 0), (55, .aload_n 0, 1, 0, 0), (56, .aload_n 2, 1, 0, 0), (57, .aload_n 2, 1, 0, 0), (58, .getfield 166, 3, 0, 0), (61, .iload_n 1, 1, 0, 0), (62, .isub, 1, 0, 0), (63, .invokevirtual 120, 3, 0, 0), (66, .pop, 1, 0, 0), (67, .aload_n 2, 1, 0, 0), (68, .getfield 166, 3, 0, 0), (71, .aload_n 0, 1, 0, 0), (72, .getfield 37, 3, 0, 0), (75, .getfield 169, 3, 0, 0), (78, .isub, 1, 0, 0), (79, .istore_n 3, 1, 0, 0), (80, .aload_n 2, 1, 0, 0), (81, .aload_n 0, 1, 0, 0), (82, .getfield 37, 3, 0, 0), (85, .getfield 169, 3, 0, 0), (88, .putfield 166, 3, 0, 0), (91, .aload_n 0, 1, 0, 0), (92, .getfield 10, 3, 0, 0), (95, .dup, 1, 0, 0), (96, .getfield 172, 3, 0, 0), (99, .iload_n 3, 1, 0, 0), (100, .iadd, 1, 0, 0), (101, .putfield 172, 3, 0, 0), (104, .iload_n 3, 1, 0, 0), (105, .ireturn, 1, 0, 0)]
theorem tkX5_tear : ∀ x ∈ tbX5_tear, tbB cX5_tear x = true := tb_all (by decide +kernel)
def fX5_tear_41 (c : Nat → Option Nat) (h : Hp) : Rs := some (h, some (.inl (-5 : Int32)))
set_option maxHeartbeats 4000000 in
set_option maxRecDepth 100000 in
theorem sX5_tear_41 (X : Cx) {h0 : Hp} (h : Hp) : Gd X mX5_tear h0 (fX5_tear_41 X.2.2.2 h) h 41 [none, none, none, none] [] := by
  unfold fX5_tear_41
  refine q_run tkX5_tear 21 1 (pc' := 43) (L' := [none, none, none, none]) (st' := [.inl (-5 : Int32)]) rfl ?_
  exact q_iret (tbm tkX5_tear (i := 22) rfl) rfl
def fX5_tear_11 (c : Nat → Option Nat) (h : Hp) : Rs := some (h, some (.inl (-2 : Int32)))
set_option maxHeartbeats 4000000 in
set_option maxRecDepth 100000 in
theorem sX5_tear_11 (X : Cx) {h0 : Hp} (h : Hp) : Gd X mX5_tear h0 (fX5_tear_11 X.2.2.2 h) h 11 [none, none, none, none] [] := by
  unfold fX5_tear_11
  refine q_run tkX5_tear 6 1 (pc' := 13) (L' := [none, none, none, none]) (st' := [.inl (-2 : Int32)]) rfl ?_
  exact q_iret (tbm tkX5_tear (i := 7) rfl) rfl
def fX5_tear (c : Nat → Option Nat) (h : Hp) (a0 : Option Nat) (a1 : Int32) : Rs := if a1 < (1 : Int32) then (fX5_tear_11 c h) else (if (99 : Int32) < a1 then (fX5_tear_11 c h) else (rdR h a0 7 0 (fun r1 => rdR h a0 7 0 (fun r2 => rdI h r2 6 9 (fun x3 => ck h r1 6 (cc (fX4_known c h r1 x3) (kR fun h4 r5 => ifN r5 (fX5_tear_41 c h4) (rdI h4 r5 4 6 (fun x6 => if x6 < a1 then (fX5_tear_41 c h4) else (rdR h4 a0 7 1 (fun r7 => rdR h4 a0 7 0 (fun r8 => ck h4 r7 2 (cc (fX0_remember c h4 r7 r8) (kV fun h9 => rdI h9 r5 4 6 (fun x10 => ck h9 a0 7 (cc (fX5_layLines c h9 a0 r5 (x10 - a1)) (kI fun h11 x12 => rdI h11 r5 4 6 (fun x13 => rdR h11 a0 7 4 (fun r14 => rdI h11 r14 5 2 (fun x15 => rdR h11 a0 7 4 (fun r16 => rdI h11 r16 5 2 (fun x17 => wr h11 r5 4 6 (.inl x17) (fun h18 => rdR h18 a0 7 0 (fun r19 => rdI h18 r19 6 2 (fun x20 => wr h18 r19 6 2 (.inl (x20 + (x13 - x15))) (fun h21 => some (h21, some (.inl (x13 - x15)))))))))))))))))))))))))))))
set_option maxHeartbeats 4000000 in
set_option maxRecDepth 100000 in
theorem soX5_tear (X : Cx) (h : Hp) (a0 : Option Nat) (a1 : Int32) : SO X mX5_tear [.inr (.inr a0), .inl a1] h (fX5_tear X.2.2.2 h a0 a1) := by
  refine so_of (by decide +kernel) (Nat.le_of_ble_eq_true rfl) ?_
  show Gd X mX5_tear h (fX5_tear X.2.2.2 h a0 a1) h 0 [some (.inr (.inr a0)), some (.inl a1), none, none] []
  unfold fX5_tear
  refine q_run tkX5_tear 0 2 (pc' := 2) (L' := [some (.inr (.inr a0)), some (.inl a1), none, none]) (st' := [.inl (1 : Int32), .inl a1]) rfl ?_
  refine q_icmp_lt (tbm tkX5_tear (i := 2) rfl) ?_ ?_
  · refine q_le (L' := [none, none, none, none]) (lvLe_n (lvLe_n (lvLe_n (lvLe_n lvLe_0)))) ?_
    exact sX5_tear_11 X h
  · refine q_run tkX5_tear 3 2 (pc' := 8) (L' := [some (.inr (.inr a0)), some (.inl a1), none, none]) (st' := [.inl (99 : Int32), .inl a1]) rfl ?_
    refine q_icmp_le (tbm tkX5_tear (i := 5) rfl) ?_ ?_
    · refine q_le (L' := [none, none, none, none]) (lvLe_n (lvLe_n (lvLe_n (lvLe_n lvLe_0)))) ?_
      exact sX5_tear_11 X h
    · refine q_run tkX5_tear 8 1 (pc' := 15) (L' := [some (.inr (.inr a0)), some (.inl a1), none, none]) (st' := [.inr (.inr a0)]) rfl ?_
      refine q_rdR RX5 TX5 5 (tbm tkX5_tear (i := 9) rfl) rfl (Nat.le_of_ble_eq_true rfl) wd_248 (fun r1 => ?_)
      refine q_run tkX5_tear 10 1 (pc' := 19) (L' := [some (.inr (.inr a0)), some (.inl a1), none, none]) (st' := [.inr (.inr a0), .inr (.inr r1)]) rfl ?_
      refine q_rdR RX5 TX5 5 (tbm tkX5_tear (i := 11) rfl) rfl (Nat.le_of_ble_eq_true rfl) wd_248 (fun r2 => ?_)
      refine q_rdI RX4 TX4 13 (tbm tkX5_tear (i := 12) rfl) rfl (Nat.le_of_ble_eq_true rfl) wd_138 (fun x3 => ?_)
      refine q_cv (r := r1) (ci := 6) (n := 1) (as := [.inl x3]) (st := []) TX4 13 (soX4_known X h r1 x3) (tbm tkX5_tear (i := 13) rfl) rfl rfl ceX4_known wd_269 wd_270 wd_268 rfl (Nat.le_of_ble_eq_true rfl) (kR_gd (fun h4 r5 => ?_))
      refine q_run tkX5_tear 14 2 (pc' := 30) (L' := [some (.inr (.inr a0)), some (.inl a1), some (.inr (.inr r5)), none]) (st' := [.inr (.inr r5)]) rfl ?_
      refine q_ifnull (tbm tkX5_tear (i := 16) rfl) ?_ ?_
      · refine q_le (L' := [none, none, none, none]) (lvLe_n (lvLe_n (lvLe_n (lvLe_n lvLe_0)))) ?_
        exact sX5_tear_41 X h4
      · refine q_run tkX5_tear 17 1 (pc' := 34) (L' := [some (.inr (.inr a0)), some (.inl a1), some (.inr (.inr r5)), none]) (st' := [.inr (.inr r5)]) rfl ?_
        refine q_rdI RX2 TX2 14 (tbm tkX5_tear (i := 18) rfl) rfl (Nat.le_of_ble_eq_true rfl) wd_74 (fun x6 => ?_)
        refine q_run tkX5_tear 19 1 (pc' := 38) (L' := [some (.inr (.inr a0)), some (.inl a1), some (.inr (.inr r5)), none]) (st' := [.inl a1, .inl x6]) rfl ?_
        refine q_icmp_ge (tbm tkX5_tear (i := 20) rfl) ?_ ?_
        · refine q_le (L' := [none, none, none, none]) (lvLe_n (lvLe_n (lvLe_n (lvLe_n lvLe_0)))) ?_
          exact sX5_tear_41 X h4
        · refine q_run tkX5_tear 23 1 (pc' := 45) (L' := [some (.inr (.inr a0)), some (.inl a1), some (.inr (.inr r5)), none]) (st' := [.inr (.inr a0)]) rfl ?_
          refine q_rdR RX5 TX5 5 (tbm tkX5_tear (i := 24) rfl) rfl (Nat.le_of_ble_eq_true rfl) wd_249 (fun r7 => ?_)
          refine q_run tkX5_tear 25 1 (pc' := 49) (L' := [some (.inr (.inr a0)), some (.inl a1), some (.inr (.inr r5)), none]) (st' := [.inr (.inr a0), .inr (.inr r7)]) rfl ?_
          refine q_rdR RX5 TX5 5 (tbm tkX5_tear (i := 26) rfl) rfl (Nat.le_of_ble_eq_true rfl) wd_248 (fun r8 => ?_)
          refine q_cv (r := r7) (ci := 2) (n := 1) (as := [.inr (.inr r8)]) (st := []) TX0 2 (soX0_remember X h4 r7 r8) (tbm tkX5_tear (i := 27) rfl) rfl rfl ceX0_remember wd_508 wd_509 wd_507 rfl (Nat.le_of_ble_eq_true rfl) (kV_gd (fun h9 => ?_))
          refine q_run tkX5_tear 28 3 (pc' := 58) (L' := [some (.inr (.inr a0)), some (.inl a1), some (.inr (.inr r5)), none]) (st' := [.inr (.inr r5), .inr (.inr r5), .inr (.inr a0)]) rfl ?_
          refine q_rdI RX2 TX2 14 (tbm tkX5_tear (i := 31) rfl) rfl (Nat.le_of_ble_eq_true rfl) wd_74 (fun x10 => ?_)
          refine q_run tkX5_tear 32 2 (pc' := 63) (L' := [some (.inr (.inr a0)), some (.inl a1), some (.inr (.inr r5)), none]) (st' := [.inl (x10 - a1), .inr (.inr r5), .inr (.inr a0)]) rfl ?_
          refine q_cv (r := a0) (ci := 7) (n := 2) (as := [.inr (.inr r5), .inl (x10 - a1)]) (st := []) TX5 5 (soX5_layLines X h9 a0 r5 (x10 - a1)) (tbm tkX5_tear (i := 34) rfl) rfl rfl ceX5_layLines wd_366 wd_0 wd_364 rfl (Nat.le_of_ble_eq_true rfl) (kI_gd (fun h11 x12 => ?_))
          refine q_run tkX5_tear 35 2 (pc' := 68) (L' := [some (.inr (.inr a0)), some (.inl a1), some (.inr (.inr r5)), none]) (st' := [.inr (.inr r5)]) rfl ?_
          refine q_rdI RX2 TX2 14 (tbm tkX5_tear (i := 37) rfl) rfl (Nat.le_of_ble_eq_true rfl) wd_74 (fun x13 => ?_)
          refine q_run tkX5_tear 38 1 (pc' := 72) (L' := [some (.inr (.inr a0)), some (.inl a1), some (.inr (.inr r5)), none]) (st' := [.inr (.inr a0), .inl x13]) rfl ?_
          refine q_rdR RX5 TX5 5 (tbm tkX5_tear (i := 39) rfl) rfl (Nat.le_of_ble_eq_true rfl) wd_252 (fun r14 => ?_)
          refine q_rdI RX3 TX3 6 (tbm tkX5_tear (i := 40) rfl) rfl (Nat.le_of_ble_eq_true rfl) wd_230 (fun x15 => ?_)
          refine q_run tkX5_tear 41 4 (pc' := 82) (L' := [some (.inr (.inr a0)), some (.inl a1), some (.inr (.inr r5)), some (.inl (x13 - x15))]) (st' := [.inr (.inr a0), .inr (.inr r5)]) rfl ?_
          refine q_rdR RX5 TX5 5 (tbm tkX5_tear (i := 45) rfl) rfl (Nat.le_of_ble_eq_true rfl) wd_252 (fun r16 => ?_)
          refine q_rdI RX3 TX3 6 (tbm tkX5_tear (i := 46) rfl) rfl (Nat.le_of_ble_eq_true rfl) wd_230 (fun x17 => ?_)
          refine q_wr RX2 TX2 14 (tbm tkX5_tear (i := 47) rfl) rfl (Nat.le_of_ble_eq_true rfl) (Or.inl rfl) wd_74 (fun h18 => ?_)
          refine q_run tkX5_tear 48 1 (pc' := 92) (L' := [some (.inr (.inr a0)), some (.inl a1), some (.inr (.inr r5)), some (.inl (x13 - x15))]) (st' := [.inr (.inr a0)]) rfl ?_
          refine q_rdR RX5 TX5 5 (tbm tkX5_tear (i := 49) rfl) rfl (Nat.le_of_ble_eq_true rfl) wd_248 (fun r19 => ?_)
          refine q_run tkX5_tear 50 1 (pc' := 96) (L' := [some (.inr (.inr a0)), some (.inl a1), some (.inr (.inr r5)), some (.inl (x13 - x15))]) (st' := [.inr (.inr r19), .inr (.inr r19)]) rfl ?_
          refine q_rdI RX4 TX4 13 (tbm tkX5_tear (i := 51) rfl) rfl (Nat.le_of_ble_eq_true rfl) wd_124 (fun x20 => ?_)
          refine q_run tkX5_tear 52 2 (pc' := 101) (L' := [some (.inr (.inr a0)), some (.inl a1), some (.inr (.inr r5)), some (.inl (x13 - x15))]) (st' := [.inl (x20 + (x13 - x15)), .inr (.inr r19)]) rfl ?_
          refine q_wr RX4 TX4 13 (tbm tkX5_tear (i := 54) rfl) rfl (Nat.le_of_ble_eq_true rfl) (Or.inl rfl) wd_124 (fun h21 => ?_)
          refine q_run tkX5_tear 55 1 (pc' := 105) (L' := [some (.inr (.inr a0)), some (.inl a1), some (.inr (.inr r5)), some (.inl (x13 - x15))]) (st' := [.inl (x13 - x15)]) rfl ?_
          exact q_iret (tbm tkX5_tear (i := 56) rfl) rfl
theorem ceX5_tear : Ce mX5_tear 1 := ⟨wd_18, wd_563, by decide +kernel, by decide +kernel, by decide +kernel⟩
/-- ReceiptRolls.pass -/
abbrev mX5_pass : MI := (yX5_pass, cX5_pass, 4, some .int, 6)
def tbX5_pass : List TE := [(0, .iload_n 1, 1, 0, 0), (1, .iconst 1, 1, 1, 0), (2, .if_icmp .lt 9, 3, 0, 11), (5, .iload_n 1, 1, 0, 0), (6, .bipush 99, 2, 99, 0), (8, .if_icmp .le 6, 3, 0, 14), (11, .bipush (-2), 2, -2, 0), (13, .ireturn, 1, 0, 0), (14, .aload_n 0, 1, 0, 0), (15, .getfield 10, 3, 0, 0), (18, .getfield 175, 3, 0, 0), (21, .iload_n 1, 1, 0, 0), (22, .iadd, 1, 0, 0), (23, .sipush 9999, 3, 9999, 0), (26, .if_icmp .le 6, 3, 0, 32), (29, .bipush (-5), 2, -5, 0), (31, .ireturn, 1, 0, 0), (32, .aload_n 0, 1, 0, 0), (33, .getfield 19, 3, 0, 0), (36, .aload_n 0, 1, 0, 0), (37, .getfield 10, 3, 0, 0), (40, .invokevirtual 48, 3, 0, 0), (43, .iconst 0, 1, 0, 0), (44, .istore_n 2, 1, 0, 0), (45, .iconst 0, 1, 0, 0), (46, .istore_n 3, 1, 0, 0), (47, .iload_n 3, 1, 0, 0), (48, .iload_n 1, 1, 0, 0), (49, .if_icmp .ge 19, 3, 0, 68), (52, .iload_n 2, 1, 0, 0), (53, .aload_n 0, 1, 0, 0), (54, .getfield 10, 3, 0, 0), (57, .invokevirtual 178, 3, 0, 0), (60, .iadd, 1, 0, 0), (61, .istore_n 2, 1, 0, 0), (62, .iinc 3 1, 3, 1, 0), (65, .goto (-18), 3, 0, 47), (68, .iload_n 2, 1, 0, 0), (69, .ireturn, 1, 0, 0)]
theorem tkX5_pass : ∀ x ∈ tbX5_pass, tbB cX5_pass x = true := tb_all (by decide +kernel)
def fX5_pass_47 (c : Nat → Option Nat) : Nat → Hp → Option Nat → Int32 → Int32 → Int32 → Rs
  | 0, _, _, _, _, _ => none
  | n + 1, h, l0, l1, l2, l3 => if l3 < l1 then (rdR h l0 7 0 (fun r1 => ck h r1 6 (cc (fX4_tick c h r1) (kI fun h2 x3 => fX5_pass_47 c n h2 l0 l1 (l2 + x3) (l3 + (1 : Int32)))))) else (some (h, some (.inl l2)))
set_option maxHeartbeats 4000000 in
set_option maxRecDepth 100000 in
theorem sX5_pass_47 (X : Cx) {h0 : Hp} : ∀ (n : Nat) (h : Hp) (l0 : Option Nat) (l1 : Int32) (l2 : Int32) (l3 : Int32), Gd X mX5_pass h0 (fX5_pass_47 X.2.2.2 n h l0 l1 l2 l3) h 47 [some (.inr (.inr l0)), some (.inl l1), some (.inl l2), some (.inl l3)] [] := by
  intro n
  induction n with
  | zero => intros; exact gd_none
  | succ n ih =>
    intro h l0 l1 l2 l3
    unfold fX5_pass_47
    refine q_run tkX5_pass 26 2 (pc' := 49) (L' := [some (.inr (.inr l0)), some (.inl l1), some (.inl l2), some (.inl l3)]) (st' := [.inl l1, .inl l3]) rfl ?_
    refine q_icmp_ge (tbm tkX5_pass (i := 28) rfl) ?_ ?_
    · refine q_run tkX5_pass 29 2 (pc' := 54) (L' := [some (.inr (.inr l0)), some (.inl l1), some (.inl l2), some (.inl l3)]) (st' := [.inr (.inr l0), .inl l2]) rfl ?_
      refine q_rdR RX5 TX5 5 (tbm tkX5_pass (i := 31) rfl) rfl (Nat.le_of_ble_eq_true rfl) wd_248 (fun r1 => ?_)
      refine q_cv (r := r1) (ci := 6) (n := 0) (as := []) (st := [.inl l2]) TX4 13 (soX4_tick X h r1) (tbm tkX5_pass (i := 32) rfl) rfl rfl ceX4_tick wd_569 wd_570 wd_568 rfl (Nat.le_of_ble_eq_true rfl) (kI_gd (fun h2 x3 => ?_))
      refine q_run tkX5_pass 33 4 (pc' := 47) (L' := [some (.inr (.inr l0)), some (.inl l1), some (.inl (l2 + x3)), some (.inl (l3 + (1 : Int32)))]) (st' := []) rfl ?_
      exact ih h2 l0 l1 (l2 + x3) (l3 + (1 : Int32))
    · refine q_run tkX5_pass 37 1 (pc' := 69) (L' := [some (.inr (.inr l0)), some (.inl l1), some (.inl l2), some (.inl l3)]) (st' := [.inl l2]) rfl ?_
      exact q_iret (tbm tkX5_pass (i := 38) rfl) rfl
def fX5_pass_11 (c : Nat → Option Nat) (h : Hp) : Rs := some (h, some (.inl (-2 : Int32)))
set_option maxHeartbeats 4000000 in
set_option maxRecDepth 100000 in
theorem sX5_pass_11 (X : Cx) {h0 : Hp} (h : Hp) : Gd X mX5_pass h0 (fX5_pass_11 X.2.2.2 h) h 11 [none, none, none, none] [] := by
  unfold fX5_pass_11
  refine q_run tkX5_pass 6 1 (pc' := 13) (L' := [none, none, none, none]) (st' := [.inl (-2 : Int32)]) rfl ?_
  exact q_iret (tbm tkX5_pass (i := 7) rfl) rfl
def fX5_pass (c : Nat → Option Nat) (h : Hp) (a0 : Option Nat) (a1 : Int32) : Rs := if a1 < (1 : Int32) then (fX5_pass_11 c h) else (if (99 : Int32) < a1 then (fX5_pass_11 c h) else (rdR h a0 7 0 (fun r4 => rdI h r4 6 5 (fun x5 => if (9999 : Int32) < (x5 + a1) then (some (h, some (.inl (-5 : Int32)))) else (rdR h a0 7 1 (fun r6 => rdR h a0 7 0 (fun r7 => ck h r6 2 (cc (fX0_remember c h r6 r7) (kV fun h8 => fX5_pass_47 c FU h8 a0 a1 (0 : Int32) (0 : Int32))))))))))
set_option maxHeartbeats 4000000 in
set_option maxRecDepth 100000 in
theorem soX5_pass (X : Cx) (h : Hp) (a0 : Option Nat) (a1 : Int32) : SO X mX5_pass [.inr (.inr a0), .inl a1] h (fX5_pass X.2.2.2 h a0 a1) := by
  refine so_of (by decide +kernel) (Nat.le_of_ble_eq_true rfl) ?_
  show Gd X mX5_pass h (fX5_pass X.2.2.2 h a0 a1) h 0 [some (.inr (.inr a0)), some (.inl a1), none, none] []
  unfold fX5_pass
  refine q_run tkX5_pass 0 2 (pc' := 2) (L' := [some (.inr (.inr a0)), some (.inl a1), none, none]) (st' := [.inl (1 : Int32), .inl a1]) rfl ?_
  refine q_icmp_lt (tbm tkX5_pass (i := 2) rfl) ?_ ?_
  · refine q_le (L' := [none, none, none, none]) (lvLe_n (lvLe_n (lvLe_n (lvLe_n lvLe_0)))) ?_
    exact sX5_pass_11 X h
  · refine q_run tkX5_pass 3 2 (pc' := 8) (L' := [some (.inr (.inr a0)), some (.inl a1), none, none]) (st' := [.inl (99 : Int32), .inl a1]) rfl ?_
    refine q_icmp_le (tbm tkX5_pass (i := 5) rfl) ?_ ?_
    · refine q_le (L' := [none, none, none, none]) (lvLe_n (lvLe_n (lvLe_n (lvLe_n lvLe_0)))) ?_
      exact sX5_pass_11 X h
    · refine q_run tkX5_pass 8 1 (pc' := 15) (L' := [some (.inr (.inr a0)), some (.inl a1), none, none]) (st' := [.inr (.inr a0)]) rfl ?_
      refine q_rdR RX5 TX5 5 (tbm tkX5_pass (i := 9) rfl) rfl (Nat.le_of_ble_eq_true rfl) wd_248 (fun r4 => ?_)
      refine q_rdI RX4 TX4 13 (tbm tkX5_pass (i := 10) rfl) rfl (Nat.le_of_ble_eq_true rfl) wd_130 (fun x5 => ?_)
      refine q_run tkX5_pass 11 3 (pc' := 26) (L' := [some (.inr (.inr a0)), some (.inl a1), none, none]) (st' := [.inl (9999 : Int32), .inl (x5 + a1)]) rfl ?_
      refine q_icmp_le (tbm tkX5_pass (i := 14) rfl) ?_ ?_
      · refine q_run tkX5_pass 15 1 (pc' := 31) (L' := [some (.inr (.inr a0)), some (.inl a1), none, none]) (st' := [.inl (-5 : Int32)]) rfl ?_
        exact q_iret (tbm tkX5_pass (i := 16) rfl) rfl
      · refine q_run tkX5_pass 17 1 (pc' := 33) (L' := [some (.inr (.inr a0)), some (.inl a1), none, none]) (st' := [.inr (.inr a0)]) rfl ?_
        refine q_rdR RX5 TX5 5 (tbm tkX5_pass (i := 18) rfl) rfl (Nat.le_of_ble_eq_true rfl) wd_249 (fun r6 => ?_)
        refine q_run tkX5_pass 19 1 (pc' := 37) (L' := [some (.inr (.inr a0)), some (.inl a1), none, none]) (st' := [.inr (.inr a0), .inr (.inr r6)]) rfl ?_
        refine q_rdR RX5 TX5 5 (tbm tkX5_pass (i := 20) rfl) rfl (Nat.le_of_ble_eq_true rfl) wd_248 (fun r7 => ?_)
        refine q_cv (r := r6) (ci := 2) (n := 1) (as := [.inr (.inr r7)]) (st := []) TX0 2 (soX0_remember X h r6 r7) (tbm tkX5_pass (i := 21) rfl) rfl rfl ceX0_remember wd_508 wd_509 wd_507 rfl (Nat.le_of_ble_eq_true rfl) (kV_gd (fun h8 => ?_))
        refine q_run tkX5_pass 22 4 (pc' := 47) (L' := [some (.inr (.inr a0)), some (.inl a1), some (.inl (0 : Int32)), some (.inl (0 : Int32))]) (st' := []) rfl ?_
        exact sX5_pass_47 X FU h8 a0 a1 (0 : Int32) (0 : Int32)
theorem ceX5_pass : Ce mX5_pass 1 := ⟨wd_18, wd_567, by decide +kernel, by decide +kernel, by decide +kernel⟩
/-- ReceiptRolls.wipe -/
abbrev mX5_wipe : MI := (yX5_wipe, cX5_wipe, 2, some .int, 6)
def tbX5_wipe : List TE := [(0, .aload_n 0, 1, 0, 0), (1, .getfield 30, 3, 0, 0), (4, .invokevirtual 236, 3, 0, 0), (7, .istore_n 1, 1, 0, 0), (8, .aload_n 0, 1, 0, 0), (9, .getfield 30, 3, 0, 0), (12, .iconst 0, 1, 0, 0), (13, .invokevirtual 86, 3, 0, 0), (16, .iload_n 1, 1, 0, 0), (17, .ireturn, 1, 0, 0)]
theorem tkX5_wipe : ∀ x ∈ tbX5_wipe, tbB cX5_wipe x = true := tb_all (by decide +kernel)
def fX5_wipe (c : Nat → Option Nat) (h : Hp) (a0 : Option Nat) : Rs := rdR h a0 7 3 (fun r1 => ck h r1 1 (cc (fJ4_length_8abf5 c h r1) (kI fun h2 x3 => rdR h2 a0 7 3 (fun r4 => ck h2 r4 1 (cc (fJ4_setLength_d00df c h2 r4 (0 : Int32)) (kV fun h5 => some (h5, some (.inl x3))))))))
set_option maxHeartbeats 4000000 in
set_option maxRecDepth 100000 in
theorem soX5_wipe (X : Cx) (h : Hp) (a0 : Option Nat) : SO X mX5_wipe [.inr (.inr a0)] h (fX5_wipe X.2.2.2 h a0) := by
  refine so_of (by decide +kernel) (Nat.le_of_ble_eq_true rfl) ?_
  show Gd X mX5_wipe h (fX5_wipe X.2.2.2 h a0) h 0 [some (.inr (.inr a0)), none] []
  unfold fX5_wipe
  refine q_run tkX5_wipe 0 1 (pc' := 1) (L' := [some (.inr (.inr a0)), none]) (st' := [.inr (.inr a0)]) rfl ?_
  refine q_rdR RX5 TX5 5 (tbm tkX5_wipe (i := 1) rfl) rfl (Nat.le_of_ble_eq_true rfl) wd_251 (fun r1 => ?_)
  refine q_cv (r := r1) (ci := 1) (n := 0) (as := []) (st := []) TJ4 4 (soJ4_length_8abf5 X h r1) (tbm tkX5_wipe (i := 2) rfl) rfl rfl ceJ4_length_8abf5 wd_323 wd_324 wd_322 rfl (Nat.le_of_ble_eq_true rfl) (kI_gd (fun h2 x3 => ?_))
  refine q_run tkX5_wipe 3 2 (pc' := 9) (L' := [some (.inr (.inr a0)), some (.inl x3)]) (st' := [.inr (.inr a0)]) rfl ?_
  refine q_rdR RX5 TX5 5 (tbm tkX5_wipe (i := 5) rfl) rfl (Nat.le_of_ble_eq_true rfl) wd_251 (fun r4 => ?_)
  refine q_run tkX5_wipe 6 1 (pc' := 13) (L' := [some (.inr (.inr a0)), some (.inl x3)]) (st' := [.inl (0 : Int32), .inr (.inr r4)]) rfl ?_
  refine q_cv (r := r4) (ci := 1) (n := 1) (as := [.inl (0 : Int32)]) (st := []) TJ4 4 (soJ4_setLength_d00df X h2 r4 (0 : Int32)) (tbm tkX5_wipe (i := 7) rfl) rfl rfl ceJ4_setLength_d00df wd_603 wd_604 wd_602 rfl (Nat.le_of_ble_eq_true rfl) (kV_gd (fun h5 => ?_))
  refine q_run tkX5_wipe 8 1 (pc' := 17) (L' := [some (.inr (.inr a0)), some (.inl x3)]) (st' := [.inl x3]) rfl ?_
  exact q_iret (tbm tkX5_wipe (i := 9) rfl) rfl
theorem ceX5_wipe : Ce mX5_wipe 0 := ⟨wd_18, wd_601, by decide +kernel, by decide +kernel, by decide +kernel⟩
/-- ReceiptRolls.codeAt -/
abbrev mX5_codeAt : MI := (yX5_codeAt, cX5_codeAt, 3, some .int, 0)
def tbX5_codeAt : List TE := [(0, .lload_n 0, 1, 0, 0), (1, .bipush 8, 2, 8, 0), (3, .iload_n 2, 1, 0, 0), (4, .imul, 1, 0, 0), (5, .lushr, 1, 0, 0), (6, .ldc2_w 288, 3, 0, 0), (9, .land, 1, 0, 0), (10, .l2i, 1, 0, 0), (11, .ireturn, 1, 0, 0)]
theorem tkX5_codeAt : ∀ x ∈ tbX5_codeAt, tbB cX5_codeAt x = true := tb_all (by decide +kernel)
def fX5_codeAt (c : Nat → Option Nat) (h : Hp) (a0 : Int64) (a1 : Int32) : Rs := some (h, some (.inl (Int64.toInt32 ((ushrL a0 ((8 : Int32) * a1)) &&& (255 : Int64)))))
set_option maxHeartbeats 4000000 in
set_option maxRecDepth 100000 in
theorem soX5_codeAt (X : Cx) (h : Hp) (a0 : Int64) (a1 : Int32) : SO X mX5_codeAt [.inr (.inl a0), .inl a1] h (fX5_codeAt X.2.2.2 h a0 a1) := by
  refine so_of (by decide +kernel) (Nat.le_of_ble_eq_true rfl) ?_
  show Gd X mX5_codeAt h (fX5_codeAt X.2.2.2 h a0 a1) h 0 [some (.inr (.inl a0)), none, some (.inl a1)] []
  unfold fX5_codeAt
  refine q_run tkX5_codeAt 0 5 (pc' := 6) (L' := [some (.inr (.inl a0)), none, some (.inl a1)]) (st' := [.inr (.inl (ushrL a0 ((8 : Int32) * a1)))]) rfl ?_
  refine q_ldc2 (w := (255 : Int64)) (tbm tkX5_codeAt (i := 5) rfl) wd_671 ?_
  refine q_run tkX5_codeAt 6 2 (pc' := 11) (L' := [some (.inr (.inl a0)), none, some (.inl a1)]) (st' := [.inl (Int64.toInt32 ((ushrL a0 ((8 : Int32) * a1)) &&& (255 : Int64)))]) rfl ?_
  exact q_iret (tbm tkX5_codeAt (i := 8) rfl) rfl
theorem ceX5_codeAt : Ce mX5_codeAt 2 := ⟨wd_18, wd_670, by decide +kernel, by decide +kernel, by decide +kernel⟩
/-- ReceiptRolls.lengthOf -/
abbrev mX5_lengthOf : MI := (yX5_lengthOf, cX5_lengthOf, 4, some .int, 1)
def tbX5_lengthOf : List TE := [(0, .iconst 0, 1, 0, 0), (1, .istore_n 2, 1, 0, 0), (2, .iload_n 2, 1, 0, 0), (3, .bipush 8, 2, 8, 0), (5, .if_icmp .ge 37, 3, 0, 42), (8, .lload_n 0, 1, 0, 0), (9, .iload_n 2, 1, 0, 0), (10, .invokestatic 275, 3, 0, 0), (13, .ifCond .eq 29, 3, 0, 42), (16, .lload_n 0, 1, 0, 0), (17, .iload_n 2, 1, 0, 0), (18, .invokestatic 275, 3, 0, 0), (21, .istore_n 3, 1, 0, 0), (22, .iload_n 3, 1, 0, 0), (23, .bipush 33, 2, 33, 0), (25, .if_icmp .lt 9, 3, 0, 34), (28, .iload_n 3, 1, 0, 0), (29, .bipush 126, 2, 126, 0), (31, .if_icmp .le 5, 3, 0, 36), (34, .iconst 0, 1, 0, 0), (35, .ireturn, 1, 0, 0), (36, .iinc 2 1, 3, 1, 0), (39, .goto (-37), 3, 0, 2), (42, .iload_n 2, 1, 0, 0), (43, .bipush 8, 2, 8, 0), (45, .if_icmp .ge 18, 3, 0, 63), (48, .lload_n 0, 1, 0, 0), (49, .bipush 8, 2, 8, 0), (51, .iload_n 2, 1, 0, 0), (52, .imul, 1, 0, 0), (53, .lushr, 1, 0, 0), (54, .lconst 0, 1, 0, 0), (55, .lcmp, 1, 0, 0), (56, .ifCond .eq 7, 3, 0, 63), (59, .iconst 1, 1, 1, 0), (60, .goto 4, 3, 0, 64), (63, .iconst 0, 1, 0, 0), (64, .istore_n 3, 1, 0, 0), (65, .iload_n 3, 1, 0, 0), (66, .ifCond .eq 7, 3, 0, 73), (69, .iconst 0, 1, 0, 0), (70, .goto 4, 3, 0, 74), (73, .iload_n 2, 1, 0, 0), (74, .ireturn, 1, 0, 0)]
theorem tkX5_lengthOf : ∀ x ∈ tbX5_lengthOf, tbB cX5_lengthOf x = true := tb_all (by decide +kernel)
def fX5_lengthOf_34 (c : Nat → Option Nat) (h : Hp) : Rs := some (h, some (.inl (0 : Int32)))
set_option maxHeartbeats 4000000 in
set_option maxRecDepth 100000 in
theorem sX5_lengthOf_34 (X : Cx) {h0 : Hp} (h : Hp) : Gd X mX5_lengthOf h0 (fX5_lengthOf_34 X.2.2.2 h) h 34 [none, none, none, none] [] := by
  unfold fX5_lengthOf_34
  refine q_run tkX5_lengthOf 19 1 (pc' := 35) (L' := [none, none, none, none]) (st' := [.inl (0 : Int32)]) rfl ?_
  exact q_iret (tbm tkX5_lengthOf (i := 20) rfl) rfl
def fX5_lengthOf_74 (c : Nat → Option Nat) (h : Hp) (s0 : Int32) : Rs := some (h, some (.inl s0))
set_option maxHeartbeats 4000000 in
set_option maxRecDepth 100000 in
theorem sX5_lengthOf_74 (X : Cx) {h0 : Hp} (h : Hp) (s0 : Int32) : Gd X mX5_lengthOf h0 (fX5_lengthOf_74 X.2.2.2 h s0) h 74 [none, none, none, none] [.inl s0] := by
  unfold fX5_lengthOf_74
  exact q_iret (tbm tkX5_lengthOf (i := 43) rfl) rfl
def fX5_lengthOf_64 (c : Nat → Option Nat) (h : Hp) (l2 : Int32) (s0 : Int32) : Rs := if s0 = 0 then (fX5_lengthOf_74 c h l2) else (fX5_lengthOf_74 c h (0 : Int32))
set_option maxHeartbeats 4000000 in
set_option maxRecDepth 100000 in
theorem sX5_lengthOf_64 (X : Cx) {h0 : Hp} (h : Hp) (l2 : Int32) (s0 : Int32) : Gd X mX5_lengthOf h0 (fX5_lengthOf_64 X.2.2.2 h l2 s0) h 64 [none, none, some (.inl l2), none] [.inl s0] := by
  unfold fX5_lengthOf_64
  refine q_run tkX5_lengthOf 37 2 (pc' := 66) (L' := [none, none, some (.inl l2), some (.inl s0)]) (st' := [.inl s0]) rfl ?_
  refine q_if_eq (tbm tkX5_lengthOf (i := 39) rfl) ?_ ?_
  · refine q_run tkX5_lengthOf 42 1 (pc' := 74) (L' := [none, none, some (.inl l2), some (.inl s0)]) (st' := [.inl l2]) rfl ?_
    refine q_le (L' := [none, none, none, none]) (lvLe_n (lvLe_n (lvLe_n (lvLe_n lvLe_0)))) ?_
    exact sX5_lengthOf_74 X h l2
  · refine q_run tkX5_lengthOf 40 2 (pc' := 74) (L' := [none, none, some (.inl l2), some (.inl s0)]) (st' := [.inl (0 : Int32)]) rfl ?_
    refine q_le (L' := [none, none, none, none]) (lvLe_n (lvLe_n (lvLe_n (lvLe_n lvLe_0)))) ?_
    exact sX5_lengthOf_74 X h (0 : Int32)
def fX5_lengthOf_63 (c : Nat → Option Nat) (h : Hp) (l2 : Int32) : Rs := fX5_lengthOf_64 c h l2 (0 : Int32)
set_option maxHeartbeats 4000000 in
set_option maxRecDepth 100000 in
theorem sX5_lengthOf_63 (X : Cx) {h0 : Hp} (h : Hp) (l2 : Int32) : Gd X mX5_lengthOf h0 (fX5_lengthOf_63 X.2.2.2 h l2) h 63 [none, none, some (.inl l2), none] [] := by
  unfold fX5_lengthOf_63
  refine q_run tkX5_lengthOf 36 1 (pc' := 64) (L' := [none, none, some (.inl l2), none]) (st' := [.inl (0 : Int32)]) rfl ?_
  exact sX5_lengthOf_64 X h l2 (0 : Int32)
def fX5_lengthOf_42 (c : Nat → Option Nat) (h : Hp) (l0 : Int64) (l2 : Int32) : Rs := if l2 < (8 : Int32) then (if (lg_cmp (ushrL l0 ((8 : Int32) * l2)) (0 : Int64)) = 0 then (fX5_lengthOf_63 c h l2) else (fX5_lengthOf_64 c h l2 (1 : Int32))) else (fX5_lengthOf_63 c h l2)
set_option maxHeartbeats 4000000 in
set_option maxRecDepth 100000 in
theorem sX5_lengthOf_42 (X : Cx) {h0 : Hp} (h : Hp) (l0 : Int64) (l2 : Int32) : Gd X mX5_lengthOf h0 (fX5_lengthOf_42 X.2.2.2 h l0 l2) h 42 [some (.inr (.inl l0)), none, some (.inl l2), none] [] := by
  unfold fX5_lengthOf_42
  refine q_run tkX5_lengthOf 23 2 (pc' := 45) (L' := [some (.inr (.inl l0)), none, some (.inl l2), none]) (st' := [.inl (8 : Int32), .inl l2]) rfl ?_
  refine q_icmp_ge (tbm tkX5_lengthOf (i := 25) rfl) ?_ ?_
  · refine q_run tkX5_lengthOf 26 5 (pc' := 54) (L' := [some (.inr (.inl l0)), none, some (.inl l2), none]) (st' := [.inr (.inl (ushrL l0 ((8 : Int32) * l2)))]) rfl ?_
    refine q_lconst (w := (0 : Int64)) (tbm tkX5_lengthOf (i := 31) rfl) rfl ?_
    refine q_run tkX5_lengthOf 32 1 (pc' := 56) (L' := [some (.inr (.inl l0)), none, some (.inl l2), none]) (st' := [.inl (lg_cmp (ushrL l0 ((8 : Int32) * l2)) (0 : Int64))]) rfl ?_
    refine q_if_eq (tbm tkX5_lengthOf (i := 33) rfl) ?_ ?_
    · refine q_le (L' := [none, none, some (.inl l2), none]) (lvLe_n (lvLe_n (lvLe_s (lvLe_n lvLe_0)))) ?_
      exact sX5_lengthOf_63 X h l2
    · refine q_run tkX5_lengthOf 34 2 (pc' := 64) (L' := [some (.inr (.inl l0)), none, some (.inl l2), none]) (st' := [.inl (1 : Int32)]) rfl ?_
      refine q_le (L' := [none, none, some (.inl l2), none]) (lvLe_n (lvLe_n (lvLe_s (lvLe_n lvLe_0)))) ?_
      exact sX5_lengthOf_64 X h l2 (1 : Int32)
  · refine q_le (L' := [none, none, some (.inl l2), none]) (lvLe_n (lvLe_n (lvLe_s (lvLe_n lvLe_0)))) ?_
    exact sX5_lengthOf_63 X h l2
def fX5_lengthOf_2 (c : Nat → Option Nat) : Nat → Hp → Int64 → Int32 → Rs
  | 0, _, _, _ => none
  | n + 1, h, l0, l2 => if l2 < (8 : Int32) then (cc (fX5_codeAt c h l0 l2) (kI fun h1 x2 => if x2 = 0 then (fX5_lengthOf_42 c h1 l0 l2) else (cc (fX5_codeAt c h1 l0 l2) (kI fun h3 x4 => if x4 < (33 : Int32) then (fX5_lengthOf_34 c h3) else (if (126 : Int32) < x4 then (fX5_lengthOf_34 c h3) else (fX5_lengthOf_2 c n h3 l0 (l2 + (1 : Int32)))))))) else (fX5_lengthOf_42 c h l0 l2)
set_option maxHeartbeats 4000000 in
set_option maxRecDepth 100000 in
theorem sX5_lengthOf_2 (X : Cx) {h0 : Hp} : ∀ (n : Nat) (h : Hp) (l0 : Int64) (l2 : Int32), Gd X mX5_lengthOf h0 (fX5_lengthOf_2 X.2.2.2 n h l0 l2) h 2 [some (.inr (.inl l0)), none, some (.inl l2), none] [] := by
  intro n
  induction n with
  | zero => intros; exact gd_none
  | succ n ih =>
    intro h l0 l2
    unfold fX5_lengthOf_2
    refine q_run tkX5_lengthOf 2 2 (pc' := 5) (L' := [some (.inr (.inl l0)), none, some (.inl l2), none]) (st' := [.inl (8 : Int32), .inl l2]) rfl ?_
    refine q_icmp_ge (tbm tkX5_lengthOf (i := 4) rfl) ?_ ?_
    · refine q_run tkX5_lengthOf 5 2 (pc' := 10) (L' := [some (.inr (.inl l0)), none, some (.inl l2), none]) (st' := [.inl l2, .inr (.inl l0)]) rfl ?_
      refine q_cs (n := 2) (as := [.inr (.inl l0), .inl l2]) (st := []) (soX5_codeAt X h l0 l2) (tbm tkX5_lengthOf (i := 7) rfl) rfl ceX5_codeAt wd_669 wd_668 rfl (Nat.le_of_ble_eq_true rfl) (kI_gd (fun h1 x2 => ?_))
      refine q_if_eq (tbm tkX5_lengthOf (i := 8) rfl) ?_ ?_
      · exact sX5_lengthOf_42 X h1 l0 l2
      · refine q_run tkX5_lengthOf 9 2 (pc' := 18) (L' := [some (.inr (.inl l0)), none, some (.inl l2), none]) (st' := [.inl l2, .inr (.inl l0)]) rfl ?_
        refine q_cs (n := 2) (as := [.inr (.inl l0), .inl l2]) (st := []) (soX5_codeAt X h1 l0 l2) (tbm tkX5_lengthOf (i := 11) rfl) rfl ceX5_codeAt wd_669 wd_668 rfl (Nat.le_of_ble_eq_true rfl) (kI_gd (fun h3 x4 => ?_))
        refine q_run tkX5_lengthOf 12 3 (pc' := 25) (L' := [some (.inr (.inl l0)), none, some (.inl l2), some (.inl x4)]) (st' := [.inl (33 : Int32), .inl x4]) rfl ?_
        refine q_icmp_lt (tbm tkX5_lengthOf (i := 15) rfl) ?_ ?_
        · refine q_le (L' := [none, none, none, none]) (lvLe_n (lvLe_n (lvLe_n (lvLe_n lvLe_0)))) ?_
          exact sX5_lengthOf_34 X h3
        · refine q_run tkX5_lengthOf 16 2 (pc' := 31) (L' := [some (.inr (.inl l0)), none, some (.inl l2), some (.inl x4)]) (st' := [.inl (126 : Int32), .inl x4]) rfl ?_
          refine q_icmp_le (tbm tkX5_lengthOf (i := 18) rfl) ?_ ?_
          · refine q_le (L' := [none, none, none, none]) (lvLe_n (lvLe_n (lvLe_n (lvLe_n lvLe_0)))) ?_
            exact sX5_lengthOf_34 X h3
          · refine q_run tkX5_lengthOf 21 2 (pc' := 2) (L' := [some (.inr (.inl l0)), none, some (.inl (l2 + (1 : Int32))), some (.inl x4)]) (st' := []) rfl ?_
            refine q_le (L' := [some (.inr (.inl l0)), none, some (.inl (l2 + (1 : Int32))), none]) (lvLe_s (lvLe_n (lvLe_s (lvLe_n lvLe_0)))) ?_
            exact ih h3 l0 (l2 + (1 : Int32))
    · exact sX5_lengthOf_42 X h l0 l2
def fX5_lengthOf (c : Nat → Option Nat) (h : Hp) (a0 : Int64) : Rs := fX5_lengthOf_2 c FU h a0 (0 : Int32)
set_option maxHeartbeats 4000000 in
set_option maxRecDepth 100000 in
theorem soX5_lengthOf (X : Cx) (h : Hp) (a0 : Int64) : SO X mX5_lengthOf [.inr (.inl a0)] h (fX5_lengthOf X.2.2.2 h a0) := by
  refine so_of (by decide +kernel) (Nat.le_of_ble_eq_true rfl) ?_
  show Gd X mX5_lengthOf h (fX5_lengthOf X.2.2.2 h a0) h 0 [some (.inr (.inl a0)), none, none, none] []
  unfold fX5_lengthOf
  refine q_run tkX5_lengthOf 0 2 (pc' := 2) (L' := [some (.inr (.inl a0)), none, some (.inl (0 : Int32)), none]) (st' := []) rfl ?_
  exact sX5_lengthOf_2 X FU h a0 (0 : Int32)
theorem ceX5_lengthOf : Ce mX5_lengthOf 1 := ⟨wd_18, wd_667, by decide +kernel, by decide +kernel, by decide +kernel⟩
/-- ReceiptRolls.put -/
abbrev mX5_put : MI := (yX5_put, cX5_put, 5, some .int, 6)
def tbX5_put : List TE := [(0, .lload_n 1, 1, 0, 0), (1, .invokestatic 271, 3, 0, 0), (4, .istore_n 3, 1, 0, 0), (5, .iload_n 3, 1, 0, 0), (6, .iconst 1, 1, 1, 0), (7, .if_icmp .ge 6, 3, 0, 13), (10, .bipush (-2), 2, -2, 0), (12, .ireturn, 1, 0, 0), (13, .aload_n 0, 1, 0, 0), (14, .getfield 30, 3, 0, 0), (17, .invokevirtual 236, 3, 0, 0), (20, .iload_n 3, 1, 0, 0), (21, .iadd, 1, 0, 0), (22, .bipush 80, 2, 80, 0), (24, .if_icmp .le 6, 3, 0, 30), (27, .bipush (-4), 2, -4, 0), (29, .ireturn, 1, 0, 0), (30, .iload_n 3, 1, 0, 0), (31, .iconst 1, 1, 1, 0), (32, .isub, 1, 0, 0), (33, .istore 4, 2, 0, 0), (35, .iload 4, 2, 0, 0), (37, .ifCond .lt 24, 3, 0, 61), (40, .aload_n 0, 1, 0, 0), (41, .getfield 30, 3, 0, 0), (44, .lload_n 1, 1, 0, 0), (45, .iload 4, 2, 0, 0), (47, .invokestatic 275, 3, 0, 0), (50, .i2c, 1, 0, 0), (51, .invokevirtual 279, 3, 0, 0), (54, .pop, 1, 0, 0), (55, .iinc 4 (-1), 3, -1, 0), (58, .goto (-23), 3, 0, 35), (61, .aload_n 0, 1, 0, 0), (62, .getfield 30, 3, 0, 0), (65, .invokevirtual 236, 3, 0, 0), (68, .ireturn, 1, 0, 0)]
theorem tkX5_put : ∀ x ∈ tbX5_put, tbB cX5_put x = true := tb_all (by decide +kernel)
def fX5_put_35 (c : Nat → Option Nat) : Nat → Hp → Option Nat → Int64 → Int32 → Rs
  | 0, _, _, _, _ => none
  | n + 1, h, l0, l1, l4 => if l4 < 0 then (rdR h l0 7 3 (fun r1 => ck h r1 1 (cc (fJ4_length_8abf5 c h r1) (kI fun h2 x3 => some (h2, some (.inl x3)))))) else (rdR h l0 7 3 (fun r4 => cc (fX5_codeAt c h l1 l4) (kI fun h5 x6 => ck h5 r4 1 (cc (fJ4_append_cf468 c h5 r4 (chI x6)) (kR fun h7 r8 => fX5_put_35 c n h7 l0 l1 (l4 + (-1 : Int32)))))))
set_option maxHeartbeats 4000000 in
set_option maxRecDepth 100000 in
theorem sX5_put_35 (X : Cx) {h0 : Hp} : ∀ (n : Nat) (h : Hp) (l0 : Option Nat) (l1 : Int64) (l4 : Int32), Gd X mX5_put h0 (fX5_put_35 X.2.2.2 n h l0 l1 l4) h 35 [some (.inr (.inr l0)), some (.inr (.inl l1)), none, none, some (.inl l4)] [] := by
  intro n
  induction n with
  | zero => intros; exact gd_none
  | succ n ih =>
    intro h l0 l1 l4
    unfold fX5_put_35
    refine q_run tkX5_put 21 1 (pc' := 37) (L' := [some (.inr (.inr l0)), some (.inr (.inl l1)), none, none, some (.inl l4)]) (st' := [.inl l4]) rfl ?_
    refine q_if_lt (tbm tkX5_put (i := 22) rfl) ?_ ?_
    · refine q_run tkX5_put 33 1 (pc' := 62) (L' := [some (.inr (.inr l0)), some (.inr (.inl l1)), none, none, some (.inl l4)]) (st' := [.inr (.inr l0)]) rfl ?_
      refine q_rdR RX5 TX5 5 (tbm tkX5_put (i := 34) rfl) rfl (Nat.le_of_ble_eq_true rfl) wd_251 (fun r1 => ?_)
      refine q_cv (r := r1) (ci := 1) (n := 0) (as := []) (st := []) TJ4 4 (soJ4_length_8abf5 X h r1) (tbm tkX5_put (i := 35) rfl) rfl rfl ceJ4_length_8abf5 wd_323 wd_324 wd_322 rfl (Nat.le_of_ble_eq_true rfl) (kI_gd (fun h2 x3 => ?_))
      exact q_iret (tbm tkX5_put (i := 36) rfl) rfl
    · refine q_run tkX5_put 23 1 (pc' := 41) (L' := [some (.inr (.inr l0)), some (.inr (.inl l1)), none, none, some (.inl l4)]) (st' := [.inr (.inr l0)]) rfl ?_
      refine q_rdR RX5 TX5 5 (tbm tkX5_put (i := 24) rfl) rfl (Nat.le_of_ble_eq_true rfl) wd_251 (fun r4 => ?_)
      refine q_run tkX5_put 25 2 (pc' := 47) (L' := [some (.inr (.inr l0)), some (.inr (.inl l1)), none, none, some (.inl l4)]) (st' := [.inl l4, .inr (.inl l1), .inr (.inr r4)]) rfl ?_
      refine q_cs (n := 2) (as := [.inr (.inl l1), .inl l4]) (st := [.inr (.inr r4)]) (soX5_codeAt X h l1 l4) (tbm tkX5_put (i := 27) rfl) rfl ceX5_codeAt wd_669 wd_668 rfl (Nat.le_of_ble_eq_true rfl) (kI_gd (fun h5 x6 => ?_))
      refine q_run tkX5_put 28 1 (pc' := 51) (L' := [some (.inr (.inr l0)), some (.inr (.inl l1)), none, none, some (.inl l4)]) (st' := [.inl (chI x6), .inr (.inr r4)]) rfl ?_
      refine q_cv (r := r4) (ci := 1) (n := 1) (as := [.inl (chI x6)]) (st := []) TJ4 4 (soJ4_append_cf468 X h5 r4 (chI x6)) (tbm tkX5_put (i := 29) rfl) rfl rfl ceJ4_append_cf468 wd_673 wd_674 wd_672 rfl (Nat.le_of_ble_eq_true rfl) (kR_gd (fun h7 r8 => ?_))
      refine q_run tkX5_put 30 3 (pc' := 35) (L' := [some (.inr (.inr l0)), some (.inr (.inl l1)), none, none, some (.inl (l4 + (-1 : Int32)))]) (st' := []) rfl ?_
      exact ih h7 l0 l1 (l4 + (-1 : Int32))
def fX5_put (c : Nat → Option Nat) (h : Hp) (a0 : Option Nat) (a1 : Int64) : Rs := cc (fX5_lengthOf c h a1) (kI fun h9 x10 => if x10 < (1 : Int32) then (some (h9, some (.inl (-2 : Int32)))) else (rdR h9 a0 7 3 (fun r11 => ck h9 r11 1 (cc (fJ4_length_8abf5 c h9 r11) (kI fun h12 x13 => if (80 : Int32) < (x13 + x10) then (some (h12, some (.inl (-4 : Int32)))) else (fX5_put_35 c FU h12 a0 a1 (x10 - (1 : Int32))))))))
set_option maxHeartbeats 4000000 in
set_option maxRecDepth 100000 in
theorem soX5_put (X : Cx) (h : Hp) (a0 : Option Nat) (a1 : Int64) : SO X mX5_put [.inr (.inr a0), .inr (.inl a1)] h (fX5_put X.2.2.2 h a0 a1) := by
  refine so_of (by decide +kernel) (Nat.le_of_ble_eq_true rfl) ?_
  show Gd X mX5_put h (fX5_put X.2.2.2 h a0 a1) h 0 [some (.inr (.inr a0)), some (.inr (.inl a1)), none, none, none] []
  unfold fX5_put
  refine q_run tkX5_put 0 1 (pc' := 1) (L' := [some (.inr (.inr a0)), some (.inr (.inl a1)), none, none, none]) (st' := [.inr (.inl a1)]) rfl ?_
  refine q_cs (n := 1) (as := [.inr (.inl a1)]) (st := []) (soX5_lengthOf X h a1) (tbm tkX5_put (i := 1) rfl) rfl ceX5_lengthOf wd_666 wd_665 rfl (Nat.le_of_ble_eq_true rfl) (kI_gd (fun h9 x10 => ?_))
  refine q_run tkX5_put 2 3 (pc' := 7) (L' := [some (.inr (.inr a0)), some (.inr (.inl a1)), none, some (.inl x10), none]) (st' := [.inl (1 : Int32), .inl x10]) rfl ?_
  refine q_icmp_ge (tbm tkX5_put (i := 5) rfl) ?_ ?_
  · refine q_run tkX5_put 6 1 (pc' := 12) (L' := [some (.inr (.inr a0)), some (.inr (.inl a1)), none, some (.inl x10), none]) (st' := [.inl (-2 : Int32)]) rfl ?_
    exact q_iret (tbm tkX5_put (i := 7) rfl) rfl
  · refine q_run tkX5_put 8 1 (pc' := 14) (L' := [some (.inr (.inr a0)), some (.inr (.inl a1)), none, some (.inl x10), none]) (st' := [.inr (.inr a0)]) rfl ?_
    refine q_rdR RX5 TX5 5 (tbm tkX5_put (i := 9) rfl) rfl (Nat.le_of_ble_eq_true rfl) wd_251 (fun r11 => ?_)
    refine q_cv (r := r11) (ci := 1) (n := 0) (as := []) (st := []) TJ4 4 (soJ4_length_8abf5 X h9 r11) (tbm tkX5_put (i := 10) rfl) rfl rfl ceJ4_length_8abf5 wd_323 wd_324 wd_322 rfl (Nat.le_of_ble_eq_true rfl) (kI_gd (fun h12 x13 => ?_))
    refine q_run tkX5_put 11 3 (pc' := 24) (L' := [some (.inr (.inr a0)), some (.inr (.inl a1)), none, some (.inl x10), none]) (st' := [.inl (80 : Int32), .inl (x13 + x10)]) rfl ?_
    refine q_icmp_le (tbm tkX5_put (i := 14) rfl) ?_ ?_
    · refine q_run tkX5_put 15 1 (pc' := 29) (L' := [some (.inr (.inr a0)), some (.inr (.inl a1)), none, some (.inl x10), none]) (st' := [.inl (-4 : Int32)]) rfl ?_
      exact q_iret (tbm tkX5_put (i := 16) rfl) rfl
    · refine q_run tkX5_put 17 4 (pc' := 35) (L' := [some (.inr (.inr a0)), some (.inr (.inl a1)), none, some (.inl x10), some (.inl (x10 - (1 : Int32)))]) (st' := []) rfl ?_
      refine q_le (L' := [some (.inr (.inr a0)), some (.inr (.inl a1)), none, none, some (.inl (x10 - (1 : Int32)))]) (lvLe_s (lvLe_s (lvLe_n (lvLe_n (lvLe_s lvLe_0))))) ?_
      exact sX5_put_35 X FU h12 a0 a1 (x10 - (1 : Int32))
theorem ceX5_put : Ce mX5_put 1 := ⟨wd_18, wd_664, by decide +kernel, by decide +kernel, by decide +kernel⟩
/-- ReceiptRolls.faultOfPad -/
abbrev mX5_faultOfPad : MI := (yX5_faultOfPad, cX5_faultOfPad, 6, some .int, 4)
def tbX5_faultOfPad : List TE := [(0, .iconst 1, 1, 1, 0), (1, .istore_n 1, 1, 0, 0), (2, .iconst 0, 1, 0, 0), (3, .istore_n 2, 1, 0, 0), (4, .iload_n 2, 1, 0, 0), (5, .aload_n 0, 1, 0, 0), (6, .getfield 30, 3, 0, 0), (9, .invokevirtual 236, 3, 0, 0), (12, .if_icmp .ge 81, 3, 0, 93), (15, .aload_n 0, 1, 0, 0), (16, .getfield 30, 3, 0, 0), (19, .iload_n 2, 1, 0, 0), (20, .invokevirtual 290, 3, 0, 0), (23, .istore_n 3, 1, 0, 0), (24, .iload_n 3, 1, 0, 0), (25, .bipush 97, 2, 97, 0), (27, .if_icmp .lt 13, 3, 0, 40), (30, .iload_n 3, 1, 0, 0), (31, .bipush 122, 2, 122, 0), (33, .if_icmp .gt 7, 3, 0, 40), (36, .iconst 1, 1, 1, 0), (37, .goto 4, 3, 0, 41), (40, .iconst 0, 1, 0, 0), (41, .istore 4, 2, 0, 0), (43, .iload_n 3, 1, 0, 0), (44, .bipush 95, 2, 95, 0), (46, .if_icmp .ne 17, 3, 0, 63), (49, .iload_n 1, 1, 0, 0), (50, .ifCond .ne 13, 3, 0, 63), (53, .iload_n 2, 1, 0, 0), (54, .bipush 29, 2, 29, 0), (56, .if_icmp .ge 7, 3, 0, 63), (59, .iconst 1, 1, 1, 0), (60, .goto 4, 3, 0, 64), (63, .iconst 0, 1, 0, 0), (64, .istore 5, 2, 0, 0), (66, .iload_n 2, 1, 0, 0), (67, .bipush 30, 2, 30, 0), (69, .if_icmp .ge 13, 3, 0, 82), (72, .iload 4, 2, 0, 0), (74, .ifCond .ne 10, 3, 0, 84), (77, .iload 5, 2, 0, 0), (79, .ifCond .ne 5, 3, 0, 84), (82, .iload_n 2, 1, 0, 0), (83, .ireturn, 1, 0, 0), (84, .iload 5, 2, 0, 0), (86, .istore_n 1, 1, 0, 0), (87, .iinc 2 1, 3, 1, 0), (90, .goto (-86), 3, 0, 4), (93, .iload_n 1, 1, 0, 0), (94, .ifCond .eq 13, 3, 0, 107), (97, .aload_n 0, 1, 0, 0), (98, .getfield 30, 3, 0, 0), (101, .invokevirtual 236, 3, 0, 0), (104, .goto 5, 3, 0, 109), (107, .bipush (-6), 2, -6, 0), (109, .ireturn, 1, 0, 0)]
theorem tkX5_faultOfPad : ∀ x ∈ tbX5_faultOfPad, tbB cX5_faultOfPad x = true := tb_all (by decide +kernel)
def fX5_faultOfPad_82 (c : Nat → Option Nat) (h : Hp) (l2 : Int32) : Rs := some (h, some (.inl l2))
set_option maxHeartbeats 4000000 in
set_option maxRecDepth 100000 in
theorem sX5_faultOfPad_82 (X : Cx) {h0 : Hp} (h : Hp) (l2 : Int32) : Gd X mX5_faultOfPad h0 (fX5_faultOfPad_82 X.2.2.2 h l2) h 82 [none, none, some (.inl l2), none, none, none] [] := by
  unfold fX5_faultOfPad_82
  refine q_run tkX5_faultOfPad 43 1 (pc' := 83) (L' := [none, none, some (.inl l2), none, none, none]) (st' := [.inl l2]) rfl ?_
  exact q_iret (tbm tkX5_faultOfPad (i := 44) rfl) rfl
def fX5_faultOfPad_84 (c : Nat → Option Nat) (k4 : Hp → Option Nat → Int32 → Int32 → Rs) (h : Hp) (l0 : Option Nat) (l2 : Int32) (l5 : Int32) : Rs := k4 h l0 l5 (l2 + (1 : Int32))
set_option maxHeartbeats 4000000 in
set_option maxRecDepth 100000 in
theorem sX5_faultOfPad_84 (X : Cx) {h0 : Hp} (k4 : Hp → Option Nat → Int32 → Int32 → Rs) (hk4 : ∀ (h : Hp) (l0 : Option Nat) (l1 : Int32) (l2 : Int32), Gd X mX5_faultOfPad h0 (k4 h l0 l1 l2) h 4 [some (.inr (.inr l0)), some (.inl l1), some (.inl l2), none, none, none] []) (h : Hp) (l0 : Option Nat) (l2 : Int32) (l5 : Int32) : Gd X mX5_faultOfPad h0 (fX5_faultOfPad_84 X.2.2.2 k4 h l0 l2 l5) h 84 [some (.inr (.inr l0)), none, some (.inl l2), none, none, some (.inl l5)] [] := by
  unfold fX5_faultOfPad_84
  refine q_run tkX5_faultOfPad 45 4 (pc' := 4) (L' := [some (.inr (.inr l0)), some (.inl l5), some (.inl (l2 + (1 : Int32))), none, none, some (.inl l5)]) (st' := []) rfl ?_
  refine q_le (L' := [some (.inr (.inr l0)), some (.inl l5), some (.inl (l2 + (1 : Int32))), none, none, none]) (lvLe_s (lvLe_s (lvLe_s (lvLe_n (lvLe_n (lvLe_n lvLe_0)))))) ?_
  exact hk4 h l0 l5 (l2 + (1 : Int32))
def fX5_faultOfPad_64 (c : Nat → Option Nat) (k4 : Hp → Option Nat → Int32 → Int32 → Rs) (h : Hp) (l0 : Option Nat) (l2 : Int32) (l4 : Int32) (s0 : Int32) : Rs := if l2 < (30 : Int32) then (if l4 = 0 then (if s0 = 0 then (fX5_faultOfPad_82 c h l2) else (fX5_faultOfPad_84 c k4 h l0 l2 s0)) else (fX5_faultOfPad_84 c k4 h l0 l2 s0)) else (fX5_faultOfPad_82 c h l2)
set_option maxHeartbeats 4000000 in
set_option maxRecDepth 100000 in
theorem sX5_faultOfPad_64 (X : Cx) {h0 : Hp} (k4 : Hp → Option Nat → Int32 → Int32 → Rs) (hk4 : ∀ (h : Hp) (l0 : Option Nat) (l1 : Int32) (l2 : Int32), Gd X mX5_faultOfPad h0 (k4 h l0 l1 l2) h 4 [some (.inr (.inr l0)), some (.inl l1), some (.inl l2), none, none, none] []) (h : Hp) (l0 : Option Nat) (l2 : Int32) (l4 : Int32) (s0 : Int32) : Gd X mX5_faultOfPad h0 (fX5_faultOfPad_64 X.2.2.2 k4 h l0 l2 l4 s0) h 64 [some (.inr (.inr l0)), none, some (.inl l2), none, some (.inl l4), none] [.inl s0] := by
  unfold fX5_faultOfPad_64
  refine q_run tkX5_faultOfPad 35 3 (pc' := 69) (L' := [some (.inr (.inr l0)), none, some (.inl l2), none, some (.inl l4), some (.inl s0)]) (st' := [.inl (30 : Int32), .inl l2]) rfl ?_
  refine q_icmp_ge (tbm tkX5_faultOfPad (i := 38) rfl) ?_ ?_
  · refine q_run tkX5_faultOfPad 39 1 (pc' := 74) (L' := [some (.inr (.inr l0)), none, some (.inl l2), none, some (.inl l4), some (.inl s0)]) (st' := [.inl l4]) rfl ?_
    refine q_if_ne (tbm tkX5_faultOfPad (i := 40) rfl) ?_ ?_
    · refine q_run tkX5_faultOfPad 41 1 (pc' := 79) (L' := [some (.inr (.inr l0)), none, some (.inl l2), none, some (.inl l4), some (.inl s0)]) (st' := [.inl s0]) rfl ?_
      refine q_if_ne (tbm tkX5_faultOfPad (i := 42) rfl) ?_ ?_
      · refine q_le (L' := [none, none, some (.inl l2), none, none, none]) (lvLe_n (lvLe_n (lvLe_s (lvLe_n (lvLe_n (lvLe_n lvLe_0)))))) ?_
        exact sX5_faultOfPad_82 X h l2
      · refine q_le (L' := [some (.inr (.inr l0)), none, some (.inl l2), none, none, some (.inl s0)]) (lvLe_s (lvLe_n (lvLe_s (lvLe_n (lvLe_n (lvLe_s lvLe_0)))))) ?_
        exact sX5_faultOfPad_84 X k4 hk4 h l0 l2 s0
    · refine q_le (L' := [some (.inr (.inr l0)), none, some (.inl l2), none, none, some (.inl s0)]) (lvLe_s (lvLe_n (lvLe_s (lvLe_n (lvLe_n (lvLe_s lvLe_0)))))) ?_
      exact sX5_faultOfPad_84 X k4 hk4 h l0 l2 s0
  · refine q_le (L' := [none, none, some (.inl l2), none, none, none]) (lvLe_n (lvLe_n (lvLe_s (lvLe_n (lvLe_n (lvLe_n lvLe_0)))))) ?_
    exact sX5_faultOfPad_82 X h l2
def fX5_faultOfPad_63 (c : Nat → Option Nat) (k4 : Hp → Option Nat → Int32 → Int32 → Rs) (h : Hp) (l0 : Option Nat) (l2 : Int32) (l4 : Int32) : Rs := fX5_faultOfPad_64 c k4 h l0 l2 l4 (0 : Int32)
set_option maxHeartbeats 4000000 in
set_option maxRecDepth 100000 in
theorem sX5_faultOfPad_63 (X : Cx) {h0 : Hp} (k4 : Hp → Option Nat → Int32 → Int32 → Rs) (hk4 : ∀ (h : Hp) (l0 : Option Nat) (l1 : Int32) (l2 : Int32), Gd X mX5_faultOfPad h0 (k4 h l0 l1 l2) h 4 [some (.inr (.inr l0)), some (.inl l1), some (.inl l2), none, none, none] []) (h : Hp) (l0 : Option Nat) (l2 : Int32) (l4 : Int32) : Gd X mX5_faultOfPad h0 (fX5_faultOfPad_63 X.2.2.2 k4 h l0 l2 l4) h 63 [some (.inr (.inr l0)), none, some (.inl l2), none, some (.inl l4), none] [] := by
  unfold fX5_faultOfPad_63
  refine q_run tkX5_faultOfPad 34 1 (pc' := 64) (L' := [some (.inr (.inr l0)), none, some (.inl l2), none, some (.inl l4), none]) (st' := [.inl (0 : Int32)]) rfl ?_
  exact sX5_faultOfPad_64 X k4 hk4 h l0 l2 l4 (0 : Int32)
def fX5_faultOfPad_41 (c : Nat → Option Nat) (k4 : Hp → Option Nat → Int32 → Int32 → Rs) (h : Hp) (l0 : Option Nat) (l1 : Int32) (l2 : Int32) (l3 : Int32) (s0 : Int32) : Rs := if l3 = (95 : Int32) then (if l1 = 0 then (if l2 < (29 : Int32) then (fX5_faultOfPad_64 c k4 h l0 l2 s0 (1 : Int32)) else (fX5_faultOfPad_63 c k4 h l0 l2 s0)) else (fX5_faultOfPad_63 c k4 h l0 l2 s0)) else (fX5_faultOfPad_63 c k4 h l0 l2 s0)
set_option maxHeartbeats 4000000 in
set_option maxRecDepth 100000 in
theorem sX5_faultOfPad_41 (X : Cx) {h0 : Hp} (k4 : Hp → Option Nat → Int32 → Int32 → Rs) (hk4 : ∀ (h : Hp) (l0 : Option Nat) (l1 : Int32) (l2 : Int32), Gd X mX5_faultOfPad h0 (k4 h l0 l1 l2) h 4 [some (.inr (.inr l0)), some (.inl l1), some (.inl l2), none, none, none] []) (h : Hp) (l0 : Option Nat) (l1 : Int32) (l2 : Int32) (l3 : Int32) (s0 : Int32) : Gd X mX5_faultOfPad h0 (fX5_faultOfPad_41 X.2.2.2 k4 h l0 l1 l2 l3 s0) h 41 [some (.inr (.inr l0)), some (.inl l1), some (.inl l2), some (.inl l3), none, none] [.inl s0] := by
  unfold fX5_faultOfPad_41
  refine q_run tkX5_faultOfPad 23 3 (pc' := 46) (L' := [some (.inr (.inr l0)), some (.inl l1), some (.inl l2), some (.inl l3), some (.inl s0), none]) (st' := [.inl (95 : Int32), .inl l3]) rfl ?_
  refine q_icmp_ne (tbm tkX5_faultOfPad (i := 26) rfl) ?_ ?_
  · refine q_run tkX5_faultOfPad 27 1 (pc' := 50) (L' := [some (.inr (.inr l0)), some (.inl l1), some (.inl l2), some (.inl l3), some (.inl s0), none]) (st' := [.inl l1]) rfl ?_
    refine q_if_ne (tbm tkX5_faultOfPad (i := 28) rfl) ?_ ?_
    · refine q_run tkX5_faultOfPad 29 2 (pc' := 56) (L' := [some (.inr (.inr l0)), some (.inl l1), some (.inl l2), some (.inl l3), some (.inl s0), none]) (st' := [.inl (29 : Int32), .inl l2]) rfl ?_
      refine q_icmp_ge (tbm tkX5_faultOfPad (i := 31) rfl) ?_ ?_
      · refine q_run tkX5_faultOfPad 32 2 (pc' := 64) (L' := [some (.inr (.inr l0)), some (.inl l1), some (.inl l2), some (.inl l3), some (.inl s0), none]) (st' := [.inl (1 : Int32)]) rfl ?_
        refine q_le (L' := [some (.inr (.inr l0)), none, some (.inl l2), none, some (.inl s0), none]) (lvLe_s (lvLe_n (lvLe_s (lvLe_n (lvLe_s (lvLe_n lvLe_0)))))) ?_
        exact sX5_faultOfPad_64 X k4 hk4 h l0 l2 s0 (1 : Int32)
      · refine q_le (L' := [some (.inr (.inr l0)), none, some (.inl l2), none, some (.inl s0), none]) (lvLe_s (lvLe_n (lvLe_s (lvLe_n (lvLe_s (lvLe_n lvLe_0)))))) ?_
        exact sX5_faultOfPad_63 X k4 hk4 h l0 l2 s0
    · refine q_le (L' := [some (.inr (.inr l0)), none, some (.inl l2), none, some (.inl s0), none]) (lvLe_s (lvLe_n (lvLe_s (lvLe_n (lvLe_s (lvLe_n lvLe_0)))))) ?_
      exact sX5_faultOfPad_63 X k4 hk4 h l0 l2 s0
  · refine q_le (L' := [some (.inr (.inr l0)), none, some (.inl l2), none, some (.inl s0), none]) (lvLe_s (lvLe_n (lvLe_s (lvLe_n (lvLe_s (lvLe_n lvLe_0)))))) ?_
    exact sX5_faultOfPad_63 X k4 hk4 h l0 l2 s0
def fX5_faultOfPad_40 (c : Nat → Option Nat) (k4 : Hp → Option Nat → Int32 → Int32 → Rs) (h : Hp) (l0 : Option Nat) (l1 : Int32) (l2 : Int32) (l3 : Int32) : Rs := fX5_faultOfPad_41 c k4 h l0 l1 l2 l3 (0 : Int32)
set_option maxHeartbeats 4000000 in
set_option maxRecDepth 100000 in
theorem sX5_faultOfPad_40 (X : Cx) {h0 : Hp} (k4 : Hp → Option Nat → Int32 → Int32 → Rs) (hk4 : ∀ (h : Hp) (l0 : Option Nat) (l1 : Int32) (l2 : Int32), Gd X mX5_faultOfPad h0 (k4 h l0 l1 l2) h 4 [some (.inr (.inr l0)), some (.inl l1), some (.inl l2), none, none, none] []) (h : Hp) (l0 : Option Nat) (l1 : Int32) (l2 : Int32) (l3 : Int32) : Gd X mX5_faultOfPad h0 (fX5_faultOfPad_40 X.2.2.2 k4 h l0 l1 l2 l3) h 40 [some (.inr (.inr l0)), some (.inl l1), some (.inl l2), some (.inl l3), none, none] [] := by
  unfold fX5_faultOfPad_40
  refine q_run tkX5_faultOfPad 22 1 (pc' := 41) (L' := [some (.inr (.inr l0)), some (.inl l1), some (.inl l2), some (.inl l3), none, none]) (st' := [.inl (0 : Int32)]) rfl ?_
  exact sX5_faultOfPad_41 X k4 hk4 h l0 l1 l2 l3 (0 : Int32)
def fX5_faultOfPad_109 (c : Nat → Option Nat) (h : Hp) (s0 : Int32) : Rs := some (h, some (.inl s0))
set_option maxHeartbeats 4000000 in
set_option maxRecDepth 100000 in
theorem sX5_faultOfPad_109 (X : Cx) {h0 : Hp} (h : Hp) (s0 : Int32) : Gd X mX5_faultOfPad h0 (fX5_faultOfPad_109 X.2.2.2 h s0) h 109 [none, none, none, none, none, none] [.inl s0] := by
  unfold fX5_faultOfPad_109
  exact q_iret (tbm tkX5_faultOfPad (i := 56) rfl) rfl
def fX5_faultOfPad_4 (c : Nat → Option Nat) : Nat → Hp → Option Nat → Int32 → Int32 → Rs
  | 0, _, _, _, _ => none
  | n + 1, h, l0, l1, l2 => rdR h l0 7 3 (fun r1 => ck h r1 1 (cc (fJ4_length_8abf5 c h r1) (kI fun h2 x3 => if l2 < x3 then (rdR h2 l0 7 3 (fun r4 => ck h2 r4 1 (cc (fJ4_charAt_5068e c h2 r4 l2) (kI fun h5 x6 => if x6 < (97 : Int32) then (fX5_faultOfPad_40 c (fX5_faultOfPad_4 c n) h5 l0 l1 l2 x6) else (if (122 : Int32) < x6 then (fX5_faultOfPad_40 c (fX5_faultOfPad_4 c n) h5 l0 l1 l2 x6) else (fX5_faultOfPad_41 c (fX5_faultOfPad_4 c n) h5 l0 l1 l2 x6 (1 : Int32))))))) else (if l1 = 0 then (fX5_faultOfPad_109 c h2 (-6 : Int32)) else (rdR h2 l0 7 3 (fun r7 => ck h2 r7 1 (cc (fJ4_length_8abf5 c h2 r7) (kI fun h8 x9 => fX5_faultOfPad_109 c h8 x9))))))))
set_option maxHeartbeats 4000000 in
set_option maxRecDepth 100000 in
theorem sX5_faultOfPad_4 (X : Cx) {h0 : Hp} : ∀ (n : Nat) (h : Hp) (l0 : Option Nat) (l1 : Int32) (l2 : Int32), Gd X mX5_faultOfPad h0 (fX5_faultOfPad_4 X.2.2.2 n h l0 l1 l2) h 4 [some (.inr (.inr l0)), some (.inl l1), some (.inl l2), none, none, none] [] := by
  intro n
  induction n with
  | zero => intros; exact gd_none
  | succ n ih =>
    intro h l0 l1 l2
    unfold fX5_faultOfPad_4
    refine q_run tkX5_faultOfPad 4 2 (pc' := 6) (L' := [some (.inr (.inr l0)), some (.inl l1), some (.inl l2), none, none, none]) (st' := [.inr (.inr l0), .inl l2]) rfl ?_
    refine q_rdR RX5 TX5 5 (tbm tkX5_faultOfPad (i := 6) rfl) rfl (Nat.le_of_ble_eq_true rfl) wd_251 (fun r1 => ?_)
    refine q_cv (r := r1) (ci := 1) (n := 0) (as := []) (st := [.inl l2]) TJ4 4 (soJ4_length_8abf5 X h r1) (tbm tkX5_faultOfPad (i := 7) rfl) rfl rfl ceJ4_length_8abf5 wd_323 wd_324 wd_322 rfl (Nat.le_of_ble_eq_true rfl) (kI_gd (fun h2 x3 => ?_))
    refine q_icmp_ge (tbm tkX5_faultOfPad (i := 8) rfl) ?_ ?_
    · refine q_run tkX5_faultOfPad 9 1 (pc' := 16) (L' := [some (.inr (.inr l0)), some (.inl l1), some (.inl l2), none, none, none]) (st' := [.inr (.inr l0)]) rfl ?_
      refine q_rdR RX5 TX5 5 (tbm tkX5_faultOfPad (i := 10) rfl) rfl (Nat.le_of_ble_eq_true rfl) wd_251 (fun r4 => ?_)
      refine q_run tkX5_faultOfPad 11 1 (pc' := 20) (L' := [some (.inr (.inr l0)), some (.inl l1), some (.inl l2), none, none, none]) (st' := [.inl l2, .inr (.inr r4)]) rfl ?_
      refine q_cv (r := r4) (ci := 1) (n := 1) (as := [.inl l2]) (st := []) TJ4 4 (soJ4_charAt_5068e X h2 r4 l2) (tbm tkX5_faultOfPad (i := 12) rfl) rfl rfl ceJ4_charAt_5068e wd_716 wd_717 wd_715 rfl (Nat.le_of_ble_eq_true rfl) (kI_gd (fun h5 x6 => ?_))
      refine q_run tkX5_faultOfPad 13 3 (pc' := 27) (L' := [some (.inr (.inr l0)), some (.inl l1), some (.inl l2), some (.inl x6), none, none]) (st' := [.inl (97 : Int32), .inl x6]) rfl ?_
      refine q_icmp_lt (tbm tkX5_faultOfPad (i := 16) rfl) ?_ ?_
      · exact sX5_faultOfPad_40 X (fX5_faultOfPad_4 X.2.2.2 n) ih h5 l0 l1 l2 x6
      · refine q_run tkX5_faultOfPad 17 2 (pc' := 33) (L' := [some (.inr (.inr l0)), some (.inl l1), some (.inl l2), some (.inl x6), none, none]) (st' := [.inl (122 : Int32), .inl x6]) rfl ?_
        refine q_icmp_gt (tbm tkX5_faultOfPad (i := 19) rfl) ?_ ?_
        · exact sX5_faultOfPad_40 X (fX5_faultOfPad_4 X.2.2.2 n) ih h5 l0 l1 l2 x6
        · refine q_run tkX5_faultOfPad 20 2 (pc' := 41) (L' := [some (.inr (.inr l0)), some (.inl l1), some (.inl l2), some (.inl x6), none, none]) (st' := [.inl (1 : Int32)]) rfl ?_
          exact sX5_faultOfPad_41 X (fX5_faultOfPad_4 X.2.2.2 n) ih h5 l0 l1 l2 x6 (1 : Int32)
    · refine q_run tkX5_faultOfPad 49 1 (pc' := 94) (L' := [some (.inr (.inr l0)), some (.inl l1), some (.inl l2), none, none, none]) (st' := [.inl l1]) rfl ?_
      refine q_if_eq (tbm tkX5_faultOfPad (i := 50) rfl) ?_ ?_
      · refine q_run tkX5_faultOfPad 55 1 (pc' := 109) (L' := [some (.inr (.inr l0)), some (.inl l1), some (.inl l2), none, none, none]) (st' := [.inl (-6 : Int32)]) rfl ?_
        refine q_le (L' := [none, none, none, none, none, none]) (lvLe_n (lvLe_n (lvLe_n (lvLe_n (lvLe_n (lvLe_n lvLe_0)))))) ?_
        exact sX5_faultOfPad_109 X h2 (-6 : Int32)
      · refine q_run tkX5_faultOfPad 51 1 (pc' := 98) (L' := [some (.inr (.inr l0)), some (.inl l1), some (.inl l2), none, none, none]) (st' := [.inr (.inr l0)]) rfl ?_
        refine q_rdR RX5 TX5 5 (tbm tkX5_faultOfPad (i := 52) rfl) rfl (Nat.le_of_ble_eq_true rfl) wd_251 (fun r7 => ?_)
        refine q_cv (r := r7) (ci := 1) (n := 0) (as := []) (st := []) TJ4 4 (soJ4_length_8abf5 X h2 r7) (tbm tkX5_faultOfPad (i := 53) rfl) rfl rfl ceJ4_length_8abf5 wd_323 wd_324 wd_322 rfl (Nat.le_of_ble_eq_true rfl) (kI_gd (fun h8 x9 => ?_))
        refine q_run tkX5_faultOfPad 54 1 (pc' := 109) (L' := [some (.inr (.inr l0)), some (.inl l1), some (.inl l2), none, none, none]) (st' := [.inl x9]) rfl ?_
        refine q_le (L' := [none, none, none, none, none, none]) (lvLe_n (lvLe_n (lvLe_n (lvLe_n (lvLe_n (lvLe_n lvLe_0)))))) ?_
        exact sX5_faultOfPad_109 X h8 x9
def fX5_faultOfPad (c : Nat → Option Nat) (h : Hp) (a0 : Option Nat) : Rs := fX5_faultOfPad_4 c FU h a0 (1 : Int32) (0 : Int32)
set_option maxHeartbeats 4000000 in
set_option maxRecDepth 100000 in
theorem soX5_faultOfPad (X : Cx) (h : Hp) (a0 : Option Nat) : SO X mX5_faultOfPad [.inr (.inr a0)] h (fX5_faultOfPad X.2.2.2 h a0) := by
  refine so_of (by decide +kernel) (Nat.le_of_ble_eq_true rfl) ?_
  show Gd X mX5_faultOfPad h (fX5_faultOfPad X.2.2.2 h a0) h 0 [some (.inr (.inr a0)), none, none, none, none, none] []
  unfold fX5_faultOfPad
  refine q_run tkX5_faultOfPad 0 4 (pc' := 4) (L' := [some (.inr (.inr a0)), some (.inl (1 : Int32)), some (.inl (0 : Int32)), none, none, none]) (st' := []) rfl ?_
  exact sX5_faultOfPad_4 X FU h a0 (1 : Int32) (0 : Int32)
theorem ceX5_faultOfPad : Ce mX5_faultOfPad 0 := ⟨wd_18, wd_714, by decide +kernel, by decide +kernel, by decide +kernel⟩
/-- ReceiptRolls.ring -/
abbrev mX5_ring : MI := (yX5_ring, cX5_ring, 7, some .int, 6)
def tbX5_ring : List TE := [(0, .aload_n 0, 1, 0, 0), (1, .getfield 10, 3, 0, 0), (4, .iload_n 1, 1, 0, 0), (5, .invokevirtual 56, 3, 0, 0), (8, .astore 5, 2, 0, 0), (10, .aload 5, 2, 0, 0), (12, .ifnonnull 5, 3, 0, 17), (15, .iconst (-1), 1, -1, 0), (16, .ireturn, 1, 0, 0), (17, .aload_n 0, 1, 0, 0), (18, .invokevirtual 60, 3, 0, 0), (21, .bipush (-6), 2, -6, 0), (23, .if_icmp .eq 6, 3, 0, 29), (26, .bipush (-3), 2, -3, 0), (28, .ireturn, 1, 0, 0), (29, .iload_n 2, 1, 0, 0), (30, .iconst 1, 1, 1, 0), (31, .if_icmp .lt 35, 3, 0, 66), (34, .iload_n 2, 1, 0, 0), (35, .bipush 99, 2, 99, 0), (37, .if_icmp .gt 29, 3, 0, 66), (40, .iload_n 3, 1, 0, 0), (41, .iconst 1, 1, 1, 0), (42, .if_icmp .lt 24, 3, 0, 66), (45, .iload_n 3, 1, 0, 0), (46, .sipush 9999, 3, 9999, 0), (49, .if_icmp .gt 17, 3, 0, 66), (52, .iload 4, 2, 0, 0), (54, .ifCond .lt 12, 3, 0, 66), (57, .iload 4, 2, 0, 0), (59, .getstatic 64, 3, 0, 0), (62, .arraylength, 1, 0, 0), (63, .if_icmp .lt 6, 3, 0, 69), (66, .bipush (-2), 2, -2, 0), (68, .ireturn, 1, 0, 0), (69, .aload 5, 2, 0, 0), (71, .getfield 67, 3, 0, 0), (74, .bipush 12, 2, 12, 0), (76, .if_icmp .lt 6, 3, 0, 82), (79, .bipush (-4), 2, -4, 0), (81, .ireturn, 1, 0, 0), (82, .aload_n 0, 1, 0, 0), (83, .getfield 19, 3, 0, 0), (86, .aload_n 0, 1, 0, 0), (87, .getfield 10, 3, 0, 0), (90, .invokevirtual 48, 3, 0, 0), (93, .aload 5, 2, 0, 0), (95, .getfield 67, 3, 0, 0), (98, .istore 6, 2, 0, 0), (100, .aload 5, 2, 0, 0), (102, .new 73, 3, 0, 0), (105, .dup, 1, 0, 0), (106, .aload_n 0, 1, 0, 0), (107, .getfield 30, 3, 0, 0), (110, .invokevirtual 75, 3, 0, 0), (113, .iload_n 2, 1, 0, 0), (114, .iload_n 3, 1, 0, 0), (115, .iload 4, 2, 0, 0), (117, .invokespecial 79, 3, 0, 0), (120, .invokevirtual 82, 3, 0, 0), (123, .aload_n 0, 1, 0, 0), (124, .getfield 30, 3, 0, 0), (127, .iconst 0, 1, 0, 0), (128, .invokevirtual 86, 3, 0, 0), (131, .iload 6, 2, 0, 0), (133, .ireturn, 1, 0, 0)]
theorem tkX5_ring : ∀ x ∈ tbX5_ring, tbB cX5_ring x = true := tb_all (by decide +kernel)
def fX5_ring_66 (c : Nat → Option Nat) (h : Hp) : Rs := some (h, some (.inl (-2 : Int32)))
set_option maxHeartbeats 4000000 in
set_option maxRecDepth 100000 in
theorem sX5_ring_66 (X : Cx) {h0 : Hp} (h : Hp) : Gd X mX5_ring h0 (fX5_ring_66 X.2.2.2 h) h 66 [none, none, none, none, none, none, none] [] := by
  unfold fX5_ring_66
  refine q_run tkX5_ring 33 1 (pc' := 68) (L' := [none, none, none, none, none, none, none]) (st' := [.inl (-2 : Int32)]) rfl ?_
  exact q_iret (tbm tkX5_ring (i := 34) rfl) rfl
def fX5_ring (c : Nat → Option Nat) (h : Hp) (a0 : Option Nat) (a1 : Int32) (a2 : Int32) (a3 : Int32) (a4 : Int32) : Rs := rdR h a0 7 0 (fun r1 => ck h r1 6 (cc (fX4_openAt c h r1 a1) (kR fun h2 r3 => ifN r3 (some (h2, some (.inl (-1 : Int32)))) (ck h2 a0 7 (cc (fX5_faultOfPad c h2 a0) (kI fun h4 x5 => if x5 = (-6 : Int32) then (if a2 < (1 : Int32) then (fX5_ring_66 c h4) else (if (99 : Int32) < a2 then (fX5_ring_66 c h4) else (if a3 < (1 : Int32) then (fX5_ring_66 c h4) else (if (9999 : Int32) < a3 then (fX5_ring_66 c h4) else (if a4 < 0 then (fX5_ring_66 c h4) else (lenA h4 (c 2) (fun x6 => if a4 < x6 then (rdI h4 r3 4 9 (fun x7 => if x7 < (12 : Int32) then (rdR h4 a0 7 1 (fun r8 => rdR h4 a0 7 0 (fun r9 => ck h4 r8 2 (cc (fX0_remember c h4 r8 r9) (kV fun h10 => rdI h10 r3 4 9 (fun x11 => nwO h10 3 (fun h12 r13 => rdR h12 a0 7 3 (fun r14 => ck h12 r14 1 (cc (fJ4_toString_0e30d c h12 r14) (kR fun h15 r16 => dn r13 (cc (fX1_init c h15 r13 r16 a2 a3 a4) (kV fun h17 => ck h17 r3 4 (cc (fX2_addItem c h17 r3 r13) (kV fun h18 => rdR h18 a0 7 3 (fun r19 => ck h18 r19 1 (cc (fJ4_setLength_d00df c h18 r19 (0 : Int32)) (kV fun h20 => some (h20, some (.inl x11))))))))))))))))))) else (some (h4, some (.inl (-4 : Int32)))))) else (fX5_ring_66 c h4)))))))) else (some (h4, some (.inl (-3 : Int32))))))))))
set_option maxHeartbeats 4000000 in
set_option maxRecDepth 100000 in
theorem soX5_ring (X : Cx) (h : Hp) (a0 : Option Nat) (a1 : Int32) (a2 : Int32) (a3 : Int32) (a4 : Int32) : SO X mX5_ring [.inr (.inr a0), .inl a1, .inl a2, .inl a3, .inl a4] h (fX5_ring X.2.2.2 h a0 a1 a2 a3 a4) := by
  refine so_of (by decide +kernel) (Nat.le_of_ble_eq_true rfl) ?_
  show Gd X mX5_ring h (fX5_ring X.2.2.2 h a0 a1 a2 a3 a4) h 0 [some (.inr (.inr a0)), some (.inl a1), some (.inl a2), some (.inl a3), some (.inl a4), none, none] []
  unfold fX5_ring
  refine q_run tkX5_ring 0 1 (pc' := 1) (L' := [some (.inr (.inr a0)), some (.inl a1), some (.inl a2), some (.inl a3), some (.inl a4), none, none]) (st' := [.inr (.inr a0)]) rfl ?_
  refine q_rdR RX5 TX5 5 (tbm tkX5_ring (i := 1) rfl) rfl (Nat.le_of_ble_eq_true rfl) wd_248 (fun r1 => ?_)
  refine q_run tkX5_ring 2 1 (pc' := 5) (L' := [some (.inr (.inr a0)), some (.inl a1), some (.inl a2), some (.inl a3), some (.inl a4), none, none]) (st' := [.inl a1, .inr (.inr r1)]) rfl ?_
  refine q_cv (r := r1) (ci := 6) (n := 1) (as := [.inl a1]) (st := []) TX4 13 (soX4_openAt X h r1 a1) (tbm tkX5_ring (i := 3) rfl) rfl rfl ceX4_openAt wd_361 wd_362 wd_360 rfl (Nat.le_of_ble_eq_true rfl) (kR_gd (fun h2 r3 => ?_))
  refine q_run tkX5_ring 4 2 (pc' := 12) (L' := [some (.inr (.inr a0)), some (.inl a1), some (.inl a2), some (.inl a3), some (.inl a4), some (.inr (.inr r3)), none]) (st' := [.inr (.inr r3)]) rfl ?_
  refine q_ifnonnull (tbm tkX5_ring (i := 6) rfl) ?_ ?_
  · refine q_run tkX5_ring 7 1 (pc' := 16) (L' := [some (.inr (.inr a0)), some (.inl a1), some (.inl a2), some (.inl a3), some (.inl a4), some (.inr (.inr r3)), none]) (st' := [.inl (-1 : Int32)]) rfl ?_
    exact q_iret (tbm tkX5_ring (i := 8) rfl) rfl
  · refine q_run tkX5_ring 9 1 (pc' := 18) (L' := [some (.inr (.inr a0)), some (.inl a1), some (.inl a2), some (.inl a3), some (.inl a4), some (.inr (.inr r3)), none]) (st' := [.inr (.inr a0)]) rfl ?_
    refine q_cv (r := a0) (ci := 7) (n := 0) (as := []) (st := []) TX5 5 (soX5_faultOfPad X h2 a0) (tbm tkX5_ring (i := 10) rfl) rfl rfl ceX5_faultOfPad wd_713 wd_16 wd_711 rfl (Nat.le_of_ble_eq_true rfl) (kI_gd (fun h4 x5 => ?_))
    refine q_run tkX5_ring 11 1 (pc' := 23) (L' := [some (.inr (.inr a0)), some (.inl a1), some (.inl a2), some (.inl a3), some (.inl a4), some (.inr (.inr r3)), none]) (st' := [.inl (-6 : Int32), .inl x5]) rfl ?_
    refine q_icmp_eq (tbm tkX5_ring (i := 12) rfl) ?_ ?_
    · refine q_run tkX5_ring 15 2 (pc' := 31) (L' := [some (.inr (.inr a0)), some (.inl a1), some (.inl a2), some (.inl a3), some (.inl a4), some (.inr (.inr r3)), none]) (st' := [.inl (1 : Int32), .inl a2]) rfl ?_
      refine q_icmp_lt (tbm tkX5_ring (i := 17) rfl) ?_ ?_
      · refine q_le (L' := [none, none, none, none, none, none, none]) (lvLe_n (lvLe_n (lvLe_n (lvLe_n (lvLe_n (lvLe_n (lvLe_n lvLe_0))))))) ?_
        exact sX5_ring_66 X h4
      · refine q_run tkX5_ring 18 2 (pc' := 37) (L' := [some (.inr (.inr a0)), some (.inl a1), some (.inl a2), some (.inl a3), some (.inl a4), some (.inr (.inr r3)), none]) (st' := [.inl (99 : Int32), .inl a2]) rfl ?_
        refine q_icmp_gt (tbm tkX5_ring (i := 20) rfl) ?_ ?_
        · refine q_le (L' := [none, none, none, none, none, none, none]) (lvLe_n (lvLe_n (lvLe_n (lvLe_n (lvLe_n (lvLe_n (lvLe_n lvLe_0))))))) ?_
          exact sX5_ring_66 X h4
        · refine q_run tkX5_ring 21 2 (pc' := 42) (L' := [some (.inr (.inr a0)), some (.inl a1), some (.inl a2), some (.inl a3), some (.inl a4), some (.inr (.inr r3)), none]) (st' := [.inl (1 : Int32), .inl a3]) rfl ?_
          refine q_icmp_lt (tbm tkX5_ring (i := 23) rfl) ?_ ?_
          · refine q_le (L' := [none, none, none, none, none, none, none]) (lvLe_n (lvLe_n (lvLe_n (lvLe_n (lvLe_n (lvLe_n (lvLe_n lvLe_0))))))) ?_
            exact sX5_ring_66 X h4
          · refine q_run tkX5_ring 24 2 (pc' := 49) (L' := [some (.inr (.inr a0)), some (.inl a1), some (.inl a2), some (.inl a3), some (.inl a4), some (.inr (.inr r3)), none]) (st' := [.inl (9999 : Int32), .inl a3]) rfl ?_
            refine q_icmp_gt (tbm tkX5_ring (i := 26) rfl) ?_ ?_
            · refine q_le (L' := [none, none, none, none, none, none, none]) (lvLe_n (lvLe_n (lvLe_n (lvLe_n (lvLe_n (lvLe_n (lvLe_n lvLe_0))))))) ?_
              exact sX5_ring_66 X h4
            · refine q_run tkX5_ring 27 1 (pc' := 54) (L' := [some (.inr (.inr a0)), some (.inl a1), some (.inl a2), some (.inl a3), some (.inl a4), some (.inr (.inr r3)), none]) (st' := [.inl a4]) rfl ?_
              refine q_if_lt (tbm tkX5_ring (i := 28) rfl) ?_ ?_
              · refine q_le (L' := [none, none, none, none, none, none, none]) (lvLe_n (lvLe_n (lvLe_n (lvLe_n (lvLe_n (lvLe_n (lvLe_n lvLe_0))))))) ?_
                exact sX5_ring_66 X h4
              · refine q_run tkX5_ring 29 1 (pc' := 59) (L' := [some (.inr (.inr a0)), some (.inl a1), some (.inl a2), some (.inl a3), some (.inl a4), some (.inr (.inr r3)), none]) (st' := [.inl a4]) rfl ?_
                refine q_gs (w := .inr (.inr (X.2.2.2 2))) (tbm tkX5_ring (i := 30) rfl) e_z2 wd_725 ?_
                refine q_alen (tbm tkX5_ring (i := 31) rfl) (fun x6 => ?_)
                refine q_icmp_lt (tbm tkX5_ring (i := 32) rfl) ?_ ?_
                · refine q_run tkX5_ring 35 1 (pc' := 71) (L' := [some (.inr (.inr a0)), some (.inl a1), some (.inl a2), some (.inl a3), some (.inl a4), some (.inr (.inr r3)), none]) (st' := [.inr (.inr r3)]) rfl ?_
                  refine q_rdI RX2 TX2 14 (tbm tkX5_ring (i := 36) rfl) rfl (Nat.le_of_ble_eq_true rfl) wd_82 (fun x7 => ?_)
                  refine q_run tkX5_ring 37 1 (pc' := 76) (L' := [some (.inr (.inr a0)), some (.inl a1), some (.inl a2), some (.inl a3), some (.inl a4), some (.inr (.inr r3)), none]) (st' := [.inl (12 : Int32), .inl x7]) rfl ?_
                  refine q_icmp_lt (tbm tkX5_ring (i := 38) rfl) ?_ ?_
                  · refine q_run tkX5_ring 41 1 (pc' := 83) (L' := [some (.inr (.inr a0)), some (.inl a1), some (.inl a2), some (.inl a3), some (.inl a4), some (.inr (.inr r3)), none]) (st' := [.inr (.inr a0)]) rfl ?_
                    refine q_rdR RX5 TX5 5 (tbm tkX5_ring (i := 42) rfl) rfl (Nat.le_of_ble_eq_true rfl) wd_249 (fun r8 => ?_)
                    refine q_run tkX5_ring 43 1 (pc' := 87) (L' := [some (.inr (.inr a0)), some (.inl a1), some (.inl a2), some (.inl a3), some (.inl a4), some (.inr (.inr r3)), none]) (st' := [.inr (.inr a0), .inr (.inr r8)]) rfl ?_
                    refine q_rdR RX5 TX5 5 (tbm tkX5_ring (i := 44) rfl) rfl (Nat.le_of_ble_eq_true rfl) wd_248 (fun r9 => ?_)
                    refine q_cv (r := r8) (ci := 2) (n := 1) (as := [.inr (.inr r9)]) (st := []) TX0 2 (soX0_remember X h4 r8 r9) (tbm tkX5_ring (i := 45) rfl) rfl rfl ceX0_remember wd_508 wd_509 wd_507 rfl (Nat.le_of_ble_eq_true rfl) (kV_gd (fun h10 => ?_))
                    refine q_run tkX5_ring 46 1 (pc' := 95) (L' := [some (.inr (.inr a0)), some (.inl a1), some (.inl a2), some (.inl a3), some (.inl a4), some (.inr (.inr r3)), none]) (st' := [.inr (.inr r3)]) rfl ?_
                    refine q_rdI RX2 TX2 14 (tbm tkX5_ring (i := 47) rfl) rfl (Nat.le_of_ble_eq_true rfl) wd_82 (fun x11 => ?_)
                    refine q_run tkX5_ring 48 2 (pc' := 102) (L' := [some (.inr (.inr a0)), some (.inl a1), some (.inl a2), some (.inl a3), some (.inl a4), some (.inr (.inr r3)), some (.inl x11)]) (st' := [.inr (.inr r3)]) rfl ?_
                    refine q_new RX1 TX1 4 (tbm tkX5_ring (i := 50) rfl) (Nat.le_of_ble_eq_true rfl) rfl ⟨wd_726, wd_727, wd_34⟩ (fun h12 r13 => ?_)
                    refine q_run tkX5_ring 51 2 (pc' := 107) (L' := [some (.inr (.inr a0)), some (.inl a1), some (.inl a2), some (.inl a3), some (.inl a4), some (.inr (.inr r3)), some (.inl x11)]) (st' := [.inr (.inr a0), .inr (.inr r13), .inr (.inr r13), .inr (.inr r3)]) rfl ?_
                    refine q_rdR RX5 TX5 5 (tbm tkX5_ring (i := 53) rfl) rfl (Nat.le_of_ble_eq_true rfl) wd_251 (fun r14 => ?_)
                    refine q_cv (r := r14) (ci := 1) (n := 0) (as := []) (st := [.inr (.inr r13), .inr (.inr r13), .inr (.inr r3)]) TJ4 4 (soJ4_toString_0e30d X h12 r14) (tbm tkX5_ring (i := 54) rfl) rfl rfl ceJ4_toString_0e30d wd_729 wd_730 wd_728 rfl (Nat.le_of_ble_eq_true rfl) (kR_gd (fun h15 r16 => ?_))
                    refine q_run tkX5_ring 55 3 (pc' := 117) (L' := [some (.inr (.inr a0)), some (.inl a1), some (.inl a2), some (.inl a3), some (.inl a4), some (.inr (.inr r3)), some (.inl x11)]) (st' := [.inl a4, .inl a3, .inl a2, .inr (.inr r16), .inr (.inr r13), .inr (.inr r13), .inr (.inr r3)]) rfl ?_
                    refine q_ci (r := r13) (n := 4) (as := [.inr (.inr r16), .inl a2, .inl a3, .inl a4]) (st := [.inr (.inr r13), .inr (.inr r3)]) (soX1_init X h15 r13 r16 a2 a3 a4) (tbm tkX5_ring (i := 58) rfl) rfl ceX1_init wd_779 rfl rfl wd_778 rfl (Nat.le_of_ble_eq_true rfl) (kV_gd (fun h17 => ?_))
                    refine q_cv (r := r3) (ci := 4) (n := 1) (as := [.inr (.inr r13)]) (st := []) TX2 14 (soX2_addItem X h17 r3 r13) (tbm tkX5_ring (i := 59) rfl) rfl rfl ceX2_addItem wd_799 wd_800 wd_798 rfl (Nat.le_of_ble_eq_true rfl) (kV_gd (fun h18 => ?_))
                    refine q_run tkX5_ring 60 1 (pc' := 124) (L' := [some (.inr (.inr a0)), some (.inl a1), some (.inl a2), some (.inl a3), some (.inl a4), some (.inr (.inr r3)), some (.inl x11)]) (st' := [.inr (.inr a0)]) rfl ?_
                    refine q_rdR RX5 TX5 5 (tbm tkX5_ring (i := 61) rfl) rfl (Nat.le_of_ble_eq_true rfl) wd_251 (fun r19 => ?_)
                    refine q_run tkX5_ring 62 1 (pc' := 128) (L' := [some (.inr (.inr a0)), some (.inl a1), some (.inl a2), some (.inl a3), some (.inl a4), some (.inr (.inr r3)), some (.inl x11)]) (st' := [.inl (0 : Int32), .inr (.inr r19)]) rfl ?_
                    refine q_cv (r := r19) (ci := 1) (n := 1) (as := [.inl (0 : Int32)]) (st := []) TJ4 4 (soJ4_setLength_d00df X h18 r19 (0 : Int32)) (tbm tkX5_ring (i := 63) rfl) rfl rfl ceJ4_setLength_d00df wd_603 wd_604 wd_602 rfl (Nat.le_of_ble_eq_true rfl) (kV_gd (fun h20 => ?_))
                    refine q_run tkX5_ring 64 1 (pc' := 133) (L' := [some (.inr (.inr a0)), some (.inl a1), some (.inl a2), some (.inl a3), some (.inl a4), some (.inr (.inr r3)), some (.inl x11)]) (st' := [.inl x11]) rfl ?_
                    exact q_iret (tbm tkX5_ring (i := 65) rfl) rfl
                  · refine q_run tkX5_ring 39 1 (pc' := 81) (L' := [some (.inr (.inr a0)), some (.inl a1), some (.inl a2), some (.inl a3), some (.inl a4), some (.inr (.inr r3)), none]) (st' := [.inl (-4 : Int32)]) rfl ?_
                    exact q_iret (tbm tkX5_ring (i := 40) rfl) rfl
                · refine q_le (L' := [none, none, none, none, none, none, none]) (lvLe_n (lvLe_n (lvLe_n (lvLe_n (lvLe_n (lvLe_n (lvLe_n lvLe_0))))))) ?_
                  exact sX5_ring_66 X h4
    · refine q_run tkX5_ring 13 1 (pc' := 28) (L' := [some (.inr (.inr a0)), some (.inl a1), some (.inl a2), some (.inl a3), some (.inl a4), some (.inr (.inr r3)), none]) (st' := [.inl (-3 : Int32)]) rfl ?_
      exact q_iret (tbm tkX5_ring (i := 14) rfl) rfl
theorem ceX5_ring : Ce mX5_ring 4 := ⟨wd_18, wd_710, by decide +kernel, by decide +kernel, by decide +kernel⟩
/-- ReceiptRolls.undo -/
abbrev mX5_undo : MI := (yX5_undo, cX5_undo, 1, some .int, 4)
def tbX5_undo : List TE := [(0, .aload_n 0, 1, 0, 0), (1, .getfield 19, 3, 0, 0), (4, .getfield 237, 3, 0, 0), (7, .ifCond .ne 6, 3, 0, 13), (10, .bipush (-5), 2, -5, 0), (12, .ireturn, 1, 0, 0), (13, .aload_n 0, 1, 0, 0), (14, .getfield 19, 3, 0, 0), (17, .aload_n 0, 1, 0, 0), (18, .getfield 10, 3, 0, 0), (21, .invokevirtual 283, 3, 0, 0), (24, .aload_n 0, 1, 0, 0), (25, .getfield 19, 3, 0, 0), (28, .getfield 237, 3, 0, 0), (31, .ireturn, 1, 0, 0)]
theorem tkX5_undo : ∀ x ∈ tbX5_undo, tbB cX5_undo x = true := tb_all (by decide +kernel)
def fX5_undo (c : Nat → Option Nat) (h : Hp) (a0 : Option Nat) : Rs := rdR h a0 7 1 (fun r1 => rdI h r1 2 0 (fun x2 => if x2 = 0 then (some (h, some (.inl (-5 : Int32)))) else (rdR h a0 7 1 (fun r3 => rdR h a0 7 0 (fun r4 => ck h r3 2 (cc (fX0_giveBack c h r3 r4) (kV fun h5 => rdR h5 a0 7 1 (fun r6 => rdI h5 r6 2 0 (fun x7 => some (h5, some (.inl x7)))))))))))
set_option maxHeartbeats 4000000 in
set_option maxRecDepth 100000 in
theorem soX5_undo (X : Cx) (h : Hp) (a0 : Option Nat) : SO X mX5_undo [.inr (.inr a0)] h (fX5_undo X.2.2.2 h a0) := by
  refine so_of (by decide +kernel) (Nat.le_of_ble_eq_true rfl) ?_
  show Gd X mX5_undo h (fX5_undo X.2.2.2 h a0) h 0 [some (.inr (.inr a0))] []
  unfold fX5_undo
  refine q_run tkX5_undo 0 1 (pc' := 1) (L' := [some (.inr (.inr a0))]) (st' := [.inr (.inr a0)]) rfl ?_
  refine q_rdR RX5 TX5 5 (tbm tkX5_undo (i := 1) rfl) rfl (Nat.le_of_ble_eq_true rfl) wd_249 (fun r1 => ?_)
  refine q_rdI RX0 TX0 2 (tbm tkX5_undo (i := 2) rfl) rfl (Nat.le_of_ble_eq_true rfl) wd_179 (fun x2 => ?_)
  refine q_if_ne (tbm tkX5_undo (i := 3) rfl) ?_ ?_
  · refine q_run tkX5_undo 4 1 (pc' := 12) (L' := [some (.inr (.inr a0))]) (st' := [.inl (-5 : Int32)]) rfl ?_
    exact q_iret (tbm tkX5_undo (i := 5) rfl) rfl
  · refine q_run tkX5_undo 6 1 (pc' := 14) (L' := [some (.inr (.inr a0))]) (st' := [.inr (.inr a0)]) rfl ?_
    refine q_rdR RX5 TX5 5 (tbm tkX5_undo (i := 7) rfl) rfl (Nat.le_of_ble_eq_true rfl) wd_249 (fun r3 => ?_)
    refine q_run tkX5_undo 8 1 (pc' := 18) (L' := [some (.inr (.inr a0))]) (st' := [.inr (.inr a0), .inr (.inr r3)]) rfl ?_
    refine q_rdR RX5 TX5 5 (tbm tkX5_undo (i := 9) rfl) rfl (Nat.le_of_ble_eq_true rfl) wd_248 (fun r4 => ?_)
    refine q_cv (r := r3) (ci := 2) (n := 1) (as := [.inr (.inr r4)]) (st := []) TX0 2 (soX0_giveBack X h r3 r4) (tbm tkX5_undo (i := 10) rfl) rfl rfl ceX0_giveBack wd_334 wd_335 wd_333 rfl (Nat.le_of_ble_eq_true rfl) (kV_gd (fun h5 => ?_))
    refine q_run tkX5_undo 11 1 (pc' := 25) (L' := [some (.inr (.inr a0))]) (st' := [.inr (.inr a0)]) rfl ?_
    refine q_rdR RX5 TX5 5 (tbm tkX5_undo (i := 12) rfl) rfl (Nat.le_of_ble_eq_true rfl) wd_249 (fun r6 => ?_)
    refine q_rdI RX0 TX0 2 (tbm tkX5_undo (i := 13) rfl) rfl (Nat.le_of_ble_eq_true rfl) wd_179 (fun x7 => ?_)
    exact q_iret (tbm tkX5_undo (i := 14) rfl) rfl
theorem ceX5_undo : Ce mX5_undo 0 := ⟨wd_18, wd_332, by decide +kernel, by decide +kernel, by decide +kernel⟩
/-- ReceiptRolls.sign -/
abbrev mX5_sign : MI := (yX5_sign, cX5_sign, 6, some .int, 8)
def tbX5_sign : List TE := [(0, .iload_n 1, 1, 0, 0), (1, .ifCond .le 14, 3, 0, 15), (4, .aload_n 0, 1, 0, 0), (5, .getfield 10, 3, 0, 0), (8, .iload_n 1, 1, 0, 0), (9, .invokevirtual 141, 3, 0, 0), (12, .goto 12, 3, 0, 24), (15, .aload_n 0, 1, 0, 0), (16, .getfield 10, 3, 0, 0), (19, .iload_n 1, 1, 0, 0), (20, .ineg, 1, 0, 0), (21, .invokevirtual 56, 3, 0, 0), (24, .astore 4, 2, 0, 0), (26, .aload 4, 2, 0, 0), (28, .ifnonnull 5, 3, 0, 33), (31, .iconst (-1), 1, -1, 0), (32, .ireturn, 1, 0, 0), (33, .aload_n 0, 1, 0, 0), (34, .aload 4, 2, 0, 0), (36, .iload_n 2, 1, 0, 0), (37, .invokevirtual 120, 3, 0, 0), (40, .istore 5, 2, 0, 0), (42, .iload_n 2, 1, 0, 0), (43, .ifCond .lt 9, 3, 0, 52), (46, .iload_n 2, 1, 0, 0), (47, .iload 5, 2, 0, 0), (49, .if_icmp .lt 5, 3, 0, 54), (52, .iconst (-1), 1, -1, 0), (53, .ireturn, 1, 0, 0), (54, .iload_n 3, 1, 0, 0), (55, .ifCond .lt 14, 3, 0, 69), (58, .iload_n 3, 1, 0, 0), (59, .aload_n 0, 1, 0, 0), (60, .getfield 37, 3, 0, 0), (63, .getfield 128, 3, 0, 0), (66, .if_icmp .lt 6, 3, 0, 72), (69, .bipush (-2), 2, -2, 0), (71, .ireturn, 1, 0, 0), (72, .aload_n 0, 1, 0, 0), (73, .getfield 37, 3, 0, 0), (76, .iload_n 3, 1, 0, 0), (77, .invokevirtual 221, 3, 0, 0), (80, .ireturn, 1, 0, 0)]
theorem tkX5_sign : ∀ x ∈ tbX5_sign, tbB cX5_sign x = true := tb_all (by decide +kernel)
def fX5_sign_52 (c : Nat → Option Nat) (h : Hp) : Rs := some (h, some (.inl (-1 : Int32)))
set_option maxHeartbeats 4000000 in
set_option maxRecDepth 100000 in
theorem sX5_sign_52 (X : Cx) {h0 : Hp} (h : Hp) : Gd X mX5_sign h0 (fX5_sign_52 X.2.2.2 h) h 52 [none, none, none, none, none, none] [] := by
  unfold fX5_sign_52
  refine q_run tkX5_sign 27 1 (pc' := 53) (L' := [none, none, none, none, none, none]) (st' := [.inl (-1 : Int32)]) rfl ?_
  exact q_iret (tbm tkX5_sign (i := 28) rfl) rfl
def fX5_sign_69 (c : Nat → Option Nat) (h : Hp) : Rs := some (h, some (.inl (-2 : Int32)))
set_option maxHeartbeats 4000000 in
set_option maxRecDepth 100000 in
theorem sX5_sign_69 (X : Cx) {h0 : Hp} (h : Hp) : Gd X mX5_sign h0 (fX5_sign_69 X.2.2.2 h) h 69 [none, none, none, none, none, none] [] := by
  unfold fX5_sign_69
  refine q_run tkX5_sign 36 1 (pc' := 71) (L' := [none, none, none, none, none, none]) (st' := [.inl (-2 : Int32)]) rfl ?_
  exact q_iret (tbm tkX5_sign (i := 37) rfl) rfl
def fX5_sign_24 (c : Nat → Option Nat) (h : Hp) (l0 : Option Nat) (l2 : Int32) (l3 : Int32) (s0 : Option Nat) : Rs := ifN s0 (some (h, some (.inl (-1 : Int32)))) (ck h l0 7 (cc (fX5_layLines c h l0 s0 l2) (kI fun h1 x2 => if l2 < 0 then (fX5_sign_52 c h1) else (if l2 < x2 then (if l3 < 0 then (fX5_sign_69 c h1) else (rdR h1 l0 7 4 (fun r3 => rdI h1 r3 5 0 (fun x4 => if l3 < x4 then (rdR h1 l0 7 4 (fun r5 => ck h1 r5 5 (cc (fX3_signAt c h1 r5 l3) (kI fun h6 x7 => some (h6, some (.inl x7)))))) else (fX5_sign_69 c h1))))) else (fX5_sign_52 c h1)))))
set_option maxHeartbeats 4000000 in
set_option maxRecDepth 100000 in
theorem sX5_sign_24 (X : Cx) {h0 : Hp} (h : Hp) (l0 : Option Nat) (l2 : Int32) (l3 : Int32) (s0 : Option Nat) : Gd X mX5_sign h0 (fX5_sign_24 X.2.2.2 h l0 l2 l3 s0) h 24 [some (.inr (.inr l0)), none, some (.inl l2), some (.inl l3), none, none] [.inr (.inr s0)] := by
  unfold fX5_sign_24
  refine q_run tkX5_sign 12 2 (pc' := 28) (L' := [some (.inr (.inr l0)), none, some (.inl l2), some (.inl l3), some (.inr (.inr s0)), none]) (st' := [.inr (.inr s0)]) rfl ?_
  refine q_ifnonnull (tbm tkX5_sign (i := 14) rfl) ?_ ?_
  · refine q_run tkX5_sign 15 1 (pc' := 32) (L' := [some (.inr (.inr l0)), none, some (.inl l2), some (.inl l3), some (.inr (.inr s0)), none]) (st' := [.inl (-1 : Int32)]) rfl ?_
    exact q_iret (tbm tkX5_sign (i := 16) rfl) rfl
  · refine q_run tkX5_sign 17 3 (pc' := 37) (L' := [some (.inr (.inr l0)), none, some (.inl l2), some (.inl l3), some (.inr (.inr s0)), none]) (st' := [.inl l2, .inr (.inr s0), .inr (.inr l0)]) rfl ?_
    refine q_cv (r := l0) (ci := 7) (n := 2) (as := [.inr (.inr s0), .inl l2]) (st := []) TX5 5 (soX5_layLines X h l0 s0 l2) (tbm tkX5_sign (i := 20) rfl) rfl rfl ceX5_layLines wd_366 wd_0 wd_364 rfl (Nat.le_of_ble_eq_true rfl) (kI_gd (fun h1 x2 => ?_))
    refine q_run tkX5_sign 21 2 (pc' := 43) (L' := [some (.inr (.inr l0)), none, some (.inl l2), some (.inl l3), some (.inr (.inr s0)), some (.inl x2)]) (st' := [.inl l2]) rfl ?_
    refine q_if_lt (tbm tkX5_sign (i := 23) rfl) ?_ ?_
    · refine q_le (L' := [none, none, none, none, none, none]) (lvLe_n (lvLe_n (lvLe_n (lvLe_n (lvLe_n (lvLe_n lvLe_0)))))) ?_
      exact sX5_sign_52 X h1
    · refine q_run tkX5_sign 24 2 (pc' := 49) (L' := [some (.inr (.inr l0)), none, some (.inl l2), some (.inl l3), some (.inr (.inr s0)), some (.inl x2)]) (st' := [.inl x2, .inl l2]) rfl ?_
      refine q_icmp_lt (tbm tkX5_sign (i := 26) rfl) ?_ ?_
      · refine q_run tkX5_sign 29 1 (pc' := 55) (L' := [some (.inr (.inr l0)), none, some (.inl l2), some (.inl l3), some (.inr (.inr s0)), some (.inl x2)]) (st' := [.inl l3]) rfl ?_
        refine q_if_lt (tbm tkX5_sign (i := 30) rfl) ?_ ?_
        · refine q_le (L' := [none, none, none, none, none, none]) (lvLe_n (lvLe_n (lvLe_n (lvLe_n (lvLe_n (lvLe_n lvLe_0)))))) ?_
          exact sX5_sign_69 X h1
        · refine q_run tkX5_sign 31 2 (pc' := 60) (L' := [some (.inr (.inr l0)), none, some (.inl l2), some (.inl l3), some (.inr (.inr s0)), some (.inl x2)]) (st' := [.inr (.inr l0), .inl l3]) rfl ?_
          refine q_rdR RX5 TX5 5 (tbm tkX5_sign (i := 33) rfl) rfl (Nat.le_of_ble_eq_true rfl) wd_252 (fun r3 => ?_)
          refine q_rdI RX3 TX3 6 (tbm tkX5_sign (i := 34) rfl) rfl (Nat.le_of_ble_eq_true rfl) wd_226 (fun x4 => ?_)
          refine q_icmp_lt (tbm tkX5_sign (i := 35) rfl) ?_ ?_
          · refine q_run tkX5_sign 38 1 (pc' := 73) (L' := [some (.inr (.inr l0)), none, some (.inl l2), some (.inl l3), some (.inr (.inr s0)), some (.inl x2)]) (st' := [.inr (.inr l0)]) rfl ?_
            refine q_rdR RX5 TX5 5 (tbm tkX5_sign (i := 39) rfl) rfl (Nat.le_of_ble_eq_true rfl) wd_252 (fun r5 => ?_)
            refine q_run tkX5_sign 40 1 (pc' := 77) (L' := [some (.inr (.inr l0)), none, some (.inl l2), some (.inl l3), some (.inr (.inr s0)), some (.inl x2)]) (st' := [.inl l3, .inr (.inr r5)]) rfl ?_
            refine q_cv (r := r5) (ci := 5) (n := 1) (as := [.inl l3]) (st := []) TX3 6 (soX3_signAt X h1 r5 l3) (tbm tkX5_sign (i := 41) rfl) rfl rfl ceX3_signAt wd_813 wd_814 wd_812 rfl (Nat.le_of_ble_eq_true rfl) (kI_gd (fun h6 x7 => ?_))
            exact q_iret (tbm tkX5_sign (i := 42) rfl) rfl
          · refine q_le (L' := [none, none, none, none, none, none]) (lvLe_n (lvLe_n (lvLe_n (lvLe_n (lvLe_n (lvLe_n lvLe_0)))))) ?_
            exact sX5_sign_69 X h1
      · refine q_le (L' := [none, none, none, none, none, none]) (lvLe_n (lvLe_n (lvLe_n (lvLe_n (lvLe_n (lvLe_n lvLe_0)))))) ?_
        exact sX5_sign_52 X h1
def fX5_sign (c : Nat → Option Nat) (h : Hp) (a0 : Option Nat) (a1 : Int32) (a2 : Int32) (a3 : Int32) : Rs := if 0 < a1 then (rdR h a0 7 0 (fun r8 => ck h r8 6 (cc (fX4_known c h r8 a1) (kR fun h9 r10 => fX5_sign_24 c h9 a0 a2 a3 r10)))) else (rdR h a0 7 0 (fun r11 => ck h r11 6 (cc (fX4_openAt c h r11 (-a1)) (kR fun h12 r13 => fX5_sign_24 c h12 a0 a2 a3 r13))))
set_option maxHeartbeats 4000000 in
set_option maxRecDepth 100000 in
theorem soX5_sign (X : Cx) (h : Hp) (a0 : Option Nat) (a1 : Int32) (a2 : Int32) (a3 : Int32) : SO X mX5_sign [.inr (.inr a0), .inl a1, .inl a2, .inl a3] h (fX5_sign X.2.2.2 h a0 a1 a2 a3) := by
  refine so_of (by decide +kernel) (Nat.le_of_ble_eq_true rfl) ?_
  show Gd X mX5_sign h (fX5_sign X.2.2.2 h a0 a1 a2 a3) h 0 [some (.inr (.inr a0)), some (.inl a1), some (.inl a2), some (.inl a3), none, none] []
  unfold fX5_sign
  refine q_run tkX5_sign 0 1 (pc' := 1) (L' := [some (.inr (.inr a0)), some (.inl a1), some (.inl a2), some (.inl a3), none, none]) (st' := [.inl a1]) rfl ?_
  refine q_if_le (tbm tkX5_sign (i := 1) rfl) ?_ ?_
  · refine q_run tkX5_sign 2 1 (pc' := 5) (L' := [some (.inr (.inr a0)), some (.inl a1), some (.inl a2), some (.inl a3), none, none]) (st' := [.inr (.inr a0)]) rfl ?_
    refine q_rdR RX5 TX5 5 (tbm tkX5_sign (i := 3) rfl) rfl (Nat.le_of_ble_eq_true rfl) wd_248 (fun r8 => ?_)
    refine q_run tkX5_sign 4 1 (pc' := 9) (L' := [some (.inr (.inr a0)), some (.inl a1), some (.inl a2), some (.inl a3), none, none]) (st' := [.inl a1, .inr (.inr r8)]) rfl ?_
    refine q_cv (r := r8) (ci := 6) (n := 1) (as := [.inl a1]) (st := []) TX4 13 (soX4_known X h r8 a1) (tbm tkX5_sign (i := 5) rfl) rfl rfl ceX4_known wd_269 wd_270 wd_268 rfl (Nat.le_of_ble_eq_true rfl) (kR_gd (fun h9 r10 => ?_))
    refine q_run tkX5_sign 6 1 (pc' := 24) (L' := [some (.inr (.inr a0)), some (.inl a1), some (.inl a2), some (.inl a3), none, none]) (st' := [.inr (.inr r10)]) rfl ?_
    refine q_le (L' := [some (.inr (.inr a0)), none, some (.inl a2), some (.inl a3), none, none]) (lvLe_s (lvLe_n (lvLe_s (lvLe_s (lvLe_n (lvLe_n lvLe_0)))))) ?_
    exact sX5_sign_24 X h9 a0 a2 a3 r10
  · refine q_run tkX5_sign 7 1 (pc' := 16) (L' := [some (.inr (.inr a0)), some (.inl a1), some (.inl a2), some (.inl a3), none, none]) (st' := [.inr (.inr a0)]) rfl ?_
    refine q_rdR RX5 TX5 5 (tbm tkX5_sign (i := 8) rfl) rfl (Nat.le_of_ble_eq_true rfl) wd_248 (fun r11 => ?_)
    refine q_run tkX5_sign 9 2 (pc' := 21) (L' := [some (.inr (.inr a0)), some (.inl a1), some (.inl a2), some (.inl a3), none, none]) (st' := [.inl (-a1), .inr (.inr r11)]) rfl ?_
    refine q_cv (r := r11) (ci := 6) (n := 1) (as := [.inl (-a1)]) (st := []) TX4 13 (soX4_openAt X h r11 (-a1)) (tbm tkX5_sign (i := 11) rfl) rfl rfl ceX4_openAt wd_361 wd_362 wd_360 rfl (Nat.le_of_ble_eq_true rfl) (kR_gd (fun h12 r13 => ?_))
    refine q_le (L' := [some (.inr (.inr a0)), none, some (.inl a2), some (.inl a3), none, none]) (lvLe_s (lvLe_n (lvLe_s (lvLe_s (lvLe_n (lvLe_n lvLe_0)))))) ?_
    exact sX5_sign_24 X h12 a0 a2 a3 r13
theorem ceX5_sign : Ce mX5_sign 3 := ⟨wd_18, wd_811, by decide +kernel, by decide +kernel, by decide +kernel⟩
/-- ReceiptRolls.linesLeft -/
abbrev mX5_linesLeft : MI := (yX5_linesLeft, cX5_linesLeft, 1, some .int, 2)
def tbX5_linesLeft : List TE := [(0, .aload_n 0, 1, 0, 0), (1, .getfield 10, 3, 0, 0), (4, .invokevirtual 258, 3, 0, 0), (7, .ireturn, 1, 0, 0)]
theorem tkX5_linesLeft : ∀ x ∈ tbX5_linesLeft, tbB cX5_linesLeft x = true := tb_all (by decide +kernel)
def fX5_linesLeft (c : Nat → Option Nat) (h : Hp) (a0 : Option Nat) : Rs := rdR h a0 7 0 (fun r1 => ck h r1 6 (cc (fX4_linesToPrint c h r1) (kI fun h2 x3 => some (h2, some (.inl x3)))))
set_option maxHeartbeats 4000000 in
set_option maxRecDepth 100000 in
theorem soX5_linesLeft (X : Cx) (h : Hp) (a0 : Option Nat) : SO X mX5_linesLeft [.inr (.inr a0)] h (fX5_linesLeft X.2.2.2 h a0) := by
  refine so_of (by decide +kernel) (Nat.le_of_ble_eq_true rfl) ?_
  show Gd X mX5_linesLeft h (fX5_linesLeft X.2.2.2 h a0) h 0 [some (.inr (.inr a0))] []
  unfold fX5_linesLeft
  refine q_run tkX5_linesLeft 0 1 (pc' := 1) (L' := [some (.inr (.inr a0))]) (st' := [.inr (.inr a0)]) rfl ?_
  refine q_rdR RX5 TX5 5 (tbm tkX5_linesLeft (i := 1) rfl) rfl (Nat.le_of_ble_eq_true rfl) wd_248 (fun r1 => ?_)
  refine q_cv (r := r1) (ci := 6) (n := 0) (as := []) (st := []) TX4 13 (soX4_linesToPrint X h r1) (tbm tkX5_linesLeft (i := 2) rfl) rfl rfl ceX4_linesToPrint wd_821 wd_822 wd_820 rfl (Nat.le_of_ble_eq_true rfl) (kI_gd (fun h2 x3 => ?_))
  exact q_iret (tbm tkX5_linesLeft (i := 3) rfl) rfl
theorem ceX5_linesLeft : Ce mX5_linesLeft 0 := ⟨wd_18, wd_819, by decide +kernel, by decide +kernel, by decide +kernel⟩
