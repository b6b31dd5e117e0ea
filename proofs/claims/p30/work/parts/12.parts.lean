/-- ReceiptRolls$Receipt.init -/
abbrev mX2_init : MI := (yX2_init, cX2_init, 1, none, 1)
def tbX2_init : List TE := [(0, .aload_n 0, 1, 0, 0), (1, .invokespecial 3, 3, 0, 0), (4, .aload_n 0, 1, 0, 0), (5, .bipush 12, 2, 12, 0), (7, .anewarray 9, 3, 0, 0), (10, .putfield 11, 3, 0, 0), (13, .aload_n 0, 1, 0, 0), (14, .bipush 24, 2, 24, 0), (16, .newarray .int, 2, 0, 0), (18, .putfield 17, 3, 0, 0), (21, .return_, 1, 0, 0)]
theorem tkX2_init : ∀ x ∈ tbX2_init, tbB cX2_init x = true := tb_all (by decide +kernel)
def fX2_init (c : Nat → Option Nat) (h : Hp) (a0 : Option Nat) : Rs := dn a0 (nwR h 4 (12 : Int32) (fun h1 r2 => wr h1 a0 4 12 (.inr (.inr r2)) (fun h3 => nwA h3 0 (24 : Int32) (fun h4 r5 => wr h4 a0 4 13 (.inr (.inr r5)) (fun h6 => some (h6, none))))))
set_option maxHeartbeats 4000000 in
set_option maxRecDepth 100000 in
theorem soX2_init (X : Cx) (h : Hp) (a0 : Option Nat) : SO X mX2_init [.inr (.inr a0)] h (fX2_init X.2.2.2 h a0) := by
  refine so_of (by decide +kernel) (Nat.le_of_ble_eq_true rfl) ?_
  show Gd X mX2_init h (fX2_init X.2.2.2 h a0) h 0 [some (.inr (.inr a0))] []
  unfold fX2_init
  refine q_run tkX2_init 0 1 (pc' := 1) (L' := [some (.inr (.inr a0))]) (st' := [.inr (.inr a0)]) rfl ?_
  refine q_obj (tbm tkX2_init (i := 1) rfl) (Nat.le_of_ble_eq_true rfl) (Nat.le_of_ble_eq_true rfl) ⟨wd_55, wd_oi, wd_oc⟩ ?_
  refine q_run tkX2_init 2 2 (pc' := 7) (L' := [some (.inr (.inr a0))]) (st' := [.inl (12 : Int32), .inr (.inr a0)]) rfl ?_
  refine q_newr (k := 4) (Nat.le_of_ble_eq_true rfl) (Nat.le_of_ble_eq_true rfl) (tbm tkX2_init (i := 4) rfl) wd_56 (fun h1 r2 => ?_)
  refine q_wr RX2 TX2 14 (tbm tkX2_init (i := 5) rfl) rfl (Nat.le_of_ble_eq_true rfl) (Or.inr ⟨rfl, rfl⟩) wd_86 (fun h3 => ?_)
  refine q_run tkX2_init 6 2 (pc' := 16) (L' := [some (.inr (.inr a0))]) (st' := [.inl (24 : Int32), .inr (.inr a0)]) rfl ?_
  refine q_newa (k := 0) (Nat.le_of_ble_eq_true rfl) (tbm tkX2_init (i := 8) rfl) wd_118 (fun h4 r5 => ?_)
  refine q_wr RX2 TX2 14 (tbm tkX2_init (i := 9) rfl) rfl (Nat.le_of_ble_eq_true rfl) (Or.inr ⟨rfl, rfl⟩) wd_87 (fun h6 => ?_)
  exact q_vret (tbm tkX2_init (i := 10) rfl) rfl
theorem ceX2_init : Ce mX2_init 0 := ⟨wd_20, wd_54, by decide +kernel, by decide +kernel, by decide +kernel⟩
/-- ReceiptRolls$State.init -/
abbrev mX4_init : MI := (yX4_init, cX4_init, 2, none, 2)
def tbX4_init : List TE := [(0, .aload_n 0, 1, 0, 0), (1, .invokespecial 3, 3, 0, 0), (4, .aload_n 0, 1, 0, 0), (5, .bipush 40, 2, 40, 0), (7, .putfield 9, 3, 0, 0), (10, .aload_n 0, 1, 0, 0), (11, .iconst 1, 1, 1, 0), (12, .putfield 15, 3, 0, 0), (15, .aload_n 0, 1, 0, 0), (16, .iconst 3, 1, 3, 0), (17, .newarray .int, 2, 0, 0), (19, .dup, 1, 0, 0), (20, .iconst 0, 1, 0, 0), (21, .bipush 24, 2, 24, 0), (23, .iastore, 1, 0, 0), (24, .dup, 1, 0, 0), (25, .iconst 1, 1, 1, 0), (26, .bipush 40, 2, 40, 0), (28, .iastore, 1, 0, 0), (29, .dup, 1, 0, 0), (30, .iconst 2, 1, 2, 0), (31, .iconst 2, 1, 2, 0), (32, .iastore, 1, 0, 0), (33, .putfield 18, 3, 0, 0), (36, .aload_n 0, 1, 0, 0), (37, .iconst 3, 1, 3, 0), (38, .anewarray 22, 3, 0, 0), (41, .putfield 24, 3, 0, 0), (44, .aload_n 0, 1, 0, 0), (45, .bipush 18, 2, 18, 0), (47, .anewarray 22, 3, 0, 0), (50, .putfield 28, 3, 0, 0), (53, .iconst 0, 1, 0, 0), (54, .istore_n 1, 1, 0, 0), (55, .iload_n 1, 1, 0, 0), (56, .aload_n 0, 1, 0, 0), (57, .getfield 24, 3, 0, 0), (60, .arraylength, 1, 0, 0), (61, .if_icmp .ge 22, 3, 0, 83), (64, .aload_n 0, 1, 0, 0), (65, .getfield 24, 3, 0, 0), (68, .iload_n 1, 1, 0, 0), (69, .new 22, 3, 0, 0), (72, .dup, 1, 0, 0), (73, .invokespecial 31, 3, 0, 0), (76, .aastore, 1, 0, 0), (77, .iinc 1 1, 3, 1, 0), (80, .goto (-25), 3, 0, 55), (83, .iconst 0, 1, 0, 0), (84, .istore_n 1, 1, 0, 0), (85, .iload_n 1, 1, 0, 0), (86, .aload_n 0, 1, 0, 0), (87, .getfield 28, 3, 0, 0), (90, .arraylength, 1, 0, 0), (91, .if_icmp .ge 22, 3, 0, 113), (94, .aload_n 0, 1, 0, 0), (95, .getfield 28, 3, 0, 0), (98, .iload_n 1, 1, 0, 0), (99, .new 22, 3, 0, 0), (102, .dup, 1, 0, 0), (103, .invokespecial 31, 3, 0, 0), (106, .aastore, 1, 0, 0), (107, .iinc 1 1, 3, 1, 0), (110, .goto (-25), 3, 0, 85), (113, .return_, 1, 0, 0)]
theorem tkX4_init : ∀ x ∈ tbX4_init, tbB cX4_init x = true := tb_all (by decide +kernel)
def fX4_init_85 (c : Nat → Option Nat) : Nat → Hp → Option Nat → Int32 → Rs
  | 0, _, _, _ => none
  | n + 1, h, l0, l1 => rdR h l0 6 12 (fun r1 => lenA h r1 (fun x2 => if l1 < x2 then (rdR h l0 6 12 (fun r3 => nwO h 4 (fun h4 r5 => dn r5 (cc (fX2_init c h4 r5) (kV fun h6 => astR h6 r3 l1 r5 (fun h7 => fX4_init_85 c n h7 l0 (l1 + (1 : Int32)))))))) else (some (h, none))))
set_option maxHeartbeats 4000000 in
set_option maxRecDepth 100000 in
theorem sX4_init_85 (X : Cx) {h0 : Hp} : ∀ (n : Nat) (h : Hp) (l0 : Option Nat) (l1 : Int32), Gd X mX4_init h0 (fX4_init_85 X.2.2.2 n h l0 l1) h 85 [some (.inr (.inr l0)), some (.inl l1)] [] := by
  intro n
  induction n with
  | zero => intros; exact gd_none
  | succ n ih =>
    intro h l0 l1
    unfold fX4_init_85
    refine q_run tkX4_init 50 2 (pc' := 87) (L' := [some (.inr (.inr l0)), some (.inl l1)]) (st' := [.inr (.inr l0), .inl l1]) rfl ?_
    refine q_rdR RX4 TX4 13 (tbm tkX4_init (i := 52) rfl) rfl (Nat.le_of_ble_eq_true rfl) wd_141 (fun r1 => ?_)
    refine q_alen (tbm tkX4_init (i := 53) rfl) (fun x2 => ?_)
    refine q_icmp_ge (tbm tkX4_init (i := 54) rfl) ?_ ?_
    · refine q_run tkX4_init 55 1 (pc' := 95) (L' := [some (.inr (.inr l0)), some (.inl l1)]) (st' := [.inr (.inr l0)]) rfl ?_
      refine q_rdR RX4 TX4 13 (tbm tkX4_init (i := 56) rfl) rfl (Nat.le_of_ble_eq_true rfl) wd_141 (fun r3 => ?_)
      refine q_run tkX4_init 57 1 (pc' := 99) (L' := [some (.inr (.inr l0)), some (.inl l1)]) (st' := [.inl l1, .inr (.inr r3)]) rfl ?_
      refine q_new RX2 TX2 14 (tbm tkX4_init (i := 58) rfl) (Nat.le_of_ble_eq_true rfl) rfl ⟨wd_49, wd_51, wd_20⟩ (fun h4 r5 => ?_)
      refine q_run tkX4_init 59 1 (pc' := 103) (L' := [some (.inr (.inr l0)), some (.inl l1)]) (st' := [.inr (.inr r5), .inr (.inr r5), .inl l1, .inr (.inr r3)]) rfl ?_
      refine q_cin (r := r5) (n := 0) (as := []) (st := [.inr (.inr r5), .inl l1, .inr (.inr r3)]) "ReceiptRolls" (soX2_init X h4 r5) (tbm tkX4_init (i := 60) rfl) rfl ceX2_init wd_53 rfl rfl e_mX4 rfl (Nat.le_of_ble_eq_true rfl) (kV_gd (fun h6 => ?_))
      refine q_aastore (tbm tkX4_init (i := 61) rfl) (fun h7 => ?_)
      refine q_run tkX4_init 62 2 (pc' := 85) (L' := [some (.inr (.inr l0)), some (.inl (l1 + (1 : Int32)))]) (st' := []) rfl ?_
      exact ih h7 l0 (l1 + (1 : Int32))
    · exact q_vret (tbm tkX4_init (i := 64) rfl) rfl
def fX4_init_55 (c : Nat → Option Nat) : Nat → Hp → Option Nat → Int32 → Rs
  | 0, _, _, _ => none
  | n + 1, h, l0, l1 => rdR h l0 6 11 (fun r8 => lenA h r8 (fun x9 => if l1 < x9 then (rdR h l0 6 11 (fun r10 => nwO h 4 (fun h11 r12 => dn r12 (cc (fX2_init c h11 r12) (kV fun h13 => astR h13 r10 l1 r12 (fun h14 => fX4_init_55 c n h14 l0 (l1 + (1 : Int32)))))))) else (fX4_init_85 c FU h l0 (0 : Int32))))
set_option maxHeartbeats 4000000 in
set_option maxRecDepth 100000 in
theorem sX4_init_55 (X : Cx) {h0 : Hp} : ∀ (n : Nat) (h : Hp) (l0 : Option Nat) (l1 : Int32), Gd X mX4_init h0 (fX4_init_55 X.2.2.2 n h l0 l1) h 55 [some (.inr (.inr l0)), some (.inl l1)] [] := by
  intro n
  induction n with
  | zero => intros; exact gd_none
  | succ n ih =>
    intro h l0 l1
    unfold fX4_init_55
    refine q_run tkX4_init 34 2 (pc' := 57) (L' := [some (.inr (.inr l0)), some (.inl l1)]) (st' := [.inr (.inr l0), .inl l1]) rfl ?_
    refine q_rdR RX4 TX4 13 (tbm tkX4_init (i := 36) rfl) rfl (Nat.le_of_ble_eq_true rfl) wd_140 (fun r8 => ?_)
    refine q_alen (tbm tkX4_init (i := 37) rfl) (fun x9 => ?_)
    refine q_icmp_ge (tbm tkX4_init (i := 38) rfl) ?_ ?_
    · refine q_run tkX4_init 39 1 (pc' := 65) (L' := [some (.inr (.inr l0)), some (.inl l1)]) (st' := [.inr (.inr l0)]) rfl ?_
      refine q_rdR RX4 TX4 13 (tbm tkX4_init (i := 40) rfl) rfl (Nat.le_of_ble_eq_true rfl) wd_140 (fun r10 => ?_)
      refine q_run tkX4_init 41 1 (pc' := 69) (L' := [some (.inr (.inr l0)), some (.inl l1)]) (st' := [.inl l1, .inr (.inr r10)]) rfl ?_
      refine q_new RX2 TX2 14 (tbm tkX4_init (i := 42) rfl) (Nat.le_of_ble_eq_true rfl) rfl ⟨wd_49, wd_51, wd_20⟩ (fun h11 r12 => ?_)
      refine q_run tkX4_init 43 1 (pc' := 73) (L' := [some (.inr (.inr l0)), some (.inl l1)]) (st' := [.inr (.inr r12), .inr (.inr r12), .inl l1, .inr (.inr r10)]) rfl ?_
      refine q_cin (r := r12) (n := 0) (as := []) (st := [.inr (.inr r12), .inl l1, .inr (.inr r10)]) "ReceiptRolls" (soX2_init X h11 r12) (tbm tkX4_init (i := 44) rfl) rfl ceX2_init wd_53 rfl rfl e_mX4 rfl (Nat.le_of_ble_eq_true rfl) (kV_gd (fun h13 => ?_))
      refine q_aastore (tbm tkX4_init (i := 45) rfl) (fun h14 => ?_)
      refine q_run tkX4_init 46 2 (pc' := 55) (L' := [some (.inr (.inr l0)), some (.inl (l1 + (1 : Int32)))]) (st' := []) rfl ?_
      exact ih h14 l0 (l1 + (1 : Int32))
    · refine q_run tkX4_init 48 2 (pc' := 85) (L' := [some (.inr (.inr l0)), some (.inl (0 : Int32))]) (st' := []) rfl ?_
      exact sX4_init_85 X FU h l0 (0 : Int32)
def fX4_init (c : Nat → Option Nat) (h : Hp) (a0 : Option Nat) : Rs := dn a0 (wr h a0 6 0 (.inl (40 : Int32)) (fun h15 => wr h15 a0 6 3 (.inl (1 : Int32)) (fun h16 => nwA h16 0 (3 : Int32) (fun h17 r18 => astI h17 r18 [0] (0 : Int32) (24 : Int32) (fun h19 => astI h19 r18 [0] (1 : Int32) (40 : Int32) (fun h20 => astI h20 r18 [0] (2 : Int32) (2 : Int32) (fun h21 => wr h21 a0 6 10 (.inr (.inr r18)) (fun h22 => nwR h22 5 (3 : Int32) (fun h23 r24 => wr h23 a0 6 11 (.inr (.inr r24)) (fun h25 => nwR h25 5 (18 : Int32) (fun h26 r27 => wr h26 a0 6 12 (.inr (.inr r27)) (fun h28 => fX4_init_55 c FU h28 a0 (0 : Int32)))))))))))))
set_option maxHeartbeats 4000000 in
set_option maxRecDepth 100000 in
theorem soX4_init (X : Cx) (h : Hp) (a0 : Option Nat) : SO X mX4_init [.inr (.inr a0)] h (fX4_init X.2.2.2 h a0) := by
  refine so_of (by decide +kernel) (Nat.le_of_ble_eq_true rfl) ?_
  show Gd X mX4_init h (fX4_init X.2.2.2 h a0) h 0 [some (.inr (.inr a0)), none] []
  unfold fX4_init
  refine q_run tkX4_init 0 1 (pc' := 1) (L' := [some (.inr (.inr a0)), none]) (st' := [.inr (.inr a0)]) rfl ?_
  refine q_obj (tbm tkX4_init (i := 1) rfl) (Nat.le_of_ble_eq_true rfl) (Nat.le_of_ble_eq_true rfl) ⟨wd_48, wd_oi, wd_oc⟩ ?_
  refine q_run tkX4_init 2 2 (pc' := 7) (L' := [some (.inr (.inr a0)), none]) (st' := [.inl (40 : Int32), .inr (.inr a0)]) rfl ?_
  refine q_wr RX4 TX4 13 (tbm tkX4_init (i := 4) rfl) rfl (Nat.le_of_ble_eq_true rfl) (Or.inl rfl) wd_119 (fun h15 => ?_)
  refine q_run tkX4_init 5 2 (pc' := 12) (L' := [some (.inr (.inr a0)), none]) (st' := [.inl (1 : Int32), .inr (.inr a0)]) rfl ?_
  refine q_wr RX4 TX4 13 (tbm tkX4_init (i := 7) rfl) rfl (Nat.le_of_ble_eq_true rfl) (Or.inl rfl) wd_125 (fun h16 => ?_)
  refine q_run tkX4_init 8 2 (pc' := 17) (L' := [some (.inr (.inr a0)), none]) (st' := [.inl (3 : Int32), .inr (.inr a0)]) rfl ?_
  refine q_newa (k := 0) (Nat.le_of_ble_eq_true rfl) (tbm tkX4_init (i := 10) rfl) wd_118 (fun h17 r18 => ?_)
  refine q_run tkX4_init 11 3 (pc' := 23) (L' := [some (.inr (.inr a0)), none]) (st' := [.inl (24 : Int32), .inl (0 : Int32), .inr (.inr r18), .inr (.inr r18), .inr (.inr a0)]) rfl ?_
  refine q_iastore (tbm tkX4_init (i := 14) rfl) (fun h19 => ?_)
  refine q_run tkX4_init 15 3 (pc' := 28) (L' := [some (.inr (.inr a0)), none]) (st' := [.inl (40 : Int32), .inl (1 : Int32), .inr (.inr r18), .inr (.inr r18), .inr (.inr a0)]) rfl ?_
  refine q_iastore (tbm tkX4_init (i := 18) rfl) (fun h20 => ?_)
  refine q_run tkX4_init 19 3 (pc' := 32) (L' := [some (.inr (.inr a0)), none]) (st' := [.inl (2 : Int32), .inl (2 : Int32), .inr (.inr r18), .inr (.inr r18), .inr (.inr a0)]) rfl ?_
  refine q_iastore (tbm tkX4_init (i := 22) rfl) (fun h21 => ?_)
  refine q_wr RX4 TX4 13 (tbm tkX4_init (i := 23) rfl) rfl (Nat.le_of_ble_eq_true rfl) (Or.inr ⟨rfl, rfl⟩) wd_139 (fun h22 => ?_)
  refine q_run tkX4_init 24 2 (pc' := 38) (L' := [some (.inr (.inr a0)), none]) (st' := [.inl (3 : Int32), .inr (.inr a0)]) rfl ?_
  refine q_newr (k := 5) (Nat.le_of_ble_eq_true rfl) (Nat.le_of_ble_eq_true rfl) (tbm tkX4_init (i := 26) rfl) wd_49 (fun h23 r24 => ?_)
  refine q_wr RX4 TX4 13 (tbm tkX4_init (i := 27) rfl) rfl (Nat.le_of_ble_eq_true rfl) (Or.inr ⟨rfl, rfl⟩) wd_140 (fun h25 => ?_)
  refine q_run tkX4_init 28 2 (pc' := 47) (L' := [some (.inr (.inr a0)), none]) (st' := [.inl (18 : Int32), .inr (.inr a0)]) rfl ?_
  refine q_newr (k := 5) (Nat.le_of_ble_eq_true rfl) (Nat.le_of_ble_eq_true rfl) (tbm tkX4_init (i := 30) rfl) wd_49 (fun h26 r27 => ?_)
  refine q_wr RX4 TX4 13 (tbm tkX4_init (i := 31) rfl) rfl (Nat.le_of_ble_eq_true rfl) (Or.inr ⟨rfl, rfl⟩) wd_141 (fun h28 => ?_)
  refine q_run tkX4_init 32 2 (pc' := 55) (L' := [some (.inr (.inr a0)), some (.inl (0 : Int32))]) (st' := []) rfl ?_
  exact sX4_init_55 X FU h28 a0 (0 : Int32)
theorem ceX4_init : Ce mX4_init 0 := ⟨wd_19, wd_47, by decide +kernel, by decide +kernel, by decide +kernel⟩
/-- ReceiptRolls$History.init -/
abbrev mX0_init : MI := (yX0_init, cX0_init, 2, none, 3)
def tbX0_init : List TE := [(0, .aload_n 0, 1, 0, 0), (1, .invokespecial 3, 3, 0, 0), (4, .aload_n 0, 1, 0, 0), (5, .bipush 6, 2, 6, 0), (7, .anewarray 9, 3, 0, 0), (10, .putfield 11, 3, 0, 0), (13, .iconst 0, 1, 0, 0), (14, .istore_n 1, 1, 0, 0), (15, .iload_n 1, 1, 0, 0), (16, .aload_n 0, 1, 0, 0), (17, .getfield 11, 3, 0, 0), (20, .arraylength, 1, 0, 0), (21, .if_icmp .ge 22, 3, 0, 43), (24, .aload_n 0, 1, 0, 0), (25, .getfield 11, 3, 0, 0), (28, .iload_n 1, 1, 0, 0), (29, .new 9, 3, 0, 0), (32, .dup, 1, 0, 0), (33, .invokespecial 17, 3, 0, 0), (36, .aastore, 1, 0, 0), (37, .iinc 1 1, 3, 1, 0), (40, .goto (-25), 3, 0, 15), (43, .return_, 1, 0, 0)]
theorem tkX0_init : ∀ x ∈ tbX0_init, tbB cX0_init x = true := tb_all (by decide +kernel)
def fX0_init_15 (c : Nat → Option Nat) : Nat → Hp → Option Nat → Int32 → Rs
  | 0, _, _, _ => none
  | n + 1, h, l0, l1 => rdR h l0 2 1 (fun r1 => lenA h r1 (fun x2 => if l1 < x2 then (rdR h l0 2 1 (fun r3 => nwO h 6 (fun h4 r5 => dn r5 (cc (fX4_init c h4 r5) (kV fun h6 => astR h6 r3 l1 r5 (fun h7 => fX0_init_15 c n h7 l0 (l1 + (1 : Int32)))))))) else (some (h, none))))
set_option maxHeartbeats 4000000 in
set_option maxRecDepth 100000 in
theorem sX0_init_15 (X : Cx) {h0 : Hp} : ∀ (n : Nat) (h : Hp) (l0 : Option Nat) (l1 : Int32), Gd X mX0_init h0 (fX0_init_15 X.2.2.2 n h l0 l1) h 15 [some (.inr (.inr l0)), some (.inl l1)] [] := by
  intro n
  induction n with
  | zero => intros; exact gd_none
  | succ n ih =>
    intro h l0 l1
    unfold fX0_init_15
    refine q_run tkX0_init 8 2 (pc' := 17) (L' := [some (.inr (.inr l0)), some (.inl l1)]) (st' := [.inr (.inr l0), .inl l1]) rfl ?_
    refine q_rdR RX0 TX0 2 (tbm tkX0_init (i := 10) rfl) rfl (Nat.le_of_ble_eq_true rfl) wd_180 (fun r1 => ?_)
    refine q_alen (tbm tkX0_init (i := 11) rfl) (fun x2 => ?_)
    refine q_icmp_ge (tbm tkX0_init (i := 12) rfl) ?_ ?_
    · refine q_run tkX0_init 13 1 (pc' := 25) (L' := [some (.inr (.inr l0)), some (.inl l1)]) (st' := [.inr (.inr l0)]) rfl ?_
      refine q_rdR RX0 TX0 2 (tbm tkX0_init (i := 14) rfl) rfl (Nat.le_of_ble_eq_true rfl) wd_180 (fun r3 => ?_)
      refine q_run tkX0_init 15 1 (pc' := 29) (L' := [some (.inr (.inr l0)), some (.inl l1)]) (st' := [.inl l1, .inr (.inr r3)]) rfl ?_
      refine q_new RX4 TX4 13 (tbm tkX0_init (i := 16) rfl) (Nat.le_of_ble_eq_true rfl) rfl ⟨wd_175, wd_44, wd_19⟩ (fun h4 r5 => ?_)
      refine q_run tkX0_init 17 1 (pc' := 33) (L' := [some (.inr (.inr l0)), some (.inl l1)]) (st' := [.inr (.inr r5), .inr (.inr r5), .inl l1, .inr (.inr r3)]) rfl ?_
      refine q_ci (r := r5) (n := 0) (as := []) (st := [.inr (.inr r5), .inl l1, .inr (.inr r3)]) (soX4_init X h4 r5) (tbm tkX0_init (i := 18) rfl) rfl ceX4_init wd_46 rfl rfl wd_177 rfl (Nat.le_of_ble_eq_true rfl) (kV_gd (fun h6 => ?_))
      refine q_aastore (tbm tkX0_init (i := 19) rfl) (fun h7 => ?_)
      refine q_run tkX0_init 20 2 (pc' := 15) (L' := [some (.inr (.inr l0)), some (.inl (l1 + (1 : Int32)))]) (st' := []) rfl ?_
      exact ih h7 l0 (l1 + (1 : Int32))
    · exact q_vret (tbm tkX0_init (i := 22) rfl) rfl
def fX0_init (c : Nat → Option Nat) (h : Hp) (a0 : Option Nat) : Rs := dn a0 (nwR h 6 (6 : Int32) (fun h8 r9 => wr h8 a0 2 1 (.inr (.inr r9)) (fun h10 => fX0_init_15 c FU h10 a0 (0 : Int32))))
set_option maxHeartbeats 4000000 in
set_option maxRecDepth 100000 in
theorem soX0_init (X : Cx) (h : Hp) (a0 : Option Nat) : SO X mX0_init [.inr (.inr a0)] h (fX0_init X.2.2.2 h a0) := by
  refine so_of (by decide +kernel) (Nat.le_of_ble_eq_true rfl) ?_
  show Gd X mX0_init h (fX0_init X.2.2.2 h a0) h 0 [some (.inr (.inr a0)), none] []
  unfold fX0_init
  refine q_run tkX0_init 0 1 (pc' := 1) (L' := [some (.inr (.inr a0)), none]) (st' := [.inr (.inr a0)]) rfl ?_
  refine q_obj (tbm tkX0_init (i := 1) rfl) (Nat.le_of_ble_eq_true rfl) (Nat.le_of_ble_eq_true rfl) ⟨wd_174, wd_oi, wd_oc⟩ ?_
  refine q_run tkX0_init 2 2 (pc' := 7) (L' := [some (.inr (.inr a0)), none]) (st' := [.inl (6 : Int32), .inr (.inr a0)]) rfl ?_
  refine q_newr (k := 6) (Nat.le_of_ble_eq_true rfl) (Nat.le_of_ble_eq_true rfl) (tbm tkX0_init (i := 4) rfl) wd_175 (fun h8 r9 => ?_)
  refine q_wr RX0 TX0 2 (tbm tkX0_init (i := 5) rfl) rfl (Nat.le_of_ble_eq_true rfl) (Or.inr ⟨rfl, rfl⟩) wd_180 (fun h10 => ?_)
  refine q_run tkX0_init 6 2 (pc' := 15) (L' := [some (.inr (.inr a0)), some (.inl (0 : Int32))]) (st' := []) rfl ?_
  exact sX0_init_15 X FU h10 a0 (0 : Int32)
theorem ceX0_init : Ce mX0_init 0 := ⟨wd_21, wd_173, by decide +kernel, by decide +kernel, by decide +kernel⟩
/-- ReceiptRolls$Sheet.init -/
abbrev mX3_init : MI := (yX3_init, cX3_init, 1, none, 1)
def tbX3_init : List TE := [(0, .aload_n 0, 1, 0, 0), (1, .invokespecial 3, 3, 0, 0), (4, .aload_n 0, 1, 0, 0), (5, .bipush 40, 2, 40, 0), (7, .newarray .char, 2, 0, 0), (9, .putfield 9, 3, 0, 0), (12, .return_, 1, 0, 0)]
theorem tkX3_init : ∀ x ∈ tbX3_init, tbB cX3_init x = true := tb_all (by decide +kernel)
def fX3_init (c : Nat → Option Nat) (h : Hp) (a0 : Option Nat) : Rs := dn a0 (nwA h 3 (40 : Int32) (fun h1 r2 => wr h1 a0 5 5 (.inr (.inr r2)) (fun h3 => some (h3, none))))
set_option maxHeartbeats 4000000 in
set_option maxRecDepth 100000 in
theorem soX3_init (X : Cx) (h : Hp) (a0 : Option Nat) : SO X mX3_init [.inr (.inr a0)] h (fX3_init X.2.2.2 h a0) := by
  refine so_of (by decide +kernel) (Nat.le_of_ble_eq_true rfl) ?_
  show Gd X mX3_init h (fX3_init X.2.2.2 h a0) h 0 [some (.inr (.inr a0))] []
  unfold fX3_init
  refine q_run tkX3_init 0 1 (pc' := 1) (L' := [some (.inr (.inr a0))]) (st' := [.inr (.inr a0)]) rfl ?_
  refine q_obj (tbm tkX3_init (i := 1) rfl) (Nat.le_of_ble_eq_true rfl) (Nat.le_of_ble_eq_true rfl) ⟨wd_224, wd_oi, wd_oc⟩ ?_
  refine q_run tkX3_init 2 2 (pc' := 7) (L' := [some (.inr (.inr a0))]) (st' := [.inl (40 : Int32), .inr (.inr a0)]) rfl ?_
  refine q_newa (k := 3) (Nat.le_of_ble_eq_true rfl) (tbm tkX3_init (i := 4) rfl) wd_247 (fun h1 r2 => ?_)
  refine q_wr RX3 TX3 6 (tbm tkX3_init (i := 5) rfl) rfl (Nat.le_of_ble_eq_true rfl) (Or.inr ⟨rfl, rfl⟩) wd_233 (fun h3 => ?_)
  exact q_vret (tbm tkX3_init (i := 6) rfl) rfl
theorem ceX3_init : Ce mX3_init 0 := ⟨wd_26, wd_223, by decide +kernel, by decide +kernel, by decide +kernel⟩
/-- ReceiptRolls$State.places -/
abbrev mX4_places : MI := (yX4_places, cX4_places, 1, some .int, 0)
def tbX4_places : List TE := [(0, .aload_n 0, 1, 0, 0), (1, .getfield 28, 3, 0, 0), (4, .arraylength, 1, 0, 0), (5, .ireturn, 1, 0, 0)]
theorem tkX4_places : ∀ x ∈ tbX4_places, tbB cX4_places x = true := tb_all (by decide +kernel)
def fX4_places (c : Nat → Option Nat) (h : Hp) (a0 : Option Nat) : Rs := rdR h a0 6 12 (fun r1 => lenA h r1 (fun x2 => some (h, some (.inl x2))))
set_option maxHeartbeats 4000000 in
set_option maxRecDepth 100000 in
theorem soX4_places (X : Cx) (h : Hp) (a0 : Option Nat) : SO X mX4_places [.inr (.inr a0)] h (fX4_places X.2.2.2 h a0) := by
  refine so_of (by decide +kernel) (Nat.le_of_ble_eq_true rfl) ?_
  show Gd X mX4_places h (fX4_places X.2.2.2 h a0) h 0 [some (.inr (.inr a0))] []
  unfold fX4_places
  refine q_run tkX4_places 0 1 (pc' := 1) (L' := [some (.inr (.inr a0))]) (st' := [.inr (.inr a0)]) rfl ?_
  refine q_rdR RX4 TX4 13 (tbm tkX4_places (i := 1) rfl) rfl (Nat.le_of_ble_eq_true rfl) wd_141 (fun r1 => ?_)
  refine q_alen (tbm tkX4_places (i := 2) rfl) (fun x2 => ?_)
  exact q_iret (tbm tkX4_places (i := 3) rfl) rfl
theorem ceX4_places : Ce mX4_places 0 := ⟨wd_19, wd_275, by decide +kernel, by decide +kernel, by decide +kernel⟩
/-- ReceiptRolls$State.placeAt -/
abbrev mX4_placeAt : MI := (yX4_placeAt, cX4_placeAt, 3, some (.object "ReceiptRolls$Receipt"), 0)
def tbX4_placeAt : List TE := [(0, .iload_n 1, 1, 0, 0), (1, .ifCond .lt 12, 3, 0, 13), (4, .iload_n 1, 1, 0, 0), (5, .aload_n 0, 1, 0, 0), (6, .getfield 28, 3, 0, 0), (9, .arraylength, 1, 0, 0), (10, .if_icmp .lt 5, 3, 0, 15), (13, .aconst_null, 1, 0, 0), (14, .areturn, 1, 0, 0), (15, .aload_n 0, 1, 0, 0), (16, .getfield 28, 3, 0, 0), (19, .iload_n 1, 1, 0, 0), (20, .aaload, 1, 0, 0), (21, .astore_n 2, 1, 0, 0), (22, .aload_n 2, 1, 0, 0), (23, .ifnull 10, 3, 0, 33), (26, .aload_n 2, 1, 0, 0), (27, .getfield 68, 3, 0, 0), (30, .ifCond .ne 7, 3, 0, 37), (33, .aconst_null, 1, 0, 0), (34, .goto 4, 3, 0, 38), (37, .aload_n 2, 1, 0, 0), (38, .areturn, 1, 0, 0)]
theorem tkX4_placeAt : ∀ x ∈ tbX4_placeAt, tbB cX4_placeAt x = true := tb_all (by decide +kernel)
def fX4_placeAt_38 (c : Nat → Option Nat) (h : Hp) (s0 : Option Nat) : Rs := some (h, some (.inr (.inr s0)))
set_option maxHeartbeats 4000000 in
set_option maxRecDepth 100000 in
theorem sX4_placeAt_38 (X : Cx) {h0 : Hp} (h : Hp) (s0 : Option Nat) : Gd X mX4_placeAt h0 (fX4_placeAt_38 X.2.2.2 h s0) h 38 [none, none, none] [.inr (.inr s0)] := by
  unfold fX4_placeAt_38
  exact q_aret (tbm tkX4_placeAt (i := 22) rfl) rfl (Or.inl ⟨_, rfl⟩)
def fX4_placeAt_33 (c : Nat → Option Nat) (h : Hp) : Rs := fX4_placeAt_38 c h none
set_option maxHeartbeats 4000000 in
set_option maxRecDepth 100000 in
theorem sX4_placeAt_33 (X : Cx) {h0 : Hp} (h : Hp) : Gd X mX4_placeAt h0 (fX4_placeAt_33 X.2.2.2 h) h 33 [none, none, none] [] := by
  unfold fX4_placeAt_33
  refine q_run tkX4_placeAt 19 2 (pc' := 38) (L' := [none, none, none]) (st' := [.inr (.inr none)]) rfl ?_
  exact sX4_placeAt_38 X h none
def fX4_placeAt_13 (c : Nat → Option Nat) (h : Hp) : Rs := some (h, some (.inr (.inr none)))
set_option maxHeartbeats 4000000 in
set_option maxRecDepth 100000 in
theorem sX4_placeAt_13 (X : Cx) {h0 : Hp} (h : Hp) : Gd X mX4_placeAt h0 (fX4_placeAt_13 X.2.2.2 h) h 13 [none, none, none] [] := by
  unfold fX4_placeAt_13
  refine q_run tkX4_placeAt 7 1 (pc' := 14) (L' := [none, none, none]) (st' := [.inr (.inr none)]) rfl ?_
  exact q_aret (tbm tkX4_placeAt (i := 8) rfl) rfl (Or.inl ⟨_, rfl⟩)
def fX4_placeAt (c : Nat → Option Nat) (h : Hp) (a0 : Option Nat) (a1 : Int32) : Rs := if a1 < 0 then (fX4_placeAt_13 c h) else (rdR h a0 6 12 (fun r1 => lenA h r1 (fun x2 => if a1 < x2 then (rdR h a0 6 12 (fun r3 => aldR h r3 a1 (fun r4 => ifN r4 (fX4_placeAt_33 c h) (rdI h r4 4 0 (fun x5 => if x5 = 0 then (fX4_placeAt_33 c h) else (fX4_placeAt_38 c h r4)))))) else (fX4_placeAt_13 c h))))
set_option maxHeartbeats 4000000 in
set_option maxRecDepth 100000 in
theorem soX4_placeAt (X : Cx) (h : Hp) (a0 : Option Nat) (a1 : Int32) : SO X mX4_placeAt [.inr (.inr a0), .inl a1] h (fX4_placeAt X.2.2.2 h a0 a1) := by
  refine so_of (by decide +kernel) (Nat.le_of_ble_eq_true rfl) ?_
  show Gd X mX4_placeAt h (fX4_placeAt X.2.2.2 h a0 a1) h 0 [some (.inr (.inr a0)), some (.inl a1), none] []
  unfold fX4_placeAt
  refine q_run tkX4_placeAt 0 1 (pc' := 1) (L' := [some (.inr (.inr a0)), some (.inl a1), none]) (st' := [.inl a1]) rfl ?_
  refine q_if_lt (tbm tkX4_placeAt (i := 1) rfl) ?_ ?_
  · refine q_le (L' := [none, none, none]) (lvLe_n (lvLe_n (lvLe_n lvLe_0))) ?_
    exact sX4_placeAt_13 X h
  · refine q_run tkX4_placeAt 2 2 (pc' := 6) (L' := [some (.inr (.inr a0)), some (.inl a1), none]) (st' := [.inr (.inr a0), .inl a1]) rfl ?_
    refine q_rdR RX4 TX4 13 (tbm tkX4_placeAt (i := 4) rfl) rfl (Nat.le_of_ble_eq_true rfl) wd_141 (fun r1 => ?_)
    refine q_alen (tbm tkX4_placeAt (i := 5) rfl) (fun x2 => ?_)
    refine q_icmp_lt (tbm tkX4_placeAt (i := 6) rfl) ?_ ?_
    · refine q_run tkX4_placeAt 9 1 (pc' := 16) (L' := [some (.inr (.inr a0)), some (.inl a1), none]) (st' := [.inr (.inr a0)]) rfl ?_
      refine q_rdR RX4 TX4 13 (tbm tkX4_placeAt (i := 10) rfl) rfl (Nat.le_of_ble_eq_true rfl) wd_141 (fun r3 => ?_)
      refine q_run tkX4_placeAt 11 1 (pc' := 20) (L' := [some (.inr (.inr a0)), some (.inl a1), none]) (st' := [.inl a1, .inr (.inr r3)]) rfl ?_
      refine q_aaload (tbm tkX4_placeAt (i := 12) rfl) (fun r4 => ?_)
      refine q_run tkX4_placeAt 13 2 (pc' := 23) (L' := [some (.inr (.inr a0)), some (.inl a1), some (.inr (.inr r4))]) (st' := [.inr (.inr r4)]) rfl ?_
      refine q_ifnull (tbm tkX4_placeAt (i := 15) rfl) ?_ ?_
      · refine q_le (L' := [none, none, none]) (lvLe_n (lvLe_n (lvLe_n lvLe_0))) ?_
        exact sX4_placeAt_33 X h
      · refine q_run tkX4_placeAt 16 1 (pc' := 27) (L' := [some (.inr (.inr a0)), some (.inl a1), some (.inr (.inr r4))]) (st' := [.inr (.inr r4)]) rfl ?_
        refine q_rdI RX2 TX2 14 (tbm tkX4_placeAt (i := 17) rfl) rfl (Nat.le_of_ble_eq_true rfl) wd_59 (fun x5 => ?_)
        refine q_if_ne (tbm tkX4_placeAt (i := 18) rfl) ?_ ?_
        · refine q_le (L' := [none, none, none]) (lvLe_n (lvLe_n (lvLe_n lvLe_0))) ?_
          exact sX4_placeAt_33 X h
        · refine q_run tkX4_placeAt 21 1 (pc' := 38) (L' := [some (.inr (.inr a0)), some (.inl a1), some (.inr (.inr r4))]) (st' := [.inr (.inr r4)]) rfl ?_
          refine q_le (L' := [none, none, none]) (lvLe_n (lvLe_n (lvLe_n lvLe_0))) ?_
          exact sX4_placeAt_38 X h r4
    · refine q_le (L' := [none, none, none]) (lvLe_n (lvLe_n (lvLe_n lvLe_0))) ?_
      exact sX4_placeAt_13 X h
theorem ceX4_placeAt : Ce mX4_placeAt 1 := ⟨wd_19, wd_279, by decide +kernel, by decide +kernel, by decide +kernel⟩
/-- ReceiptRolls$State.receiptsWaiting -/
abbrev mX4_receiptsWaiting : MI := (yX4_receiptsWaiting, cX4_receiptsWaiting, 4, some .int, 1)
def tbX4_receiptsWaiting : List TE := [(0, .iconst 0, 1, 0, 0), (1, .istore_n 1, 1, 0, 0), (2, .iconst 0, 1, 0, 0), (3, .istore_n 2, 1, 0, 0), (4, .iload_n 2, 1, 0, 0), (5, .aload_n 0, 1, 0, 0), (6, .invokevirtual 71, 3, 0, 0), (9, .if_icmp .ge 29, 3, 0, 38), (12, .aload_n 0, 1, 0, 0), (13, .iload_n 2, 1, 0, 0), (14, .invokevirtual 75, 3, 0, 0), (17, .astore_n 3, 1, 0, 0), (18, .aload_n 3, 1, 0, 0), (19, .ifnull 13, 3, 0, 32), (22, .aload_n 3, 1, 0, 0), (23, .getfield 79, 3, 0, 0), (26, .ifCond .ne 6, 3, 0, 32), (29, .iinc 1 1, 3, 1, 0), (32, .iinc 2 1, 3, 1, 0), (35, .goto (-31), 3, 0, 4), (38, .iload_n 1, 1, 0, 0), (39, .ireturn, 1, 0, 0)]
theorem tkX4_receiptsWaiting : ∀ x ∈ tbX4_receiptsWaiting, tbB cX4_receiptsWaiting x = true := tb_all (by decide +kernel)
def fX4_receiptsWaiting_32 (c : Nat → Option Nat) (k4 : Hp → Option Nat → Int32 → Int32 → Rs) (h : Hp) (l0 : Option Nat) (l1 : Int32) (l2 : Int32) : Rs := k4 h l0 l1 (l2 + (1 : Int32))
set_option maxHeartbeats 4000000 in
set_option maxRecDepth 100000 in
theorem sX4_receiptsWaiting_32 (X : Cx) {h0 : Hp} (k4 : Hp → Option Nat → Int32 → Int32 → Rs) (hk4 : ∀ (h : Hp) (l0 : Option Nat) (l1 : Int32) (l2 : Int32), Gd X mX4_receiptsWaiting h0 (k4 h l0 l1 l2) h 4 [some (.inr (.inr l0)), some (.inl l1), some (.inl l2), none] []) (h : Hp) (l0 : Option Nat) (l1 : Int32) (l2 : Int32) : Gd X mX4_receiptsWaiting h0 (fX4_receiptsWaiting_32 X.2.2.2 k4 h l0 l1 l2) h 32 [some (.inr (.inr l0)), some (.inl l1), some (.inl l2), none] [] := by
  unfold fX4_receiptsWaiting_32
  refine q_run tkX4_receiptsWaiting 18 2 (pc' := 4) (L' := [some (.inr (.inr l0)), some (.inl l1), some (.inl (l2 + (1 : Int32))), none]) (st' := []) rfl ?_
  exact hk4 h l0 l1 (l2 + (1 : Int32))
def fX4_receiptsWaiting_4 (c : Nat → Option Nat) : Nat → Hp → Option Nat → Int32 → Int32 → Rs
  | 0, _, _, _, _ => none
  | n + 1, h, l0, l1, l2 => ck h l0 6 (cc (fX4_places c h l0) (kI fun h1 x2 => if l2 < x2 then (ck h1 l0 6 (cc (fX4_placeAt c h1 l0 l2) (kR fun h3 r4 => ifN r4 (fX4_receiptsWaiting_32 c (fX4_receiptsWaiting_4 c n) h3 l0 l1 l2) (rdI h3 r4 4 3 (fun x5 => if x5 = 0 then (fX4_receiptsWaiting_32 c (fX4_receiptsWaiting_4 c n) h3 l0 (l1 + (1 : Int32)) l2) else (fX4_receiptsWaiting_32 c (fX4_receiptsWaiting_4 c n) h3 l0 l1 l2)))))) else (some (h1, some (.inl l1)))))
set_option maxHeartbeats 4000000 in
set_option maxRecDepth 100000 in
theorem sX4_receiptsWaiting_4 (X : Cx) {h0 : Hp} : ∀ (n : Nat) (h : Hp) (l0 : Option Nat) (l1 : Int32) (l2 : Int32), Gd X mX4_receiptsWaiting h0 (fX4_receiptsWaiting_4 X.2.2.2 n h l0 l1 l2) h 4 [some (.inr (.inr l0)), some (.inl l1), some (.inl l2), none] [] := by
  intro n
  induction n with
  | zero => intros; exact gd_none
  | succ n ih =>
    intro h l0 l1 l2
    unfold fX4_receiptsWaiting_4
    refine q_run tkX4_receiptsWaiting 4 2 (pc' := 6) (L' := [some (.inr (.inr l0)), some (.inl l1), some (.inl l2), none]) (st' := [.inr (.inr l0), .inl l2]) rfl ?_
    refine q_cv (r := l0) (ci := 6) (n := 0) (as := []) (st := [.inl l2]) TX4 13 (soX4_places X h l0) (tbm tkX4_receiptsWaiting (i := 6) rfl) rfl rfl ceX4_places wd_273 wd_274 wd_272 rfl (Nat.le_of_ble_eq_true rfl) (kI_gd (fun h1 x2 => ?_))
    refine q_icmp_ge (tbm tkX4_receiptsWaiting (i := 7) rfl) ?_ ?_
    · refine q_run tkX4_receiptsWaiting 8 2 (pc' := 14) (L' := [some (.inr (.inr l0)), some (.inl l1), some (.inl l2), none]) (st' := [.inl l2, .inr (.inr l0)]) rfl ?_
      refine q_cv (r := l0) (ci := 6) (n := 1) (as := [.inl l2]) (st := []) TX4 13 (soX4_placeAt X h1 l0 l2) (tbm tkX4_receiptsWaiting (i := 10) rfl) rfl rfl ceX4_placeAt wd_277 wd_278 wd_276 rfl (Nat.le_of_ble_eq_true rfl) (kR_gd (fun h3 r4 => ?_))
      refine q_run tkX4_receiptsWaiting 11 2 (pc' := 19) (L' := [some (.inr (.inr l0)), some (.inl l1), some (.inl l2), some (.inr (.inr r4))]) (st' := [.inr (.inr r4)]) rfl ?_
      refine q_ifnull (tbm tkX4_receiptsWaiting (i := 13) rfl) ?_ ?_
      · refine q_le (L' := [some (.inr (.inr l0)), some (.inl l1), some (.inl l2), none]) (lvLe_s (lvLe_s (lvLe_s (lvLe_n lvLe_0)))) ?_
        exact sX4_receiptsWaiting_32 X (fX4_receiptsWaiting_4 X.2.2.2 n) ih h3 l0 l1 l2
      · refine q_run tkX4_receiptsWaiting 14 1 (pc' := 23) (L' := [some (.inr (.inr l0)), some (.inl l1), some (.inl l2), some (.inr (.inr r4))]) (st' := [.inr (.inr r4)]) rfl ?_
        refine q_rdI RX2 TX2 14 (tbm tkX4_receiptsWaiting (i := 15) rfl) rfl (Nat.le_of_ble_eq_true rfl) wd_67 (fun x5 => ?_)
        refine q_if_ne (tbm tkX4_receiptsWaiting (i := 16) rfl) ?_ ?_
        · refine q_run tkX4_receiptsWaiting 17 1 (pc' := 32) (L' := [some (.inr (.inr l0)), some (.inl (l1 + (1 : Int32))), some (.inl l2), some (.inr (.inr r4))]) (st' := []) rfl ?_
          refine q_le (L' := [some (.inr (.inr l0)), some (.inl (l1 + (1 : Int32))), some (.inl l2), none]) (lvLe_s (lvLe_s (lvLe_s (lvLe_n lvLe_0)))) ?_
          exact sX4_receiptsWaiting_32 X (fX4_receiptsWaiting_4 X.2.2.2 n) ih h3 l0 (l1 + (1 : Int32)) l2
        · refine q_le (L' := [some (.inr (.inr l0)), some (.inl l1), some (.inl l2), none]) (lvLe_s (lvLe_s (lvLe_s (lvLe_n lvLe_0)))) ?_
          exact sX4_receiptsWaiting_32 X (fX4_receiptsWaiting_4 X.2.2.2 n) ih h3 l0 l1 l2
    · refine q_run tkX4_receiptsWaiting 20 1 (pc' := 39) (L' := [some (.inr (.inr l0)), some (.inl l1), some (.inl l2), none]) (st' := [.inl l1]) rfl ?_
      exact q_iret (tbm tkX4_receiptsWaiting (i := 21) rfl) rfl
def fX4_receiptsWaiting (c : Nat → Option Nat) (h : Hp) (a0 : Option Nat) : Rs := fX4_receiptsWaiting_4 c FU h a0 (0 : Int32) (0 : Int32)
set_option maxHeartbeats 4000000 in
set_option maxRecDepth 100000 in
theorem soX4_receiptsWaiting (X : Cx) (h : Hp) (a0 : Option Nat) : SO X mX4_receiptsWaiting [.inr (.inr a0)] h (fX4_receiptsWaiting X.2.2.2 h a0) := by
  refine so_of (by decide +kernel) (Nat.le_of_ble_eq_true rfl) ?_
  show Gd X mX4_receiptsWaiting h (fX4_receiptsWaiting X.2.2.2 h a0) h 0 [some (.inr (.inr a0)), none, none, none] []
  unfold fX4_receiptsWaiting
  refine q_run tkX4_receiptsWaiting 0 4 (pc' := 4) (L' := [some (.inr (.inr a0)), some (.inl (0 : Int32)), some (.inl (0 : Int32)), none]) (st' := []) rfl ?_
  exact sX4_receiptsWaiting_4 X FU h a0 (0 : Int32) (0 : Int32)
theorem ceX4_receiptsWaiting : Ce mX4_receiptsWaiting 0 := ⟨wd_19, wd_317, by decide +kernel, by decide +kernel, by decide +kernel⟩
/-- ReceiptRolls$State.settingAt -/
abbrev mX4_settingAt : MI := (yX4_settingAt, cX4_settingAt, 2, some .int, 0)
def tbX4_settingAt : List TE := [(0, .iload_n 1, 1, 0, 0), (1, .ifCond .lt 21, 3, 0, 22), (4, .iload_n 1, 1, 0, 0), (5, .aload_n 0, 1, 0, 0), (6, .getfield 18, 3, 0, 0), (9, .arraylength, 1, 0, 0), (10, .if_icmp .ge 12, 3, 0, 22), (13, .aload_n 0, 1, 0, 0), (14, .getfield 18, 3, 0, 0), (17, .iload_n 1, 1, 0, 0), (18, .iaload, 1, 0, 0), (19, .goto 4, 3, 0, 23), (22, .iconst 0, 1, 0, 0), (23, .ireturn, 1, 0, 0)]
theorem tkX4_settingAt : ∀ x ∈ tbX4_settingAt, tbB cX4_settingAt x = true := tb_all (by decide +kernel)
def fX4_settingAt_23 (c : Nat → Option Nat) (h : Hp) (s0 : Int32) : Rs := some (h, some (.inl s0))
set_option maxHeartbeats 4000000 in
set_option maxRecDepth 100000 in
theorem sX4_settingAt_23 (X : Cx) {h0 : Hp} (h : Hp) (s0 : Int32) : Gd X mX4_settingAt h0 (fX4_settingAt_23 X.2.2.2 h s0) h 23 [none, none] [.inl s0] := by
  unfold fX4_settingAt_23
  exact q_iret (tbm tkX4_settingAt (i := 13) rfl) rfl
def fX4_settingAt_22 (c : Nat → Option Nat) (h : Hp) : Rs := fX4_settingAt_23 c h (0 : Int32)
set_option maxHeartbeats 4000000 in
set_option maxRecDepth 100000 in
theorem sX4_settingAt_22 (X : Cx) {h0 : Hp} (h : Hp) : Gd X mX4_settingAt h0 (fX4_settingAt_22 X.2.2.2 h) h 22 [none, none] [] := by
  unfold fX4_settingAt_22
  refine q_run tkX4_settingAt 12 1 (pc' := 23) (L' := [none, none]) (st' := [.inl (0 : Int32)]) rfl ?_
  exact sX4_settingAt_23 X h (0 : Int32)
def fX4_settingAt (c : Nat → Option Nat) (h : Hp) (a0 : Option Nat) (a1 : Int32) : Rs := if a1 < 0 then (fX4_settingAt_22 c h) else (rdR h a0 6 10 (fun r1 => lenA h r1 (fun x2 => if a1 < x2 then (rdR h a0 6 10 (fun r3 => aldI h r3 [0, 10] a1 (fun x4 => fX4_settingAt_23 c h x4))) else (fX4_settingAt_22 c h))))
set_option maxHeartbeats 4000000 in
set_option maxRecDepth 100000 in
theorem soX4_settingAt (X : Cx) (h : Hp) (a0 : Option Nat) (a1 : Int32) : SO X mX4_settingAt [.inr (.inr a0), .inl a1] h (fX4_settingAt X.2.2.2 h a0 a1) := by
  refine so_of (by decide +kernel) (Nat.le_of_ble_eq_true rfl) ?_
  show Gd X mX4_settingAt h (fX4_settingAt X.2.2.2 h a0 a1) h 0 [some (.inr (.inr a0)), some (.inl a1)] []
  unfold fX4_settingAt
  refine q_run tkX4_settingAt 0 1 (pc' := 1) (L' := [some (.inr (.inr a0)), some (.inl a1)]) (st' := [.inl a1]) rfl ?_
  refine q_if_lt (tbm tkX4_settingAt (i := 1) rfl) ?_ ?_
  · refine q_le (L' := [none, none]) (lvLe_n (lvLe_n lvLe_0)) ?_
    exact sX4_settingAt_22 X h
  · refine q_run tkX4_settingAt 2 2 (pc' := 6) (L' := [some (.inr (.inr a0)), some (.inl a1)]) (st' := [.inr (.inr a0), .inl a1]) rfl ?_
    refine q_rdR RX4 TX4 13 (tbm tkX4_settingAt (i := 4) rfl) rfl (Nat.le_of_ble_eq_true rfl) wd_139 (fun r1 => ?_)
    refine q_alen (tbm tkX4_settingAt (i := 5) rfl) (fun x2 => ?_)
    refine q_icmp_ge (tbm tkX4_settingAt (i := 6) rfl) ?_ ?_
    · refine q_run tkX4_settingAt 7 1 (pc' := 14) (L' := [some (.inr (.inr a0)), some (.inl a1)]) (st' := [.inr (.inr a0)]) rfl ?_
      refine q_rdR RX4 TX4 13 (tbm tkX4_settingAt (i := 8) rfl) rfl (Nat.le_of_ble_eq_true rfl) wd_139 (fun r3 => ?_)
      refine q_run tkX4_settingAt 9 1 (pc' := 18) (L' := [some (.inr (.inr a0)), some (.inl a1)]) (st' := [.inl a1, .inr (.inr r3)]) rfl ?_
      refine q_iaload (tbm tkX4_settingAt (i := 10) rfl) (fun x4 => ?_)
      refine q_run tkX4_settingAt 11 1 (pc' := 23) (L' := [some (.inr (.inr a0)), some (.inl a1)]) (st' := [.inl x4]) rfl ?_
      refine q_le (L' := [none, none]) (lvLe_n (lvLe_n lvLe_0)) ?_
      exact sX4_settingAt_23 X h x4
    · refine q_le (L' := [none, none]) (lvLe_n (lvLe_n lvLe_0)) ?_
      exact sX4_settingAt_22 X h
theorem ceX4_settingAt : Ce mX4_settingAt 1 := ⟨wd_19, wd_321, by decide +kernel, by decide +kernel, by decide +kernel⟩
/-- ReceiptRolls$State.openAt -/
abbrev mX4_openAt : MI := (yX4_openAt, cX4_openAt, 2, some (.object "ReceiptRolls$Receipt"), 0)
def tbX4_openAt : List TE := [(0, .iload_n 1, 1, 0, 0), (1, .ifCond .lt 21, 3, 0, 22), (4, .iload_n 1, 1, 0, 0), (5, .aload_n 0, 1, 0, 0), (6, .getfield 24, 3, 0, 0), (9, .arraylength, 1, 0, 0), (10, .if_icmp .ge 12, 3, 0, 22), (13, .aload_n 0, 1, 0, 0), (14, .getfield 24, 3, 0, 0), (17, .iload_n 1, 1, 0, 0), (18, .aaload, 1, 0, 0), (19, .goto 4, 3, 0, 23), (22, .aconst_null, 1, 0, 0), (23, .areturn, 1, 0, 0)]
theorem tkX4_openAt : ∀ x ∈ tbX4_openAt, tbB cX4_openAt x = true := tb_all (by decide +kernel)
def fX4_openAt_23 (c : Nat → Option Nat) (h : Hp) (s0 : Option Nat) : Rs := some (h, some (.inr (.inr s0)))
set_option maxHeartbeats 4000000 in
set_option maxRecDepth 100000 in
theorem sX4_openAt_23 (X : Cx) {h0 : Hp} (h : Hp) (s0 : Option Nat) : Gd X mX4_openAt h0 (fX4_openAt_23 X.2.2.2 h s0) h 23 [none, none] [.inr (.inr s0)] := by
  unfold fX4_openAt_23
  exact q_aret (tbm tkX4_openAt (i := 13) rfl) rfl (Or.inl ⟨_, rfl⟩)
def fX4_openAt_22 (c : Nat → Option Nat) (h : Hp) : Rs := fX4_openAt_23 c h none
set_option maxHeartbeats 4000000 in
set_option maxRecDepth 100000 in
theorem sX4_openAt_22 (X : Cx) {h0 : Hp} (h : Hp) : Gd X mX4_openAt h0 (fX4_openAt_22 X.2.2.2 h) h 22 [none, none] [] := by
  unfold fX4_openAt_22
  refine q_run tkX4_openAt 12 1 (pc' := 23) (L' := [none, none]) (st' := [.inr (.inr none)]) rfl ?_
  exact sX4_openAt_23 X h none
def fX4_openAt (c : Nat → Option Nat) (h : Hp) (a0 : Option Nat) (a1 : Int32) : Rs := if a1 < 0 then (fX4_openAt_22 c h) else (rdR h a0 6 11 (fun r1 => lenA h r1 (fun x2 => if a1 < x2 then (rdR h a0 6 11 (fun r3 => aldR h r3 a1 (fun r4 => fX4_openAt_23 c h r4))) else (fX4_openAt_22 c h))))
set_option maxHeartbeats 4000000 in
set_option maxRecDepth 100000 in
theorem soX4_openAt (X : Cx) (h : Hp) (a0 : Option Nat) (a1 : Int32) : SO X mX4_openAt [.inr (.inr a0), .inl a1] h (fX4_openAt X.2.2.2 h a0 a1) := by
  refine so_of (by decide +kernel) (Nat.le_of_ble_eq_true rfl) ?_
  show Gd X mX4_openAt h (fX4_openAt X.2.2.2 h a0 a1) h 0 [some (.inr (.inr a0)), some (.inl a1)] []
  unfold fX4_openAt
  refine q_run tkX4_openAt 0 1 (pc' := 1) (L' := [some (.inr (.inr a0)), some (.inl a1)]) (st' := [.inl a1]) rfl ?_
  refine q_if_lt (tbm tkX4_openAt (i := 1) rfl) ?_ ?_
  · refine q_le (L' := [none, none]) (lvLe_n (lvLe_n lvLe_0)) ?_
    exact sX4_openAt_22 X h
  · refine q_run tkX4_openAt 2 2 (pc' := 6) (L' := [some (.inr (.inr a0)), some (.inl a1)]) (st' := [.inr (.inr a0), .inl a1]) rfl ?_
    refine q_rdR RX4 TX4 13 (tbm tkX4_openAt (i := 4) rfl) rfl (Nat.le_of_ble_eq_true rfl) wd_140 (fun r1 => ?_)
    refine q_alen (tbm tkX4_openAt (i := 5) rfl) (fun x2 => ?_)
    refine q_icmp_ge (tbm tkX4_openAt (i := 6) rfl) ?_ ?_
    · refine q_run tkX4_openAt 7 1 (pc' := 14) (L' := [some (.inr (.inr a0)), some (.inl a1)]) (st' := [.inr (.inr a0)]) rfl ?_
      refine q_rdR RX4 TX4 13 (tbm tkX4_openAt (i := 8) rfl) rfl (Nat.le_of_ble_eq_true rfl) wd_140 (fun r3 => ?_)
      refine q_run tkX4_openAt 9 1 (pc' := 18) (L' := [some (.inr (.inr a0)), some (.inl a1)]) (st' := [.inl a1, .inr (.inr r3)]) rfl ?_
      refine q_aaload (tbm tkX4_openAt (i := 10) rfl) (fun r4 => ?_)
      refine q_run tkX4_openAt 11 1 (pc' := 23) (L' := [some (.inr (.inr a0)), some (.inl a1)]) (st' := [.inr (.inr r4)]) rfl ?_
      refine q_le (L' := [none, none]) (lvLe_n (lvLe_n lvLe_0)) ?_
      exact sX4_openAt_23 X h r4
    · refine q_le (L' := [none, none]) (lvLe_n (lvLe_n lvLe_0)) ?_
      exact sX4_openAt_22 X h
theorem ceX4_openAt : Ce mX4_openAt 1 := ⟨wd_19, wd_363, by decide +kernel, by decide +kernel, by decide +kernel⟩
/-- ReceiptRolls$Receipt.itemsStruck -/
abbrev mX2_itemsStruck : MI := (yX2_itemsStruck, cX2_itemsStruck, 1, some .int, 1)
def tbX2_itemsStruck : List TE := [(0, .aload_n 0, 1, 0, 0), (1, .getfield 55, 3, 0, 0), (4, .invokestatic 58, 3, 0, 0), (7, .ireturn, 1, 0, 0)]
theorem tkX2_itemsStruck : ∀ x ∈ tbX2_itemsStruck, tbB cX2_itemsStruck x = true := tb_all (by decide +kernel)
def fX2_itemsStruck (c : Nat → Option Nat) (h : Hp) (a0 : Option Nat) : Rs := rdI h a0 4 11 (fun x1 => cc (fJ6_bitCount_0f7a4 c h x1) (kI fun h2 x3 => some (h2, some (.inl x3))))
set_option maxHeartbeats 4000000 in
set_option maxRecDepth 100000 in
theorem soX2_itemsStruck (X : Cx) (h : Hp) (a0 : Option Nat) : SO X mX2_itemsStruck [.inr (.inr a0)] h (fX2_itemsStruck X.2.2.2 h a0) := by
  refine so_of (by decide +kernel) (Nat.le_of_ble_eq_true rfl) ?_
  show Gd X mX2_itemsStruck h (fX2_itemsStruck X.2.2.2 h a0) h 0 [some (.inr (.inr a0))] []
  unfold fX2_itemsStruck
  refine q_run tkX2_itemsStruck 0 1 (pc' := 1) (L' := [some (.inr (.inr a0))]) (st' := [.inr (.inr a0)]) rfl ?_
  refine q_rdI RX2 TX2 14 (tbm tkX2_itemsStruck (i := 1) rfl) rfl (Nat.le_of_ble_eq_true rfl) wd_85 (fun x1 => ?_)
  refine q_cs (n := 1) (as := [.inl x1]) (st := []) (soJ6_bitCount_0f7a4 X h x1) (tbm tkX2_itemsStruck (i := 2) rfl) rfl ceJ6_bitCount_0f7a4 wd_285 wd_284 rfl (Nat.le_of_ble_eq_true rfl) (kI_gd (fun h2 x3 => ?_))
  exact q_iret (tbm tkX2_itemsStruck (i := 3) rfl) rfl
theorem ceX2_itemsStruck : Ce mX2_itemsStruck 0 := ⟨wd_20, wd_283, by decide +kernel, by decide +kernel, by decide +kernel⟩
/-- ReceiptRolls$Receipt.itemAt -/
abbrev mX2_itemAt : MI := (yX2_itemAt, cX2_itemAt, 2, some (.object "ReceiptRolls$Item"), 0)
def tbX2_itemAt : List TE := [(0, .iload_n 1, 1, 0, 0), (1, .ifCond .lt 29, 3, 0, 30), (4, .iload_n 1, 1, 0, 0), (5, .aload_n 0, 1, 0, 0), (6, .getfield 49, 3, 0, 0), (9, .if_icmp .ge 21, 3, 0, 30), (12, .iload_n 1, 1, 0, 0), (13, .aload_n 0, 1, 0, 0), (14, .getfield 11, 3, 0, 0), (17, .arraylength, 1, 0, 0), (18, .if_icmp .ge 12, 3, 0, 30), (21, .aload_n 0, 1, 0, 0), (22, .getfield 11, 3, 0, 0), (25, .iload_n 1, 1, 0, 0), (26, .aaload, 1, 0, 0), (27, .goto 4, 3, 0, 31), (30, .aconst_null, 1, 0, 0), (31, .areturn, 1, 0, 0)]
theorem tkX2_itemAt : ∀ x ∈ tbX2_itemAt, tbB cX2_itemAt x = true := tb_all (by decide +kernel)
def fX2_itemAt_31 (c : Nat → Option Nat) (h : Hp) (s0 : Option Nat) : Rs := some (h, some (.inr (.inr s0)))
set_option maxHeartbeats 4000000 in
set_option maxRecDepth 100000 in
theorem sX2_itemAt_31 (X : Cx) {h0 : Hp} (h : Hp) (s0 : Option Nat) : Gd X mX2_itemAt h0 (fX2_itemAt_31 X.2.2.2 h s0) h 31 [none, none] [.inr (.inr s0)] := by
  unfold fX2_itemAt_31
  exact q_aret (tbm tkX2_itemAt (i := 17) rfl) rfl (Or.inl ⟨_, rfl⟩)
def fX2_itemAt_30 (c : Nat → Option Nat) (h : Hp) : Rs := fX2_itemAt_31 c h none
set_option maxHeartbeats 4000000 in
set_option maxRecDepth 100000 in
theorem sX2_itemAt_30 (X : Cx) {h0 : Hp} (h : Hp) : Gd X mX2_itemAt h0 (fX2_itemAt_30 X.2.2.2 h) h 30 [none, none] [] := by
  unfold fX2_itemAt_30
  refine q_run tkX2_itemAt 16 1 (pc' := 31) (L' := [none, none]) (st' := [.inr (.inr none)]) rfl ?_
  exact sX2_itemAt_31 X h none
def fX2_itemAt (c : Nat → Option Nat) (h : Hp) (a0 : Option Nat) (a1 : Int32) : Rs := if a1 < 0 then (fX2_itemAt_30 c h) else (rdI h a0 4 9 (fun x1 => if a1 < x1 then (rdR h a0 4 12 (fun r2 => lenA h r2 (fun x3 => if a1 < x3 then (rdR h a0 4 12 (fun r4 => aldR h r4 a1 (fun r5 => fX2_itemAt_31 c h r5))) else (fX2_itemAt_30 c h)))) else (fX2_itemAt_30 c h)))
set_option maxHeartbeats 4000000 in
set_option maxRecDepth 100000 in
theorem soX2_itemAt (X : Cx) (h : Hp) (a0 : Option Nat) (a1 : Int32) : SO X mX2_itemAt [.inr (.inr a0), .inl a1] h (fX2_itemAt X.2.2.2 h a0 a1) := by
  refine so_of (by decide +kernel) (Nat.le_of_ble_eq_true rfl) ?_
  show Gd X mX2_itemAt h (fX2_itemAt X.2.2.2 h a0 a1) h 0 [some (.inr (.inr a0)), some (.inl a1)] []
  unfold fX2_itemAt
  refine q_run tkX2_itemAt 0 1 (pc' := 1) (L' := [some (.inr (.inr a0)), some (.inl a1)]) (st' := [.inl a1]) rfl ?_
  refine q_if_lt (tbm tkX2_itemAt (i := 1) rfl) ?_ ?_
  · refine q_le (L' := [none, none]) (lvLe_n (lvLe_n lvLe_0)) ?_
    exact sX2_itemAt_30 X h
  · refine q_run tkX2_itemAt 2 2 (pc' := 6) (L' := [some (.inr (.inr a0)), some (.inl a1)]) (st' := [.inr (.inr a0), .inl a1]) rfl ?_
    refine q_rdI RX2 TX2 14 (tbm tkX2_itemAt (i := 4) rfl) rfl (Nat.le_of_ble_eq_true rfl) wd_81 (fun x1 => ?_)
    refine q_icmp_ge (tbm tkX2_itemAt (i := 5) rfl) ?_ ?_
    · refine q_run tkX2_itemAt 6 2 (pc' := 14) (L' := [some (.inr (.inr a0)), some (.inl a1)]) (st' := [.inr (.inr a0), .inl a1]) rfl ?_
      refine q_rdR RX2 TX2 14 (tbm tkX2_itemAt (i := 8) rfl) rfl (Nat.le_of_ble_eq_true rfl) wd_86 (fun r2 => ?_)
      refine q_alen (tbm tkX2_itemAt (i := 9) rfl) (fun x3 => ?_)
      refine q_icmp_ge (tbm tkX2_itemAt (i := 10) rfl) ?_ ?_
      · refine q_run tkX2_itemAt 11 1 (pc' := 22) (L' := [some (.inr (.inr a0)), some (.inl a1)]) (st' := [.inr (.inr a0)]) rfl ?_
        refine q_rdR RX2 TX2 14 (tbm tkX2_itemAt (i := 12) rfl) rfl (Nat.le_of_ble_eq_true rfl) wd_86 (fun r4 => ?_)
        refine q_run tkX2_itemAt 13 1 (pc' := 26) (L' := [some (.inr (.inr a0)), some (.inl a1)]) (st' := [.inl a1, .inr (.inr r4)]) rfl ?_
        refine q_aaload (tbm tkX2_itemAt (i := 14) rfl) (fun r5 => ?_)
        refine q_run tkX2_itemAt 15 1 (pc' := 31) (L' := [some (.inr (.inr a0)), some (.inl a1)]) (st' := [.inr (.inr r5)]) rfl ?_
        refine q_le (L' := [none, none]) (lvLe_n (lvLe_n lvLe_0)) ?_
        exact sX2_itemAt_31 X h r5
      · refine q_le (L' := [none, none]) (lvLe_n (lvLe_n lvLe_0)) ?_
        exact sX2_itemAt_30 X h
    · refine q_le (L' := [none, none]) (lvLe_n (lvLe_n lvLe_0)) ?_
      exact sX2_itemAt_30 X h
theorem ceX2_itemAt : Ce mX2_itemAt 1 := ⟨wd_20, wd_301, by decide +kernel, by decide +kernel, by decide +kernel⟩
/-- ReceiptRolls$Item.sum -/
abbrev mX1_sum : MI := (yX1_sum, cX1_sum, 1, some .int, 0)
def tbX1_sum : List TE := [(0, .aload_n 0, 1, 0, 0), (1, .getfield 13, 3, 0, 0), (4, .aload_n 0, 1, 0, 0), (5, .getfield 17, 3, 0, 0), (8, .imul, 1, 0, 0), (9, .ireturn, 1, 0, 0)]
theorem tkX1_sum : ∀ x ∈ tbX1_sum, tbB cX1_sum x = true := tb_all (by decide +kernel)
def fX1_sum (c : Nat → Option Nat) (h : Hp) (a0 : Option Nat) : Rs := rdI h a0 3 1 (fun x1 => rdI h a0 3 2 (fun x2 => some (h, some (.inl (x1 * x2)))))
set_option maxHeartbeats 4000000 in
set_option maxRecDepth 100000 in
theorem soX1_sum (X : Cx) (h : Hp) (a0 : Option Nat) : SO X mX1_sum [.inr (.inr a0)] h (fX1_sum X.2.2.2 h a0) := by
  refine so_of (by decide +kernel) (Nat.le_of_ble_eq_true rfl) ?_
  show Gd X mX1_sum h (fX1_sum X.2.2.2 h a0) h 0 [some (.inr (.inr a0))] []
  unfold fX1_sum
  refine q_run tkX1_sum 0 1 (pc' := 1) (L' := [some (.inr (.inr a0))]) (st' := [.inr (.inr a0)]) rfl ?_
  refine q_rdI RX1 TX1 4 (tbm tkX1_sum (i := 1) rfl) rfl (Nat.le_of_ble_eq_true rfl) wd_784 (fun x1 => ?_)
  refine q_run tkX1_sum 2 1 (pc' := 5) (L' := [some (.inr (.inr a0))]) (st' := [.inr (.inr a0), .inl x1]) rfl ?_
  refine q_rdI RX1 TX1 4 (tbm tkX1_sum (i := 3) rfl) rfl (Nat.le_of_ble_eq_true rfl) wd_786 (fun x2 => ?_)
  refine q_run tkX1_sum 4 1 (pc' := 9) (L' := [some (.inr (.inr a0))]) (st' := [.inl (x1 * x2)]) rfl ?_
  exact q_iret (tbm tkX1_sum (i := 5) rfl) rfl
theorem ceX1_sum : Ce mX1_sum 0 := ⟨wd_34, wd_305, by decide +kernel, by decide +kernel, by decide +kernel⟩
/-- ReceiptRolls$Receipt.totalWithout -/
abbrev mX2_totalWithout : MI := (yX2_totalWithout, cX2_totalWithout, 5, some .int, 1)
def tbX2_totalWithout : List TE := [(0, .iconst 0, 1, 0, 0), (1, .istore_n 2, 1, 0, 0), (2, .iconst 0, 1, 0, 0), (3, .istore_n 3, 1, 0, 0), (4, .iload_n 3, 1, 0, 0), (5, .aload_n 0, 1, 0, 0), (6, .getfield 49, 3, 0, 0), (9, .if_icmp .ge 37, 3, 0, 46), (12, .aload_n 0, 1, 0, 0), (13, .iload_n 3, 1, 0, 0), (14, .invokevirtual 71, 3, 0, 0), (17, .astore 4, 2, 0, 0), (19, .aload 4, 2, 0, 0), (21, .ifnull 19, 3, 0, 40), (24, .iload_n 1, 1, 0, 0), (25, .iload_n 3, 1, 0, 0), (26, .ishr, 1, 0, 0), (27, .iconst 1, 1, 1, 0), (28, .iand, 1, 0, 0), (29, .ifCond .ne 11, 3, 0, 40), (32, .iload_n 2, 1, 0, 0), (33, .aload 4, 2, 0, 0), (35, .invokevirtual 75, 3, 0, 0), (38, .iadd, 1, 0, 0), (39, .istore_n 2, 1, 0, 0), (40, .iinc 3 1, 3, 1, 0), (43, .goto (-39), 3, 0, 4), (46, .iload_n 2, 1, 0, 0), (47, .ireturn, 1, 0, 0)]
theorem tkX2_totalWithout : ∀ x ∈ tbX2_totalWithout, tbB cX2_totalWithout x = true := tb_all (by decide +kernel)
def fX2_totalWithout_40 (c : Nat → Option Nat) (k4 : Hp → Option Nat → Int32 → Int32 → Int32 → Rs) (h : Hp) (l0 : Option Nat) (l1 : Int32) (l2 : Int32) (l3 : Int32) : Rs := k4 h l0 l1 l2 (l3 + (1 : Int32))
set_option maxHeartbeats 4000000 in
set_option maxRecDepth 100000 in
theorem sX2_totalWithout_40 (X : Cx) {h0 : Hp} (k4 : Hp → Option Nat → Int32 → Int32 → Int32 → Rs) (hk4 : ∀ (h : Hp) (l0 : Option Nat) (l1 : Int32) (l2 : Int32) (l3 : Int32), Gd X mX2_totalWithout h0 (k4 h l0 l1 l2 l3) h 4 [some (.inr (.inr l0)), some (.inl l1), some (.inl l2), some (.inl l3), none] []) (h : Hp) (l0 : Option Nat) (l1 : Int32) (l2 : Int32) (l3 : Int32) : Gd X mX2_totalWithout h0 (fX2_totalWithout_40 X.2.2.2 k4 h l0 l1 l2 l3) h 40 [some (.inr (.inr l0)), some (.inl l1), some (.inl l2), some (.inl l3), none] [] := by
  unfold fX2_totalWithout_40
  refine q_run tkX2_totalWithout 25 2 (pc' := 4) (L' := [some (.inr (.inr l0)), some (.inl l1), some (.inl l2), some (.inl (l3 + (1 : Int32))), none]) (st' := []) rfl ?_
  exact hk4 h l0 l1 l2 (l3 + (1 : Int32))
def fX2_totalWithout_4 (c : Nat → Option Nat) : Nat → Hp → Option Nat → Int32 → Int32 → Int32 → Rs
  | 0, _, _, _, _, _ => none
  | n + 1, h, l0, l1, l2, l3 => rdI h l0 4 9 (fun x1 => if l3 < x1 then (ck h l0 4 (cc (fX2_itemAt c h l0 l3) (kR fun h2 r3 => ifN r3 (fX2_totalWithout_40 c (fX2_totalWithout_4 c n) h2 l0 l1 l2 l3) (if ((shrI l1 l3) &&& (1 : Int32)) = 0 then (ck h2 r3 3 (cc (fX1_sum c h2 r3) (kI fun h4 x5 => fX2_totalWithout_40 c (fX2_totalWithout_4 c n) h4 l0 l1 (l2 + x5) l3))) else (fX2_totalWithout_40 c (fX2_totalWithout_4 c n) h2 l0 l1 l2 l3))))) else (some (h, some (.inl l2))))
set_option maxHeartbeats 4000000 in
set_option maxRecDepth 100000 in
theorem sX2_totalWithout_4 (X : Cx) {h0 : Hp} : ∀ (n : Nat) (h : Hp) (l0 : Option Nat) (l1 : Int32) (l2 : Int32) (l3 : Int32), Gd X mX2_totalWithout h0 (fX2_totalWithout_4 X.2.2.2 n h l0 l1 l2 l3) h 4 [some (.inr (.inr l0)), some (.inl l1), some (.inl l2), some (.inl l3), none] [] := by
  intro n
  induction n with
  | zero => intros; exact gd_none
  | succ n ih =>
    intro h l0 l1 l2 l3
    unfold fX2_totalWithout_4
    refine q_run tkX2_totalWithout 4 2 (pc' := 6) (L' := [some (.inr (.inr l0)), some (.inl l1), some (.inl l2), some (.inl l3), none]) (st' := [.inr (.inr l0), .inl l3]) rfl ?_
    refine q_rdI RX2 TX2 14 (tbm tkX2_totalWithout (i := 6) rfl) rfl (Nat.le_of_ble_eq_true rfl) wd_81 (fun x1 => ?_)
    refine q_icmp_ge (tbm tkX2_totalWithout (i := 7) rfl) ?_ ?_
    · refine q_run tkX2_totalWithout 8 2 (pc' := 14) (L' := [some (.inr (.inr l0)), some (.inl l1), some (.inl l2), some (.inl l3), none]) (st' := [.inl l3, .inr (.inr l0)]) rfl ?_
      refine q_cv (r := l0) (ci := 4) (n := 1) (as := [.inl l3]) (st := []) TX2 14 (soX2_itemAt X h l0 l3) (tbm tkX2_totalWithout (i := 10) rfl) rfl rfl ceX2_itemAt wd_299 wd_300 wd_298 rfl (Nat.le_of_ble_eq_true rfl) (kR_gd (fun h2 r3 => ?_))
      refine q_run tkX2_totalWithout 11 2 (pc' := 21) (L' := [some (.inr (.inr l0)), some (.inl l1), some (.inl l2), some (.inl l3), some (.inr (.inr r3))]) (st' := [.inr (.inr r3)]) rfl ?_
      refine q_ifnull (tbm tkX2_totalWithout (i := 13) rfl) ?_ ?_
      · refine q_le (L' := [some (.inr (.inr l0)), some (.inl l1), some (.inl l2), some (.inl l3), none]) (lvLe_s (lvLe_s (lvLe_s (lvLe_s (lvLe_n lvLe_0))))) ?_
        exact sX2_totalWithout_40 X (fX2_totalWithout_4 X.2.2.2 n) ih h2 l0 l1 l2 l3
      · refine q_run tkX2_totalWithout 14 5 (pc' := 29) (L' := [some (.inr (.inr l0)), some (.inl l1), some (.inl l2), some (.inl l3), some (.inr (.inr r3))]) (st' := [.inl ((shrI l1 l3) &&& (1 : Int32))]) rfl ?_
        refine q_if_ne (tbm tkX2_totalWithout (i := 19) rfl) ?_ ?_
        · refine q_run tkX2_totalWithout 20 2 (pc' := 35) (L' := [some (.inr (.inr l0)), some (.inl l1), some (.inl l2), some (.inl l3), some (.inr (.inr r3))]) (st' := [.inr (.inr r3), .inl l2]) rfl ?_
          refine q_cv (r := r3) (ci := 3) (n := 0) (as := []) (st := [.inl l2]) TX1 4 (soX1_sum X h2 r3) (tbm tkX2_totalWithout (i := 22) rfl) rfl rfl ceX1_sum wd_303 wd_304 wd_302 rfl (Nat.le_of_ble_eq_true rfl) (kI_gd (fun h4 x5 => ?_))
          refine q_run tkX2_totalWithout 23 2 (pc' := 40) (L' := [some (.inr (.inr l0)), some (.inl l1), some (.inl (l2 + x5)), some (.inl l3), some (.inr (.inr r3))]) (st' := []) rfl ?_
          refine q_le (L' := [some (.inr (.inr l0)), some (.inl l1), some (.inl (l2 + x5)), some (.inl l3), none]) (lvLe_s (lvLe_s (lvLe_s (lvLe_s (lvLe_n lvLe_0))))) ?_
          exact sX2_totalWithout_40 X (fX2_totalWithout_4 X.2.2.2 n) ih h4 l0 l1 (l2 + x5) l3
        · refine q_le (L' := [some (.inr (.inr l0)), some (.inl l1), some (.inl l2), some (.inl l3), none]) (lvLe_s (lvLe_s (lvLe_s (lvLe_s (lvLe_n lvLe_0))))) ?_
          exact sX2_totalWithout_40 X (fX2_totalWithout_4 X.2.2.2 n) ih h2 l0 l1 l2 l3
    · refine q_run tkX2_totalWithout 27 1 (pc' := 47) (L' := [some (.inr (.inr l0)), some (.inl l1), some (.inl l2), some (.inl l3), none]) (st' := [.inl l2]) rfl ?_
      exact q_iret (tbm tkX2_totalWithout (i := 28) rfl) rfl
def fX2_totalWithout (c : Nat → Option Nat) (h : Hp) (a0 : Option Nat) (a1 : Int32) : Rs := fX2_totalWithout_4 c FU h a0 a1 (0 : Int32) (0 : Int32)
set_option maxHeartbeats 4000000 in
set_option maxRecDepth 100000 in
theorem soX2_totalWithout (X : Cx) (h : Hp) (a0 : Option Nat) (a1 : Int32) : SO X mX2_totalWithout [.inr (.inr a0), .inl a1] h (fX2_totalWithout X.2.2.2 h a0 a1) := by
  refine so_of (by decide +kernel) (Nat.le_of_ble_eq_true rfl) ?_
  show Gd X mX2_totalWithout h (fX2_totalWithout X.2.2.2 h a0 a1) h 0 [some (.inr (.inr a0)), some (.inl a1), none, none, none] []
  unfold fX2_totalWithout
  refine q_run tkX2_totalWithout 0 4 (pc' := 4) (L' := [some (.inr (.inr a0)), some (.inl a1), some (.inl (0 : Int32)), some (.inl (0 : Int32)), none]) (st' := []) rfl ?_
  exact sX2_totalWithout_4 X FU h a0 a1 (0 : Int32) (0 : Int32)
theorem ceX2_totalWithout : Ce mX2_totalWithout 1 := ⟨wd_20, wd_297, by decide +kernel, by decide +kernel, by decide +kernel⟩
/-- ReceiptRolls$Receipt.total -/
abbrev mX2_total : MI := (yX2_total, cX2_total, 1, some .int, 2)
def tbX2_total : List TE := [(0, .aload_n 0, 1, 0, 0), (1, .aload_n 0, 1, 0, 0), (2, .getfield 55, 3, 0, 0), (5, .invokevirtual 68, 3, 0, 0), (8, .ireturn, 1, 0, 0)]
theorem tkX2_total : ∀ x ∈ tbX2_total, tbB cX2_total x = true := tb_all (by decide +kernel)
def fX2_total (c : Nat → Option Nat) (h : Hp) (a0 : Option Nat) : Rs := rdI h a0 4 11 (fun x1 => ck h a0 4 (cc (fX2_totalWithout c h a0 x1) (kI fun h2 x3 => some (h2, some (.inl x3)))))
set_option maxHeartbeats 4000000 in
set_option maxRecDepth 100000 in
theorem soX2_total (X : Cx) (h : Hp) (a0 : Option Nat) : SO X mX2_total [.inr (.inr a0)] h (fX2_total X.2.2.2 h a0) := by
  refine so_of (by decide +kernel) (Nat.le_of_ble_eq_true rfl) ?_
  show Gd X mX2_total h (fX2_total X.2.2.2 h a0) h 0 [some (.inr (.inr a0))] []
  unfold fX2_total
  refine q_run tkX2_total 0 2 (pc' := 2) (L' := [some (.inr (.inr a0))]) (st' := [.inr (.inr a0), .inr (.inr a0)]) rfl ?_
  refine q_rdI RX2 TX2 14 (tbm tkX2_total (i := 2) rfl) rfl (Nat.le_of_ble_eq_true rfl) wd_85 (fun x1 => ?_)
  refine q_cv (r := a0) (ci := 4) (n := 1) (as := [.inl x1]) (st := []) TX2 14 (soX2_totalWithout X h a0 x1) (tbm tkX2_total (i := 3) rfl) rfl rfl ceX2_totalWithout wd_295 wd_296 wd_294 rfl (Nat.le_of_ble_eq_true rfl) (kI_gd (fun h2 x3 => ?_))
  exact q_iret (tbm tkX2_total (i := 4) rfl) rfl
theorem ceX2_total : Ce mX2_total 0 := ⟨wd_20, wd_293, by decide +kernel, by decide +kernel, by decide +kernel⟩
/-- ReceiptRolls$Sheet.begin -/
abbrev mX3_begin : MI := (yX3_begin, cX3_begin, 4, none, 0)
def tbX3_begin : List TE := [(0, .aload_n 0, 1, 0, 0), (1, .iload_n 1, 1, 0, 0), (2, .putfield 84, 3, 0, 0), (5, .aload_n 0, 1, 0, 0), (6, .iload_n 2, 1, 0, 0), (7, .putfield 87, 3, 0, 0), (10, .aload_n 0, 1, 0, 0), (11, .iload_n 2, 1, 0, 0), (12, .putfield 90, 3, 0, 0), (15, .aload_n 0, 1, 0, 0), (16, .iconst 0, 1, 0, 0), (17, .putfield 81, 3, 0, 0), (20, .aload_n 0, 1, 0, 0), (21, .iconst 0, 1, 0, 0), (22, .putfield 93, 3, 0, 0), (25, .iconst 0, 1, 0, 0), (26, .istore_n 3, 1, 0, 0), (27, .iload_n 3, 1, 0, 0), (28, .aload_n 0, 1, 0, 0), (29, .getfield 9, 3, 0, 0), (32, .arraylength, 1, 0, 0), (33, .if_icmp .ge 17, 3, 0, 50), (36, .aload_n 0, 1, 0, 0), (37, .getfield 9, 3, 0, 0), (40, .iload_n 3, 1, 0, 0), (41, .bipush 32, 2, 32, 0), (43, .castore, 1, 0, 0), (44, .iinc 3 1, 3, 1, 0), (47, .goto (-20), 3, 0, 27), (50, .return_, 1, 0, 0)]
theorem tkX3_begin : ∀ x ∈ tbX3_begin, tbB cX3_begin x = true := tb_all (by decide +kernel)
def fX3_begin_27 (c : Nat → Option Nat) : Nat → Hp → Option Nat → Int32 → Rs
  | 0, _, _, _ => none
  | n + 1, h, l0, l3 => rdR h l0 5 5 (fun r1 => lenA h r1 (fun x2 => if l3 < x2 then (rdR h l0 5 5 (fun r3 => astI h r3 [3] l3 (32 : Int32) (fun h4 => fX3_begin_27 c n h4 l0 (l3 + (1 : Int32))))) else (some (h, none))))
set_option maxHeartbeats 4000000 in
set_option maxRecDepth 100000 in
theorem sX3_begin_27 (X : Cx) {h0 : Hp} : ∀ (n : Nat) (h : Hp) (l0 : Option Nat) (l3 : Int32), Gd X mX3_begin h0 (fX3_begin_27 X.2.2.2 n h l0 l3) h 27 [some (.inr (.inr l0)), none, none, some (.inl l3)] [] := by
  intro n
  induction n with
  | zero => intros; exact gd_none
  | succ n ih =>
    intro h l0 l3
    unfold fX3_begin_27
    refine q_run tkX3_begin 17 2 (pc' := 29) (L' := [some (.inr (.inr l0)), none, none, some (.inl l3)]) (st' := [.inr (.inr l0), .inl l3]) rfl ?_
    refine q_rdR RX3 TX3 6 (tbm tkX3_begin (i := 19) rfl) rfl (Nat.le_of_ble_eq_true rfl) wd_233 (fun r1 => ?_)
    refine q_alen (tbm tkX3_begin (i := 20) rfl) (fun x2 => ?_)
    refine q_icmp_ge (tbm tkX3_begin (i := 21) rfl) ?_ ?_
    · refine q_run tkX3_begin 22 1 (pc' := 37) (L' := [some (.inr (.inr l0)), none, none, some (.inl l3)]) (st' := [.inr (.inr l0)]) rfl ?_
      refine q_rdR RX3 TX3 6 (tbm tkX3_begin (i := 23) rfl) rfl (Nat.le_of_ble_eq_true rfl) wd_233 (fun r3 => ?_)
      refine q_run tkX3_begin 24 2 (pc' := 43) (L' := [some (.inr (.inr l0)), none, none, some (.inl l3)]) (st' := [.inl (32 : Int32), .inl l3, .inr (.inr r3)]) rfl ?_
      refine q_castore (tbm tkX3_begin (i := 26) rfl) (fun h4 => ?_)
      refine q_run tkX3_begin 27 2 (pc' := 27) (L' := [some (.inr (.inr l0)), none, none, some (.inl (l3 + (1 : Int32)))]) (st' := []) rfl ?_
      exact ih h4 l0 (l3 + (1 : Int32))
    · exact q_vret (tbm tkX3_begin (i := 29) rfl) rfl
def fX3_begin (c : Nat → Option Nat) (h : Hp) (a0 : Option Nat) (a1 : Int32) (a2 : Int32) : Rs := wr h a0 5 0 (.inl a1) (fun h5 => wr h5 a0 5 3 (.inl a2) (fun h6 => wr h6 a0 5 2 (.inl a2) (fun h7 => wr h7 a0 5 1 (.inl (0 : Int32)) (fun h8 => wr h8 a0 5 4 (.inl (0 : Int32)) (fun h9 => fX3_begin_27 c FU h9 a0 (0 : Int32))))))
set_option maxHeartbeats 4000000 in
set_option maxRecDepth 100000 in
theorem soX3_begin (X : Cx) (h : Hp) (a0 : Option Nat) (a1 : Int32) (a2 : Int32) : SO X mX3_begin [.inr (.inr a0), .inl a1, .inl a2] h (fX3_begin X.2.2.2 h a0 a1 a2) := by
  refine so_of (by decide +kernel) (Nat.le_of_ble_eq_true rfl) ?_
  show Gd X mX3_begin h (fX3_begin X.2.2.2 h a0 a1 a2) h 0 [some (.inr (.inr a0)), some (.inl a1), some (.inl a2), none] []
  unfold fX3_begin
  refine q_run tkX3_begin 0 2 (pc' := 2) (L' := [some (.inr (.inr a0)), some (.inl a1), some (.inl a2), none]) (st' := [.inl a1, .inr (.inr a0)]) rfl ?_
  refine q_wr RX3 TX3 6 (tbm tkX3_begin (i := 2) rfl) rfl (Nat.le_of_ble_eq_true rfl) (Or.inl rfl) wd_225 (fun h5 => ?_)
  refine q_run tkX3_begin 3 2 (pc' := 7) (L' := [some (.inr (.inr a0)), some (.inl a1), some (.inl a2), none]) (st' := [.inl a2, .inr (.inr a0)]) rfl ?_
  refine q_wr RX3 TX3 6 (tbm tkX3_begin (i := 5) rfl) rfl (Nat.le_of_ble_eq_true rfl) (Or.inl rfl) wd_231 (fun h6 => ?_)
  refine q_run tkX3_begin 6 2 (pc' := 12) (L' := [some (.inr (.inr a0)), some (.inl a1), some (.inl a2), none]) (st' := [.inl a2, .inr (.inr a0)]) rfl ?_
  refine q_wr RX3 TX3 6 (tbm tkX3_begin (i := 8) rfl) rfl (Nat.le_of_ble_eq_true rfl) (Or.inl rfl) wd_229 (fun h7 => ?_)
  refine q_run tkX3_begin 9 2 (pc' := 17) (L' := [some (.inr (.inr a0)), some (.inl a1), some (.inl a2), none]) (st' := [.inl (0 : Int32), .inr (.inr a0)]) rfl ?_
  refine q_wr RX3 TX3 6 (tbm tkX3_begin (i := 11) rfl) rfl (Nat.le_of_ble_eq_true rfl) (Or.inl rfl) wd_227 (fun h8 => ?_)
  refine q_run tkX3_begin 12 2 (pc' := 22) (L' := [some (.inr (.inr a0)), some (.inl a1), some (.inl a2), none]) (st' := [.inl (0 : Int32), .inr (.inr a0)]) rfl ?_
  refine q_wr RX3 TX3 6 (tbm tkX3_begin (i := 14) rfl) rfl (Nat.le_of_ble_eq_true rfl) (Or.inl rfl) wd_232 (fun h9 => ?_)
  refine q_run tkX3_begin 15 2 (pc' := 27) (L' := [some (.inr (.inr a0)), some (.inl a1), some (.inl a2), some (.inl (0 : Int32))]) (st' := []) rfl ?_
  refine q_le (L' := [some (.inr (.inr a0)), none, none, some (.inl (0 : Int32))]) (lvLe_s (lvLe_n (lvLe_n (lvLe_s lvLe_0)))) ?_
  exact sX3_begin_27 X FU h9 a0 (0 : Int32)
theorem ceX3_begin : Ce mX3_begin 2 := ⟨wd_26, wd_375, by decide +kernel, by decide +kernel, by decide +kernel⟩
/-- ReceiptRolls$Sheet.addSign -/
abbrev mX3_addSign : MI := (yX3_addSign, cX3_addSign, 2, none, 0)
def tbX3_addSign : List TE := [(0, .aload_n 0, 1, 0, 0), (1, .getfield 81, 3, 0, 0), (4, .aload_n 0, 1, 0, 0), (5, .getfield 87, 3, 0, 0), (8, .if_icmp .ne 32, 3, 0, 40), (11, .aload_n 0, 1, 0, 0), (12, .getfield 93, 3, 0, 0), (15, .ifCond .lt 25, 3, 0, 40), (18, .aload_n 0, 1, 0, 0), (19, .getfield 93, 3, 0, 0), (22, .aload_n 0, 1, 0, 0), (23, .getfield 9, 3, 0, 0), (26, .arraylength, 1, 0, 0), (27, .if_icmp .ge 13, 3, 0, 40), (30, .aload_n 0, 1, 0, 0), (31, .getfield 9, 3, 0, 0), (34, .aload_n 0, 1, 0, 0), (35, .getfield 93, 3, 0, 0), (38, .iload_n 1, 1, 0, 0), (39, .castore, 1, 0, 0), (40, .aload_n 0, 1, 0, 0), (41, .dup, 1, 0, 0), (42, .getfield 93, 3, 0, 0), (45, .iconst 1, 1, 1, 0), (46, .iadd, 1, 0, 0), (47, .putfield 93, 3, 0, 0), (50, .return_, 1, 0, 0)]
theorem tkX3_addSign : ∀ x ∈ tbX3_addSign, tbB cX3_addSign x = true := tb_all (by decide +kernel)
def fX3_addSign_40 (c : Nat → Option Nat) (h : Hp) (l0 : Option Nat) : Rs := rdI h l0 5 4 (fun x1 => wr h l0 5 4 (.inl (x1 + (1 : Int32))) (fun h2 => some (h2, none)))
set_option maxHeartbeats 4000000 in
set_option maxRecDepth 100000 in
theorem sX3_addSign_40 (X : Cx) {h0 : Hp} (h : Hp) (l0 : Option Nat) : Gd X mX3_addSign h0 (fX3_addSign_40 X.2.2.2 h l0) h 40 [some (.inr (.inr l0)), none] [] := by
  unfold fX3_addSign_40
  refine q_run tkX3_addSign 20 2 (pc' := 42) (L' := [some (.inr (.inr l0)), none]) (st' := [.inr (.inr l0), .inr (.inr l0)]) rfl ?_
  refine q_rdI RX3 TX3 6 (tbm tkX3_addSign (i := 22) rfl) rfl (Nat.le_of_ble_eq_true rfl) wd_232 (fun x1 => ?_)
  refine q_run tkX3_addSign 23 2 (pc' := 47) (L' := [some (.inr (.inr l0)), none]) (st' := [.inl (x1 + (1 : Int32)), .inr (.inr l0)]) rfl ?_
  refine q_wr RX3 TX3 6 (tbm tkX3_addSign (i := 25) rfl) rfl (Nat.le_of_ble_eq_true rfl) (Or.inl rfl) wd_232 (fun h2 => ?_)
  exact q_vret (tbm tkX3_addSign (i := 26) rfl) rfl
def fX3_addSign (c : Nat → Option Nat) (h : Hp) (a0 : Option Nat) (a1 : Int32) : Rs := rdI h a0 5 1 (fun x3 => rdI h a0 5 3 (fun x4 => if x3 = x4 then (rdI h a0 5 4 (fun x5 => if x5 < 0 then (fX3_addSign_40 c h a0) else (rdI h a0 5 4 (fun x6 => rdR h a0 5 5 (fun r7 => lenA h r7 (fun x8 => if x6 < x8 then (rdR h a0 5 5 (fun r9 => rdI h a0 5 4 (fun x10 => astI h r9 [3] x10 a1 (fun h11 => fX3_addSign_40 c h11 a0)))) else (fX3_addSign_40 c h a0))))))) else (fX3_addSign_40 c h a0)))
set_option maxHeartbeats 4000000 in
set_option maxRecDepth 100000 in
theorem soX3_addSign (X : Cx) (h : Hp) (a0 : Option Nat) (a1 : Int32) : SO X mX3_addSign [.inr (.inr a0), .inl a1] h (fX3_addSign X.2.2.2 h a0 a1) := by
  refine so_of (by decide +kernel) (Nat.le_of_ble_eq_true rfl) ?_
  show Gd X mX3_addSign h (fX3_addSign X.2.2.2 h a0 a1) h 0 [some (.inr (.inr a0)), some (.inl a1)] []
  unfold fX3_addSign
  refine q_run tkX3_addSign 0 1 (pc' := 1) (L' := [some (.inr (.inr a0)), some (.inl a1)]) (st' := [.inr (.inr a0)]) rfl ?_
  refine q_rdI RX3 TX3 6 (tbm tkX3_addSign (i := 1) rfl) rfl (Nat.le_of_ble_eq_true rfl) wd_227 (fun x3 => ?_)
  refine q_run tkX3_addSign 2 1 (pc' := 5) (L' := [some (.inr (.inr a0)), some (.inl a1)]) (st' := [.inr (.inr a0), .inl x3]) rfl ?_
  refine q_rdI RX3 TX3 6 (tbm tkX3_addSign (i := 3) rfl) rfl (Nat.le_of_ble_eq_true rfl) wd_231 (fun x4 => ?_)
  refine q_icmp_ne (tbm tkX3_addSign (i := 4) rfl) ?_ ?_
  · refine q_run tkX3_addSign 5 1 (pc' := 12) (L' := [some (.inr (.inr a0)), some (.inl a1)]) (st' := [.inr (.inr a0)]) rfl ?_
    refine q_rdI RX3 TX3 6 (tbm tkX3_addSign (i := 6) rfl) rfl (Nat.le_of_ble_eq_true rfl) wd_232 (fun x5 => ?_)
    refine q_if_lt (tbm tkX3_addSign (i := 7) rfl) ?_ ?_
    · refine q_le (L' := [some (.inr (.inr a0)), none]) (lvLe_s (lvLe_n lvLe_0)) ?_
      exact sX3_addSign_40 X h a0
    · refine q_run tkX3_addSign 8 1 (pc' := 19) (L' := [some (.inr (.inr a0)), some (.inl a1)]) (st' := [.inr (.inr a0)]) rfl ?_
      refine q_rdI RX3 TX3 6 (tbm tkX3_addSign (i := 9) rfl) rfl (Nat.le_of_ble_eq_true rfl) wd_232 (fun x6 => ?_)
      refine q_run tkX3_addSign 10 1 (pc' := 23) (L' := [some (.inr (.inr a0)), some (.inl a1)]) (st' := [.inr (.inr a0), .inl x6]) rfl ?_
      refine q_rdR RX3 TX3 6 (tbm tkX3_addSign (i := 11) rfl) rfl (Nat.le_of_ble_eq_true rfl) wd_233 (fun r7 => ?_)
      refine q_alen (tbm tkX3_addSign (i := 12) rfl) (fun x8 => ?_)
      refine q_icmp_ge (tbm tkX3_addSign (i := 13) rfl) ?_ ?_
      · refine q_run tkX3_addSign 14 1 (pc' := 31) (L' := [some (.inr (.inr a0)), some (.inl a1)]) (st' := [.inr (.inr a0)]) rfl ?_
        refine q_rdR RX3 TX3 6 (tbm tkX3_addSign (i := 15) rfl) rfl (Nat.le_of_ble_eq_true rfl) wd_233 (fun r9 => ?_)
        refine q_run tkX3_addSign 16 1 (pc' := 35) (L' := [some (.inr (.inr a0)), some (.inl a1)]) (st' := [.inr (.inr a0), .inr (.inr r9)]) rfl ?_
        refine q_rdI RX3 TX3 6 (tbm tkX3_addSign (i := 17) rfl) rfl (Nat.le_of_ble_eq_true rfl) wd_232 (fun x10 => ?_)
        refine q_run tkX3_addSign 18 1 (pc' := 39) (L' := [some (.inr (.inr a0)), some (.inl a1)]) (st' := [.inl a1, .inl x10, .inr (.inr r9)]) rfl ?_
        refine q_castore (tbm tkX3_addSign (i := 19) rfl) (fun h11 => ?_)
        refine q_le (L' := [some (.inr (.inr a0)), none]) (lvLe_s (lvLe_n lvLe_0)) ?_
        exact sX3_addSign_40 X h11 a0
      · refine q_le (L' := [some (.inr (.inr a0)), none]) (lvLe_s (lvLe_n lvLe_0)) ?_
        exact sX3_addSign_40 X h a0
  · refine q_le (L' := [some (.inr (.inr a0)), none]) (lvLe_s (lvLe_n lvLe_0)) ?_
    exact sX3_addSign_40 X h a0
theorem ceX3_addSign : Ce mX3_addSign 1 := ⟨wd_26, wd_431, by decide +kernel, by decide +kernel, by decide +kernel⟩
/-- ReceiptRolls$Sheet.addText -/
abbrev mX3_addText : MI := (yX3_addText, cX3_addText, 3, none, 4)
def tbX3_addText : List TE := [(0, .iconst 0, 1, 0, 0), (1, .istore_n 2, 1, 0, 0), (2, .iload_n 2, 1, 0, 0), (3, .aload_n 1, 1, 0, 0), (4, .invokevirtual 107, 3, 0, 0), (7, .if_icmp .ge 18, 3, 0, 25), (10, .aload_n 0, 1, 0, 0), (11, .aload_n 1, 1, 0, 0), (12, .iload_n 2, 1, 0, 0), (13, .invokevirtual 112, 3, 0, 0), (16, .invokevirtual 99, 3, 0, 0), (19, .iinc 2 1, 3, 1, 0), (22, .goto (-20), 3, 0, 2), (25, .return_, 1, 0, 0)]
theorem tkX3_addText : ∀ x ∈ tbX3_addText, tbB cX3_addText x = true := tb_all (by decide +kernel)
def fX3_addText_2 (c : Nat → Option Nat) : Nat → Hp → Option Nat → Option Nat → Int32 → Rs
  | 0, _, _, _, _ => none
  | n + 1, h, l0, l1, l2 => ck h l1 0 (cc (fJ0_length_8abf5 c h l1) (kI fun h1 x2 => if l2 < x2 then (ck h1 l1 0 (cc (fJ0_charAt_5068e c h1 l1 l2) (kI fun h3 x4 => ck h3 l0 5 (cc (fX3_addSign c h3 l0 x4) (kV fun h5 => fX3_addText_2 c n h5 l0 l1 (l2 + (1 : Int32))))))) else (some (h1, none))))
set_option maxHeartbeats 4000000 in
set_option maxRecDepth 100000 in
theorem sX3_addText_2 (X : Cx) {h0 : Hp} : ∀ (n : Nat) (h : Hp) (l0 : Option Nat) (l1 : Option Nat) (l2 : Int32), Gd X mX3_addText h0 (fX3_addText_2 X.2.2.2 n h l0 l1 l2) h 2 [some (.inr (.inr l0)), some (.inr (.inr l1)), some (.inl l2)] [] := by
  intro n
  induction n with
  | zero => intros; exact gd_none
  | succ n ih =>
    intro h l0 l1 l2
    unfold fX3_addText_2
    refine q_run tkX3_addText 2 2 (pc' := 4) (L' := [some (.inr (.inr l0)), some (.inr (.inr l1)), some (.inl l2)]) (st' := [.inr (.inr l1), .inl l2]) rfl ?_
    refine q_cv (r := l1) (ci := 0) (n := 0) (as := []) (st := [.inl l2]) TJ0 4 (soJ0_length_8abf5 X h l1) (tbm tkX3_addText (i := 4) rfl) rfl rfl ceJ0_length_8abf5 wd_382 wd_383 wd_381 rfl (Nat.le_of_ble_eq_true rfl) (kI_gd (fun h1 x2 => ?_))
    refine q_icmp_ge (tbm tkX3_addText (i := 5) rfl) ?_ ?_
    · refine q_run tkX3_addText 6 3 (pc' := 13) (L' := [some (.inr (.inr l0)), some (.inr (.inr l1)), some (.inl l2)]) (st' := [.inl l2, .inr (.inr l1), .inr (.inr l0)]) rfl ?_
      refine q_cv (r := l1) (ci := 0) (n := 1) (as := [.inl l2]) (st := [.inr (.inr l0)]) TJ0 4 (soJ0_charAt_5068e X h1 l1 l2) (tbm tkX3_addText (i := 9) rfl) rfl rfl ceJ0_charAt_5068e wd_391 wd_392 wd_390 rfl (Nat.le_of_ble_eq_true rfl) (kI_gd (fun h3 x4 => ?_))
      refine q_cv (r := l0) (ci := 5) (n := 1) (as := [.inl x4]) (st := []) TX3 6 (soX3_addSign X h3 l0 x4) (tbm tkX3_addText (i := 10) rfl) rfl rfl ceX3_addSign wd_430 wd_3 wd_428 rfl (Nat.le_of_ble_eq_true rfl) (kV_gd (fun h5 => ?_))
      refine q_run tkX3_addText 11 2 (pc' := 2) (L' := [some (.inr (.inr l0)), some (.inr (.inr l1)), some (.inl (l2 + (1 : Int32)))]) (st' := []) rfl ?_
      exact ih h5 l0 l1 (l2 + (1 : Int32))
    · exact q_vret (tbm tkX3_addText (i := 13) rfl) rfl
def fX3_addText (c : Nat → Option Nat) (h : Hp) (a0 : Option Nat) (a1 : Option Nat) : Rs := fX3_addText_2 c FU h a0 a1 (0 : Int32)
set_option maxHeartbeats 4000000 in
set_option maxRecDepth 100000 in
theorem soX3_addText (X : Cx) (h : Hp) (a0 : Option Nat) (a1 : Option Nat) : SO X mX3_addText [.inr (.inr a0), .inr (.inr a1)] h (fX3_addText X.2.2.2 h a0 a1) := by
  refine so_of (by decide +kernel) (Nat.le_of_ble_eq_true rfl) ?_
  show Gd X mX3_addText h (fX3_addText X.2.2.2 h a0 a1) h 0 [some (.inr (.inr a0)), some (.inr (.inr a1)), none] []
  unfold fX3_addText
  refine q_run tkX3_addText 0 2 (pc' := 2) (L' := [some (.inr (.inr a0)), some (.inr (.inr a1)), some (.inl (0 : Int32))]) (st' := []) rfl ?_
  exact sX3_addText_2 X FU h a0 a1 (0 : Int32)
theorem ceX3_addText : Ce mX3_addText 1 := ⟨wd_26, wd_380, by decide +kernel, by decide +kernel, by decide +kernel⟩
/-- ReceiptRolls$Sheet.addNumber -/
abbrev mX3_addNumber : MI := (yX3_addNumber, cX3_addNumber, 3, none, 1)
def tbX3_addNumber : List TE := [(0, .ldc 125, 2, 0, 0), (2, .istore_n 2, 1, 0, 0), (3, .iload_n 2, 1, 0, 0), (4, .ifCond .le 35, 3, 0, 39), (7, .iload_n 1, 1, 0, 0), (8, .iload_n 2, 1, 0, 0), (9, .if_icmp .ge 8, 3, 0, 17), (12, .iload_n 2, 1, 0, 0), (13, .iconst 1, 1, 1, 0), (14, .if_icmp .ne 17, 3, 0, 31), (17, .aload_n 0, 1, 0, 0), (18, .bipush 48, 2, 48, 0), (20, .iload_n 1, 1, 0, 0), (21, .iload_n 2, 1, 0, 0), (22, .idiv, 1, 0, 0), (23, .bipush 10, 2, 10, 0), (25, .irem, 1, 0, 0), (26, .iadd, 1, 0, 0), (27, .i2c, 1, 0, 0), (28, .invokevirtual 99, 3, 0, 0), (31, .iload_n 2, 1, 0, 0), (32, .bipush 10, 2, 10, 0), (34, .idiv, 1, 0, 0), (35, .istore_n 2, 1, 0, 0), (36, .goto (-33), 3, 0, 3), (39, .return_, 1, 0, 0)]
theorem tkX3_addNumber : ∀ x ∈ tbX3_addNumber, tbB cX3_addNumber x = true := tb_all (by decide +kernel)
def fX3_addNumber_31 (c : Nat → Option Nat) (k3 : Hp → Option Nat → Int32 → Int32 → Rs) (h : Hp) (l0 : Option Nat) (l1 : Int32) (l2 : Int32) : Rs := dv (10 : Int32) (k3 h l0 l1 (l2 / (10 : Int32)))
set_option maxHeartbeats 4000000 in
set_option maxRecDepth 100000 in
theorem sX3_addNumber_31 (X : Cx) {h0 : Hp} (k3 : Hp → Option Nat → Int32 → Int32 → Rs) (hk3 : ∀ (h : Hp) (l0 : Option Nat) (l1 : Int32) (l2 : Int32), Gd X mX3_addNumber h0 (k3 h l0 l1 l2) h 3 [some (.inr (.inr l0)), some (.inl l1), some (.inl l2)] []) (h : Hp) (l0 : Option Nat) (l1 : Int32) (l2 : Int32) : Gd X mX3_addNumber h0 (fX3_addNumber_31 X.2.2.2 k3 h l0 l1 l2) h 31 [some (.inr (.inr l0)), some (.inl l1), some (.inl l2)] [] := by
  unfold fX3_addNumber_31
  refine q_run tkX3_addNumber 20 2 (pc' := 34) (L' := [some (.inr (.inr l0)), some (.inl l1), some (.inl l2)]) (st' := [.inl (10 : Int32), .inl l2]) rfl ?_
  refine q_div (tbm tkX3_addNumber (i := 22) rfl) ?_
  refine q_run tkX3_addNumber 23 2 (pc' := 3) (L' := [some (.inr (.inr l0)), some (.inl l1), some (.inl (l2 / (10 : Int32)))]) (st' := []) rfl ?_
  exact hk3 h l0 l1 (l2 / (10 : Int32))
def fX3_addNumber_17 (c : Nat → Option Nat) (k3 : Hp → Option Nat → Int32 → Int32 → Rs) (h : Hp) (l0 : Option Nat) (l1 : Int32) (l2 : Int32) : Rs := dv l2 (dv (10 : Int32) (ck h l0 5 (cc (fX3_addSign c h l0 (chI ((48 : Int32) + ((l1 / l2) - (l1 / l2) / (10 : Int32) * (10 : Int32))))) (kV fun h1 => fX3_addNumber_31 c k3 h1 l0 l1 l2))))
set_option maxHeartbeats 4000000 in
set_option maxRecDepth 100000 in
theorem sX3_addNumber_17 (X : Cx) {h0 : Hp} (k3 : Hp → Option Nat → Int32 → Int32 → Rs) (hk3 : ∀ (h : Hp) (l0 : Option Nat) (l1 : Int32) (l2 : Int32), Gd X mX3_addNumber h0 (k3 h l0 l1 l2) h 3 [some (.inr (.inr l0)), some (.inl l1), some (.inl l2)] []) (h : Hp) (l0 : Option Nat) (l1 : Int32) (l2 : Int32) : Gd X mX3_addNumber h0 (fX3_addNumber_17 X.2.2.2 k3 h l0 l1 l2) h 17 [some (.inr (.inr l0)), some (.inl l1), some (.inl l2)] [] := by
  unfold fX3_addNumber_17
  refine q_run tkX3_addNumber 10 4 (pc' := 22) (L' := [some (.inr (.inr l0)), some (.inl l1), some (.inl l2)]) (st' := [.inl l2, .inl l1, .inl (48 : Int32), .inr (.inr l0)]) rfl ?_
  refine q_div (tbm tkX3_addNumber (i := 14) rfl) ?_
  refine q_run tkX3_addNumber 15 1 (pc' := 25) (L' := [some (.inr (.inr l0)), some (.inl l1), some (.inl l2)]) (st' := [.inl (10 : Int32), .inl (l1 / l2), .inl (48 : Int32), .inr (.inr l0)]) rfl ?_
  refine q_rem (tbm tkX3_addNumber (i := 16) rfl) ?_
  refine q_run tkX3_addNumber 17 2 (pc' := 28) (L' := [some (.inr (.inr l0)), some (.inl l1), some (.inl l2)]) (st' := [.inl (chI ((48 : Int32) + ((l1 / l2) - (l1 / l2) / (10 : Int32) * (10 : Int32)))), .inr (.inr l0)]) rfl ?_
  refine q_cv (r := l0) (ci := 5) (n := 1) (as := [.inl (chI ((48 : Int32) + ((l1 / l2) - (l1 / l2) / (10 : Int32) * (10 : Int32))))]) (st := []) TX3 6 (soX3_addSign X h l0 (chI ((48 : Int32) + ((l1 / l2) - (l1 / l2) / (10 : Int32) * (10 : Int32))))) (tbm tkX3_addNumber (i := 19) rfl) rfl rfl ceX3_addSign wd_430 wd_3 wd_428 rfl (Nat.le_of_ble_eq_true rfl) (kV_gd (fun h1 => ?_))
  exact sX3_addNumber_31 X k3 hk3 h1 l0 l1 l2
def fX3_addNumber_3 (c : Nat → Option Nat) : Nat → Hp → Option Nat → Int32 → Int32 → Rs
  | 0, _, _, _, _ => none
  | n + 1, h, l0, l1, l2 => if 0 < l2 then (if l1 < l2 then (if l2 = (1 : Int32) then (fX3_addNumber_17 c (fX3_addNumber_3 c n) h l0 l1 l2) else (fX3_addNumber_31 c (fX3_addNumber_3 c n) h l0 l1 l2)) else (fX3_addNumber_17 c (fX3_addNumber_3 c n) h l0 l1 l2)) else (some (h, none))
set_option maxHeartbeats 4000000 in
set_option maxRecDepth 100000 in
theorem sX3_addNumber_3 (X : Cx) {h0 : Hp} : ∀ (n : Nat) (h : Hp) (l0 : Option Nat) (l1 : Int32) (l2 : Int32), Gd X mX3_addNumber h0 (fX3_addNumber_3 X.2.2.2 n h l0 l1 l2) h 3 [some (.inr (.inr l0)), some (.inl l1), some (.inl l2)] [] := by
  intro n
  induction n with
  | zero => intros; exact gd_none
  | succ n ih =>
    intro h l0 l1 l2
    unfold fX3_addNumber_3
    refine q_run tkX3_addNumber 2 1 (pc' := 4) (L' := [some (.inr (.inr l0)), some (.inl l1), some (.inl l2)]) (st' := [.inl l2]) rfl ?_
    refine q_if_le (tbm tkX3_addNumber (i := 3) rfl) ?_ ?_
    · refine q_run tkX3_addNumber 4 2 (pc' := 9) (L' := [some (.inr (.inr l0)), some (.inl l1), some (.inl l2)]) (st' := [.inl l2, .inl l1]) rfl ?_
      refine q_icmp_ge (tbm tkX3_addNumber (i := 6) rfl) ?_ ?_
      · refine q_run tkX3_addNumber 7 2 (pc' := 14) (L' := [some (.inr (.inr l0)), some (.inl l1), some (.inl l2)]) (st' := [.inl (1 : Int32), .inl l2]) rfl ?_
        refine q_icmp_ne (tbm tkX3_addNumber (i := 9) rfl) ?_ ?_
        · exact sX3_addNumber_17 X (fX3_addNumber_3 X.2.2.2 n) ih h l0 l1 l2
        · exact sX3_addNumber_31 X (fX3_addNumber_3 X.2.2.2 n) ih h l0 l1 l2
      · exact sX3_addNumber_17 X (fX3_addNumber_3 X.2.2.2 n) ih h l0 l1 l2
    · exact q_vret (tbm tkX3_addNumber (i := 25) rfl) rfl
def fX3_addNumber (c : Nat → Option Nat) (h : Hp) (a0 : Option Nat) (a1 : Int32) : Rs := fX3_addNumber_3 c FU h a0 a1 (1000000000 : Int32)
set_option maxHeartbeats 4000000 in
set_option maxRecDepth 100000 in
theorem soX3_addNumber (X : Cx) (h : Hp) (a0 : Option Nat) (a1 : Int32) : SO X mX3_addNumber [.inr (.inr a0), .inl a1] h (fX3_addNumber X.2.2.2 h a0 a1) := by
  refine so_of (by decide +kernel) (Nat.le_of_ble_eq_true rfl) ?_
  show Gd X mX3_addNumber h (fX3_addNumber X.2.2.2 h a0 a1) h 0 [some (.inr (.inr a0)), some (.inl a1), none] []
  unfold fX3_addNumber
  refine q_ldc (w := (1000000000 : Int32)) (tbm tkX3_addNumber (i := 0) rfl) wd_436 ?_
  refine q_run tkX3_addNumber 1 1 (pc' := 3) (L' := [some (.inr (.inr a0)), some (.inl a1), some (.inl (1000000000 : Int32))]) (st' := []) rfl ?_
  exact sX3_addNumber_3 X FU h a0 a1 (1000000000 : Int32)
theorem ceX3_addNumber : Ce mX3_addNumber 1 := ⟨wd_26, wd_435, by decide +kernel, by decide +kernel, by decide +kernel⟩
/-- ReceiptRolls$Sheet.endLine -/
abbrev mX3_endLine : MI := (yX3_endLine, cX3_endLine, 1, none, 0)
def tbX3_endLine : List TE := [(0, .aload_n 0, 1, 0, 0), (1, .dup, 1, 0, 0), (2, .getfield 81, 3, 0, 0), (5, .iconst 1, 1, 1, 0), (6, .iadd, 1, 0, 0), (7, .putfield 81, 3, 0, 0), (10, .aload_n 0, 1, 0, 0), (11, .iconst 0, 1, 0, 0), (12, .putfield 93, 3, 0, 0), (15, .return_, 1, 0, 0)]
theorem tkX3_endLine : ∀ x ∈ tbX3_endLine, tbB cX3_endLine x = true := tb_all (by decide +kernel)
def fX3_endLine (c : Nat → Option Nat) (h : Hp) (a0 : Option Nat) : Rs := rdI h a0 5 1 (fun x1 => wr h a0 5 1 (.inl (x1 + (1 : Int32))) (fun h2 => wr h2 a0 5 4 (.inl (0 : Int32)) (fun h3 => some (h3, none))))
set_option maxHeartbeats 4000000 in
set_option maxRecDepth 100000 in
theorem soX3_endLine (X : Cx) (h : Hp) (a0 : Option Nat) : SO X mX3_endLine [.inr (.inr a0)] h (fX3_endLine X.2.2.2 h a0) := by
  refine so_of (by decide +kernel) (Nat.le_of_ble_eq_true rfl) ?_
  show Gd X mX3_endLine h (fX3_endLine X.2.2.2 h a0) h 0 [some (.inr (.inr a0))] []
  unfold fX3_endLine
  refine q_run tkX3_endLine 0 2 (pc' := 2) (L' := [some (.inr (.inr a0))]) (st' := [.inr (.inr a0), .inr (.inr a0)]) rfl ?_
  refine q_rdI RX3 TX3 6 (tbm tkX3_endLine (i := 2) rfl) rfl (Nat.le_of_ble_eq_true rfl) wd_227 (fun x1 => ?_)
  refine q_run tkX3_endLine 3 2 (pc' := 7) (L' := [some (.inr (.inr a0))]) (st' := [.inl (x1 + (1 : Int32)), .inr (.inr a0)]) rfl ?_
  refine q_wr RX3 TX3 6 (tbm tkX3_endLine (i := 5) rfl) rfl (Nat.le_of_ble_eq_true rfl) (Or.inl rfl) wd_227 (fun h2 => ?_)
  refine q_run tkX3_endLine 6 2 (pc' := 12) (L' := [some (.inr (.inr a0))]) (st' := [.inl (0 : Int32), .inr (.inr a0)]) rfl ?_
  refine q_wr RX3 TX3 6 (tbm tkX3_endLine (i := 8) rfl) rfl (Nat.le_of_ble_eq_true rfl) (Or.inl rfl) wd_232 (fun h3 => ?_)
  exact q_vret (tbm tkX3_endLine (i := 9) rfl) rfl
theorem ceX3_endLine : Ce mX3_endLine 0 := ⟨wd_26, wd_440, by decide +kernel, by decide +kernel, by decide +kernel⟩
/-- ReceiptRolls$Sheet.layWord -/
abbrev mX3_layWord : MI := (yX3_layWord, cX3_layWord, 7, none, 4)
def tbX3_layWord : List TE := [(0, .aload_n 0, 1, 0, 0), (1, .getfield 84, 3, 0, 0), (4, .bipush 8, 2, 8, 0), (6, .isub, 1, 0, 0), (7, .istore 4, 2, 0, 0), (9, .aload_n 0, 1, 0, 0), (10, .getfield 93, 3, 0, 0), (13, .iconst 1, 1, 1, 0), (14, .iadd, 1, 0, 0), (15, .iload_n 3, 1, 0, 0), (16, .iadd, 1, 0, 0), (17, .iload_n 2, 1, 0, 0), (18, .isub, 1, 0, 0), (19, .iload 4, 2, 0, 0), (21, .if_icmp .gt 7, 3, 0, 28), (24, .iconst 1, 1, 1, 0), (25, .goto 4, 3, 0, 29), (28, .iconst 0, 1, 0, 0), (29, .istore 5, 2, 0, 0), (31, .aload_n 0, 1, 0, 0), (32, .getfield 93, 3, 0, 0), (35, .ifCond .le 17, 3, 0, 52), (38, .iload 5, 2, 0, 0), (40, .ifCond .eq 12, 3, 0, 52), (43, .aload_n 0, 1, 0, 0), (44, .bipush 32, 2, 32, 0), (46, .invokevirtual 99, 3, 0, 0), (49, .goto 14, 3, 0, 63), (52, .aload_n 0, 1, 0, 0), (53, .getfield 93, 3, 0, 0), (56, .ifCond .le 7, 3, 0, 63), (59, .aload_n 0, 1, 0, 0), (60, .invokevirtual 29, 3, 0, 0), (63, .iload_n 2, 1, 0, 0), (64, .iconst 0, 1, 0, 0), (65, .invokestatic 119, 3, 0, 0), (68, .istore 6, 2, 0, 0), (70, .iload 6, 2, 0, 0), (72, .iload_n 3, 1, 0, 0), (73, .if_icmp .ge 41, 3, 0, 114), (76, .iload 6, 2, 0, 0), (78, .aload_n 1, 1, 0, 0), (79, .invokevirtual 107, 3, 0, 0), (82, .if_icmp .ge 32, 3, 0, 114), (85, .aload_n 0, 1, 0, 0), (86, .getfield 93, 3, 0, 0), (89, .iload 4, 2, 0, 0), (91, .if_icmp .lt 7, 3, 0, 98), (94, .aload_n 0, 1, 0, 0), (95, .invokevirtual 29, 3, 0, 0), (98, .aload_n 0, 1, 0, 0), (99, .aload_n 1, 1, 0, 0), (100, .iload 6, 2, 0, 0), (102, .invokevirtual 112, 3, 0, 0), (105, .invokevirtual 99, 3, 0, 0), (108, .iinc 6 1, 3, 1, 0), (111, .goto (-41), 3, 0, 70), (114, .return_, 1, 0, 0)]
theorem tkX3_layWord : ∀ x ∈ tbX3_layWord, tbB cX3_layWord x = true := tb_all (by decide +kernel)
def fX3_layWord_98 (c : Nat → Option Nat) (k70 : Hp → Option Nat → Option Nat → Int32 → Int32 → Int32 → Rs) (h : Hp) (l0 : Option Nat) (l1 : Option Nat) (l3 : Int32) (l4 : Int32) (l6 : Int32) : Rs := ck h l1 0 (cc (fJ0_charAt_5068e c h l1 l6) (kI fun h1 x2 => ck h1 l0 5 (cc (fX3_addSign c h1 l0 x2) (kV fun h3 => k70 h3 l0 l1 l3 l4 (l6 + (1 : Int32))))))
set_option maxHeartbeats 4000000 in
set_option maxRecDepth 100000 in
theorem sX3_layWord_98 (X : Cx) {h0 : Hp} (k70 : Hp → Option Nat → Option Nat → Int32 → Int32 → Int32 → Rs) (hk70 : ∀ (h : Hp) (l0 : Option Nat) (l1 : Option Nat) (l3 : Int32) (l4 : Int32) (l6 : Int32), Gd X mX3_layWord h0 (k70 h l0 l1 l3 l4 l6) h 70 [some (.inr (.inr l0)), some (.inr (.inr l1)), none, some (.inl l3), some (.inl l4), none, some (.inl l6)] []) (h : Hp) (l0 : Option Nat) (l1 : Option Nat) (l3 : Int32) (l4 : Int32) (l6 : Int32) : Gd X mX3_layWord h0 (fX3_layWord_98 X.2.2.2 k70 h l0 l1 l3 l4 l6) h 98 [some (.inr (.inr l0)), some (.inr (.inr l1)), none, some (.inl l3), some (.inl l4), none, some (.inl l6)] [] := by
  unfold fX3_layWord_98
  refine q_run tkX3_layWord 50 3 (pc' := 102) (L' := [some (.inr (.inr l0)), some (.inr (.inr l1)), none, some (.inl l3), some (.inl l4), none, some (.inl l6)]) (st' := [.inl l6, .inr (.inr l1), .inr (.inr l0)]) rfl ?_
  refine q_cv (r := l1) (ci := 0) (n := 1) (as := [.inl l6]) (st := [.inr (.inr l0)]) TJ0 4 (soJ0_charAt_5068e X h l1 l6) (tbm tkX3_layWord (i := 53) rfl) rfl rfl ceJ0_charAt_5068e wd_391 wd_392 wd_390 rfl (Nat.le_of_ble_eq_true rfl) (kI_gd (fun h1 x2 => ?_))
  refine q_cv (r := l0) (ci := 5) (n := 1) (as := [.inl x2]) (st := []) TX3 6 (soX3_addSign X h1 l0 x2) (tbm tkX3_layWord (i := 54) rfl) rfl rfl ceX3_addSign wd_430 wd_3 wd_428 rfl (Nat.le_of_ble_eq_true rfl) (kV_gd (fun h3 => ?_))
  refine q_run tkX3_layWord 55 2 (pc' := 70) (L' := [some (.inr (.inr l0)), some (.inr (.inr l1)), none, some (.inl l3), some (.inl l4), none, some (.inl (l6 + (1 : Int32)))]) (st' := []) rfl ?_
  exact hk70 h3 l0 l1 l3 l4 (l6 + (1 : Int32))
def fX3_layWord_114 (c : Nat → Option Nat) (h : Hp) : Rs := some (h, none)
set_option maxHeartbeats 4000000 in
set_option maxRecDepth 100000 in
theorem sX3_layWord_114 (X : Cx) {h0 : Hp} (h : Hp) : Gd X mX3_layWord h0 (fX3_layWord_114 X.2.2.2 h) h 114 [none, none, none, none, none, none, none] [] := by
  unfold fX3_layWord_114
  exact q_vret (tbm tkX3_layWord (i := 57) rfl) rfl
def fX3_layWord_70 (c : Nat → Option Nat) : Nat → Hp → Option Nat → Option Nat → Int32 → Int32 → Int32 → Rs
  | 0, _, _, _, _, _, _ => none
  | n + 1, h, l0, l1, l3, l4, l6 => if l6 < l3 then (ck h l1 0 (cc (fJ0_length_8abf5 c h l1) (kI fun h4 x5 => if l6 < x5 then (rdI h4 l0 5 4 (fun x6 => if x6 < l4 then (fX3_layWord_98 c (fX3_layWord_70 c n) h4 l0 l1 l3 l4 l6) else (ck h4 l0 5 (cc (fX3_endLine c h4 l0) (kV fun h7 => fX3_layWord_98 c (fX3_layWord_70 c n) h7 l0 l1 l3 l4 l6))))) else (fX3_layWord_114 c h4)))) else (fX3_layWord_114 c h)
set_option maxHeartbeats 4000000 in
set_option maxRecDepth 100000 in
theorem sX3_layWord_70 (X : Cx) {h0 : Hp} : ∀ (n : Nat) (h : Hp) (l0 : Option Nat) (l1 : Option Nat) (l3 : Int32) (l4 : Int32) (l6 : Int32), Gd X mX3_layWord h0 (fX3_layWord_70 X.2.2.2 n h l0 l1 l3 l4 l6) h 70 [some (.inr (.inr l0)), some (.inr (.inr l1)), none, some (.inl l3), some (.inl l4), none, some (.inl l6)] [] := by
  intro n
  induction n with
  | zero => intros; exact gd_none
  | succ n ih =>
    intro h l0 l1 l3 l4 l6
    unfold fX3_layWord_70
    refine q_run tkX3_layWord 37 2 (pc' := 73) (L' := [some (.inr (.inr l0)), some (.inr (.inr l1)), none, some (.inl l3), some (.inl l4), none, some (.inl l6)]) (st' := [.inl l3, .inl l6]) rfl ?_
    refine q_icmp_ge (tbm tkX3_layWord (i := 39) rfl) ?_ ?_
    · refine q_run tkX3_layWord 40 2 (pc' := 79) (L' := [some (.inr (.inr l0)), some (.inr (.inr l1)), none, some (.inl l3), some (.inl l4), none, some (.inl l6)]) (st' := [.inr (.inr l1), .inl l6]) rfl ?_
      refine q_cv (r := l1) (ci := 0) (n := 0) (as := []) (st := [.inl l6]) TJ0 4 (soJ0_length_8abf5 X h l1) (tbm tkX3_layWord (i := 42) rfl) rfl rfl ceJ0_length_8abf5 wd_382 wd_383 wd_381 rfl (Nat.le_of_ble_eq_true rfl) (kI_gd (fun h4 x5 => ?_))
      refine q_icmp_ge (tbm tkX3_layWord (i := 43) rfl) ?_ ?_
      · refine q_run tkX3_layWord 44 1 (pc' := 86) (L' := [some (.inr (.inr l0)), some (.inr (.inr l1)), none, some (.inl l3), some (.inl l4), none, some (.inl l6)]) (st' := [.inr (.inr l0)]) rfl ?_
        refine q_rdI RX3 TX3 6 (tbm tkX3_layWord (i := 45) rfl) rfl (Nat.le_of_ble_eq_true rfl) wd_232 (fun x6 => ?_)
        refine q_run tkX3_layWord 46 1 (pc' := 91) (L' := [some (.inr (.inr l0)), some (.inr (.inr l1)), none, some (.inl l3), some (.inl l4), none, some (.inl l6)]) (st' := [.inl l4, .inl x6]) rfl ?_
        refine q_icmp_lt (tbm tkX3_layWord (i := 47) rfl) ?_ ?_
        · exact sX3_layWord_98 X (fX3_layWord_70 X.2.2.2 n) ih h4 l0 l1 l3 l4 l6
        · refine q_run tkX3_layWord 48 1 (pc' := 95) (L' := [some (.inr (.inr l0)), some (.inr (.inr l1)), none, some (.inl l3), some (.inl l4), none, some (.inl l6)]) (st' := [.inr (.inr l0)]) rfl ?_
          refine q_cv (r := l0) (ci := 5) (n := 0) (as := []) (st := []) TX3 6 (soX3_endLine X h4 l0) (tbm tkX3_layWord (i := 49) rfl) rfl rfl ceX3_endLine wd_439 wd_5 wd_437 rfl (Nat.le_of_ble_eq_true rfl) (kV_gd (fun h7 => ?_))
          exact sX3_layWord_98 X (fX3_layWord_70 X.2.2.2 n) ih h7 l0 l1 l3 l4 l6
      · refine q_le (L' := [none, none, none, none, none, none, none]) (lvLe_n (lvLe_n (lvLe_n (lvLe_n (lvLe_n (lvLe_n (lvLe_n lvLe_0))))))) ?_
        exact sX3_layWord_114 X h4
    · refine q_le (L' := [none, none, none, none, none, none, none]) (lvLe_n (lvLe_n (lvLe_n (lvLe_n (lvLe_n (lvLe_n (lvLe_n lvLe_0))))))) ?_
      exact sX3_layWord_114 X h
def fX3_layWord_63 (c : Nat → Option Nat) (h : Hp) (l0 : Option Nat) (l1 : Option Nat) (l2 : Int32) (l3 : Int32) (l4 : Int32) : Rs := fX3_layWord_70 c FU h l0 l1 l3 l4 (mxI l2 (0 : Int32))
set_option maxHeartbeats 4000000 in
set_option maxRecDepth 100000 in
theorem sX3_layWord_63 (X : Cx) {h0 : Hp} (h : Hp) (l0 : Option Nat) (l1 : Option Nat) (l2 : Int32) (l3 : Int32) (l4 : Int32) : Gd X mX3_layWord h0 (fX3_layWord_63 X.2.2.2 h l0 l1 l2 l3 l4) h 63 [some (.inr (.inr l0)), some (.inr (.inr l1)), some (.inl l2), some (.inl l3), some (.inl l4), none, none] [] := by
  unfold fX3_layWord_63
  refine q_run tkX3_layWord 33 2 (pc' := 65) (L' := [some (.inr (.inr l0)), some (.inr (.inr l1)), some (.inl l2), some (.inl l3), some (.inl l4), none, none]) (st' := [.inl (0 : Int32), .inl l2]) rfl ?_
  refine q_mmax (tbm tkX3_layWord (i := 35) rfl) (Nat.le_of_ble_eq_true rfl) (Nat.le_of_ble_eq_true rfl) ⟨wd_450, wd_max⟩ ?_
  refine q_run tkX3_layWord 36 1 (pc' := 70) (L' := [some (.inr (.inr l0)), some (.inr (.inr l1)), some (.inl l2), some (.inl l3), some (.inl l4), none, some (.inl (mxI l2 (0 : Int32)))]) (st' := []) rfl ?_
  refine q_le (L' := [some (.inr (.inr l0)), some (.inr (.inr l1)), none, some (.inl l3), some (.inl l4), none, some (.inl (mxI l2 (0 : Int32)))]) (lvLe_s (lvLe_s (lvLe_n (lvLe_s (lvLe_s (lvLe_n (lvLe_s lvLe_0))))))) ?_
  exact sX3_layWord_70 X FU h l0 l1 l3 l4 (mxI l2 (0 : Int32))
def fX3_layWord_52 (c : Nat → Option Nat) (h : Hp) (l0 : Option Nat) (l1 : Option Nat) (l2 : Int32) (l3 : Int32) (l4 : Int32) : Rs := rdI h l0 5 4 (fun x8 => if 0 < x8 then (ck h l0 5 (cc (fX3_endLine c h l0) (kV fun h9 => fX3_layWord_63 c h9 l0 l1 l2 l3 l4))) else (fX3_layWord_63 c h l0 l1 l2 l3 l4))
set_option maxHeartbeats 4000000 in
set_option maxRecDepth 100000 in
theorem sX3_layWord_52 (X : Cx) {h0 : Hp} (h : Hp) (l0 : Option Nat) (l1 : Option Nat) (l2 : Int32) (l3 : Int32) (l4 : Int32) : Gd X mX3_layWord h0 (fX3_layWord_52 X.2.2.2 h l0 l1 l2 l3 l4) h 52 [some (.inr (.inr l0)), some (.inr (.inr l1)), some (.inl l2), some (.inl l3), some (.inl l4), none, none] [] := by
  unfold fX3_layWord_52
  refine q_run tkX3_layWord 28 1 (pc' := 53) (L' := [some (.inr (.inr l0)), some (.inr (.inr l1)), some (.inl l2), some (.inl l3), some (.inl l4), none, none]) (st' := [.inr (.inr l0)]) rfl ?_
  refine q_rdI RX3 TX3 6 (tbm tkX3_layWord (i := 29) rfl) rfl (Nat.le_of_ble_eq_true rfl) wd_232 (fun x8 => ?_)
  refine q_if_le (tbm tkX3_layWord (i := 30) rfl) ?_ ?_
  · refine q_run tkX3_layWord 31 1 (pc' := 60) (L' := [some (.inr (.inr l0)), some (.inr (.inr l1)), some (.inl l2), some (.inl l3), some (.inl l4), none, none]) (st' := [.inr (.inr l0)]) rfl ?_
    refine q_cv (r := l0) (ci := 5) (n := 0) (as := []) (st := []) TX3 6 (soX3_endLine X h l0) (tbm tkX3_layWord (i := 32) rfl) rfl rfl ceX3_endLine wd_439 wd_5 wd_437 rfl (Nat.le_of_ble_eq_true rfl) (kV_gd (fun h9 => ?_))
    exact sX3_layWord_63 X h9 l0 l1 l2 l3 l4
  · exact sX3_layWord_63 X h l0 l1 l2 l3 l4
def fX3_layWord_29 (c : Nat → Option Nat) (h : Hp) (l0 : Option Nat) (l1 : Option Nat) (l2 : Int32) (l3 : Int32) (l4 : Int32) (s0 : Int32) : Rs := rdI h l0 5 4 (fun x10 => if 0 < x10 then (if s0 = 0 then (fX3_layWord_52 c h l0 l1 l2 l3 l4) else (ck h l0 5 (cc (fX3_addSign c h l0 (32 : Int32)) (kV fun h11 => fX3_layWord_63 c h11 l0 l1 l2 l3 l4)))) else (fX3_layWord_52 c h l0 l1 l2 l3 l4))
set_option maxHeartbeats 4000000 in
set_option maxRecDepth 100000 in
theorem sX3_layWord_29 (X : Cx) {h0 : Hp} (h : Hp) (l0 : Option Nat) (l1 : Option Nat) (l2 : Int32) (l3 : Int32) (l4 : Int32) (s0 : Int32) : Gd X mX3_layWord h0 (fX3_layWord_29 X.2.2.2 h l0 l1 l2 l3 l4 s0) h 29 [some (.inr (.inr l0)), some (.inr (.inr l1)), some (.inl l2), some (.inl l3), some (.inl l4), none, none] [.inl s0] := by
  unfold fX3_layWord_29
  refine q_run tkX3_layWord 18 2 (pc' := 32) (L' := [some (.inr (.inr l0)), some (.inr (.inr l1)), some (.inl l2), some (.inl l3), some (.inl l4), some (.inl s0), none]) (st' := [.inr (.inr l0)]) rfl ?_
  refine q_rdI RX3 TX3 6 (tbm tkX3_layWord (i := 20) rfl) rfl (Nat.le_of_ble_eq_true rfl) wd_232 (fun x10 => ?_)
  refine q_if_le (tbm tkX3_layWord (i := 21) rfl) ?_ ?_
  · refine q_run tkX3_layWord 22 1 (pc' := 40) (L' := [some (.inr (.inr l0)), some (.inr (.inr l1)), some (.inl l2), some (.inl l3), some (.inl l4), some (.inl s0), none]) (st' := [.inl s0]) rfl ?_
    refine q_if_eq (tbm tkX3_layWord (i := 23) rfl) ?_ ?_
    · refine q_le (L' := [some (.inr (.inr l0)), some (.inr (.inr l1)), some (.inl l2), some (.inl l3), some (.inl l4), none, none]) (lvLe_s (lvLe_s (lvLe_s (lvLe_s (lvLe_s (lvLe_n (lvLe_n lvLe_0))))))) ?_
      exact sX3_layWord_52 X h l0 l1 l2 l3 l4
    · refine q_run tkX3_layWord 24 2 (pc' := 46) (L' := [some (.inr (.inr l0)), some (.inr (.inr l1)), some (.inl l2), some (.inl l3), some (.inl l4), some (.inl s0), none]) (st' := [.inl (32 : Int32), .inr (.inr l0)]) rfl ?_
      refine q_cv (r := l0) (ci := 5) (n := 1) (as := [.inl (32 : Int32)]) (st := []) TX3 6 (soX3_addSign X h l0 (32 : Int32)) (tbm tkX3_layWord (i := 26) rfl) rfl rfl ceX3_addSign wd_430 wd_3 wd_428 rfl (Nat.le_of_ble_eq_true rfl) (kV_gd (fun h11 => ?_))
      refine q_run tkX3_layWord 27 1 (pc' := 63) (L' := [some (.inr (.inr l0)), some (.inr (.inr l1)), some (.inl l2), some (.inl l3), some (.inl l4), some (.inl s0), none]) (st' := []) rfl ?_
      refine q_le (L' := [some (.inr (.inr l0)), some (.inr (.inr l1)), some (.inl l2), some (.inl l3), some (.inl l4), none, none]) (lvLe_s (lvLe_s (lvLe_s (lvLe_s (lvLe_s (lvLe_n (lvLe_n lvLe_0))))))) ?_
      exact sX3_layWord_63 X h11 l0 l1 l2 l3 l4
  · refine q_le (L' := [some (.inr (.inr l0)), some (.inr (.inr l1)), some (.inl l2), some (.inl l3), some (.inl l4), none, none]) (lvLe_s (lvLe_s (lvLe_s (lvLe_s (lvLe_s (lvLe_n (lvLe_n lvLe_0))))))) ?_
    exact sX3_layWord_52 X h l0 l1 l2 l3 l4
def fX3_layWord (c : Nat → Option Nat) (h : Hp) (a0 : Option Nat) (a1 : Option Nat) (a2 : Int32) (a3 : Int32) : Rs := rdI h a0 5 0 (fun x12 => rdI h a0 5 4 (fun x13 => if (x12 - (8 : Int32)) < (((x13 + (1 : Int32)) + a3) - a2) then (fX3_layWord_29 c h a0 a1 a2 a3 (x12 - (8 : Int32)) (0 : Int32)) else (fX3_layWord_29 c h a0 a1 a2 a3 (x12 - (8 : Int32)) (1 : Int32))))
set_option maxHeartbeats 4000000 in
set_option maxRecDepth 100000 in
theorem soX3_layWord (X : Cx) (h : Hp) (a0 : Option Nat) (a1 : Option Nat) (a2 : Int32) (a3 : Int32) : SO X mX3_layWord [.inr (.inr a0), .inr (.inr a1), .inl a2, .inl a3] h (fX3_layWord X.2.2.2 h a0 a1 a2 a3) := by
  refine so_of (by decide +kernel) (Nat.le_of_ble_eq_true rfl) ?_
  show Gd X mX3_layWord h (fX3_layWord X.2.2.2 h a0 a1 a2 a3) h 0 [some (.inr (.inr a0)), some (.inr (.inr a1)), some (.inl a2), some (.inl a3), none, none, none] []
  unfold fX3_layWord
  refine q_run tkX3_layWord 0 1 (pc' := 1) (L' := [some (.inr (.inr a0)), some (.inr (.inr a1)), some (.inl a2), some (.inl a3), none, none, none]) (st' := [.inr (.inr a0)]) rfl ?_
  refine q_rdI RX3 TX3 6 (tbm tkX3_layWord (i := 1) rfl) rfl (Nat.le_of_ble_eq_true rfl) wd_225 (fun x12 => ?_)
  refine q_run tkX3_layWord 2 4 (pc' := 10) (L' := [some (.inr (.inr a0)), some (.inr (.inr a1)), some (.inl a2), some (.inl a3), some (.inl (x12 - (8 : Int32))), none, none]) (st' := [.inr (.inr a0)]) rfl ?_
  refine q_rdI RX3 TX3 6 (tbm tkX3_layWord (i := 6) rfl) rfl (Nat.le_of_ble_eq_true rfl) wd_232 (fun x13 => ?_)
  refine q_run tkX3_layWord 7 7 (pc' := 21) (L' := [some (.inr (.inr a0)), some (.inr (.inr a1)), some (.inl a2), some (.inl a3), some (.inl (x12 - (8 : Int32))), none, none]) (st' := [.inl (x12 - (8 : Int32)), .inl (((x13 + (1 : Int32)) + a3) - a2)]) rfl ?_
  refine q_icmp_gt (tbm tkX3_layWord (i := 14) rfl) ?_ ?_
  · refine q_run tkX3_layWord 17 1 (pc' := 29) (L' := [some (.inr (.inr a0)), some (.inr (.inr a1)), some (.inl a2), some (.inl a3), some (.inl (x12 - (8 : Int32))), none, none]) (st' := [.inl (0 : Int32)]) rfl ?_
    exact sX3_layWord_29 X h a0 a1 a2 a3 (x12 - (8 : Int32)) (0 : Int32)
  · refine q_run tkX3_layWord 15 2 (pc' := 29) (L' := [some (.inr (.inr a0)), some (.inr (.inr a1)), some (.inl a2), some (.inl a3), some (.inl (x12 - (8 : Int32))), none, none]) (st' := [.inl (1 : Int32)]) rfl ?_
    exact sX3_layWord_29 X h a0 a1 a2 a3 (x12 - (8 : Int32)) (1 : Int32)
theorem ceX3_layWord : Ce mX3_layWord 3 := ⟨wd_26, wd_449, by decide +kernel, by decide +kernel, by decide +kernel⟩
/-- ReceiptRolls$Sheet.digitsOf -/
abbrev mX3_digitsOf : MI := (yX3_digitsOf, cX3_digitsOf, 3, some .int, 0)
def tbX3_digitsOf : List TE := [(0, .iconst 1, 1, 1, 0), (1, .istore_n 1, 1, 0, 0), (2, .ldc 125, 2, 0, 0), (4, .istore_n 2, 1, 0, 0), (5, .iload_n 2, 1, 0, 0), (6, .iconst 1, 1, 1, 0), (7, .if_icmp .le 19, 3, 0, 26), (10, .iload_n 0, 1, 0, 0), (11, .iload_n 2, 1, 0, 0), (12, .if_icmp .lt 6, 3, 0, 18), (15, .iinc 1 1, 3, 1, 0), (18, .iload_n 2, 1, 0, 0), (19, .bipush 10, 2, 10, 0), (21, .idiv, 1, 0, 0), (22, .istore_n 2, 1, 0, 0), (23, .goto (-18), 3, 0, 5), (26, .iload_n 1, 1, 0, 0), (27, .ireturn, 1, 0, 0)]
theorem tkX3_digitsOf : ∀ x ∈ tbX3_digitsOf, tbB cX3_digitsOf x = true := tb_all (by decide +kernel)
def fX3_digitsOf_18 (c : Nat → Option Nat) (k5 : Hp → Int32 → Int32 → Int32 → Rs) (h : Hp) (l0 : Int32) (l1 : Int32) (l2 : Int32) : Rs := dv (10 : Int32) (k5 h l0 l1 (l2 / (10 : Int32)))
set_option maxHeartbeats 4000000 in
set_option maxRecDepth 100000 in
theorem sX3_digitsOf_18 (X : Cx) {h0 : Hp} (k5 : Hp → Int32 → Int32 → Int32 → Rs) (hk5 : ∀ (h : Hp) (l0 : Int32) (l1 : Int32) (l2 : Int32), Gd X mX3_digitsOf h0 (k5 h l0 l1 l2) h 5 [some (.inl l0), some (.inl l1), some (.inl l2)] []) (h : Hp) (l0 : Int32) (l1 : Int32) (l2 : Int32) : Gd X mX3_digitsOf h0 (fX3_digitsOf_18 X.2.2.2 k5 h l0 l1 l2) h 18 [some (.inl l0), some (.inl l1), some (.inl l2)] [] := by
  unfold fX3_digitsOf_18
  refine q_run tkX3_digitsOf 11 2 (pc' := 21) (L' := [some (.inl l0), some (.inl l1), some (.inl l2)]) (st' := [.inl (10 : Int32), .inl l2]) rfl ?_
  refine q_div (tbm tkX3_digitsOf (i := 13) rfl) ?_
  refine q_run tkX3_digitsOf 14 2 (pc' := 5) (L' := [some (.inl l0), some (.inl l1), some (.inl (l2 / (10 : Int32)))]) (st' := []) rfl ?_
  exact hk5 h l0 l1 (l2 / (10 : Int32))
def fX3_digitsOf_5 (c : Nat → Option Nat) : Nat → Hp → Int32 → Int32 → Int32 → Rs
  | 0, _, _, _, _ => none
  | n + 1, h, l0, l1, l2 => if (1 : Int32) < l2 then (if l0 < l2 then (fX3_digitsOf_18 c (fX3_digitsOf_5 c n) h l0 l1 l2) else (fX3_digitsOf_18 c (fX3_digitsOf_5 c n) h l0 (l1 + (1 : Int32)) l2)) else (some (h, some (.inl l1)))
set_option maxHeartbeats 4000000 in
set_option maxRecDepth 100000 in
theorem sX3_digitsOf_5 (X : Cx) {h0 : Hp} : ∀ (n : Nat) (h : Hp) (l0 : Int32) (l1 : Int32) (l2 : Int32), Gd X mX3_digitsOf h0 (fX3_digitsOf_5 X.2.2.2 n h l0 l1 l2) h 5 [some (.inl l0), some (.inl l1), some (.inl l2)] [] := by
  intro n
  induction n with
  | zero => intros; exact gd_none
  | succ n ih =>
    intro h l0 l1 l2
    unfold fX3_digitsOf_5
    refine q_run tkX3_digitsOf 4 2 (pc' := 7) (L' := [some (.inl l0), some (.inl l1), some (.inl l2)]) (st' := [.inl (1 : Int32), .inl l2]) rfl ?_
    refine q_icmp_le (tbm tkX3_digitsOf (i := 6) rfl) ?_ ?_
    · refine q_run tkX3_digitsOf 7 2 (pc' := 12) (L' := [some (.inl l0), some (.inl l1), some (.inl l2)]) (st' := [.inl l2, .inl l0]) rfl ?_
      refine q_icmp_lt (tbm tkX3_digitsOf (i := 9) rfl) ?_ ?_
      · exact sX3_digitsOf_18 X (fX3_digitsOf_5 X.2.2.2 n) ih h l0 l1 l2
      · refine q_run tkX3_digitsOf 10 1 (pc' := 18) (L' := [some (.inl l0), some (.inl (l1 + (1 : Int32))), some (.inl l2)]) (st' := []) rfl ?_
        exact sX3_digitsOf_18 X (fX3_digitsOf_5 X.2.2.2 n) ih h l0 (l1 + (1 : Int32)) l2
    · refine q_run tkX3_digitsOf 16 1 (pc' := 27) (L' := [some (.inl l0), some (.inl l1), some (.inl l2)]) (st' := [.inl l1]) rfl ?_
      exact q_iret (tbm tkX3_digitsOf (i := 17) rfl) rfl
def fX3_digitsOf (c : Nat → Option Nat) (h : Hp) (a0 : Int32) : Rs := fX3_digitsOf_5 c FU h a0 (1 : Int32) (1000000000 : Int32)
set_option maxHeartbeats 4000000 in
set_option maxRecDepth 100000 in
theorem soX3_digitsOf (X : Cx) (h : Hp) (a0 : Int32) : SO X mX3_digitsOf [.inl a0] h (fX3_digitsOf X.2.2.2 h a0) := by
  refine so_of (by decide +kernel) (Nat.le_of_ble_eq_true rfl) ?_
  show Gd X mX3_digitsOf h (fX3_digitsOf X.2.2.2 h a0) h 0 [some (.inl a0), none, none] []
  unfold fX3_digitsOf
  refine q_run tkX3_digitsOf 0 2 (pc' := 2) (L' := [some (.inl a0), some (.inl (1 : Int32)), none]) (st' := []) rfl ?_
  refine q_ldc (w := (1000000000 : Int32)) (tbm tkX3_digitsOf (i := 2) rfl) wd_436 ?_
  refine q_run tkX3_digitsOf 3 1 (pc' := 5) (L' := [some (.inl a0), some (.inl (1 : Int32)), some (.inl (1000000000 : Int32))]) (st' := []) rfl ?_
  exact sX3_digitsOf_5 X FU h a0 (1 : Int32) (1000000000 : Int32)
theorem ceX3_digitsOf : Ce mX3_digitsOf 1 := ⟨wd_26, wd_463, by decide +kernel, by decide +kernel, by decide +kernel⟩
/-- ReceiptRolls$Sheet.addMoney -/
abbrev mX3_addMoney : MI := (yX3_addMoney, cX3_addMoney, 4, none, 2)
def tbX3_addMoney : List TE := [(0, .iload_n 1, 1, 0, 0), (1, .invokestatic 126, 3, 0, 0), (4, .bipush 100, 2, 100, 0), (6, .idiv, 1, 0, 0), (7, .istore_n 2, 1, 0, 0), (8, .iload_n 1, 1, 0, 0), (9, .invokestatic 126, 3, 0, 0), (12, .bipush 100, 2, 100, 0), (14, .irem, 1, 0, 0), (15, .istore_n 3, 1, 0, 0), (16, .aload_n 0, 1, 0, 0), (17, .aload_n 0, 1, 0, 0), (18, .getfield 84, 3, 0, 0), (21, .iload_n 2, 1, 0, 0), (22, .invokestatic 129, 3, 0, 0), (25, .isub, 1, 0, 0), (26, .iload_n 1, 1, 0, 0), (27, .ifCond .ge 7, 3, 0, 34), (30, .iconst 4, 1, 4, 0), (31, .goto 4, 3, 0, 35), (34, .iconst 3, 1, 3, 0), (35, .isub, 1, 0, 0), (36, .putfield 93, 3, 0, 0), (39, .iload_n 1, 1, 0, 0), (40, .ifCond .ge 9, 3, 0, 49), (43, .aload_n 0, 1, 0, 0), (44, .bipush 45, 2, 45, 0), (46, .invokevirtual 99, 3, 0, 0), (49, .aload_n 0, 1, 0, 0), (50, .iload_n 2, 1, 0, 0), (51, .invokevirtual 25, 3, 0, 0), (54, .aload_n 0, 1, 0, 0), (55, .bipush 46, 2, 46, 0), (57, .invokevirtual 99, 3, 0, 0), (60, .aload_n 0, 1, 0, 0), (61, .bipush 48, 2, 48, 0), (63, .iload_n 3, 1, 0, 0), (64, .bipush 10, 2, 10, 0), (66, .idiv, 1, 0, 0), (67, .iadd, 1, 0, 0), (68, .i2c, 1, 0, 0), (69, .invokevirtual 99, 3, 0, 0), (72, .aload_n 0, 1, 0, 0), (73, .bipush 48, 2, 48, 0), (75, .iload_n 3, 1, 0, 0), (76, .bipush 10, 2, 10, 0), (78, .irem, 1, 0, 0), (79, .iadd, 1, 0, 0), (80, .i2c, 1, 0, 0), (81, .invokevirtual 99, 3, 0, 0), (84, .return_, 1, 0, 0)]
theorem tkX3_addMoney : ∀ x ∈ tbX3_addMoney, tbB cX3_addMoney x = true := tb_all (by decide +kernel)
def fX3_addMoney_49 (c : Nat → Option Nat) (h : Hp) (l0 : Option Nat) (l2 : Int32) (l3 : Int32) : Rs := ck h l0 5 (cc (fX3_addNumber c h l0 l2) (kV fun h1 => ck h1 l0 5 (cc (fX3_addSign c h1 l0 (46 : Int32)) (kV fun h2 => dv (10 : Int32) (ck h2 l0 5 (cc (fX3_addSign c h2 l0 (chI ((48 : Int32) + (l3 / (10 : Int32))))) (kV fun h3 => dv (10 : Int32) (ck h3 l0 5 (cc (fX3_addSign c h3 l0 (chI ((48 : Int32) + (l3 - l3 / (10 : Int32) * (10 : Int32))))) (kV fun h4 => some (h4, none)))))))))))
set_option maxHeartbeats 4000000 in
set_option maxRecDepth 100000 in
theorem sX3_addMoney_49 (X : Cx) {h0 : Hp} (h : Hp) (l0 : Option Nat) (l2 : Int32) (l3 : Int32) : Gd X mX3_addMoney h0 (fX3_addMoney_49 X.2.2.2 h l0 l2 l3) h 49 [some (.inr (.inr l0)), none, some (.inl l2), some (.inl l3)] [] := by
  unfold fX3_addMoney_49
  refine q_run tkX3_addMoney 28 2 (pc' := 51) (L' := [some (.inr (.inr l0)), none, some (.inl l2), some (.inl l3)]) (st' := [.inl l2, .inr (.inr l0)]) rfl ?_
  refine q_cv (r := l0) (ci := 5) (n := 1) (as := [.inl l2]) (st := []) TX3 6 (soX3_addNumber X h l0 l2) (tbm tkX3_addMoney (i := 30) rfl) rfl rfl ceX3_addNumber wd_434 wd_4 wd_432 rfl (Nat.le_of_ble_eq_true rfl) (kV_gd (fun h1 => ?_))
  refine q_run tkX3_addMoney 31 2 (pc' := 57) (L' := [some (.inr (.inr l0)), none, some (.inl l2), some (.inl l3)]) (st' := [.inl (46 : Int32), .inr (.inr l0)]) rfl ?_
  refine q_cv (r := l0) (ci := 5) (n := 1) (as := [.inl (46 : Int32)]) (st := []) TX3 6 (soX3_addSign X h1 l0 (46 : Int32)) (tbm tkX3_addMoney (i := 33) rfl) rfl rfl ceX3_addSign wd_430 wd_3 wd_428 rfl (Nat.le_of_ble_eq_true rfl) (kV_gd (fun h2 => ?_))
  refine q_run tkX3_addMoney 34 4 (pc' := 66) (L' := [some (.inr (.inr l0)), none, some (.inl l2), some (.inl l3)]) (st' := [.inl (10 : Int32), .inl l3, .inl (48 : Int32), .inr (.inr l0)]) rfl ?_
  refine q_div (tbm tkX3_addMoney (i := 38) rfl) ?_
  refine q_run tkX3_addMoney 39 2 (pc' := 69) (L' := [some (.inr (.inr l0)), none, some (.inl l2), some (.inl l3)]) (st' := [.inl (chI ((48 : Int32) + (l3 / (10 : Int32)))), .inr (.inr l0)]) rfl ?_
  refine q_cv (r := l0) (ci := 5) (n := 1) (as := [.inl (chI ((48 : Int32) + (l3 / (10 : Int32))))]) (st := []) TX3 6 (soX3_addSign X h2 l0 (chI ((48 : Int32) + (l3 / (10 : Int32))))) (tbm tkX3_addMoney (i := 41) rfl) rfl rfl ceX3_addSign wd_430 wd_3 wd_428 rfl (Nat.le_of_ble_eq_true rfl) (kV_gd (fun h3 => ?_))
  refine q_run tkX3_addMoney 42 4 (pc' := 78) (L' := [some (.inr (.inr l0)), none, some (.inl l2), some (.inl l3)]) (st' := [.inl (10 : Int32), .inl l3, .inl (48 : Int32), .inr (.inr l0)]) rfl ?_
  refine q_rem (tbm tkX3_addMoney (i := 46) rfl) ?_
  refine q_run tkX3_addMoney 47 2 (pc' := 81) (L' := [some (.inr (.inr l0)), none, some (.inl l2), some (.inl l3)]) (st' := [.inl (chI ((48 : Int32) + (l3 - l3 / (10 : Int32) * (10 : Int32)))), .inr (.inr l0)]) rfl ?_
  refine q_cv (r := l0) (ci := 5) (n := 1) (as := [.inl (chI ((48 : Int32) + (l3 - l3 / (10 : Int32) * (10 : Int32))))]) (st := []) TX3 6 (soX3_addSign X h3 l0 (chI ((48 : Int32) + (l3 - l3 / (10 : Int32) * (10 : Int32))))) (tbm tkX3_addMoney (i := 49) rfl) rfl rfl ceX3_addSign wd_430 wd_3 wd_428 rfl (Nat.le_of_ble_eq_true rfl) (kV_gd (fun h4 => ?_))
  exact q_vret (tbm tkX3_addMoney (i := 50) rfl) rfl
def fX3_addMoney_35 (c : Nat → Option Nat) (h : Hp) (l0 : Option Nat) (l1 : Int32) (l2 : Int32) (l3 : Int32) (s0 : Option Nat) (s1 : Int32) (s2 : Int32) : Rs := wr h s0 5 4 (.inl (s1 - s2)) (fun h5 => if l1 < 0 then (ck h5 l0 5 (cc (fX3_addSign c h5 l0 (45 : Int32)) (kV fun h6 => fX3_addMoney_49 c h6 l0 l2 l3))) else (fX3_addMoney_49 c h5 l0 l2 l3))
set_option maxHeartbeats 4000000 in
set_option maxRecDepth 100000 in
theorem sX3_addMoney_35 (X : Cx) {h0 : Hp} (h : Hp) (l0 : Option Nat) (l1 : Int32) (l2 : Int32) (l3 : Int32) (s0 : Option Nat) (s1 : Int32) (s2 : Int32) : Gd X mX3_addMoney h0 (fX3_addMoney_35 X.2.2.2 h l0 l1 l2 l3 s0 s1 s2) h 35 [some (.inr (.inr l0)), some (.inl l1), some (.inl l2), some (.inl l3)] [.inl s2, .inl s1, .inr (.inr s0)] := by
  unfold fX3_addMoney_35
  refine q_run tkX3_addMoney 21 1 (pc' := 36) (L' := [some (.inr (.inr l0)), some (.inl l1), some (.inl l2), some (.inl l3)]) (st' := [.inl (s1 - s2), .inr (.inr s0)]) rfl ?_
  refine q_wr RX3 TX3 6 (tbm tkX3_addMoney (i := 22) rfl) rfl (Nat.le_of_ble_eq_true rfl) (Or.inl rfl) wd_232 (fun h5 => ?_)
  refine q_run tkX3_addMoney 23 1 (pc' := 40) (L' := [some (.inr (.inr l0)), some (.inl l1), some (.inl l2), some (.inl l3)]) (st' := [.inl l1]) rfl ?_
  refine q_if_ge (tbm tkX3_addMoney (i := 24) rfl) ?_ ?_
  · refine q_run tkX3_addMoney 25 2 (pc' := 46) (L' := [some (.inr (.inr l0)), some (.inl l1), some (.inl l2), some (.inl l3)]) (st' := [.inl (45 : Int32), .inr (.inr l0)]) rfl ?_
    refine q_cv (r := l0) (ci := 5) (n := 1) (as := [.inl (45 : Int32)]) (st := []) TX3 6 (soX3_addSign X h5 l0 (45 : Int32)) (tbm tkX3_addMoney (i := 27) rfl) rfl rfl ceX3_addSign wd_430 wd_3 wd_428 rfl (Nat.le_of_ble_eq_true rfl) (kV_gd (fun h6 => ?_))
    refine q_le (L' := [some (.inr (.inr l0)), none, some (.inl l2), some (.inl l3)]) (lvLe_s (lvLe_n (lvLe_s (lvLe_s lvLe_0)))) ?_
    exact sX3_addMoney_49 X h6 l0 l2 l3
  · refine q_le (L' := [some (.inr (.inr l0)), none, some (.inl l2), some (.inl l3)]) (lvLe_s (lvLe_n (lvLe_s (lvLe_s lvLe_0)))) ?_
    exact sX3_addMoney_49 X h5 l0 l2 l3
def fX3_addMoney (c : Nat → Option Nat) (h : Hp) (a0 : Option Nat) (a1 : Int32) : Rs := dv (100 : Int32) (dv (100 : Int32) (rdI h a0 5 0 (fun x7 => cc (fX3_digitsOf c h ((abI a1) / (100 : Int32))) (kI fun h8 x9 => if a1 < 0 then (fX3_addMoney_35 c h8 a0 a1 ((abI a1) / (100 : Int32)) ((abI a1) - (abI a1) / (100 : Int32) * (100 : Int32)) a0 (x7 - x9) (4 : Int32)) else (fX3_addMoney_35 c h8 a0 a1 ((abI a1) / (100 : Int32)) ((abI a1) - (abI a1) / (100 : Int32) * (100 : Int32)) a0 (x7 - x9) (3 : Int32))))))
set_option maxHeartbeats 4000000 in
set_option maxRecDepth 100000 in
theorem soX3_addMoney (X : Cx) (h : Hp) (a0 : Option Nat) (a1 : Int32) : SO X mX3_addMoney [.inr (.inr a0), .inl a1] h (fX3_addMoney X.2.2.2 h a0 a1) := by
  refine so_of (by decide +kernel) (Nat.le_of_ble_eq_true rfl) ?_
  show Gd X mX3_addMoney h (fX3_addMoney X.2.2.2 h a0 a1) h 0 [some (.inr (.inr a0)), some (.inl a1), none, none] []
  unfold fX3_addMoney
  refine q_run tkX3_addMoney 0 1 (pc' := 1) (L' := [some (.inr (.inr a0)), some (.inl a1), none, none]) (st' := [.inl a1]) rfl ?_
  refine q_mabs (tbm tkX3_addMoney (i := 1) rfl) (Nat.le_of_ble_eq_true rfl) (Nat.le_of_ble_eq_true rfl) ⟨wd_458, wd_abs⟩ ?_
  refine q_run tkX3_addMoney 2 1 (pc' := 6) (L' := [some (.inr (.inr a0)), some (.inl a1), none, none]) (st' := [.inl (100 : Int32), .inl (abI a1)]) rfl ?_
  refine q_div (tbm tkX3_addMoney (i := 3) rfl) ?_
  refine q_run tkX3_addMoney 4 2 (pc' := 9) (L' := [some (.inr (.inr a0)), some (.inl a1), some (.inl ((abI a1) / (100 : Int32))), none]) (st' := [.inl a1]) rfl ?_
  refine q_mabs (tbm tkX3_addMoney (i := 6) rfl) (Nat.le_of_ble_eq_true rfl) (Nat.le_of_ble_eq_true rfl) ⟨wd_458, wd_abs⟩ ?_
  refine q_run tkX3_addMoney 7 1 (pc' := 14) (L' := [some (.inr (.inr a0)), some (.inl a1), some (.inl ((abI a1) / (100 : Int32))), none]) (st' := [.inl (100 : Int32), .inl (abI a1)]) rfl ?_
  refine q_rem (tbm tkX3_addMoney (i := 8) rfl) ?_
  refine q_run tkX3_addMoney 9 3 (pc' := 18) (L' := [some (.inr (.inr a0)), some (.inl a1), some (.inl ((abI a1) / (100 : Int32))), some (.inl ((abI a1) - (abI a1) / (100 : Int32) * (100 : Int32)))]) (st' := [.inr (.inr a0), .inr (.inr a0)]) rfl ?_
  refine q_rdI RX3 TX3 6 (tbm tkX3_addMoney (i := 12) rfl) rfl (Nat.le_of_ble_eq_true rfl) wd_225 (fun x7 => ?_)
  refine q_run tkX3_addMoney 13 1 (pc' := 22) (L' := [some (.inr (.inr a0)), some (.inl a1), some (.inl ((abI a1) / (100 : Int32))), some (.inl ((abI a1) - (abI a1) / (100 : Int32) * (100 : Int32)))]) (st' := [.inl ((abI a1) / (100 : Int32)), .inl x7, .inr (.inr a0)]) rfl ?_
  refine q_cs (n := 1) (as := [.inl ((abI a1) / (100 : Int32))]) (st := [.inl x7, .inr (.inr a0)]) (soX3_digitsOf X h ((abI a1) / (100 : Int32))) (tbm tkX3_addMoney (i := 14) rfl) rfl ceX3_digitsOf wd_462 wd_461 rfl (Nat.le_of_ble_eq_true rfl) (kI_gd (fun h8 x9 => ?_))
  refine q_run tkX3_addMoney 15 2 (pc' := 27) (L' := [some (.inr (.inr a0)), some (.inl a1), some (.inl ((abI a1) / (100 : Int32))), some (.inl ((abI a1) - (abI a1) / (100 : Int32) * (100 : Int32)))]) (st' := [.inl a1, .inl (x7 - x9), .inr (.inr a0)]) rfl ?_
  refine q_if_ge (tbm tkX3_addMoney (i := 17) rfl) ?_ ?_
  · refine q_run tkX3_addMoney 18 2 (pc' := 35) (L' := [some (.inr (.inr a0)), some (.inl a1), some (.inl ((abI a1) / (100 : Int32))), some (.inl ((abI a1) - (abI a1) / (100 : Int32) * (100 : Int32)))]) (st' := [.inl (4 : Int32), .inl (x7 - x9), .inr (.inr a0)]) rfl ?_
    exact sX3_addMoney_35 X h8 a0 a1 ((abI a1) / (100 : Int32)) ((abI a1) - (abI a1) / (100 : Int32) * (100 : Int32)) a0 (x7 - x9) (4 : Int32)
  · refine q_run tkX3_addMoney 20 1 (pc' := 35) (L' := [some (.inr (.inr a0)), some (.inl a1), some (.inl ((abI a1) / (100 : Int32))), some (.inl ((abI a1) - (abI a1) / (100 : Int32) * (100 : Int32)))]) (st' := [.inl (3 : Int32), .inl (x7 - x9), .inr (.inr a0)]) rfl ?_
    exact sX3_addMoney_35 X h8 a0 a1 ((abI a1) / (100 : Int32)) ((abI a1) - (abI a1) / (100 : Int32) * (100 : Int32)) a0 (x7 - x9) (3 : Int32)
theorem ceX3_addMoney : Ce mX3_addMoney 1 := ⟨wd_26, wd_457, by decide +kernel, by decide +kernel, by decide +kernel⟩
/-- ReceiptRolls$Sheet.layItem -/
abbrev mX3_layItem : MI := (yX3_layItem, cX3_layItem, 5, none, 5)
def tbX3_layItem : List TE := [(0, .aload_n 0, 1, 0, 0), (1, .getfield 81, 3, 0, 0), (4, .istore_n 2, 1, 0, 0), (5, .aload_n 1, 1, 0, 0), (6, .getfield 96, 3, 0, 0), (9, .iconst 1, 1, 1, 0), (10, .if_icmp .le 17, 3, 0, 27), (13, .aload_n 0, 1, 0, 0), (14, .aload_n 1, 1, 0, 0), (15, .getfield 96, 3, 0, 0), (18, .invokevirtual 25, 3, 0, 0), (21, .aload_n 0, 1, 0, 0), (22, .bipush 120, 2, 120, 0), (24, .invokevirtual 99, 3, 0, 0), (27, .iconst 0, 1, 0, 0), (28, .istore_n 3, 1, 0, 0), (29, .iconst 0, 1, 0, 0), (30, .istore 4, 2, 0, 0), (32, .iload 4, 2, 0, 0), (34, .aload_n 1, 1, 0, 0), (35, .getfield 103, 3, 0, 0), (38, .invokevirtual 107, 3, 0, 0), (41, .if_icmp .gt 51, 3, 0, 92), (44, .iload 4, 2, 0, 0), (46, .aload_n 1, 1, 0, 0), (47, .getfield 103, 3, 0, 0), (50, .invokevirtual 107, 3, 0, 0), (53, .if_icmp .eq 17, 3, 0, 70), (56, .aload_n 1, 1, 0, 0), (57, .getfield 103, 3, 0, 0), (60, .iload 4, 2, 0, 0), (62, .invokevirtual 112, 3, 0, 0), (65, .bipush 95, 2, 95, 0), (67, .if_icmp .ne 19, 3, 0, 86), (70, .aload_n 0, 1, 0, 0), (71, .aload_n 1, 1, 0, 0), (72, .getfield 103, 3, 0, 0), (75, .iload_n 3, 1, 0, 0), (76, .iload 4, 2, 0, 0), (78, .invokevirtual 116, 3, 0, 0), (81, .iload 4, 2, 0, 0), (83, .iconst 1, 1, 1, 0), (84, .iadd, 1, 0, 0), (85, .istore_n 3, 1, 0, 0), (86, .iinc 4 1, 3, 1, 0), (89, .goto (-57), 3, 0, 32), (92, .iload_n 2, 1, 0, 0), (93, .aload_n 0, 1, 0, 0), (94, .getfield 87, 3, 0, 0), (97, .if_icmp .gt 19, 3, 0, 116), (100, .aload_n 0, 1, 0, 0), (101, .getfield 87, 3, 0, 0), (104, .aload_n 0, 1, 0, 0), (105, .getfield 81, 3, 0, 0), (108, .if_icmp .gt 8, 3, 0, 116), (111, .aload_n 0, 1, 0, 0), (112, .iload_n 2, 1, 0, 0), (113, .putfield 90, 3, 0, 0), (116, .aload_n 0, 1, 0, 0), (117, .aload_n 1, 1, 0, 0), (118, .invokevirtual 52, 3, 0, 0), (121, .invokevirtual 66, 3, 0, 0), (124, .aload_n 0, 1, 0, 0), (125, .invokevirtual 29, 3, 0, 0), (128, .return_, 1, 0, 0)]
theorem tkX3_layItem : ∀ x ∈ tbX3_layItem, tbB cX3_layItem x = true := tb_all (by decide +kernel)
def fX3_layItem_86 (c : Nat → Option Nat) (k32 : Hp → Option Nat → Option Nat → Int32 → Int32 → Int32 → Rs) (h : Hp) (l0 : Option Nat) (l1 : Option Nat) (l2 : Int32) (l3 : Int32) (l4 : Int32) : Rs := k32 h l0 l1 l2 l3 (l4 + (1 : Int32))
set_option maxHeartbeats 4000000 in
set_option maxRecDepth 100000 in
theorem sX3_layItem_86 (X : Cx) {h0 : Hp} (k32 : Hp → Option Nat → Option Nat → Int32 → Int32 → Int32 → Rs) (hk32 : ∀ (h : Hp) (l0 : Option Nat) (l1 : Option Nat) (l2 : Int32) (l3 : Int32) (l4 : Int32), Gd X mX3_layItem h0 (k32 h l0 l1 l2 l3 l4) h 32 [some (.inr (.inr l0)), some (.inr (.inr l1)), some (.inl l2), some (.inl l3), some (.inl l4)] []) (h : Hp) (l0 : Option Nat) (l1 : Option Nat) (l2 : Int32) (l3 : Int32) (l4 : Int32) : Gd X mX3_layItem h0 (fX3_layItem_86 X.2.2.2 k32 h l0 l1 l2 l3 l4) h 86 [some (.inr (.inr l0)), some (.inr (.inr l1)), some (.inl l2), some (.inl l3), some (.inl l4)] [] := by
  unfold fX3_layItem_86
  refine q_run tkX3_layItem 44 2 (pc' := 32) (L' := [some (.inr (.inr l0)), some (.inr (.inr l1)), some (.inl l2), some (.inl l3), some (.inl (l4 + (1 : Int32)))]) (st' := []) rfl ?_
  exact hk32 h l0 l1 l2 l3 (l4 + (1 : Int32))
def fX3_layItem_70 (c : Nat → Option Nat) (k32 : Hp → Option Nat → Option Nat → Int32 → Int32 → Int32 → Rs) (h : Hp) (l0 : Option Nat) (l1 : Option Nat) (l2 : Int32) (l3 : Int32) (l4 : Int32) : Rs := rdR h l1 3 0 (fun r1 => ck h l0 5 (cc (fX3_layWord c h l0 r1 l3 l4) (kV fun h2 => fX3_layItem_86 c k32 h2 l0 l1 l2 (l4 + (1 : Int32)) l4)))
set_option maxHeartbeats 4000000 in
set_option maxRecDepth 100000 in
theorem sX3_layItem_70 (X : Cx) {h0 : Hp} (k32 : Hp → Option Nat → Option Nat → Int32 → Int32 → Int32 → Rs) (hk32 : ∀ (h : Hp) (l0 : Option Nat) (l1 : Option Nat) (l2 : Int32) (l3 : Int32) (l4 : Int32), Gd X mX3_layItem h0 (k32 h l0 l1 l2 l3 l4) h 32 [some (.inr (.inr l0)), some (.inr (.inr l1)), some (.inl l2), some (.inl l3), some (.inl l4)] []) (h : Hp) (l0 : Option Nat) (l1 : Option Nat) (l2 : Int32) (l3 : Int32) (l4 : Int32) : Gd X mX3_layItem h0 (fX3_layItem_70 X.2.2.2 k32 h l0 l1 l2 l3 l4) h 70 [some (.inr (.inr l0)), some (.inr (.inr l1)), some (.inl l2), some (.inl l3), some (.inl l4)] [] := by
  unfold fX3_layItem_70
  refine q_run tkX3_layItem 34 2 (pc' := 72) (L' := [some (.inr (.inr l0)), some (.inr (.inr l1)), some (.inl l2), some (.inl l3), some (.inl l4)]) (st' := [.inr (.inr l1), .inr (.inr l0)]) rfl ?_
  refine q_rdR RX1 TX1 4 (tbm tkX3_layItem (i := 36) rfl) rfl (Nat.le_of_ble_eq_true rfl) wd_783 (fun r1 => ?_)
  refine q_run tkX3_layItem 37 2 (pc' := 78) (L' := [some (.inr (.inr l0)), some (.inr (.inr l1)), some (.inl l2), some (.inl l3), some (.inl l4)]) (st' := [.inl l4, .inl l3, .inr (.inr r1), .inr (.inr l0)]) rfl ?_
  refine q_cv (r := l0) (ci := 5) (n := 3) (as := [.inr (.inr r1), .inl l3, .inl l4]) (st := []) TX3 6 (soX3_layWord X h l0 r1 l3 l4) (tbm tkX3_layItem (i := 39) rfl) rfl rfl ceX3_layWord wd_448 wd_7 wd_446 rfl (Nat.le_of_ble_eq_true rfl) (kV_gd (fun h2 => ?_))
  refine q_run tkX3_layItem 40 4 (pc' := 86) (L' := [some (.inr (.inr l0)), some (.inr (.inr l1)), some (.inl l2), some (.inl (l4 + (1 : Int32))), some (.inl l4)]) (st' := []) rfl ?_
  exact sX3_layItem_86 X k32 hk32 h2 l0 l1 l2 (l4 + (1 : Int32)) l4
def fX3_layItem_116 (c : Nat → Option Nat) (h : Hp) (l0 : Option Nat) (l1 : Option Nat) : Rs := ck h l1 3 (cc (fX1_sum c h l1) (kI fun h3 x4 => ck h3 l0 5 (cc (fX3_addMoney c h3 l0 x4) (kV fun h5 => ck h5 l0 5 (cc (fX3_endLine c h5 l0) (kV fun h6 => some (h6, none)))))))
set_option maxHeartbeats 4000000 in
set_option maxRecDepth 100000 in
theorem sX3_layItem_116 (X : Cx) {h0 : Hp} (h : Hp) (l0 : Option Nat) (l1 : Option Nat) : Gd X mX3_layItem h0 (fX3_layItem_116 X.2.2.2 h l0 l1) h 116 [some (.inr (.inr l0)), some (.inr (.inr l1)), none, none, none] [] := by
  unfold fX3_layItem_116
  refine q_run tkX3_layItem 58 2 (pc' := 118) (L' := [some (.inr (.inr l0)), some (.inr (.inr l1)), none, none, none]) (st' := [.inr (.inr l1), .inr (.inr l0)]) rfl ?_
  refine q_cv (r := l1) (ci := 3) (n := 0) (as := []) (st := [.inr (.inr l0)]) TX1 4 (soX1_sum X h l1) (tbm tkX3_layItem (i := 60) rfl) rfl rfl ceX1_sum wd_303 wd_304 wd_453 rfl (Nat.le_of_ble_eq_true rfl) (kI_gd (fun h3 x4 => ?_))
  refine q_cv (r := l0) (ci := 5) (n := 1) (as := [.inl x4]) (st := []) TX3 6 (soX3_addMoney X h3 l0 x4) (tbm tkX3_layItem (i := 61) rfl) rfl rfl ceX3_addMoney wd_456 wd_8 wd_454 rfl (Nat.le_of_ble_eq_true rfl) (kV_gd (fun h5 => ?_))
  refine q_run tkX3_layItem 62 1 (pc' := 125) (L' := [some (.inr (.inr l0)), some (.inr (.inr l1)), none, none, none]) (st' := [.inr (.inr l0)]) rfl ?_
  refine q_cv (r := l0) (ci := 5) (n := 0) (as := []) (st := []) TX3 6 (soX3_endLine X h5 l0) (tbm tkX3_layItem (i := 63) rfl) rfl rfl ceX3_endLine wd_439 wd_5 wd_437 rfl (Nat.le_of_ble_eq_true rfl) (kV_gd (fun h6 => ?_))
  exact q_vret (tbm tkX3_layItem (i := 64) rfl) rfl
def fX3_layItem_32 (c : Nat → Option Nat) : Nat → Hp → Option Nat → Option Nat → Int32 → Int32 → Int32 → Rs
  | 0, _, _, _, _, _, _ => none
  | n + 1, h, l0, l1, l2, l3, l4 => rdR h l1 3 0 (fun r7 => ck h r7 0 (cc (fJ0_length_8abf5 c h r7) (kI fun h8 x9 => if x9 < l4 then (rdI h8 l0 5 3 (fun x10 => if x10 < l2 then (fX3_layItem_116 c h8 l0 l1) else (rdI h8 l0 5 3 (fun x11 => rdI h8 l0 5 1 (fun x12 => if x12 < x11 then (fX3_layItem_116 c h8 l0 l1) else (wr h8 l0 5 2 (.inl l2) (fun h13 => fX3_layItem_116 c h13 l0 l1))))))) else (rdR h8 l1 3 0 (fun r14 => ck h8 r14 0 (cc (fJ0_length_8abf5 c h8 r14) (kI fun h15 x16 => if l4 = x16 then (fX3_layItem_70 c (fX3_layItem_32 c n) h15 l0 l1 l2 l3 l4) else (rdR h15 l1 3 0 (fun r17 => ck h15 r17 0 (cc (fJ0_charAt_5068e c h15 r17 l4) (kI fun h18 x19 => if x19 = (95 : Int32) then (fX3_layItem_70 c (fX3_layItem_32 c n) h18 l0 l1 l2 l3 l4) else (fX3_layItem_86 c (fX3_layItem_32 c n) h18 l0 l1 l2 l3 l4))))))))))))
set_option maxHeartbeats 4000000 in
set_option maxRecDepth 100000 in
theorem sX3_layItem_32 (X : Cx) {h0 : Hp} : ∀ (n : Nat) (h : Hp) (l0 : Option Nat) (l1 : Option Nat) (l2 : Int32) (l3 : Int32) (l4 : Int32), Gd X mX3_layItem h0 (fX3_layItem_32 X.2.2.2 n h l0 l1 l2 l3 l4) h 32 [some (.inr (.inr l0)), some (.inr (.inr l1)), some (.inl l2), some (.inl l3), some (.inl l4)] [] := by
  intro n
  induction n with
  | zero => intros; exact gd_none
  | succ n ih =>
    intro h l0 l1 l2 l3 l4
    unfold fX3_layItem_32
    refine q_run tkX3_layItem 18 2 (pc' := 35) (L' := [some (.inr (.inr l0)), some (.inr (.inr l1)), some (.inl l2), some (.inl l3), some (.inl l4)]) (st' := [.inr (.inr l1), .inl l4]) rfl ?_
    refine q_rdR RX1 TX1 4 (tbm tkX3_layItem (i := 20) rfl) rfl (Nat.le_of_ble_eq_true rfl) wd_783 (fun r7 => ?_)
    refine q_cv (r := r7) (ci := 0) (n := 0) (as := []) (st := [.inl l4]) TJ0 4 (soJ0_length_8abf5 X h r7) (tbm tkX3_layItem (i := 21) rfl) rfl rfl ceJ0_length_8abf5 wd_382 wd_383 wd_381 rfl (Nat.le_of_ble_eq_true rfl) (kI_gd (fun h8 x9 => ?_))
    refine q_icmp_gt (tbm tkX3_layItem (i := 22) rfl) ?_ ?_
    · refine q_run tkX3_layItem 46 2 (pc' := 94) (L' := [some (.inr (.inr l0)), some (.inr (.inr l1)), some (.inl l2), some (.inl l3), some (.inl l4)]) (st' := [.inr (.inr l0), .inl l2]) rfl ?_
      refine q_rdI RX3 TX3 6 (tbm tkX3_layItem (i := 48) rfl) rfl (Nat.le_of_ble_eq_true rfl) wd_231 (fun x10 => ?_)
      refine q_icmp_gt (tbm tkX3_layItem (i := 49) rfl) ?_ ?_
      · refine q_le (L' := [some (.inr (.inr l0)), some (.inr (.inr l1)), none, none, none]) (lvLe_s (lvLe_s (lvLe_n (lvLe_n (lvLe_n lvLe_0))))) ?_
        exact sX3_layItem_116 X h8 l0 l1
      · refine q_run tkX3_layItem 50 1 (pc' := 101) (L' := [some (.inr (.inr l0)), some (.inr (.inr l1)), some (.inl l2), some (.inl l3), some (.inl l4)]) (st' := [.inr (.inr l0)]) rfl ?_
        refine q_rdI RX3 TX3 6 (tbm tkX3_layItem (i := 51) rfl) rfl (Nat.le_of_ble_eq_true rfl) wd_231 (fun x11 => ?_)
        refine q_run tkX3_layItem 52 1 (pc' := 105) (L' := [some (.inr (.inr l0)), some (.inr (.inr l1)), some (.inl l2), some (.inl l3), some (.inl l4)]) (st' := [.inr (.inr l0), .inl x11]) rfl ?_
        refine q_rdI RX3 TX3 6 (tbm tkX3_layItem (i := 53) rfl) rfl (Nat.le_of_ble_eq_true rfl) wd_227 (fun x12 => ?_)
        refine q_icmp_gt (tbm tkX3_layItem (i := 54) rfl) ?_ ?_
        · refine q_le (L' := [some (.inr (.inr l0)), some (.inr (.inr l1)), none, none, none]) (lvLe_s (lvLe_s (lvLe_n (lvLe_n (lvLe_n lvLe_0))))) ?_
          exact sX3_layItem_116 X h8 l0 l1
        · refine q_run tkX3_layItem 55 2 (pc' := 113) (L' := [some (.inr (.inr l0)), some (.inr (.inr l1)), some (.inl l2), some (.inl l3), some (.inl l4)]) (st' := [.inl l2, .inr (.inr l0)]) rfl ?_
          refine q_wr RX3 TX3 6 (tbm tkX3_layItem (i := 57) rfl) rfl (Nat.le_of_ble_eq_true rfl) (Or.inl rfl) wd_229 (fun h13 => ?_)
          refine q_le (L' := [some (.inr (.inr l0)), some (.inr (.inr l1)), none, none, none]) (lvLe_s (lvLe_s (lvLe_n (lvLe_n (lvLe_n lvLe_0))))) ?_
          exact sX3_layItem_116 X h13 l0 l1
    · refine q_run tkX3_layItem 23 2 (pc' := 47) (L' := [some (.inr (.inr l0)), some (.inr (.inr l1)), some (.inl l2), some (.inl l3), some (.inl l4)]) (st' := [.inr (.inr l1), .inl l4]) rfl ?_
      refine q_rdR RX1 TX1 4 (tbm tkX3_layItem (i := 25) rfl) rfl (Nat.le_of_ble_eq_true rfl) wd_783 (fun r14 => ?_)
      refine q_cv (r := r14) (ci := 0) (n := 0) (as := []) (st := [.inl l4]) TJ0 4 (soJ0_length_8abf5 X h8 r14) (tbm tkX3_layItem (i := 26) rfl) rfl rfl ceJ0_length_8abf5 wd_382 wd_383 wd_381 rfl (Nat.le_of_ble_eq_true rfl) (kI_gd (fun h15 x16 => ?_))
      refine q_icmp_eq (tbm tkX3_layItem (i := 27) rfl) ?_ ?_
      · exact sX3_layItem_70 X (fX3_layItem_32 X.2.2.2 n) ih h15 l0 l1 l2 l3 l4
      · refine q_run tkX3_layItem 28 1 (pc' := 57) (L' := [some (.inr (.inr l0)), some (.inr (.inr l1)), some (.inl l2), some (.inl l3), some (.inl l4)]) (st' := [.inr (.inr l1)]) rfl ?_
        refine q_rdR RX1 TX1 4 (tbm tkX3_layItem (i := 29) rfl) rfl (Nat.le_of_ble_eq_true rfl) wd_783 (fun r17 => ?_)
        refine q_run tkX3_layItem 30 1 (pc' := 62) (L' := [some (.inr (.inr l0)), some (.inr (.inr l1)), some (.inl l2), some (.inl l3), some (.inl l4)]) (st' := [.inl l4, .inr (.inr r17)]) rfl ?_
        refine q_cv (r := r17) (ci := 0) (n := 1) (as := [.inl l4]) (st := []) TJ0 4 (soJ0_charAt_5068e X h15 r17 l4) (tbm tkX3_layItem (i := 31) rfl) rfl rfl ceJ0_charAt_5068e wd_391 wd_392 wd_390 rfl (Nat.le_of_ble_eq_true rfl) (kI_gd (fun h18 x19 => ?_))
        refine q_run tkX3_layItem 32 1 (pc' := 67) (L' := [some (.inr (.inr l0)), some (.inr (.inr l1)), some (.inl l2), some (.inl l3), some (.inl l4)]) (st' := [.inl (95 : Int32), .inl x19]) rfl ?_
        refine q_icmp_ne (tbm tkX3_layItem (i := 33) rfl) ?_ ?_
        · exact sX3_layItem_70 X (fX3_layItem_32 X.2.2.2 n) ih h18 l0 l1 l2 l3 l4
        · exact sX3_layItem_86 X (fX3_layItem_32 X.2.2.2 n) ih h18 l0 l1 l2 l3 l4
def fX3_layItem_27 (c : Nat → Option Nat) (h : Hp) (l0 : Option Nat) (l1 : Option Nat) (l2 : Int32) : Rs := fX3_layItem_32 c FU h l0 l1 l2 (0 : Int32) (0 : Int32)
set_option maxHeartbeats 4000000 in
set_option maxRecDepth 100000 in
theorem sX3_layItem_27 (X : Cx) {h0 : Hp} (h : Hp) (l0 : Option Nat) (l1 : Option Nat) (l2 : Int32) : Gd X mX3_layItem h0 (fX3_layItem_27 X.2.2.2 h l0 l1 l2) h 27 [some (.inr (.inr l0)), some (.inr (.inr l1)), some (.inl l2), none, none] [] := by
  unfold fX3_layItem_27
  refine q_run tkX3_layItem 14 4 (pc' := 32) (L' := [some (.inr (.inr l0)), some (.inr (.inr l1)), some (.inl l2), some (.inl (0 : Int32)), some (.inl (0 : Int32))]) (st' := []) rfl ?_
  exact sX3_layItem_32 X FU h l0 l1 l2 (0 : Int32) (0 : Int32)
def fX3_layItem (c : Nat → Option Nat) (h : Hp) (a0 : Option Nat) (a1 : Option Nat) : Rs := rdI h a0 5 1 (fun x20 => rdI h a1 3 1 (fun x21 => if (1 : Int32) < x21 then (rdI h a1 3 1 (fun x22 => ck h a0 5 (cc (fX3_addNumber c h a0 x22) (kV fun h23 => ck h23 a0 5 (cc (fX3_addSign c h23 a0 (120 : Int32)) (kV fun h24 => fX3_layItem_27 c h24 a0 a1 x20)))))) else (fX3_layItem_27 c h a0 a1 x20)))
set_option maxHeartbeats 4000000 in
set_option maxRecDepth 100000 in
theorem soX3_layItem (X : Cx) (h : Hp) (a0 : Option Nat) (a1 : Option Nat) : SO X mX3_layItem [.inr (.inr a0), .inr (.inr a1)] h (fX3_layItem X.2.2.2 h a0 a1) := by
  refine so_of (by decide +kernel) (Nat.le_of_ble_eq_true rfl) ?_
  show Gd X mX3_layItem h (fX3_layItem X.2.2.2 h a0 a1) h 0 [some (.inr (.inr a0)), some (.inr (.inr a1)), none, none, none] []
  unfold fX3_layItem
  refine q_run tkX3_layItem 0 1 (pc' := 1) (L' := [some (.inr (.inr a0)), some (.inr (.inr a1)), none, none, none]) (st' := [.inr (.inr a0)]) rfl ?_
  refine q_rdI RX3 TX3 6 (tbm tkX3_layItem (i := 1) rfl) rfl (Nat.le_of_ble_eq_true rfl) wd_227 (fun x20 => ?_)
  refine q_run tkX3_layItem 2 2 (pc' := 6) (L' := [some (.inr (.inr a0)), some (.inr (.inr a1)), some (.inl x20), none, none]) (st' := [.inr (.inr a1)]) rfl ?_
  refine q_rdI RX1 TX1 4 (tbm tkX3_layItem (i := 4) rfl) rfl (Nat.le_of_ble_eq_true rfl) wd_785 (fun x21 => ?_)
  refine q_run tkX3_layItem 5 1 (pc' := 10) (L' := [some (.inr (.inr a0)), some (.inr (.inr a1)), some (.inl x20), none, none]) (st' := [.inl (1 : Int32), .inl x21]) rfl ?_
  refine q_icmp_le (tbm tkX3_layItem (i := 6) rfl) ?_ ?_
  · refine q_run tkX3_layItem 7 2 (pc' := 15) (L' := [some (.inr (.inr a0)), some (.inr (.inr a1)), some (.inl x20), none, none]) (st' := [.inr (.inr a1), .inr (.inr a0)]) rfl ?_
    refine q_rdI RX1 TX1 4 (tbm tkX3_layItem (i := 9) rfl) rfl (Nat.le_of_ble_eq_true rfl) wd_785 (fun x22 => ?_)
    refine q_cv (r := a0) (ci := 5) (n := 1) (as := [.inl x22]) (st := []) TX3 6 (soX3_addNumber X h a0 x22) (tbm tkX3_layItem (i := 10) rfl) rfl rfl ceX3_addNumber wd_434 wd_4 wd_432 rfl (Nat.le_of_ble_eq_true rfl) (kV_gd (fun h23 => ?_))
    refine q_run tkX3_layItem 11 2 (pc' := 24) (L' := [some (.inr (.inr a0)), some (.inr (.inr a1)), some (.inl x20), none, none]) (st' := [.inl (120 : Int32), .inr (.inr a0)]) rfl ?_
    refine q_cv (r := a0) (ci := 5) (n := 1) (as := [.inl (120 : Int32)]) (st := []) TX3 6 (soX3_addSign X h23 a0 (120 : Int32)) (tbm tkX3_layItem (i := 13) rfl) rfl rfl ceX3_addSign wd_430 wd_3 wd_428 rfl (Nat.le_of_ble_eq_true rfl) (kV_gd (fun h24 => ?_))
    exact sX3_layItem_27 X h24 a0 a1 x20
  · exact sX3_layItem_27 X h a0 a1 x20
theorem ceX3_layItem : Ce mX3_layItem 1 := ⟨wd_26, wd_445, by decide +kernel, by decide +kernel, by decide +kernel⟩
/-- ReceiptRolls$Sheet.layTold -/
abbrev mX3_layTold : MI := (yX3_layTold, cX3_layTold, 4, none, 5)
def tbX3_layTold : List TE := [(0, .aload_n 0, 1, 0, 0), (1, .aload_n 1, 1, 0, 0), (2, .invokevirtual 21, 3, 0, 0), (5, .aload_n 0, 1, 0, 0), (6, .iload_n 2, 1, 0, 0), (7, .invokevirtual 25, 3, 0, 0), (10, .aload_n 0, 1, 0, 0), (11, .iload_n 3, 1, 0, 0), (12, .invokevirtual 66, 3, 0, 0), (15, .aload_n 0, 1, 0, 0), (16, .invokevirtual 29, 3, 0, 0), (19, .return_, 1, 0, 0)]
theorem tkX3_layTold : ∀ x ∈ tbX3_layTold, tbB cX3_layTold x = true := tb_all (by decide +kernel)
def fX3_layTold (c : Nat → Option Nat) (h : Hp) (a0 : Option Nat) (a1 : Option Nat) (a2 : Int32) (a3 : Int32) : Rs := ck h a0 5 (cc (fX3_addText c h a0 a1) (kV fun h1 => ck h1 a0 5 (cc (fX3_addNumber c h1 a0 a2) (kV fun h2 => ck h2 a0 5 (cc (fX3_addMoney c h2 a0 a3) (kV fun h3 => ck h3 a0 5 (cc (fX3_endLine c h3 a0) (kV fun h4 => some (h4, none)))))))))
set_option maxHeartbeats 4000000 in
set_option maxRecDepth 100000 in
theorem soX3_layTold (X : Cx) (h : Hp) (a0 : Option Nat) (a1 : Option Nat) (a2 : Int32) (a3 : Int32) : SO X mX3_layTold [.inr (.inr a0), .inr (.inr a1), .inl a2, .inl a3] h (fX3_layTold X.2.2.2 h a0 a1 a2 a3) := by
  refine so_of (by decide +kernel) (Nat.le_of_ble_eq_true rfl) ?_
  show Gd X mX3_layTold h (fX3_layTold X.2.2.2 h a0 a1 a2 a3) h 0 [some (.inr (.inr a0)), some (.inr (.inr a1)), some (.inl a2), some (.inl a3)] []
  unfold fX3_layTold
  refine q_run tkX3_layTold 0 2 (pc' := 2) (L' := [some (.inr (.inr a0)), some (.inr (.inr a1)), some (.inl a2), some (.inl a3)]) (st' := [.inr (.inr a1), .inr (.inr a0)]) rfl ?_
  refine q_cv (r := a0) (ci := 5) (n := 1) (as := [.inr (.inr a1)]) (st := []) TX3 6 (soX3_addText X h a0 a1) (tbm tkX3_layTold (i := 2) rfl) rfl rfl ceX3_addText wd_379 wd_2 wd_377 rfl (Nat.le_of_ble_eq_true rfl) (kV_gd (fun h1 => ?_))
  refine q_run tkX3_layTold 3 2 (pc' := 7) (L' := [some (.inr (.inr a0)), some (.inr (.inr a1)), some (.inl a2), some (.inl a3)]) (st' := [.inl a2, .inr (.inr a0)]) rfl ?_
  refine q_cv (r := a0) (ci := 5) (n := 1) (as := [.inl a2]) (st := []) TX3 6 (soX3_addNumber X h1 a0 a2) (tbm tkX3_layTold (i := 5) rfl) rfl rfl ceX3_addNumber wd_434 wd_4 wd_432 rfl (Nat.le_of_ble_eq_true rfl) (kV_gd (fun h2 => ?_))
  refine q_run tkX3_layTold 6 2 (pc' := 12) (L' := [some (.inr (.inr a0)), some (.inr (.inr a1)), some (.inl a2), some (.inl a3)]) (st' := [.inl a3, .inr (.inr a0)]) rfl ?_
  refine q_cv (r := a0) (ci := 5) (n := 1) (as := [.inl a3]) (st := []) TX3 6 (soX3_addMoney X h2 a0 a3) (tbm tkX3_layTold (i := 8) rfl) rfl rfl ceX3_addMoney wd_456 wd_8 wd_454 rfl (Nat.le_of_ble_eq_true rfl) (kV_gd (fun h3 => ?_))
  refine q_run tkX3_layTold 9 1 (pc' := 16) (L' := [some (.inr (.inr a0)), some (.inr (.inr a1)), some (.inl a2), some (.inl a3)]) (st' := [.inr (.inr a0)]) rfl ?_
  refine q_cv (r := a0) (ci := 5) (n := 0) (as := []) (st := []) TX3 6 (soX3_endLine X h3 a0) (tbm tkX3_layTold (i := 10) rfl) rfl rfl ceX3_endLine wd_439 wd_5 wd_437 rfl (Nat.le_of_ble_eq_true rfl) (kV_gd (fun h4 => ?_))
  exact q_vret (tbm tkX3_layTold (i := 11) rfl) rfl
theorem ceX3_layTold : Ce mX3_layTold 3 := ⟨wd_26, wd_468, by decide +kernel, by decide +kernel, by decide +kernel⟩
/-- ReceiptRolls$Receipt.isStruck -/
abbrev mX2_isStruck : MI := (yX2_isStruck, cX2_isStruck, 2, some .boolean, 0)
def tbX2_isStruck : List TE := [(0, .aload_n 0, 1, 0, 0), (1, .getfield 55, 3, 0, 0), (4, .iload_n 1, 1, 0, 0), (5, .ishr, 1, 0, 0), (6, .iconst 1, 1, 1, 0), (7, .iand, 1, 0, 0), (8, .iconst 1, 1, 1, 0), (9, .if_icmp .ne 7, 3, 0, 16), (12, .iconst 1, 1, 1, 0), (13, .goto 4, 3, 0, 17), (16, .iconst 0, 1, 0, 0), (17, .ireturn, 1, 0, 0)]
theorem tkX2_isStruck : ∀ x ∈ tbX2_isStruck, tbB cX2_isStruck x = true := tb_all (by decide +kernel)
def fX2_isStruck_17 (c : Nat → Option Nat) (h : Hp) (s0 : Int32) : Rs := rtI .boolean h s0
set_option maxHeartbeats 4000000 in
set_option maxRecDepth 100000 in
theorem sX2_isStruck_17 (X : Cx) {h0 : Hp} (h : Hp) (s0 : Int32) : Gd X mX2_isStruck h0 (fX2_isStruck_17 X.2.2.2 h s0) h 17 [none, none] [.inl s0] := by
  unfold fX2_isStruck_17
  exact q_zret (tbm tkX2_isStruck (i := 11) rfl) rfl
def fX2_isStruck (c : Nat → Option Nat) (h : Hp) (a0 : Option Nat) (a1 : Int32) : Rs := rdI h a0 4 11 (fun x1 => if ((shrI x1 a1) &&& (1 : Int32)) = (1 : Int32) then (fX2_isStruck_17 c h (1 : Int32)) else (fX2_isStruck_17 c h (0 : Int32)))
set_option maxHeartbeats 4000000 in
set_option maxRecDepth 100000 in
theorem soX2_isStruck (X : Cx) (h : Hp) (a0 : Option Nat) (a1 : Int32) : SO X mX2_isStruck [.inr (.inr a0), .inl a1] h (fX2_isStruck X.2.2.2 h a0 a1) := by
  refine so_of (by decide +kernel) (Nat.le_of_ble_eq_true rfl) ?_
  show Gd X mX2_isStruck h (fX2_isStruck X.2.2.2 h a0 a1) h 0 [some (.inr (.inr a0)), some (.inl a1)] []
  unfold fX2_isStruck
  refine q_run tkX2_isStruck 0 1 (pc' := 1) (L' := [some (.inr (.inr a0)), some (.inl a1)]) (st' := [.inr (.inr a0)]) rfl ?_
  refine q_rdI RX2 TX2 14 (tbm tkX2_isStruck (i := 1) rfl) rfl (Nat.le_of_ble_eq_true rfl) wd_85 (fun x1 => ?_)
  refine q_run tkX2_isStruck 2 5 (pc' := 9) (L' := [some (.inr (.inr a0)), some (.inl a1)]) (st' := [.inl (1 : Int32), .inl ((shrI x1 a1) &&& (1 : Int32))]) rfl ?_
  refine q_icmp_ne (tbm tkX2_isStruck (i := 7) rfl) ?_ ?_
  · refine q_run tkX2_isStruck 8 2 (pc' := 17) (L' := [some (.inr (.inr a0)), some (.inl a1)]) (st' := [.inl (1 : Int32)]) rfl ?_
    refine q_le (L' := [none, none]) (lvLe_n (lvLe_n lvLe_0)) ?_
    exact sX2_isStruck_17 X h (1 : Int32)
  · refine q_run tkX2_isStruck 10 1 (pc' := 17) (L' := [some (.inr (.inr a0)), some (.inl a1)]) (st' := [.inl (0 : Int32)]) rfl ?_
    refine q_le (L' := [none, none]) (lvLe_n (lvLe_n lvLe_0)) ?_
    exact sX2_isStruck_17 X h (0 : Int32)
theorem ceX2_isStruck : Ce mX2_isStruck 1 := ⟨wd_20, wd_480, by decide +kernel, by decide +kernel, by decide +kernel⟩
/-- ReceiptRolls$Receipt.sumTaxed -/
abbrev mX2_sumTaxed : MI := (yX2_sumTaxed, cX2_sumTaxed, 5, some .int, 1)
def tbX2_sumTaxed : List TE := [(0, .iconst 0, 1, 0, 0), (1, .istore_n 2, 1, 0, 0), (2, .iconst 0, 1, 0, 0), (3, .istore_n 3, 1, 0, 0), (4, .iload_n 3, 1, 0, 0), (5, .aload_n 0, 1, 0, 0), (6, .getfield 49, 3, 0, 0), (9, .if_icmp .ge 46, 3, 0, 55), (12, .aload_n 0, 1, 0, 0), (13, .iload_n 3, 1, 0, 0), (14, .invokevirtual 71, 3, 0, 0), (17, .astore 4, 2, 0, 0), (19, .aload 4, 2, 0, 0), (21, .ifnull 28, 3, 0, 49), (24, .aload 4, 2, 0, 0), (26, .getfield 79, 3, 0, 0), (29, .iload_n 1, 1, 0, 0), (30, .if_icmp .ne 19, 3, 0, 49), (33, .aload_n 0, 1, 0, 0), (34, .iload_n 3, 1, 0, 0), (35, .invokevirtual 82, 3, 0, 0), (38, .ifCond .ne 11, 3, 0, 49), (41, .iload_n 2, 1, 0, 0), (42, .aload 4, 2, 0, 0), (44, .invokevirtual 75, 3, 0, 0), (47, .iadd, 1, 0, 0), (48, .istore_n 2, 1, 0, 0), (49, .iinc 3 1, 3, 1, 0), (52, .goto (-48), 3, 0, 4), (55, .iload_n 2, 1, 0, 0), (56, .ireturn, 1, 0, 0)]
theorem tkX2_sumTaxed : ∀ x ∈ tbX2_sumTaxed, tbB cX2_sumTaxed x = true := tb_all (by decide +kernel)
def fX2_sumTaxed_49 (c : Nat → Option Nat) (k4 : Hp → Option Nat → Int32 → Int32 → Int32 → Rs) (h : Hp) (l0 : Option Nat) (l1 : Int32) (l2 : Int32) (l3 : Int32) : Rs := k4 h l0 l1 l2 (l3 + (1 : Int32))
set_option maxHeartbeats 4000000 in
set_option maxRecDepth 100000 in
theorem sX2_sumTaxed_49 (X : Cx) {h0 : Hp} (k4 : Hp → Option Nat → Int32 → Int32 → Int32 → Rs) (hk4 : ∀ (h : Hp) (l0 : Option Nat) (l1 : Int32) (l2 : Int32) (l3 : Int32), Gd X mX2_sumTaxed h0 (k4 h l0 l1 l2 l3) h 4 [some (.inr (.inr l0)), some (.inl l1), some (.inl l2), some (.inl l3), none] []) (h : Hp) (l0 : Option Nat) (l1 : Int32) (l2 : Int32) (l3 : Int32) : Gd X mX2_sumTaxed h0 (fX2_sumTaxed_49 X.2.2.2 k4 h l0 l1 l2 l3) h 49 [some (.inr (.inr l0)), some (.inl l1), some (.inl l2), some (.inl l3), none] [] := by
  unfold fX2_sumTaxed_49
  refine q_run tkX2_sumTaxed 27 2 (pc' := 4) (L' := [some (.inr (.inr l0)), some (.inl l1), some (.inl l2), some (.inl (l3 + (1 : Int32))), none]) (st' := []) rfl ?_
  exact hk4 h l0 l1 l2 (l3 + (1 : Int32))
def fX2_sumTaxed_4 (c : Nat → Option Nat) : Nat → Hp → Option Nat → Int32 → Int32 → Int32 → Rs
  | 0, _, _, _, _, _ => none
  | n + 1, h, l0, l1, l2, l3 => rdI h l0 4 9 (fun x1 => if l3 < x1 then (ck h l0 4 (cc (fX2_itemAt c h l0 l3) (kR fun h2 r3 => ifN r3 (fX2_sumTaxed_49 c (fX2_sumTaxed_4 c n) h2 l0 l1 l2 l3) (rdI h2 r3 3 3 (fun x4 => if x4 = l1 then (ck h2 l0 4 (cc (fX2_isStruck c h2 l0 l3) (kI fun h5 x6 => if x6 = 0 then (ck h5 r3 3 (cc (fX1_sum c h5 r3) (kI fun h7 x8 => fX2_sumTaxed_49 c (fX2_sumTaxed_4 c n) h7 l0 l1 (l2 + x8) l3))) else (fX2_sumTaxed_49 c (fX2_sumTaxed_4 c n) h5 l0 l1 l2 l3)))) else (fX2_sumTaxed_49 c (fX2_sumTaxed_4 c n) h2 l0 l1 l2 l3)))))) else (some (h, some (.inl l2))))
set_option maxHeartbeats 4000000 in
set_option maxRecDepth 100000 in
theorem sX2_sumTaxed_4 (X : Cx) {h0 : Hp} : ∀ (n : Nat) (h : Hp) (l0 : Option Nat) (l1 : Int32) (l2 : Int32) (l3 : Int32), Gd X mX2_sumTaxed h0 (fX2_sumTaxed_4 X.2.2.2 n h l0 l1 l2 l3) h 4 [some (.inr (.inr l0)), some (.inl l1), some (.inl l2), some (.inl l3), none] [] := by
  intro n
  induction n with
  | zero => intros; exact gd_none
  | succ n ih =>
    intro h l0 l1 l2 l3
    unfold fX2_sumTaxed_4
    refine q_run tkX2_sumTaxed 4 2 (pc' := 6) (L' := [some (.inr (.inr l0)), some (.inl l1), some (.inl l2), some (.inl l3), none]) (st' := [.inr (.inr l0), .inl l3]) rfl ?_
    refine q_rdI RX2 TX2 14 (tbm tkX2_sumTaxed (i := 6) rfl) rfl (Nat.le_of_ble_eq_true rfl) wd_81 (fun x1 => ?_)
    refine q_icmp_ge (tbm tkX2_sumTaxed (i := 7) rfl) ?_ ?_
    · refine q_run tkX2_sumTaxed 8 2 (pc' := 14) (L' := [some (.inr (.inr l0)), some (.inl l1), some (.inl l2), some (.inl l3), none]) (st' := [.inl l3, .inr (.inr l0)]) rfl ?_
      refine q_cv (r := l0) (ci := 4) (n := 1) (as := [.inl l3]) (st := []) TX2 14 (soX2_itemAt X h l0 l3) (tbm tkX2_sumTaxed (i := 10) rfl) rfl rfl ceX2_itemAt wd_299 wd_300 wd_298 rfl (Nat.le_of_ble_eq_true rfl) (kR_gd (fun h2 r3 => ?_))
      refine q_run tkX2_sumTaxed 11 2 (pc' := 21) (L' := [some (.inr (.inr l0)), some (.inl l1), some (.inl l2), some (.inl l3), some (.inr (.inr r3))]) (st' := [.inr (.inr r3)]) rfl ?_
      refine q_ifnull (tbm tkX2_sumTaxed (i := 13) rfl) ?_ ?_
      · refine q_le (L' := [some (.inr (.inr l0)), some (.inl l1), some (.inl l2), some (.inl l3), none]) (lvLe_s (lvLe_s (lvLe_s (lvLe_s (lvLe_n lvLe_0))))) ?_
        exact sX2_sumTaxed_49 X (fX2_sumTaxed_4 X.2.2.2 n) ih h2 l0 l1 l2 l3
      · refine q_run tkX2_sumTaxed 14 1 (pc' := 26) (L' := [some (.inr (.inr l0)), some (.inl l1), some (.inl l2), some (.inl l3), some (.inr (.inr r3))]) (st' := [.inr (.inr r3)]) rfl ?_
        refine q_rdI RX1 TX1 4 (tbm tkX2_sumTaxed (i := 15) rfl) rfl (Nat.le_of_ble_eq_true rfl) wd_788 (fun x4 => ?_)
        refine q_run tkX2_sumTaxed 16 1 (pc' := 30) (L' := [some (.inr (.inr l0)), some (.inl l1), some (.inl l2), some (.inl l3), some (.inr (.inr r3))]) (st' := [.inl l1, .inl x4]) rfl ?_
        refine q_icmp_ne (tbm tkX2_sumTaxed (i := 17) rfl) ?_ ?_
        · refine q_run tkX2_sumTaxed 18 2 (pc' := 35) (L' := [some (.inr (.inr l0)), some (.inl l1), some (.inl l2), some (.inl l3), some (.inr (.inr r3))]) (st' := [.inl l3, .inr (.inr l0)]) rfl ?_
          refine q_cv (r := l0) (ci := 4) (n := 1) (as := [.inl l3]) (st := []) TX2 14 (soX2_isStruck X h2 l0 l3) (tbm tkX2_sumTaxed (i := 20) rfl) rfl rfl ceX2_isStruck wd_478 wd_479 wd_477 rfl (Nat.le_of_ble_eq_true rfl) (kI_gd (fun h5 x6 => ?_))
          refine q_if_ne (tbm tkX2_sumTaxed (i := 21) rfl) ?_ ?_
          · refine q_run tkX2_sumTaxed 22 2 (pc' := 44) (L' := [some (.inr (.inr l0)), some (.inl l1), some (.inl l2), some (.inl l3), some (.inr (.inr r3))]) (st' := [.inr (.inr r3), .inl l2]) rfl ?_
            refine q_cv (r := r3) (ci := 3) (n := 0) (as := []) (st := [.inl l2]) TX1 4 (soX1_sum X h5 r3) (tbm tkX2_sumTaxed (i := 24) rfl) rfl rfl ceX1_sum wd_303 wd_304 wd_302 rfl (Nat.le_of_ble_eq_true rfl) (kI_gd (fun h7 x8 => ?_))
            refine q_run tkX2_sumTaxed 25 2 (pc' := 49) (L' := [some (.inr (.inr l0)), some (.inl l1), some (.inl (l2 + x8)), some (.inl l3), some (.inr (.inr r3))]) (st' := []) rfl ?_
            refine q_le (L' := [some (.inr (.inr l0)), some (.inl l1), some (.inl (l2 + x8)), some (.inl l3), none]) (lvLe_s (lvLe_s (lvLe_s (lvLe_s (lvLe_n lvLe_0))))) ?_
            exact sX2_sumTaxed_49 X (fX2_sumTaxed_4 X.2.2.2 n) ih h7 l0 l1 (l2 + x8) l3
          · refine q_le (L' := [some (.inr (.inr l0)), some (.inl l1), some (.inl l2), some (.inl l3), none]) (lvLe_s (lvLe_s (lvLe_s (lvLe_s (lvLe_n lvLe_0))))) ?_
            exact sX2_sumTaxed_49 X (fX2_sumTaxed_4 X.2.2.2 n) ih h5 l0 l1 l2 l3
        · refine q_le (L' := [some (.inr (.inr l0)), some (.inl l1), some (.inl l2), some (.inl l3), none]) (lvLe_s (lvLe_s (lvLe_s (lvLe_s (lvLe_n lvLe_0))))) ?_
          exact sX2_sumTaxed_49 X (fX2_sumTaxed_4 X.2.2.2 n) ih h2 l0 l1 l2 l3
    · refine q_run tkX2_sumTaxed 29 1 (pc' := 56) (L' := [some (.inr (.inr l0)), some (.inl l1), some (.inl l2), some (.inl l3), none]) (st' := [.inl l2]) rfl ?_
      exact q_iret (tbm tkX2_sumTaxed (i := 30) rfl) rfl
def fX2_sumTaxed (c : Nat → Option Nat) (h : Hp) (a0 : Option Nat) (a1 : Int32) : Rs := fX2_sumTaxed_4 c FU h a0 a1 (0 : Int32) (0 : Int32)
set_option maxHeartbeats 4000000 in
set_option maxRecDepth 100000 in
theorem soX2_sumTaxed (X : Cx) (h : Hp) (a0 : Option Nat) (a1 : Int32) : SO X mX2_sumTaxed [.inr (.inr a0), .inl a1] h (fX2_sumTaxed X.2.2.2 h a0 a1) := by
  refine so_of (by decide +kernel) (Nat.le_of_ble_eq_true rfl) ?_
  show Gd X mX2_sumTaxed h (fX2_sumTaxed X.2.2.2 h a0 a1) h 0 [some (.inr (.inr a0)), some (.inl a1), none, none, none] []
  unfold fX2_sumTaxed
  refine q_run tkX2_sumTaxed 0 4 (pc' := 4) (L' := [some (.inr (.inr a0)), some (.inl a1), some (.inl (0 : Int32)), some (.inl (0 : Int32)), none]) (st' := []) rfl ?_
  exact sX2_sumTaxed_4 X FU h a0 a1 (0 : Int32) (0 : Int32)
theorem ceX2_sumTaxed : Ce mX2_sumTaxed 1 := ⟨wd_20, wd_476, by decide +kernel, by decide +kernel, by decide +kernel⟩
/-- ReceiptRolls$Receipt.taxOf -/
abbrev mX2_taxOf : MI := (yX2_taxOf, cX2_taxOf, 4, some .int, 2)
def tbX2_taxOf : List TE := [(0, .iload_n 1, 1, 0, 0), (1, .ifCond .lt 11, 3, 0, 12), (4, .iload_n 1, 1, 0, 0), (5, .getstatic 86, 3, 0, 0), (8, .arraylength, 1, 0, 0), (9, .if_icmp .lt 5, 3, 0, 14), (12, .iconst 0, 1, 0, 0), (13, .ireturn, 1, 0, 0), (14, .getstatic 86, 3, 0, 0), (17, .iload_n 1, 1, 0, 0), (18, .iaload, 1, 0, 0), (19, .istore_n 2, 1, 0, 0), (20, .iconst 2, 1, 2, 0), (21, .bipush 100, 2, 100, 0), (23, .iload_n 2, 1, 0, 0), (24, .iadd, 1, 0, 0), (25, .imul, 1, 0, 0), (26, .istore_n 3, 1, 0, 0), (27, .iload_n 3, 1, 0, 0), (28, .ifCond .gt 7, 3, 0, 35), (31, .iconst 0, 1, 0, 0), (32, .goto 19, 3, 0, 51), (35, .iconst 2, 1, 2, 0), (36, .aload_n 0, 1, 0, 0), (37, .iload_n 1, 1, 0, 0), (38, .invokevirtual 89, 3, 0, 0), (41, .imul, 1, 0, 0), (42, .iload_n 2, 1, 0, 0), (43, .imul, 1, 0, 0), (44, .bipush 100, 2, 100, 0), (46, .iadd, 1, 0, 0), (47, .iload_n 2, 1, 0, 0), (48, .iadd, 1, 0, 0), (49, .iload_n 3, 1, 0, 0), (50, .idiv, 1, 0, 0), (51, .ireturn, 1, 0, 0)]
theorem tkX2_taxOf : ∀ x ∈ tbX2_taxOf, tbB cX2_taxOf x = true := tb_all (by decide +kernel)
def fX2_taxOf_51 (c : Nat → Option Nat) (h : Hp) (s0 : Int32) : Rs := some (h, some (.inl s0))
set_option maxHeartbeats 4000000 in
set_option maxRecDepth 100000 in
theorem sX2_taxOf_51 (X : Cx) {h0 : Hp} (h : Hp) (s0 : Int32) : Gd X mX2_taxOf h0 (fX2_taxOf_51 X.2.2.2 h s0) h 51 [none, none, none, none] [.inl s0] := by
  unfold fX2_taxOf_51
  exact q_iret (tbm tkX2_taxOf (i := 35) rfl) rfl
def fX2_taxOf_12 (c : Nat → Option Nat) (h : Hp) : Rs := some (h, some (.inl (0 : Int32)))
set_option maxHeartbeats 4000000 in
set_option maxRecDepth 100000 in
theorem sX2_taxOf_12 (X : Cx) {h0 : Hp} (h : Hp) : Gd X mX2_taxOf h0 (fX2_taxOf_12 X.2.2.2 h) h 12 [none, none, none, none] [] := by
  unfold fX2_taxOf_12
  refine q_run tkX2_taxOf 6 1 (pc' := 13) (L' := [none, none, none, none]) (st' := [.inl (0 : Int32)]) rfl ?_
  exact q_iret (tbm tkX2_taxOf (i := 7) rfl) rfl
def fX2_taxOf (c : Nat → Option Nat) (h : Hp) (a0 : Option Nat) (a1 : Int32) : Rs := if a1 < 0 then (fX2_taxOf_12 c h) else (lenA h (c 2) (fun x1 => if a1 < x1 then (aldI h (c 2) [0, 10] a1 (fun x2 => if 0 < ((2 : Int32) * ((100 : Int32) + x2)) then (ck h a0 4 (cc (fX2_sumTaxed c h a0 a1) (kI fun h3 x4 => dv ((2 : Int32) * ((100 : Int32) + x2)) (fX2_taxOf_51 c h3 ((((((2 : Int32) * x4) * x2) + (100 : Int32)) + x2) / ((2 : Int32) * ((100 : Int32) + x2))))))) else (fX2_taxOf_51 c h (0 : Int32)))) else (fX2_taxOf_12 c h)))
set_option maxHeartbeats 4000000 in
set_option maxRecDepth 100000 in
theorem soX2_taxOf (X : Cx) (h : Hp) (a0 : Option Nat) (a1 : Int32) : SO X mX2_taxOf [.inr (.inr a0), .inl a1] h (fX2_taxOf X.2.2.2 h a0 a1) := by
  refine so_of (by decide +kernel) (Nat.le_of_ble_eq_true rfl) ?_
  show Gd X mX2_taxOf h (fX2_taxOf X.2.2.2 h a0 a1) h 0 [some (.inr (.inr a0)), some (.inl a1), none, none] []
  unfold fX2_taxOf
  refine q_run tkX2_taxOf 0 1 (pc' := 1) (L' := [some (.inr (.inr a0)), some (.inl a1), none, none]) (st' := [.inl a1]) rfl ?_
  refine q_if_lt (tbm tkX2_taxOf (i := 1) rfl) ?_ ?_
  · refine q_le (L' := [none, none, none, none]) (lvLe_n (lvLe_n (lvLe_n (lvLe_n lvLe_0)))) ?_
    exact sX2_taxOf_12 X h
  · refine q_run tkX2_taxOf 2 1 (pc' := 5) (L' := [some (.inr (.inr a0)), some (.inl a1), none, none]) (st' := [.inl a1]) rfl ?_
    refine q_gsN (w := .inr (.inr (X.2.2.2 2))) (tbm tkX2_taxOf (i := 3) rfl) e_z2 e_nX2 ?_
    refine q_alen (tbm tkX2_taxOf (i := 4) rfl) (fun x1 => ?_)
    refine q_icmp_lt (tbm tkX2_taxOf (i := 5) rfl) ?_ ?_
    · refine q_gsN (w := .inr (.inr (X.2.2.2 2))) (tbm tkX2_taxOf (i := 8) rfl) e_z2 e_nX2 ?_
      refine q_run tkX2_taxOf 9 1 (pc' := 18) (L' := [some (.inr (.inr a0)), some (.inl a1), none, none]) (st' := [.inl a1, .inr (.inr (X.2.2.2 2))]) rfl ?_
      refine q_iaload (tbm tkX2_taxOf (i := 10) rfl) (fun x2 => ?_)
      refine q_run tkX2_taxOf 11 8 (pc' := 28) (L' := [some (.inr (.inr a0)), some (.inl a1), some (.inl x2), some (.inl ((2 : Int32) * ((100 : Int32) + x2)))]) (st' := [.inl ((2 : Int32) * ((100 : Int32) + x2))]) rfl ?_
      refine q_if_gt (tbm tkX2_taxOf (i := 19) rfl) ?_ ?_
      · refine q_run tkX2_taxOf 22 3 (pc' := 38) (L' := [some (.inr (.inr a0)), some (.inl a1), some (.inl x2), some (.inl ((2 : Int32) * ((100 : Int32) + x2)))]) (st' := [.inl a1, .inr (.inr a0), .inl (2 : Int32)]) rfl ?_
        refine q_cv (r := a0) (ci := 4) (n := 1) (as := [.inl a1]) (st := [.inl (2 : Int32)]) TX2 14 (soX2_sumTaxed X h a0 a1) (tbm tkX2_taxOf (i := 25) rfl) rfl rfl ceX2_sumTaxed wd_474 wd_475 wd_487 rfl (Nat.le_of_ble_eq_true rfl) (kI_gd (fun h3 x4 => ?_))
        refine q_run tkX2_taxOf 26 8 (pc' := 50) (L' := [some (.inr (.inr a0)), some (.inl a1), some (.inl x2), some (.inl ((2 : Int32) * ((100 : Int32) + x2)))]) (st' := [.inl ((2 : Int32) * ((100 : Int32) + x2)), .inl (((((2 : Int32) * x4) * x2) + (100 : Int32)) + x2)]) rfl ?_
        refine q_div (tbm tkX2_taxOf (i := 34) rfl) ?_
        refine q_le (L' := [none, none, none, none]) (lvLe_n (lvLe_n (lvLe_n (lvLe_n lvLe_0)))) ?_
        exact sX2_taxOf_51 X h3 ((((((2 : Int32) * x4) * x2) + (100 : Int32)) + x2) / ((2 : Int32) * ((100 : Int32) + x2)))
      · refine q_run tkX2_taxOf 20 2 (pc' := 51) (L' := [some (.inr (.inr a0)), some (.inl a1), some (.inl x2), some (.inl ((2 : Int32) * ((100 : Int32) + x2)))]) (st' := [.inl (0 : Int32)]) rfl ?_
        refine q_le (L' := [none, none, none, none]) (lvLe_n (lvLe_n (lvLe_n (lvLe_n lvLe_0)))) ?_
        exact sX2_taxOf_51 X h (0 : Int32)
    · refine q_le (L' := [none, none, none, none]) (lvLe_n (lvLe_n (lvLe_n (lvLe_n lvLe_0)))) ?_
      exact sX2_taxOf_12 X h
theorem ceX2_taxOf : Ce mX2_taxOf 1 := ⟨wd_20, wd_485, by decide +kernel, by decide +kernel, by decide +kernel⟩
/-- ReceiptRolls$Sheet.lay -/
abbrev mX3_lay : MI := (yX3_lay, cX3_lay, 8, some .int, 6)
def tbX3_lay : List TE := [(0, .aload_n 0, 1, 0, 0), (1, .iload_n 3, 1, 0, 0), (2, .iload 4, 2, 0, 0), (4, .invokevirtual 15, 3, 0, 0), (7, .aload_n 0, 1, 0, 0), (8, .ldc 19, 2, 0, 0), (10, .invokevirtual 21, 3, 0, 0), (13, .aload_n 0, 1, 0, 0), (14, .iload_n 2, 1, 0, 0), (15, .invokevirtual 25, 3, 0, 0), (18, .aload_n 0, 1, 0, 0), (19, .invokevirtual 29, 3, 0, 0), (22, .iconst 0, 1, 0, 0), (23, .istore 5, 2, 0, 0), (25, .iload 5, 2, 0, 0), (27, .aload_n 1, 1, 0, 0), (28, .getfield 32, 3, 0, 0), (31, .if_icmp .ge 82, 3, 0, 113), (34, .iload 5, 2, 0, 0), (36, .aload_n 1, 1, 0, 0), (37, .getfield 38, 3, 0, 0), (40, .arraylength, 1, 0, 0), (41, .if_icmp .ge 72, 3, 0, 113), (44, .aload_n 1, 1, 0, 0), (45, .getfield 38, 3, 0, 0), (48, .iload 5, 2, 0, 0), (50, .iaload, 1, 0, 0), (51, .istore 6, 2, 0, 0), (53, .aload_n 1, 1, 0, 0), (54, .iload 6, 2, 0, 0), (56, .bipush 12, 2, 12, 0), (58, .irem, 1, 0, 0), (59, .invokevirtual 42, 3, 0, 0), (62, .astore 7, 2, 0, 0), (64, .aload 7, 2, 0, 0), (66, .ifnull 19, 3, 0, 85), (69, .iload 6, 2, 0, 0), (71, .bipush 12, 2, 12, 0), (73, .if_icmp .ge 12, 3, 0, 85), (76, .aload_n 0, 1, 0, 0), (77, .aload 7, 2, 0, 0), (79, .invokevirtual 46, 3, 0, 0), (82, .goto 25, 3, 0, 107), (85, .aload 7, 2, 0, 0), (87, .ifnull 20, 3, 0, 107), (90, .aload_n 0, 1, 0, 0), (91, .ldc 50, 2, 0, 0), (93, .iload 6, 2, 0, 0), (95, .bipush 12, 2, 12, 0), (97, .irem, 1, 0, 0), (98, .aload 7, 2, 0, 0), (100, .invokevirtual 52, 3, 0, 0), (103, .ineg, 1, 0, 0), (104, .invokevirtual 58, 3, 0, 0), (107, .iinc 5 1, 3, 1, 0), (110, .goto (-85), 3, 0, 25), (113, .aload_n 0, 1, 0, 0), (114, .ldc 62, 2, 0, 0), (116, .invokevirtual 21, 3, 0, 0), (119, .aload_n 0, 1, 0, 0), (120, .aload_n 1, 1, 0, 0), (121, .invokevirtual 63, 3, 0, 0), (124, .invokevirtual 66, 3, 0, 0), (127, .aload_n 0, 1, 0, 0), (128, .invokevirtual 29, 3, 0, 0), (131, .iconst 1, 1, 1, 0), (132, .istore 5, 2, 0, 0), (134, .iload 5, 2, 0, 0), (136, .getstatic 69, 3, 0, 0), (139, .arraylength, 1, 0, 0), (140, .if_icmp .ge 36, 3, 0, 176), (143, .aload_n 1, 1, 0, 0), (144, .iload 5, 2, 0, 0), (146, .invokevirtual 72, 3, 0, 0), (149, .ifCond .le 21, 3, 0, 170), (152, .aload_n 0, 1, 0, 0), (153, .ldc 76, 2, 0, 0), (155, .getstatic 69, 3, 0, 0), (158, .iload 5, 2, 0, 0), (160, .iaload, 1, 0, 0), (161, .aload_n 1, 1, 0, 0), (162, .iload 5, 2, 0, 0), (164, .invokevirtual 78, 3, 0, 0), (167, .invokevirtual 58, 3, 0, 0), (170, .iinc 5 1, 3, 1, 0), (173, .goto (-39), 3, 0, 134), (176, .aload_n 0, 1, 0, 0), (177, .getfield 81, 3, 0, 0), (180, .ireturn, 1, 0, 0)]
theorem tkX3_lay : ∀ x ∈ tbX3_lay, tbB cX3_lay x = true := tb_all (by decide +kernel)
def fX3_lay_107 (c : Nat → Option Nat) (k25 : Hp → Option Nat → Option Nat → Int32 → Rs) (h : Hp) (l0 : Option Nat) (l1 : Option Nat) (l5 : Int32) : Rs := k25 h l0 l1 (l5 + (1 : Int32))
set_option maxHeartbeats 4000000 in
set_option maxRecDepth 100000 in
theorem sX3_lay_107 (X : Cx) {h0 : Hp} (k25 : Hp → Option Nat → Option Nat → Int32 → Rs) (hk25 : ∀ (h : Hp) (l0 : Option Nat) (l1 : Option Nat) (l5 : Int32), Gd X mX3_lay h0 (k25 h l0 l1 l5) h 25 [some (.inr (.inr l0)), some (.inr (.inr l1)), none, none, none, some (.inl l5), none, none] []) (h : Hp) (l0 : Option Nat) (l1 : Option Nat) (l5 : Int32) : Gd X mX3_lay h0 (fX3_lay_107 X.2.2.2 k25 h l0 l1 l5) h 107 [some (.inr (.inr l0)), some (.inr (.inr l1)), none, none, none, some (.inl l5), none, none] [] := by
  unfold fX3_lay_107
  refine q_run tkX3_lay 54 2 (pc' := 25) (L' := [some (.inr (.inr l0)), some (.inr (.inr l1)), none, none, none, some (.inl (l5 + (1 : Int32))), none, none]) (st' := []) rfl ?_
  exact hk25 h l0 l1 (l5 + (1 : Int32))
def fX3_lay_85 (c : Nat → Option Nat) (k25 : Hp → Option Nat → Option Nat → Int32 → Rs) (h : Hp) (l0 : Option Nat) (l1 : Option Nat) (l5 : Int32) (l6 : Int32) (l7 : Option Nat) : Rs := ifN l7 (fX3_lay_107 c k25 h l0 l1 l5) (dv (12 : Int32) (ck h l7 3 (cc (fX1_sum c h l7) (kI fun h1 x2 => ck h1 l0 5 (cc (fX3_layTold c h1 l0 (c 5) (l6 - l6 / (12 : Int32) * (12 : Int32)) (-x2)) (kV fun h3 => fX3_lay_107 c k25 h3 l0 l1 l5))))))
set_option maxHeartbeats 4000000 in
set_option maxRecDepth 100000 in
theorem sX3_lay_85 (X : Cx) {h0 : Hp} (k25 : Hp → Option Nat → Option Nat → Int32 → Rs) (hk25 : ∀ (h : Hp) (l0 : Option Nat) (l1 : Option Nat) (l5 : Int32), Gd X mX3_lay h0 (k25 h l0 l1 l5) h 25 [some (.inr (.inr l0)), some (.inr (.inr l1)), none, none, none, some (.inl l5), none, none] []) (h : Hp) (l0 : Option Nat) (l1 : Option Nat) (l5 : Int32) (l6 : Int32) (l7 : Option Nat) : Gd X mX3_lay h0 (fX3_lay_85 X.2.2.2 k25 h l0 l1 l5 l6 l7) h 85 [some (.inr (.inr l0)), some (.inr (.inr l1)), none, none, none, some (.inl l5), some (.inl l6), some (.inr (.inr l7))] [] := by
  unfold fX3_lay_85
  refine q_run tkX3_lay 43 1 (pc' := 87) (L' := [some (.inr (.inr l0)), some (.inr (.inr l1)), none, none, none, some (.inl l5), some (.inl l6), some (.inr (.inr l7))]) (st' := [.inr (.inr l7)]) rfl ?_
  refine q_ifnull (tbm tkX3_lay (i := 44) rfl) ?_ ?_
  · refine q_le (L' := [some (.inr (.inr l0)), some (.inr (.inr l1)), none, none, none, some (.inl l5), none, none]) (lvLe_s (lvLe_s (lvLe_n (lvLe_n (lvLe_n (lvLe_s (lvLe_n (lvLe_n lvLe_0)))))))) ?_
    exact sX3_lay_107 X k25 hk25 h l0 l1 l5
  · refine q_run tkX3_lay 45 1 (pc' := 91) (L' := [some (.inr (.inr l0)), some (.inr (.inr l1)), none, none, none, some (.inl l5), some (.inl l6), some (.inr (.inr l7))]) (st' := [.inr (.inr l0)]) rfl ?_
    refine q_ldcS (i := 5) (tx := "void ") (tbm tkX3_lay (i := 46) rfl) e_s5 ?_
    refine q_run tkX3_lay 47 2 (pc' := 97) (L' := [some (.inr (.inr l0)), some (.inr (.inr l1)), none, none, none, some (.inl l5), some (.inl l6), some (.inr (.inr l7))]) (st' := [.inl (12 : Int32), .inl l6, .inr (.inr (X.2.2.2 5)), .inr (.inr l0)]) rfl ?_
    refine q_rem (tbm tkX3_lay (i := 49) rfl) ?_
    refine q_run tkX3_lay 50 1 (pc' := 100) (L' := [some (.inr (.inr l0)), some (.inr (.inr l1)), none, none, none, some (.inl l5), some (.inl l6), some (.inr (.inr l7))]) (st' := [.inr (.inr l7), .inl (l6 - l6 / (12 : Int32) * (12 : Int32)), .inr (.inr (X.2.2.2 5)), .inr (.inr l0)]) rfl ?_
    refine q_cv (r := l7) (ci := 3) (n := 0) (as := []) (st := [.inl (l6 - l6 / (12 : Int32) * (12 : Int32)), .inr (.inr (X.2.2.2 5)), .inr (.inr l0)]) TX1 4 (soX1_sum X h l7) (tbm tkX3_lay (i := 51) rfl) rfl rfl ceX1_sum wd_303 wd_304 wd_453 rfl (Nat.le_of_ble_eq_true rfl) (kI_gd (fun h1 x2 => ?_))
    refine q_run tkX3_lay 52 1 (pc' := 104) (L' := [some (.inr (.inr l0)), some (.inr (.inr l1)), none, none, none, some (.inl l5), some (.inl l6), some (.inr (.inr l7))]) (st' := [.inl (-x2), .inl (l6 - l6 / (12 : Int32) * (12 : Int32)), .inr (.inr (X.2.2.2 5)), .inr (.inr l0)]) rfl ?_
    refine q_cv (r := l0) (ci := 5) (n := 3) (as := [.inr (.inr (X.2.2.2 5)), .inl (l6 - l6 / (12 : Int32) * (12 : Int32)), .inl (-x2)]) (st := []) TX3 6 (soX3_layTold X h1 l0 (X.2.2.2 5) (l6 - l6 / (12 : Int32) * (12 : Int32)) (-x2)) (tbm tkX3_lay (i := 53) rfl) rfl rfl ceX3_layTold wd_467 wd_9 wd_465 rfl (Nat.le_of_ble_eq_true rfl) (kV_gd (fun h3 => ?_))
    refine q_le (L' := [some (.inr (.inr l0)), some (.inr (.inr l1)), none, none, none, some (.inl l5), none, none]) (lvLe_s (lvLe_s (lvLe_n (lvLe_n (lvLe_n (lvLe_s (lvLe_n (lvLe_n lvLe_0)))))))) ?_
    exact sX3_lay_107 X k25 hk25 h3 l0 l1 l5
def fX3_lay_170 (c : Nat → Option Nat) (k134 : Hp → Option Nat → Option Nat → Int32 → Rs) (h : Hp) (l0 : Option Nat) (l1 : Option Nat) (l5 : Int32) : Rs := k134 h l0 l1 (l5 + (1 : Int32))
set_option maxHeartbeats 4000000 in
set_option maxRecDepth 100000 in
theorem sX3_lay_170 (X : Cx) {h0 : Hp} (k134 : Hp → Option Nat → Option Nat → Int32 → Rs) (hk134 : ∀ (h : Hp) (l0 : Option Nat) (l1 : Option Nat) (l5 : Int32), Gd X mX3_lay h0 (k134 h l0 l1 l5) h 134 [some (.inr (.inr l0)), some (.inr (.inr l1)), none, none, none, some (.inl l5), none, none] []) (h : Hp) (l0 : Option Nat) (l1 : Option Nat) (l5 : Int32) : Gd X mX3_lay h0 (fX3_lay_170 X.2.2.2 k134 h l0 l1 l5) h 170 [some (.inr (.inr l0)), some (.inr (.inr l1)), none, none, none, some (.inl l5), none, none] [] := by
  unfold fX3_lay_170
  refine q_run tkX3_lay 84 2 (pc' := 134) (L' := [some (.inr (.inr l0)), some (.inr (.inr l1)), none, none, none, some (.inl (l5 + (1 : Int32))), none, none]) (st' := []) rfl ?_
  exact hk134 h l0 l1 (l5 + (1 : Int32))
def fX3_lay_134 (c : Nat → Option Nat) : Nat → Hp → Option Nat → Option Nat → Int32 → Rs
  | 0, _, _, _, _ => none
  | n + 1, h, l0, l1, l5 => lenA h (c 2) (fun x4 => if l5 < x4 then (ck h l1 4 (cc (fX2_sumTaxed c h l1 l5) (kI fun h5 x6 => if 0 < x6 then (aldI h5 (c 2) [0, 10] l5 (fun x7 => ck h5 l1 4 (cc (fX2_taxOf c h5 l1 l5) (kI fun h8 x9 => ck h8 l0 5 (cc (fX3_layTold c h8 l0 (c 7) x7 x9) (kV fun h10 => fX3_lay_170 c (fX3_lay_134 c n) h10 l0 l1 l5)))))) else (fX3_lay_170 c (fX3_lay_134 c n) h5 l0 l1 l5)))) else (rdI h l0 5 1 (fun x11 => some (h, some (.inl x11)))))
set_option maxHeartbeats 4000000 in
set_option maxRecDepth 100000 in
theorem sX3_lay_134 (X : Cx) {h0 : Hp} : ∀ (n : Nat) (h : Hp) (l0 : Option Nat) (l1 : Option Nat) (l5 : Int32), Gd X mX3_lay h0 (fX3_lay_134 X.2.2.2 n h l0 l1 l5) h 134 [some (.inr (.inr l0)), some (.inr (.inr l1)), none, none, none, some (.inl l5), none, none] [] := by
  intro n
  induction n with
  | zero => intros; exact gd_none
  | succ n ih =>
    intro h l0 l1 l5
    unfold fX3_lay_134
    refine q_run tkX3_lay 67 1 (pc' := 136) (L' := [some (.inr (.inr l0)), some (.inr (.inr l1)), none, none, none, some (.inl l5), none, none]) (st' := [.inl l5]) rfl ?_
    refine q_gsN (w := .inr (.inr (X.2.2.2 2))) (tbm tkX3_lay (i := 68) rfl) e_z2 e_nX3 ?_
    refine q_alen (tbm tkX3_lay (i := 69) rfl) (fun x4 => ?_)
    refine q_icmp_ge (tbm tkX3_lay (i := 70) rfl) ?_ ?_
    · refine q_run tkX3_lay 71 2 (pc' := 146) (L' := [some (.inr (.inr l0)), some (.inr (.inr l1)), none, none, none, some (.inl l5), none, none]) (st' := [.inl l5, .inr (.inr l1)]) rfl ?_
      refine q_cv (r := l1) (ci := 4) (n := 1) (as := [.inl l5]) (st := []) TX2 14 (soX2_sumTaxed X h l1 l5) (tbm tkX3_lay (i := 73) rfl) rfl rfl ceX2_sumTaxed wd_474 wd_475 wd_473 rfl (Nat.le_of_ble_eq_true rfl) (kI_gd (fun h5 x6 => ?_))
      refine q_if_le (tbm tkX3_lay (i := 74) rfl) ?_ ?_
      · refine q_run tkX3_lay 75 1 (pc' := 153) (L' := [some (.inr (.inr l0)), some (.inr (.inr l1)), none, none, none, some (.inl l5), none, none]) (st' := [.inr (.inr l0)]) rfl ?_
        refine q_ldcS (i := 7) (tx := "tax ") (tbm tkX3_lay (i := 76) rfl) e_s7 ?_
        refine q_gsN (w := .inr (.inr (X.2.2.2 2))) (tbm tkX3_lay (i := 77) rfl) e_z2 e_nX3 ?_
        refine q_run tkX3_lay 78 1 (pc' := 160) (L' := [some (.inr (.inr l0)), some (.inr (.inr l1)), none, none, none, some (.inl l5), none, none]) (st' := [.inl l5, .inr (.inr (X.2.2.2 2)), .inr (.inr (X.2.2.2 7)), .inr (.inr l0)]) rfl ?_
        refine q_iaload (tbm tkX3_lay (i := 79) rfl) (fun x7 => ?_)
        refine q_run tkX3_lay 80 2 (pc' := 164) (L' := [some (.inr (.inr l0)), some (.inr (.inr l1)), none, none, none, some (.inl l5), none, none]) (st' := [.inl l5, .inr (.inr l1), .inl x7, .inr (.inr (X.2.2.2 7)), .inr (.inr l0)]) rfl ?_
        refine q_cv (r := l1) (ci := 4) (n := 1) (as := [.inl l5]) (st := [.inl x7, .inr (.inr (X.2.2.2 7)), .inr (.inr l0)]) TX2 14 (soX2_taxOf X h5 l1 l5) (tbm tkX3_lay (i := 82) rfl) rfl rfl ceX2_taxOf wd_483 wd_484 wd_482 rfl (Nat.le_of_ble_eq_true rfl) (kI_gd (fun h8 x9 => ?_))
        refine q_cv (r := l0) (ci := 5) (n := 3) (as := [.inr (.inr (X.2.2.2 7)), .inl x7, .inl x9]) (st := []) TX3 6 (soX3_layTold X h8 l0 (X.2.2.2 7) x7 x9) (tbm tkX3_lay (i := 83) rfl) rfl rfl ceX3_layTold wd_467 wd_9 wd_465 rfl (Nat.le_of_ble_eq_true rfl) (kV_gd (fun h10 => ?_))
        exact sX3_lay_170 X (fX3_lay_134 X.2.2.2 n) ih h10 l0 l1 l5
      · exact sX3_lay_170 X (fX3_lay_134 X.2.2.2 n) ih h5 l0 l1 l5
    · refine q_run tkX3_lay 86 1 (pc' := 177) (L' := [some (.inr (.inr l0)), some (.inr (.inr l1)), none, none, none, some (.inl l5), none, none]) (st' := [.inr (.inr l0)]) rfl ?_
      refine q_rdI RX3 TX3 6 (tbm tkX3_lay (i := 87) rfl) rfl (Nat.le_of_ble_eq_true rfl) wd_227 (fun x11 => ?_)
      exact q_iret (tbm tkX3_lay (i := 88) rfl) rfl
def fX3_lay_113 (c : Nat → Option Nat) (h : Hp) (l0 : Option Nat) (l1 : Option Nat) : Rs := ck h l0 5 (cc (fX3_addText c h l0 (c 6)) (kV fun h12 => ck h12 l1 4 (cc (fX2_total c h12 l1) (kI fun h13 x14 => ck h13 l0 5 (cc (fX3_addMoney c h13 l0 x14) (kV fun h15 => ck h15 l0 5 (cc (fX3_endLine c h15 l0) (kV fun h16 => fX3_lay_134 c FU h16 l0 l1 (1 : Int32)))))))))
set_option maxHeartbeats 4000000 in
set_option maxRecDepth 100000 in
theorem sX3_lay_113 (X : Cx) {h0 : Hp} (h : Hp) (l0 : Option Nat) (l1 : Option Nat) : Gd X mX3_lay h0 (fX3_lay_113 X.2.2.2 h l0 l1) h 113 [some (.inr (.inr l0)), some (.inr (.inr l1)), none, none, none, none, none, none] [] := by
  unfold fX3_lay_113
  refine q_run tkX3_lay 56 1 (pc' := 114) (L' := [some (.inr (.inr l0)), some (.inr (.inr l1)), none, none, none, none, none, none]) (st' := [.inr (.inr l0)]) rfl ?_
  refine q_ldcS (i := 6) (tx := "sum") (tbm tkX3_lay (i := 57) rfl) e_s6 ?_
  refine q_cv (r := l0) (ci := 5) (n := 1) (as := [.inr (.inr (X.2.2.2 6))]) (st := []) TX3 6 (soX3_addText X h l0 (X.2.2.2 6)) (tbm tkX3_lay (i := 58) rfl) rfl rfl ceX3_addText wd_379 wd_2 wd_377 rfl (Nat.le_of_ble_eq_true rfl) (kV_gd (fun h12 => ?_))
  refine q_run tkX3_lay 59 2 (pc' := 121) (L' := [some (.inr (.inr l0)), some (.inr (.inr l1)), none, none, none, none, none, none]) (st' := [.inr (.inr l1), .inr (.inr l0)]) rfl ?_
  refine q_cv (r := l1) (ci := 4) (n := 0) (as := []) (st := [.inr (.inr l0)]) TX2 14 (soX2_total X h12 l1) (tbm tkX3_lay (i := 61) rfl) rfl rfl ceX2_total wd_291 wd_292 wd_470 rfl (Nat.le_of_ble_eq_true rfl) (kI_gd (fun h13 x14 => ?_))
  refine q_cv (r := l0) (ci := 5) (n := 1) (as := [.inl x14]) (st := []) TX3 6 (soX3_addMoney X h13 l0 x14) (tbm tkX3_lay (i := 62) rfl) rfl rfl ceX3_addMoney wd_456 wd_8 wd_454 rfl (Nat.le_of_ble_eq_true rfl) (kV_gd (fun h15 => ?_))
  refine q_run tkX3_lay 63 1 (pc' := 128) (L' := [some (.inr (.inr l0)), some (.inr (.inr l1)), none, none, none, none, none, none]) (st' := [.inr (.inr l0)]) rfl ?_
  refine q_cv (r := l0) (ci := 5) (n := 0) (as := []) (st := []) TX3 6 (soX3_endLine X h15 l0) (tbm tkX3_lay (i := 64) rfl) rfl rfl ceX3_endLine wd_439 wd_5 wd_437 rfl (Nat.le_of_ble_eq_true rfl) (kV_gd (fun h16 => ?_))
  refine q_run tkX3_lay 65 2 (pc' := 134) (L' := [some (.inr (.inr l0)), some (.inr (.inr l1)), none, none, none, some (.inl (1 : Int32)), none, none]) (st' := []) rfl ?_
  exact sX3_lay_134 X FU h16 l0 l1 (1 : Int32)
def fX3_lay_25 (c : Nat → Option Nat) : Nat → Hp → Option Nat → Option Nat → Int32 → Rs
  | 0, _, _, _, _ => none
  | n + 1, h, l0, l1, l5 => rdI h l1 4 10 (fun x17 => if l5 < x17 then (rdR h l1 4 13 (fun r18 => lenA h r18 (fun x19 => if l5 < x19 then (rdR h l1 4 13 (fun r20 => aldI h r20 [0, 10] l5 (fun x21 => dv (12 : Int32) (ck h l1 4 (cc (fX2_itemAt c h l1 (x21 - x21 / (12 : Int32) * (12 : Int32))) (kR fun h22 r23 => ifN r23 (fX3_lay_85 c (fX3_lay_25 c n) h22 l0 l1 l5 x21 r23) (if x21 < (12 : Int32) then (ck h22 l0 5 (cc (fX3_layItem c h22 l0 r23) (kV fun h24 => fX3_lay_107 c (fX3_lay_25 c n) h24 l0 l1 l5))) else (fX3_lay_85 c (fX3_lay_25 c n) h22 l0 l1 l5 x21 r23)))))))) else (fX3_lay_113 c h l0 l1)))) else (fX3_lay_113 c h l0 l1))
set_option maxHeartbeats 4000000 in
set_option maxRecDepth 100000 in
theorem sX3_lay_25 (X : Cx) {h0 : Hp} : ∀ (n : Nat) (h : Hp) (l0 : Option Nat) (l1 : Option Nat) (l5 : Int32), Gd X mX3_lay h0 (fX3_lay_25 X.2.2.2 n h l0 l1 l5) h 25 [some (.inr (.inr l0)), some (.inr (.inr l1)), none, none, none, some (.inl l5), none, none] [] := by
  intro n
  induction n with
  | zero => intros; exact gd_none
  | succ n ih =>
    intro h l0 l1 l5
    unfold fX3_lay_25
    refine q_run tkX3_lay 14 2 (pc' := 28) (L' := [some (.inr (.inr l0)), some (.inr (.inr l1)), none, none, none, some (.inl l5), none, none]) (st' := [.inr (.inr l1), .inl l5]) rfl ?_
    refine q_rdI RX2 TX2 14 (tbm tkX3_lay (i := 16) rfl) rfl (Nat.le_of_ble_eq_true rfl) wd_83 (fun x17 => ?_)
    refine q_icmp_ge (tbm tkX3_lay (i := 17) rfl) ?_ ?_
    · refine q_run tkX3_lay 18 2 (pc' := 37) (L' := [some (.inr (.inr l0)), some (.inr (.inr l1)), none, none, none, some (.inl l5), none, none]) (st' := [.inr (.inr l1), .inl l5]) rfl ?_
      refine q_rdR RX2 TX2 14 (tbm tkX3_lay (i := 20) rfl) rfl (Nat.le_of_ble_eq_true rfl) wd_88 (fun r18 => ?_)
      refine q_alen (tbm tkX3_lay (i := 21) rfl) (fun x19 => ?_)
      refine q_icmp_ge (tbm tkX3_lay (i := 22) rfl) ?_ ?_
      · refine q_run tkX3_lay 23 1 (pc' := 45) (L' := [some (.inr (.inr l0)), some (.inr (.inr l1)), none, none, none, some (.inl l5), none, none]) (st' := [.inr (.inr l1)]) rfl ?_
        refine q_rdR RX2 TX2 14 (tbm tkX3_lay (i := 24) rfl) rfl (Nat.le_of_ble_eq_true rfl) wd_88 (fun r20 => ?_)
        refine q_run tkX3_lay 25 1 (pc' := 50) (L' := [some (.inr (.inr l0)), some (.inr (.inr l1)), none, none, none, some (.inl l5), none, none]) (st' := [.inl l5, .inr (.inr r20)]) rfl ?_
        refine q_iaload (tbm tkX3_lay (i := 26) rfl) (fun x21 => ?_)
        refine q_run tkX3_lay 27 4 (pc' := 58) (L' := [some (.inr (.inr l0)), some (.inr (.inr l1)), none, none, none, some (.inl l5), some (.inl x21), none]) (st' := [.inl (12 : Int32), .inl x21, .inr (.inr l1)]) rfl ?_
        refine q_rem (tbm tkX3_lay (i := 31) rfl) ?_
        refine q_cv (r := l1) (ci := 4) (n := 1) (as := [.inl (x21 - x21 / (12 : Int32) * (12 : Int32))]) (st := []) TX2 14 (soX2_itemAt X h l1 (x21 - x21 / (12 : Int32) * (12 : Int32))) (tbm tkX3_lay (i := 32) rfl) rfl rfl ceX2_itemAt wd_299 wd_300 wd_441 rfl (Nat.le_of_ble_eq_true rfl) (kR_gd (fun h22 r23 => ?_))
        refine q_run tkX3_lay 33 2 (pc' := 66) (L' := [some (.inr (.inr l0)), some (.inr (.inr l1)), none, none, none, some (.inl l5), some (.inl x21), some (.inr (.inr r23))]) (st' := [.inr (.inr r23)]) rfl ?_
        refine q_ifnull (tbm tkX3_lay (i := 35) rfl) ?_ ?_
        · exact sX3_lay_85 X (fX3_lay_25 X.2.2.2 n) ih h22 l0 l1 l5 x21 r23
        · refine q_run tkX3_lay 36 2 (pc' := 73) (L' := [some (.inr (.inr l0)), some (.inr (.inr l1)), none, none, none, some (.inl l5), some (.inl x21), some (.inr (.inr r23))]) (st' := [.inl (12 : Int32), .inl x21]) rfl ?_
          refine q_icmp_ge (tbm tkX3_lay (i := 38) rfl) ?_ ?_
          · refine q_run tkX3_lay 39 2 (pc' := 79) (L' := [some (.inr (.inr l0)), some (.inr (.inr l1)), none, none, none, some (.inl l5), some (.inl x21), some (.inr (.inr r23))]) (st' := [.inr (.inr r23), .inr (.inr l0)]) rfl ?_
            refine q_cv (r := l0) (ci := 5) (n := 1) (as := [.inr (.inr r23)]) (st := []) TX3 6 (soX3_layItem X h22 l0 r23) (tbm tkX3_lay (i := 41) rfl) rfl rfl ceX3_layItem wd_444 wd_6 wd_442 rfl (Nat.le_of_ble_eq_true rfl) (kV_gd (fun h24 => ?_))
            refine q_run tkX3_lay 42 1 (pc' := 107) (L' := [some (.inr (.inr l0)), some (.inr (.inr l1)), none, none, none, some (.inl l5), some (.inl x21), some (.inr (.inr r23))]) (st' := []) rfl ?_
            refine q_le (L' := [some (.inr (.inr l0)), some (.inr (.inr l1)), none, none, none, some (.inl l5), none, none]) (lvLe_s (lvLe_s (lvLe_n (lvLe_n (lvLe_n (lvLe_s (lvLe_n (lvLe_n lvLe_0)))))))) ?_
            exact sX3_lay_107 X (fX3_lay_25 X.2.2.2 n) ih h24 l0 l1 l5
          · exact sX3_lay_85 X (fX3_lay_25 X.2.2.2 n) ih h22 l0 l1 l5 x21 r23
      · refine q_le (L' := [some (.inr (.inr l0)), some (.inr (.inr l1)), none, none, none, none, none, none]) (lvLe_s (lvLe_s (lvLe_n (lvLe_n (lvLe_n (lvLe_n (lvLe_n (lvLe_n lvLe_0)))))))) ?_
        exact sX3_lay_113 X h l0 l1
    · refine q_le (L' := [some (.inr (.inr l0)), some (.inr (.inr l1)), none, none, none, none, none, none]) (lvLe_s (lvLe_s (lvLe_n (lvLe_n (lvLe_n (lvLe_n (lvLe_n (lvLe_n lvLe_0)))))))) ?_
      exact sX3_lay_113 X h l0 l1
def fX3_lay (c : Nat → Option Nat) (h : Hp) (a0 : Option Nat) (a1 : Option Nat) (a2 : Int32) (a3 : Int32) (a4 : Int32) : Rs := ck h a0 5 (cc (fX3_begin c h a0 a3 a4) (kV fun h25 => ck h25 a0 5 (cc (fX3_addText c h25 a0 (c 4)) (kV fun h26 => ck h26 a0 5 (cc (fX3_addNumber c h26 a0 a2) (kV fun h27 => ck h27 a0 5 (cc (fX3_endLine c h27 a0) (kV fun h28 => fX3_lay_25 c FU h28 a0 a1 (0 : Int32)))))))))
set_option maxHeartbeats 4000000 in
set_option maxRecDepth 100000 in
theorem soX3_lay (X : Cx) (h : Hp) (a0 : Option Nat) (a1 : Option Nat) (a2 : Int32) (a3 : Int32) (a4 : Int32) : SO X mX3_lay [.inr (.inr a0), .inr (.inr a1), .inl a2, .inl a3, .inl a4] h (fX3_lay X.2.2.2 h a0 a1 a2 a3 a4) := by
  refine so_of (by decide +kernel) (Nat.le_of_ble_eq_true rfl) ?_
  show Gd X mX3_lay h (fX3_lay X.2.2.2 h a0 a1 a2 a3 a4) h 0 [some (.inr (.inr a0)), some (.inr (.inr a1)), some (.inl a2), some (.inl a3), some (.inl a4), none, none, none] []
  unfold fX3_lay
  refine q_run tkX3_lay 0 3 (pc' := 4) (L' := [some (.inr (.inr a0)), some (.inr (.inr a1)), some (.inl a2), some (.inl a3), some (.inl a4), none, none, none]) (st' := [.inl a4, .inl a3, .inr (.inr a0)]) rfl ?_
  refine q_cv (r := a0) (ci := 5) (n := 2) (as := [.inl a3, .inl a4]) (st := []) TX3 6 (soX3_begin X h a0 a3 a4) (tbm tkX3_lay (i := 3) rfl) rfl rfl ceX3_begin wd_374 wd_1 wd_372 rfl (Nat.le_of_ble_eq_true rfl) (kV_gd (fun h25 => ?_))
  refine q_run tkX3_lay 4 1 (pc' := 8) (L' := [some (.inr (.inr a0)), some (.inr (.inr a1)), some (.inl a2), some (.inl a3), some (.inl a4), none, none, none]) (st' := [.inr (.inr a0)]) rfl ?_
  refine q_ldcS (i := 4) (tx := "#") (tbm tkX3_lay (i := 5) rfl) e_s4 ?_
  refine q_cv (r := a0) (ci := 5) (n := 1) (as := [.inr (.inr (X.2.2.2 4))]) (st := []) TX3 6 (soX3_addText X h25 a0 (X.2.2.2 4)) (tbm tkX3_lay (i := 6) rfl) rfl rfl ceX3_addText wd_379 wd_2 wd_377 rfl (Nat.le_of_ble_eq_true rfl) (kV_gd (fun h26 => ?_))
  refine q_run tkX3_lay 7 2 (pc' := 15) (L' := [some (.inr (.inr a0)), some (.inr (.inr a1)), some (.inl a2), some (.inl a3), some (.inl a4), none, none, none]) (st' := [.inl a2, .inr (.inr a0)]) rfl ?_
  refine q_cv (r := a0) (ci := 5) (n := 1) (as := [.inl a2]) (st := []) TX3 6 (soX3_addNumber X h26 a0 a2) (tbm tkX3_lay (i := 9) rfl) rfl rfl ceX3_addNumber wd_434 wd_4 wd_432 rfl (Nat.le_of_ble_eq_true rfl) (kV_gd (fun h27 => ?_))
  refine q_run tkX3_lay 10 1 (pc' := 19) (L' := [some (.inr (.inr a0)), some (.inr (.inr a1)), some (.inl a2), some (.inl a3), some (.inl a4), none, none, none]) (st' := [.inr (.inr a0)]) rfl ?_
  refine q_cv (r := a0) (ci := 5) (n := 0) (as := []) (st := []) TX3 6 (soX3_endLine X h27 a0) (tbm tkX3_lay (i := 11) rfl) rfl rfl ceX3_endLine wd_439 wd_5 wd_437 rfl (Nat.le_of_ble_eq_true rfl) (kV_gd (fun h28 => ?_))
  refine q_run tkX3_lay 12 2 (pc' := 25) (L' := [some (.inr (.inr a0)), some (.inr (.inr a1)), some (.inl a2), some (.inl a3), some (.inl a4), some (.inl (0 : Int32)), none, none]) (st' := []) rfl ?_
  refine q_le (L' := [some (.inr (.inr a0)), some (.inr (.inr a1)), none, none, none, some (.inl (0 : Int32)), none, none]) (lvLe_s (lvLe_s (lvLe_n (lvLe_n (lvLe_n (lvLe_s (lvLe_n (lvLe_n lvLe_0)))))))) ?_
  exact sX3_lay_25 X FU h28 a0 a1 (0 : Int32)
theorem ceX3_lay : Ce mX3_lay 4 := ⟨wd_26, wd_371, by decide +kernel, by decide +kernel, by decide +kernel⟩
/-- ReceiptRolls$State.known -/
abbrev mX4_known : MI := (yX4_known, cX4_known, 4, some (.object "ReceiptRolls$Receipt"), 1)
def tbX4_known : List TE := [(0, .iconst 0, 1, 0, 0), (1, .istore_n 2, 1, 0, 0), (2, .iload_n 2, 1, 0, 0), (3, .aload_n 0, 1, 0, 0), (4, .invokevirtual 71, 3, 0, 0), (7, .if_icmp .ge 29, 3, 0, 36), (10, .aload_n 0, 1, 0, 0), (11, .iload_n 2, 1, 0, 0), (12, .invokevirtual 75, 3, 0, 0), (15, .astore_n 3, 1, 0, 0), (16, .aload_n 3, 1, 0, 0), (17, .ifnull 13, 3, 0, 30), (20, .aload_n 3, 1, 0, 0), (21, .getfield 68, 3, 0, 0), (24, .iload_n 1, 1, 0, 0), (25, .if_icmp .ne 5, 3, 0, 30), (28, .aload_n 3, 1, 0, 0), (29, .areturn, 1, 0, 0), (30, .iinc 2 1, 3, 1, 0), (33, .goto (-31), 3, 0, 2), (36, .aconst_null, 1, 0, 0), (37, .areturn, 1, 0, 0)]
theorem tkX4_known : ∀ x ∈ tbX4_known, tbB cX4_known x = true := tb_all (by decide +kernel)
def fX4_known_30 (c : Nat → Option Nat) (k2 : Hp → Option Nat → Int32 → Int32 → Rs) (h : Hp) (l0 : Option Nat) (l1 : Int32) (l2 : Int32) : Rs := k2 h l0 l1 (l2 + (1 : Int32))
set_option maxHeartbeats 4000000 in
set_option maxRecDepth 100000 in
theorem sX4_known_30 (X : Cx) {h0 : Hp} (k2 : Hp → Option Nat → Int32 → Int32 → Rs) (hk2 : ∀ (h : Hp) (l0 : Option Nat) (l1 : Int32) (l2 : Int32), Gd X mX4_known h0 (k2 h l0 l1 l2) h 2 [some (.inr (.inr l0)), some (.inl l1), some (.inl l2), none] []) (h : Hp) (l0 : Option Nat) (l1 : Int32) (l2 : Int32) : Gd X mX4_known h0 (fX4_known_30 X.2.2.2 k2 h l0 l1 l2) h 30 [some (.inr (.inr l0)), some (.inl l1), some (.inl l2), none] [] := by
  unfold fX4_known_30
  refine q_run tkX4_known 18 2 (pc' := 2) (L' := [some (.inr (.inr l0)), some (.inl l1), some (.inl (l2 + (1 : Int32))), none]) (st' := []) rfl ?_
  exact hk2 h l0 l1 (l2 + (1 : Int32))
def fX4_known_2 (c : Nat → Option Nat) : Nat → Hp → Option Nat → Int32 → Int32 → Rs
  | 0, _, _, _, _ => none
  | n + 1, h, l0, l1, l2 => ck h l0 6 (cc (fX4_places c h l0) (kI fun h1 x2 => if l2 < x2 then (ck h1 l0 6 (cc (fX4_placeAt c h1 l0 l2) (kR fun h3 r4 => ifN r4 (fX4_known_30 c (fX4_known_2 c n) h3 l0 l1 l2) (rdI h3 r4 4 0 (fun x5 => if x5 = l1 then (some (h3, some (.inr (.inr r4)))) else (fX4_known_30 c (fX4_known_2 c n) h3 l0 l1 l2)))))) else (some (h1, some (.inr (.inr none))))))
set_option maxHeartbeats 4000000 in
set_option maxRecDepth 100000 in
theorem sX4_known_2 (X : Cx) {h0 : Hp} : ∀ (n : Nat) (h : Hp) (l0 : Option Nat) (l1 : Int32) (l2 : Int32), Gd X mX4_known h0 (fX4_known_2 X.2.2.2 n h l0 l1 l2) h 2 [some (.inr (.inr l0)), some (.inl l1), some (.inl l2), none] [] := by
  intro n
  induction n with
  | zero => intros; exact gd_none
  | succ n ih =>
    intro h l0 l1 l2
    unfold fX4_known_2
    refine q_run tkX4_known 2 2 (pc' := 4) (L' := [some (.inr (.inr l0)), some (.inl l1), some (.inl l2), none]) (st' := [.inr (.inr l0), .inl l2]) rfl ?_
    refine q_cv (r := l0) (ci := 6) (n := 0) (as := []) (st := [.inl l2]) TX4 13 (soX4_places X h l0) (tbm tkX4_known (i := 4) rfl) rfl rfl ceX4_places wd_273 wd_274 wd_272 rfl (Nat.le_of_ble_eq_true rfl) (kI_gd (fun h1 x2 => ?_))
    refine q_icmp_ge (tbm tkX4_known (i := 5) rfl) ?_ ?_
    · refine q_run tkX4_known 6 2 (pc' := 12) (L' := [some (.inr (.inr l0)), some (.inl l1), some (.inl l2), none]) (st' := [.inl l2, .inr (.inr l0)]) rfl ?_
      refine q_cv (r := l0) (ci := 6) (n := 1) (as := [.inl l2]) (st := []) TX4 13 (soX4_placeAt X h1 l0 l2) (tbm tkX4_known (i := 8) rfl) rfl rfl ceX4_placeAt wd_277 wd_278 wd_276 rfl (Nat.le_of_ble_eq_true rfl) (kR_gd (fun h3 r4 => ?_))
      refine q_run tkX4_known 9 2 (pc' := 17) (L' := [some (.inr (.inr l0)), some (.inl l1), some (.inl l2), some (.inr (.inr r4))]) (st' := [.inr (.inr r4)]) rfl ?_
      refine q_ifnull (tbm tkX4_known (i := 11) rfl) ?_ ?_
      · refine q_le (L' := [some (.inr (.inr l0)), some (.inl l1), some (.inl l2), none]) (lvLe_s (lvLe_s (lvLe_s (lvLe_n lvLe_0)))) ?_
        exact sX4_known_30 X (fX4_known_2 X.2.2.2 n) ih h3 l0 l1 l2
      · refine q_run tkX4_known 12 1 (pc' := 21) (L' := [some (.inr (.inr l0)), some (.inl l1), some (.inl l2), some (.inr (.inr r4))]) (st' := [.inr (.inr r4)]) rfl ?_
        refine q_rdI RX2 TX2 14 (tbm tkX4_known (i := 13) rfl) rfl (Nat.le_of_ble_eq_true rfl) wd_59 (fun x5 => ?_)
        refine q_run tkX4_known 14 1 (pc' := 25) (L' := [some (.inr (.inr l0)), some (.inl l1), some (.inl l2), some (.inr (.inr r4))]) (st' := [.inl l1, .inl x5]) rfl ?_
        refine q_icmp_ne (tbm tkX4_known (i := 15) rfl) ?_ ?_
        · refine q_run tkX4_known 16 1 (pc' := 29) (L' := [some (.inr (.inr l0)), some (.inl l1), some (.inl l2), some (.inr (.inr r4))]) (st' := [.inr (.inr r4)]) rfl ?_
          exact q_aret (tbm tkX4_known (i := 17) rfl) rfl (Or.inl ⟨_, rfl⟩)
        · refine q_le (L' := [some (.inr (.inr l0)), some (.inl l1), some (.inl l2), none]) (lvLe_s (lvLe_s (lvLe_s (lvLe_n lvLe_0)))) ?_
          exact sX4_known_30 X (fX4_known_2 X.2.2.2 n) ih h3 l0 l1 l2
    · refine q_run tkX4_known 20 1 (pc' := 37) (L' := [some (.inr (.inr l0)), some (.inl l1), some (.inl l2), none]) (st' := [.inr (.inr none)]) rfl ?_
      exact q_aret (tbm tkX4_known (i := 21) rfl) rfl (Or.inl ⟨_, rfl⟩)
def fX4_known (c : Nat → Option Nat) (h : Hp) (a0 : Option Nat) (a1 : Int32) : Rs := fX4_known_2 c FU h a0 a1 (0 : Int32)
set_option maxHeartbeats 4000000 in
set_option maxRecDepth 100000 in
theorem soX4_known (X : Cx) (h : Hp) (a0 : Option Nat) (a1 : Int32) : SO X mX4_known [.inr (.inr a0), .inl a1] h (fX4_known X.2.2.2 h a0 a1) := by
  refine so_of (by decide +kernel) (Nat.le_of_ble_eq_true rfl) ?_
  show Gd X mX4_known h (fX4_known X.2.2.2 h a0 a1) h 0 [some (.inr (.inr a0)), some (.inl a1), none, none] []
  unfold fX4_known
  refine q_run tkX4_known 0 2 (pc' := 2) (L' := [some (.inr (.inr a0)), some (.inl a1), some (.inl (0 : Int32)), none]) (st' := []) rfl ?_
  exact sX4_known_2 X FU h a0 a1 (0 : Int32)
theorem ceX4_known : Ce mX4_known 1 := ⟨wd_19, wd_271, by decide +kernel, by decide +kernel, by decide +kernel⟩
/-- ReceiptRolls$State.freePlace -/
abbrev mX4_freePlace : MI := (yX4_freePlace, cX4_freePlace, 2, some (.object "ReceiptRolls$Receipt"), 0)
def tbX4_freePlace : List TE := [(0, .iconst 0, 1, 0, 0), (1, .istore_n 1, 1, 0, 0), (2, .iload_n 1, 1, 0, 0), (3, .aload_n 0, 1, 0, 0), (4, .getfield 28, 3, 0, 0), (7, .arraylength, 1, 0, 0), (8, .if_icmp .ge 37, 3, 0, 45), (11, .aload_n 0, 1, 0, 0), (12, .getfield 28, 3, 0, 0), (15, .iload_n 1, 1, 0, 0), (16, .aaload, 1, 0, 0), (17, .ifnull 22, 3, 0, 39), (20, .aload_n 0, 1, 0, 0), (21, .getfield 28, 3, 0, 0), (24, .iload_n 1, 1, 0, 0), (25, .aaload, 1, 0, 0), (26, .getfield 68, 3, 0, 0), (29, .ifCond .ne 10, 3, 0, 39), (32, .aload_n 0, 1, 0, 0), (33, .getfield 28, 3, 0, 0), (36, .iload_n 1, 1, 0, 0), (37, .aaload, 1, 0, 0), (38, .areturn, 1, 0, 0), (39, .iinc 1 1, 3, 1, 0), (42, .goto (-40), 3, 0, 2), (45, .aconst_null, 1, 0, 0), (46, .areturn, 1, 0, 0)]
theorem tkX4_freePlace : ∀ x ∈ tbX4_freePlace, tbB cX4_freePlace x = true := tb_all (by decide +kernel)
def fX4_freePlace_39 (c : Nat → Option Nat) (k2 : Hp → Option Nat → Int32 → Rs) (h : Hp) (l0 : Option Nat) (l1 : Int32) : Rs := k2 h l0 (l1 + (1 : Int32))
set_option maxHeartbeats 4000000 in
set_option maxRecDepth 100000 in
theorem sX4_freePlace_39 (X : Cx) {h0 : Hp} (k2 : Hp → Option Nat → Int32 → Rs) (hk2 : ∀ (h : Hp) (l0 : Option Nat) (l1 : Int32), Gd X mX4_freePlace h0 (k2 h l0 l1) h 2 [some (.inr (.inr l0)), some (.inl l1)] []) (h : Hp) (l0 : Option Nat) (l1 : Int32) : Gd X mX4_freePlace h0 (fX4_freePlace_39 X.2.2.2 k2 h l0 l1) h 39 [some (.inr (.inr l0)), some (.inl l1)] [] := by
  unfold fX4_freePlace_39
  refine q_run tkX4_freePlace 23 2 (pc' := 2) (L' := [some (.inr (.inr l0)), some (.inl (l1 + (1 : Int32)))]) (st' := []) rfl ?_
  exact hk2 h l0 (l1 + (1 : Int32))
def fX4_freePlace_2 (c : Nat → Option Nat) : Nat → Hp → Option Nat → Int32 → Rs
  | 0, _, _, _ => none
  | n + 1, h, l0, l1 => rdR h l0 6 12 (fun r1 => lenA h r1 (fun x2 => if l1 < x2 then (rdR h l0 6 12 (fun r3 => aldR h r3 l1 (fun r4 => ifN r4 (fX4_freePlace_39 c (fX4_freePlace_2 c n) h l0 l1) (rdR h l0 6 12 (fun r5 => aldR h r5 l1 (fun r6 => rdI h r6 4 0 (fun x7 => if x7 = 0 then (rdR h l0 6 12 (fun r8 => aldR h r8 l1 (fun r9 => some (h, some (.inr (.inr r9)))))) else (fX4_freePlace_39 c (fX4_freePlace_2 c n) h l0 l1)))))))) else (some (h, some (.inr (.inr none))))))
set_option maxHeartbeats 4000000 in
set_option maxRecDepth 100000 in
theorem sX4_freePlace_2 (X : Cx) {h0 : Hp} : ∀ (n : Nat) (h : Hp) (l0 : Option Nat) (l1 : Int32), Gd X mX4_freePlace h0 (fX4_freePlace_2 X.2.2.2 n h l0 l1) h 2 [some (.inr (.inr l0)), some (.inl l1)] [] := by
  intro n
  induction n with
  | zero => intros; exact gd_none
  | succ n ih =>
    intro h l0 l1
    unfold fX4_freePlace_2
    refine q_run tkX4_freePlace 2 2 (pc' := 4) (L' := [some (.inr (.inr l0)), some (.inl l1)]) (st' := [.inr (.inr l0), .inl l1]) rfl ?_
    refine q_rdR RX4 TX4 13 (tbm tkX4_freePlace (i := 4) rfl) rfl (Nat.le_of_ble_eq_true rfl) wd_141 (fun r1 => ?_)
    refine q_alen (tbm tkX4_freePlace (i := 5) rfl) (fun x2 => ?_)
    refine q_icmp_ge (tbm tkX4_freePlace (i := 6) rfl) ?_ ?_
    · refine q_run tkX4_freePlace 7 1 (pc' := 12) (L' := [some (.inr (.inr l0)), some (.inl l1)]) (st' := [.inr (.inr l0)]) rfl ?_
      refine q_rdR RX4 TX4 13 (tbm tkX4_freePlace (i := 8) rfl) rfl (Nat.le_of_ble_eq_true rfl) wd_141 (fun r3 => ?_)
      refine q_run tkX4_freePlace 9 1 (pc' := 16) (L' := [some (.inr (.inr l0)), some (.inl l1)]) (st' := [.inl l1, .inr (.inr r3)]) rfl ?_
      refine q_aaload (tbm tkX4_freePlace (i := 10) rfl) (fun r4 => ?_)
      refine q_ifnull (tbm tkX4_freePlace (i := 11) rfl) ?_ ?_
      · exact sX4_freePlace_39 X (fX4_freePlace_2 X.2.2.2 n) ih h l0 l1
      · refine q_run tkX4_freePlace 12 1 (pc' := 21) (L' := [some (.inr (.inr l0)), some (.inl l1)]) (st' := [.inr (.inr l0)]) rfl ?_
        refine q_rdR RX4 TX4 13 (tbm tkX4_freePlace (i := 13) rfl) rfl (Nat.le_of_ble_eq_true rfl) wd_141 (fun r5 => ?_)
        refine q_run tkX4_freePlace 14 1 (pc' := 25) (L' := [some (.inr (.inr l0)), some (.inl l1)]) (st' := [.inl l1, .inr (.inr r5)]) rfl ?_
        refine q_aaload (tbm tkX4_freePlace (i := 15) rfl) (fun r6 => ?_)
        refine q_rdI RX2 TX2 14 (tbm tkX4_freePlace (i := 16) rfl) rfl (Nat.le_of_ble_eq_true rfl) wd_59 (fun x7 => ?_)
        refine q_if_ne (tbm tkX4_freePlace (i := 17) rfl) ?_ ?_
        · refine q_run tkX4_freePlace 18 1 (pc' := 33) (L' := [some (.inr (.inr l0)), some (.inl l1)]) (st' := [.inr (.inr l0)]) rfl ?_
          refine q_rdR RX4 TX4 13 (tbm tkX4_freePlace (i := 19) rfl) rfl (Nat.le_of_ble_eq_true rfl) wd_141 (fun r8 => ?_)
          refine q_run tkX4_freePlace 20 1 (pc' := 37) (L' := [some (.inr (.inr l0)), some (.inl l1)]) (st' := [.inl l1, .inr (.inr r8)]) rfl ?_
          refine q_aaload (tbm tkX4_freePlace (i := 21) rfl) (fun r9 => ?_)
          exact q_aret (tbm tkX4_freePlace (i := 22) rfl) rfl (Or.inl ⟨_, rfl⟩)
        · exact sX4_freePlace_39 X (fX4_freePlace_2 X.2.2.2 n) ih h l0 l1
    · refine q_run tkX4_freePlace 25 1 (pc' := 46) (L' := [some (.inr (.inr l0)), some (.inl l1)]) (st' := [.inr (.inr none)]) rfl ?_
      exact q_aret (tbm tkX4_freePlace (i := 26) rfl) rfl (Or.inl ⟨_, rfl⟩)
def fX4_freePlace (c : Nat → Option Nat) (h : Hp) (a0 : Option Nat) : Rs := fX4_freePlace_2 c FU h a0 (0 : Int32)
set_option maxHeartbeats 4000000 in
set_option maxRecDepth 100000 in
theorem soX4_freePlace (X : Cx) (h : Hp) (a0 : Option Nat) : SO X mX4_freePlace [.inr (.inr a0)] h (fX4_freePlace X.2.2.2 h a0) := by
  refine so_of (by decide +kernel) (Nat.le_of_ble_eq_true rfl) ?_
  show Gd X mX4_freePlace h (fX4_freePlace X.2.2.2 h a0) h 0 [some (.inr (.inr a0)), none] []
  unfold fX4_freePlace
  refine q_run tkX4_freePlace 0 2 (pc' := 2) (L' := [some (.inr (.inr a0)), some (.inl (0 : Int32))]) (st' := []) rfl ?_
  exact sX4_freePlace_2 X FU h a0 (0 : Int32)
theorem ceX4_freePlace : Ce mX4_freePlace 0 := ⟨wd_19, wd_506, by decide +kernel, by decide +kernel, by decide +kernel⟩
/-- ReceiptRolls$History.dropOldest -/
abbrev mX0_dropOldest : MI := (yX0_dropOldest, cX0_dropOldest, 3, none, 0)
def tbX0_dropOldest : List TE := [(0, .aload_n 0, 1, 0, 0), (1, .getfield 11, 3, 0, 0), (4, .arraylength, 1, 0, 0), (5, .ifCond .ne 7, 3, 0, 12), (8, .aconst_null, 1, 0, 0), (9, .goto 9, 3, 0, 18), (12, .aload_n 0, 1, 0, 0), (13, .getfield 11, 3, 0, 0), (16, .iconst 0, 1, 0, 0), (17, .aaload, 1, 0, 0), (18, .astore_n 1, 1, 0, 0), (19, .iconst 1, 1, 1, 0), (20, .istore_n 2, 1, 0, 0), (21, .iload_n 2, 1, 0, 0), (22, .aload_n 0, 1, 0, 0), (23, .getfield 11, 3, 0, 0), (26, .arraylength, 1, 0, 0), (27, .if_icmp .ge 23, 3, 0, 50), (30, .aload_n 0, 1, 0, 0), (31, .getfield 11, 3, 0, 0), (34, .iload_n 2, 1, 0, 0), (35, .iconst 1, 1, 1, 0), (36, .isub, 1, 0, 0), (37, .aload_n 0, 1, 0, 0), (38, .getfield 11, 3, 0, 0), (41, .iload_n 2, 1, 0, 0), (42, .aaload, 1, 0, 0), (43, .aastore, 1, 0, 0), (44, .iinc 2 1, 3, 1, 0), (47, .goto (-26), 3, 0, 21), (50, .aload_n 1, 1, 0, 0), (51, .ifnull 27, 3, 0, 78), (54, .aload_n 0, 1, 0, 0), (55, .getfield 11, 3, 0, 0), (58, .aload_n 0, 1, 0, 0), (59, .getfield 11, 3, 0, 0), (62, .arraylength, 1, 0, 0), (63, .iconst 1, 1, 1, 0), (64, .isub, 1, 0, 0), (65, .aload_n 1, 1, 0, 0), (66, .aastore, 1, 0, 0), (67, .aload_n 0, 1, 0, 0), (68, .aload_n 0, 1, 0, 0), (69, .getfield 11, 3, 0, 0), (72, .arraylength, 1, 0, 0), (73, .iconst 1, 1, 1, 0), (74, .isub, 1, 0, 0), (75, .putfield 18, 3, 0, 0), (78, .return_, 1, 0, 0)]
theorem tkX0_dropOldest : ∀ x ∈ tbX0_dropOldest, tbB cX0_dropOldest x = true := tb_all (by decide +kernel)
def fX0_dropOldest_78 (c : Nat → Option Nat) (h : Hp) : Rs := some (h, none)
set_option maxHeartbeats 4000000 in
set_option maxRecDepth 100000 in
theorem sX0_dropOldest_78 (X : Cx) {h0 : Hp} (h : Hp) : Gd X mX0_dropOldest h0 (fX0_dropOldest_78 X.2.2.2 h) h 78 [none, none, none] [] := by
  unfold fX0_dropOldest_78
  exact q_vret (tbm tkX0_dropOldest (i := 48) rfl) rfl
def fX0_dropOldest_21 (c : Nat → Option Nat) : Nat → Hp → Option Nat → Option Nat → Int32 → Rs
  | 0, _, _, _, _ => none
  | n + 1, h, l0, l1, l2 => rdR h l0 2 1 (fun r1 => lenA h r1 (fun x2 => if l2 < x2 then (rdR h l0 2 1 (fun r3 => rdR h l0 2 1 (fun r4 => aldR h r4 l2 (fun r5 => astR h r3 (l2 - (1 : Int32)) r5 (fun h6 => fX0_dropOldest_21 c n h6 l0 l1 (l2 + (1 : Int32))))))) else (ifN l1 (fX0_dropOldest_78 c h) (rdR h l0 2 1 (fun r7 => rdR h l0 2 1 (fun r8 => lenA h r8 (fun x9 => astR h r7 (x9 - (1 : Int32)) l1 (fun h10 => rdR h10 l0 2 1 (fun r11 => lenA h10 r11 (fun x12 => wr h10 l0 2 0 (.inl (x12 - (1 : Int32))) (fun h13 => fX0_dropOldest_78 c h13)))))))))))
set_option maxHeartbeats 4000000 in
set_option maxRecDepth 100000 in
theorem sX0_dropOldest_21 (X : Cx) {h0 : Hp} : ∀ (n : Nat) (h : Hp) (l0 : Option Nat) (l1 : Option Nat) (l2 : Int32), Gd X mX0_dropOldest h0 (fX0_dropOldest_21 X.2.2.2 n h l0 l1 l2) h 21 [some (.inr (.inr l0)), some (.inr (.inr l1)), some (.inl l2)] [] := by
  intro n
  induction n with
  | zero => intros; exact gd_none
  | succ n ih =>
    intro h l0 l1 l2
    unfold fX0_dropOldest_21
    refine q_run tkX0_dropOldest 13 2 (pc' := 23) (L' := [some (.inr (.inr l0)), some (.inr (.inr l1)), some (.inl l2)]) (st' := [.inr (.inr l0), .inl l2]) rfl ?_
    refine q_rdR RX0 TX0 2 (tbm tkX0_dropOldest (i := 15) rfl) rfl (Nat.le_of_ble_eq_true rfl) wd_180 (fun r1 => ?_)
    refine q_alen (tbm tkX0_dropOldest (i := 16) rfl) (fun x2 => ?_)
    refine q_icmp_ge (tbm tkX0_dropOldest (i := 17) rfl) ?_ ?_
    · refine q_run tkX0_dropOldest 18 1 (pc' := 31) (L' := [some (.inr (.inr l0)), some (.inr (.inr l1)), some (.inl l2)]) (st' := [.inr (.inr l0)]) rfl ?_
      refine q_rdR RX0 TX0 2 (tbm tkX0_dropOldest (i := 19) rfl) rfl (Nat.le_of_ble_eq_true rfl) wd_180 (fun r3 => ?_)
      refine q_run tkX0_dropOldest 20 4 (pc' := 38) (L' := [some (.inr (.inr l0)), some (.inr (.inr l1)), some (.inl l2)]) (st' := [.inr (.inr l0), .inl (l2 - (1 : Int32)), .inr (.inr r3)]) rfl ?_
      refine q_rdR RX0 TX0 2 (tbm tkX0_dropOldest (i := 24) rfl) rfl (Nat.le_of_ble_eq_true rfl) wd_180 (fun r4 => ?_)
      refine q_run tkX0_dropOldest 25 1 (pc' := 42) (L' := [some (.inr (.inr l0)), some (.inr (.inr l1)), some (.inl l2)]) (st' := [.inl l2, .inr (.inr r4), .inl (l2 - (1 : Int32)), .inr (.inr r3)]) rfl ?_
      refine q_aaload (tbm tkX0_dropOldest (i := 26) rfl) (fun r5 => ?_)
      refine q_aastore (tbm tkX0_dropOldest (i := 27) rfl) (fun h6 => ?_)
      refine q_run tkX0_dropOldest 28 2 (pc' := 21) (L' := [some (.inr (.inr l0)), some (.inr (.inr l1)), some (.inl (l2 + (1 : Int32)))]) (st' := []) rfl ?_
      exact ih h6 l0 l1 (l2 + (1 : Int32))
    · refine q_run tkX0_dropOldest 30 1 (pc' := 51) (L' := [some (.inr (.inr l0)), some (.inr (.inr l1)), some (.inl l2)]) (st' := [.inr (.inr l1)]) rfl ?_
      refine q_ifnull (tbm tkX0_dropOldest (i := 31) rfl) ?_ ?_
      · refine q_le (L' := [none, none, none]) (lvLe_n (lvLe_n (lvLe_n lvLe_0))) ?_
        exact sX0_dropOldest_78 X h
      · refine q_run tkX0_dropOldest 32 1 (pc' := 55) (L' := [some (.inr (.inr l0)), some (.inr (.inr l1)), some (.inl l2)]) (st' := [.inr (.inr l0)]) rfl ?_
        refine q_rdR RX0 TX0 2 (tbm tkX0_dropOldest (i := 33) rfl) rfl (Nat.le_of_ble_eq_true rfl) wd_180 (fun r7 => ?_)
        refine q_run tkX0_dropOldest 34 1 (pc' := 59) (L' := [some (.inr (.inr l0)), some (.inr (.inr l1)), some (.inl l2)]) (st' := [.inr (.inr l0), .inr (.inr r7)]) rfl ?_
        refine q_rdR RX0 TX0 2 (tbm tkX0_dropOldest (i := 35) rfl) rfl (Nat.le_of_ble_eq_true rfl) wd_180 (fun r8 => ?_)
        refine q_alen (tbm tkX0_dropOldest (i := 36) rfl) (fun x9 => ?_)
        refine q_run tkX0_dropOldest 37 3 (pc' := 66) (L' := [some (.inr (.inr l0)), some (.inr (.inr l1)), some (.inl l2)]) (st' := [.inr (.inr l1), .inl (x9 - (1 : Int32)), .inr (.inr r7)]) rfl ?_
        refine q_aastore (tbm tkX0_dropOldest (i := 40) rfl) (fun h10 => ?_)
        refine q_run tkX0_dropOldest 41 2 (pc' := 69) (L' := [some (.inr (.inr l0)), some (.inr (.inr l1)), some (.inl l2)]) (st' := [.inr (.inr l0), .inr (.inr l0)]) rfl ?_
        refine q_rdR RX0 TX0 2 (tbm tkX0_dropOldest (i := 43) rfl) rfl (Nat.le_of_ble_eq_true rfl) wd_180 (fun r11 => ?_)
        refine q_alen (tbm tkX0_dropOldest (i := 44) rfl) (fun x12 => ?_)
        refine q_run tkX0_dropOldest 45 2 (pc' := 75) (L' := [some (.inr (.inr l0)), some (.inr (.inr l1)), some (.inl l2)]) (st' := [.inl (x12 - (1 : Int32)), .inr (.inr l0)]) rfl ?_
        refine q_wr RX0 TX0 2 (tbm tkX0_dropOldest (i := 47) rfl) rfl (Nat.le_of_ble_eq_true rfl) (Or.inl rfl) wd_178 (fun h13 => ?_)
        refine q_le (L' := [none, none, none]) (lvLe_n (lvLe_n (lvLe_n lvLe_0))) ?_
        exact sX0_dropOldest_78 X h13
def fX0_dropOldest_18 (c : Nat → Option Nat) (h : Hp) (l0 : Option Nat) (s0 : Option Nat) : Rs := fX0_dropOldest_21 c FU h l0 s0 (1 : Int32)
set_option maxHeartbeats 4000000 in
set_option maxRecDepth 100000 in
theorem sX0_dropOldest_18 (X : Cx) {h0 : Hp} (h : Hp) (l0 : Option Nat) (s0 : Option Nat) : Gd X mX0_dropOldest h0 (fX0_dropOldest_18 X.2.2.2 h l0 s0) h 18 [some (.inr (.inr l0)), none, none] [.inr (.inr s0)] := by
  unfold fX0_dropOldest_18
  refine q_run tkX0_dropOldest 10 3 (pc' := 21) (L' := [some (.inr (.inr l0)), some (.inr (.inr s0)), some (.inl (1 : Int32))]) (st' := []) rfl ?_
  exact sX0_dropOldest_21 X FU h l0 s0 (1 : Int32)
def fX0_dropOldest (c : Nat → Option Nat) (h : Hp) (a0 : Option Nat) : Rs := rdR h a0 2 1 (fun r14 => lenA h r14 (fun x15 => if x15 = 0 then (fX0_dropOldest_18 c h a0 none) else (rdR h a0 2 1 (fun r16 => aldR h r16 (0 : Int32) (fun r17 => fX0_dropOldest_18 c h a0 r17)))))
set_option maxHeartbeats 4000000 in
set_option maxRecDepth 100000 in
theorem soX0_dropOldest (X : Cx) (h : Hp) (a0 : Option Nat) : SO X mX0_dropOldest [.inr (.inr a0)] h (fX0_dropOldest X.2.2.2 h a0) := by
  refine so_of (by decide +kernel) (Nat.le_of_ble_eq_true rfl) ?_
  show Gd X mX0_dropOldest h (fX0_dropOldest X.2.2.2 h a0) h 0 [some (.inr (.inr a0)), none, none] []
  unfold fX0_dropOldest
  refine q_run tkX0_dropOldest 0 1 (pc' := 1) (L' := [some (.inr (.inr a0)), none, none]) (st' := [.inr (.inr a0)]) rfl ?_
  refine q_rdR RX0 TX0 2 (tbm tkX0_dropOldest (i := 1) rfl) rfl (Nat.le_of_ble_eq_true rfl) wd_180 (fun r14 => ?_)
  refine q_alen (tbm tkX0_dropOldest (i := 2) rfl) (fun x15 => ?_)
  refine q_if_ne (tbm tkX0_dropOldest (i := 3) rfl) ?_ ?_
  · refine q_run tkX0_dropOldest 4 2 (pc' := 18) (L' := [some (.inr (.inr a0)), none, none]) (st' := [.inr (.inr none)]) rfl ?_
    exact sX0_dropOldest_18 X h a0 none
  · refine q_run tkX0_dropOldest 6 1 (pc' := 13) (L' := [some (.inr (.inr a0)), none, none]) (st' := [.inr (.inr a0)]) rfl ?_
    refine q_rdR RX0 TX0 2 (tbm tkX0_dropOldest (i := 7) rfl) rfl (Nat.le_of_ble_eq_true rfl) wd_180 (fun r16 => ?_)
    refine q_run tkX0_dropOldest 8 1 (pc' := 17) (L' := [some (.inr (.inr a0)), none, none]) (st' := [.inl (0 : Int32), .inr (.inr r16)]) rfl ?_
    refine q_aaload (tbm tkX0_dropOldest (i := 9) rfl) (fun r17 => ?_)
    exact sX0_dropOldest_18 X h a0 r17
theorem ceX0_dropOldest : Ce mX0_dropOldest 0 := ⟨wd_21, wd_514, by decide +kernel, by decide +kernel, by decide +kernel⟩
/-- ReceiptRolls$Receipt.copyFrom -/
abbrev mX2_copyFrom : MI := (yX2_copyFrom, cX2_copyFrom, 3, none, 0)
def tbX2_copyFrom : List TE := [(0, .aload_n 0, 1, 0, 0), (1, .aload_n 1, 1, 0, 0), (2, .getfield 21, 3, 0, 0), (5, .putfield 21, 3, 0, 0), (8, .aload_n 0, 1, 0, 0), (9, .aload_n 1, 1, 0, 0), (10, .getfield 25, 3, 0, 0), (13, .putfield 25, 3, 0, 0), (16, .aload_n 0, 1, 0, 0), (17, .aload_n 1, 1, 0, 0), (18, .getfield 28, 3, 0, 0), (21, .putfield 28, 3, 0, 0), (24, .aload_n 0, 1, 0, 0), (25, .aload_n 1, 1, 0, 0), (26, .getfield 31, 3, 0, 0), (29, .putfield 31, 3, 0, 0), (32, .aload_n 0, 1, 0, 0), (33, .aload_n 1, 1, 0, 0), (34, .getfield 34, 3, 0, 0), (37, .putfield 34, 3, 0, 0), (40, .aload_n 0, 1, 0, 0), (41, .aload_n 1, 1, 0, 0), (42, .getfield 37, 3, 0, 0), (45, .putfield 37, 3, 0, 0), (48, .aload_n 0, 1, 0, 0), (49, .aload_n 1, 1, 0, 0), (50, .getfield 40, 3, 0, 0), (53, .putfield 40, 3, 0, 0), (56, .aload_n 0, 1, 0, 0), (57, .aload_n 1, 1, 0, 0), (58, .getfield 43, 3, 0, 0), (61, .putfield 43, 3, 0, 0), (64, .aload_n 0, 1, 0, 0), (65, .aload_n 1, 1, 0, 0), (66, .getfield 46, 3, 0, 0), (69, .putfield 46, 3, 0, 0), (72, .aload_n 0, 1, 0, 0), (73, .aload_n 1, 1, 0, 0), (74, .getfield 49, 3, 0, 0), (77, .putfield 49, 3, 0, 0), (80, .aload_n 0, 1, 0, 0), (81, .aload_n 1, 1, 0, 0), (82, .getfield 52, 3, 0, 0), (85, .putfield 52, 3, 0, 0), (88, .aload_n 0, 1, 0, 0), (89, .aload_n 1, 1, 0, 0), (90, .getfield 55, 3, 0, 0), (93, .putfield 55, 3, 0, 0), (96, .iconst 0, 1, 0, 0), (97, .istore_n 2, 1, 0, 0), (98, .iload_n 2, 1, 0, 0), (99, .aload_n 0, 1, 0, 0), (100, .getfield 11, 3, 0, 0), (103, .arraylength, 1, 0, 0), (104, .if_icmp .ge 30, 3, 0, 134), (107, .iload_n 2, 1, 0, 0), (108, .aload_n 1, 1, 0, 0), (109, .getfield 11, 3, 0, 0), (112, .arraylength, 1, 0, 0), (113, .if_icmp .ge 21, 3, 0, 134), (116, .aload_n 0, 1, 0, 0), (117, .getfield 11, 3, 0, 0), (120, .iload_n 2, 1, 0, 0), (121, .aload_n 1, 1, 0, 0), (122, .getfield 11, 3, 0, 0), (125, .iload_n 2, 1, 0, 0), (126, .aaload, 1, 0, 0), (127, .aastore, 1, 0, 0), (128, .iinc 2 1, 3, 1, 0), (131, .goto (-33), 3, 0, 98), (134, .iconst 0, 1, 0, 0), (135, .istore_n 2, 1, 0, 0), (136, .iload_n 2, 1, 0, 0), (137, .aload_n 0, 1, 0, 0), (138, .getfield 17, 3, 0, 0), (141, .arraylength, 1, 0, 0), (142, .if_icmp .ge 30, 3, 0, 172), (145, .iload_n 2, 1, 0, 0), (146, .aload_n 1, 1, 0, 0), (147, .getfield 17, 3, 0, 0), (150, .arraylength, 1, 0, 0), (151, .if_icmp .ge 21, 3, 0, 172), (154, .aload_n 0, 1, 0, 0), (155, .getfield 17, 3, 0, 0), (158, .iload_n 2, 1, 0, 0), (159, .aload_n 1, 1, 0, 0), (160, .getfield 17, 3, 0, 0), (163, .iload_n 2, 1, 0, 0), (164, .iaload, 1, 0, 0), (165, .iastore, 1, 0, 0), (166, .iinc 2 1, 3, 1, 0), (169, .goto (-33), 3, 0, 136), (172, .return_, 1, 0, 0)]
theorem tkX2_copyFrom : ∀ x ∈ tbX2_copyFrom, tbB cX2_copyFrom x = true := tb_all (by decide +kernel)
def fX2_copyFrom_172 (c : Nat → Option Nat) (h : Hp) : Rs := some (h, none)
set_option maxHeartbeats 4000000 in
set_option maxRecDepth 100000 in
theorem sX2_copyFrom_172 (X : Cx) {h0 : Hp} (h : Hp) : Gd X mX2_copyFrom h0 (fX2_copyFrom_172 X.2.2.2 h) h 172 [none, none, none] [] := by
  unfold fX2_copyFrom_172
  exact q_vret (tbm tkX2_copyFrom (i := 92) rfl) rfl
def fX2_copyFrom_136 (c : Nat → Option Nat) : Nat → Hp → Option Nat → Option Nat → Int32 → Rs
  | 0, _, _, _, _ => none
  | n + 1, h, l0, l1, l2 => rdR h l0 4 13 (fun r1 => lenA h r1 (fun x2 => if l2 < x2 then (rdR h l1 4 13 (fun r3 => lenA h r3 (fun x4 => if l2 < x4 then (rdR h l0 4 13 (fun r5 => rdR h l1 4 13 (fun r6 => aldI h r6 [0, 10] l2 (fun x7 => astI h r5 [0] l2 x7 (fun h8 => fX2_copyFrom_136 c n h8 l0 l1 (l2 + (1 : Int32))))))) else (fX2_copyFrom_172 c h)))) else (fX2_copyFrom_172 c h)))
set_option maxHeartbeats 4000000 in
set_option maxRecDepth 100000 in
theorem sX2_copyFrom_136 (X : Cx) {h0 : Hp} : ∀ (n : Nat) (h : Hp) (l0 : Option Nat) (l1 : Option Nat) (l2 : Int32), Gd X mX2_copyFrom h0 (fX2_copyFrom_136 X.2.2.2 n h l0 l1 l2) h 136 [some (.inr (.inr l0)), some (.inr (.inr l1)), some (.inl l2)] [] := by
  intro n
  induction n with
  | zero => intros; exact gd_none
  | succ n ih =>
    intro h l0 l1 l2
    unfold fX2_copyFrom_136
    refine q_run tkX2_copyFrom 72 2 (pc' := 138) (L' := [some (.inr (.inr l0)), some (.inr (.inr l1)), some (.inl l2)]) (st' := [.inr (.inr l0), .inl l2]) rfl ?_
    refine q_rdR RX2 TX2 14 (tbm tkX2_copyFrom (i := 74) rfl) rfl (Nat.le_of_ble_eq_true rfl) wd_87 (fun r1 => ?_)
    refine q_alen (tbm tkX2_copyFrom (i := 75) rfl) (fun x2 => ?_)
    refine q_icmp_ge (tbm tkX2_copyFrom (i := 76) rfl) ?_ ?_
    · refine q_run tkX2_copyFrom 77 2 (pc' := 147) (L' := [some (.inr (.inr l0)), some (.inr (.inr l1)), some (.inl l2)]) (st' := [.inr (.inr l1), .inl l2]) rfl ?_
      refine q_rdR RX2 TX2 14 (tbm tkX2_copyFrom (i := 79) rfl) rfl (Nat.le_of_ble_eq_true rfl) wd_87 (fun r3 => ?_)
      refine q_alen (tbm tkX2_copyFrom (i := 80) rfl) (fun x4 => ?_)
      refine q_icmp_ge (tbm tkX2_copyFrom (i := 81) rfl) ?_ ?_
      · refine q_run tkX2_copyFrom 82 1 (pc' := 155) (L' := [some (.inr (.inr l0)), some (.inr (.inr l1)), some (.inl l2)]) (st' := [.inr (.inr l0)]) rfl ?_
        refine q_rdR RX2 TX2 14 (tbm tkX2_copyFrom (i := 83) rfl) rfl (Nat.le_of_ble_eq_true rfl) wd_87 (fun r5 => ?_)
        refine q_run tkX2_copyFrom 84 2 (pc' := 160) (L' := [some (.inr (.inr l0)), some (.inr (.inr l1)), some (.inl l2)]) (st' := [.inr (.inr l1), .inl l2, .inr (.inr r5)]) rfl ?_
        refine q_rdR RX2 TX2 14 (tbm tkX2_copyFrom (i := 86) rfl) rfl (Nat.le_of_ble_eq_true rfl) wd_87 (fun r6 => ?_)
        refine q_run tkX2_copyFrom 87 1 (pc' := 164) (L' := [some (.inr (.inr l0)), some (.inr (.inr l1)), some (.inl l2)]) (st' := [.inl l2, .inr (.inr r6), .inl l2, .inr (.inr r5)]) rfl ?_
        refine q_iaload (tbm tkX2_copyFrom (i := 88) rfl) (fun x7 => ?_)
        refine q_iastore (tbm tkX2_copyFrom (i := 89) rfl) (fun h8 => ?_)
        refine q_run tkX2_copyFrom 90 2 (pc' := 136) (L' := [some (.inr (.inr l0)), some (.inr (.inr l1)), some (.inl (l2 + (1 : Int32)))]) (st' := []) rfl ?_
        exact ih h8 l0 l1 (l2 + (1 : Int32))
      · refine q_le (L' := [none, none, none]) (lvLe_n (lvLe_n (lvLe_n lvLe_0))) ?_
        exact sX2_copyFrom_172 X h
    · refine q_le (L' := [none, none, none]) (lvLe_n (lvLe_n (lvLe_n lvLe_0))) ?_
      exact sX2_copyFrom_172 X h
def fX2_copyFrom_134 (c : Nat → Option Nat) (h : Hp) (l0 : Option Nat) (l1 : Option Nat) : Rs := fX2_copyFrom_136 c FU h l0 l1 (0 : Int32)
set_option maxHeartbeats 4000000 in
set_option maxRecDepth 100000 in
theorem sX2_copyFrom_134 (X : Cx) {h0 : Hp} (h : Hp) (l0 : Option Nat) (l1 : Option Nat) : Gd X mX2_copyFrom h0 (fX2_copyFrom_134 X.2.2.2 h l0 l1) h 134 [some (.inr (.inr l0)), some (.inr (.inr l1)), none] [] := by
  unfold fX2_copyFrom_134
  refine q_run tkX2_copyFrom 70 2 (pc' := 136) (L' := [some (.inr (.inr l0)), some (.inr (.inr l1)), some (.inl (0 : Int32))]) (st' := []) rfl ?_
  exact sX2_copyFrom_136 X FU h l0 l1 (0 : Int32)
def fX2_copyFrom_98 (c : Nat → Option Nat) : Nat → Hp → Option Nat → Option Nat → Int32 → Rs
  | 0, _, _, _, _ => none
  | n + 1, h, l0, l1, l2 => rdR h l0 4 12 (fun r9 => lenA h r9 (fun x10 => if l2 < x10 then (rdR h l1 4 12 (fun r11 => lenA h r11 (fun x12 => if l2 < x12 then (rdR h l0 4 12 (fun r13 => rdR h l1 4 12 (fun r14 => aldR h r14 l2 (fun r15 => astR h r13 l2 r15 (fun h16 => fX2_copyFrom_98 c n h16 l0 l1 (l2 + (1 : Int32))))))) else (fX2_copyFrom_134 c h l0 l1)))) else (fX2_copyFrom_134 c h l0 l1)))
set_option maxHeartbeats 4000000 in
set_option maxRecDepth 100000 in
theorem sX2_copyFrom_98 (X : Cx) {h0 : Hp} : ∀ (n : Nat) (h : Hp) (l0 : Option Nat) (l1 : Option Nat) (l2 : Int32), Gd X mX2_copyFrom h0 (fX2_copyFrom_98 X.2.2.2 n h l0 l1 l2) h 98 [some (.inr (.inr l0)), some (.inr (.inr l1)), some (.inl l2)] [] := by
  intro n
  induction n with
  | zero => intros; exact gd_none
  | succ n ih =>
    intro h l0 l1 l2
    unfold fX2_copyFrom_98
    refine q_run tkX2_copyFrom 50 2 (pc' := 100) (L' := [some (.inr (.inr l0)), some (.inr (.inr l1)), some (.inl l2)]) (st' := [.inr (.inr l0), .inl l2]) rfl ?_
    refine q_rdR RX2 TX2 14 (tbm tkX2_copyFrom (i := 52) rfl) rfl (Nat.le_of_ble_eq_true rfl) wd_86 (fun r9 => ?_)
    refine q_alen (tbm tkX2_copyFrom (i := 53) rfl) (fun x10 => ?_)
    refine q_icmp_ge (tbm tkX2_copyFrom (i := 54) rfl) ?_ ?_
    · refine q_run tkX2_copyFrom 55 2 (pc' := 109) (L' := [some (.inr (.inr l0)), some (.inr (.inr l1)), some (.inl l2)]) (st' := [.inr (.inr l1), .inl l2]) rfl ?_
      refine q_rdR RX2 TX2 14 (tbm tkX2_copyFrom (i := 57) rfl) rfl (Nat.le_of_ble_eq_true rfl) wd_86 (fun r11 => ?_)
      refine q_alen (tbm tkX2_copyFrom (i := 58) rfl) (fun x12 => ?_)
      refine q_icmp_ge (tbm tkX2_copyFrom (i := 59) rfl) ?_ ?_
      · refine q_run tkX2_copyFrom 60 1 (pc' := 117) (L' := [some (.inr (.inr l0)), some (.inr (.inr l1)), some (.inl l2)]) (st' := [.inr (.inr l0)]) rfl ?_
        refine q_rdR RX2 TX2 14 (tbm tkX2_copyFrom (i := 61) rfl) rfl (Nat.le_of_ble_eq_true rfl) wd_86 (fun r13 => ?_)
        refine q_run tkX2_copyFrom 62 2 (pc' := 122) (L' := [some (.inr (.inr l0)), some (.inr (.inr l1)), some (.inl l2)]) (st' := [.inr (.inr l1), .inl l2, .inr (.inr r13)]) rfl ?_
        refine q_rdR RX2 TX2 14 (tbm tkX2_copyFrom (i := 64) rfl) rfl (Nat.le_of_ble_eq_true rfl) wd_86 (fun r14 => ?_)
        refine q_run tkX2_copyFrom 65 1 (pc' := 126) (L' := [some (.inr (.inr l0)), some (.inr (.inr l1)), some (.inl l2)]) (st' := [.inl l2, .inr (.inr r14), .inl l2, .inr (.inr r13)]) rfl ?_
        refine q_aaload (tbm tkX2_copyFrom (i := 66) rfl) (fun r15 => ?_)
        refine q_aastore (tbm tkX2_copyFrom (i := 67) rfl) (fun h16 => ?_)
        refine q_run tkX2_copyFrom 68 2 (pc' := 98) (L' := [some (.inr (.inr l0)), some (.inr (.inr l1)), some (.inl (l2 + (1 : Int32)))]) (st' := []) rfl ?_
        exact ih h16 l0 l1 (l2 + (1 : Int32))
      · refine q_le (L' := [some (.inr (.inr l0)), some (.inr (.inr l1)), none]) (lvLe_s (lvLe_s (lvLe_n lvLe_0))) ?_
        exact sX2_copyFrom_134 X h l0 l1
    · refine q_le (L' := [some (.inr (.inr l0)), some (.inr (.inr l1)), none]) (lvLe_s (lvLe_s (lvLe_n lvLe_0))) ?_
      exact sX2_copyFrom_134 X h l0 l1
def fX2_copyFrom (c : Nat → Option Nat) (h : Hp) (a0 : Option Nat) (a1 : Option Nat) : Rs := rdI h a1 4 0 (fun x17 => wr h a0 4 0 (.inl x17) (fun h18 => rdI h18 a1 4 1 (fun x19 => wr h18 a0 4 1 (.inl x19) (fun h20 => rdI h20 a1 4 2 (fun x21 => wr h20 a0 4 2 (.inl x21) (fun h22 => rdI h22 a1 4 3 (fun x23 => wr h22 a0 4 3 (.inl x23) (fun h24 => rdI h24 a1 4 4 (fun x25 => wr h24 a0 4 4 (.inl x25) (fun h26 => rdI h26 a1 4 5 (fun x27 => wr h26 a0 4 5 (.inl x27) (fun h28 => rdI h28 a1 4 6 (fun x29 => wr h28 a0 4 6 (.inl x29) (fun h30 => rdI h30 a1 4 7 (fun x31 => wr h30 a0 4 7 (.inl x31) (fun h32 => rdI h32 a1 4 8 (fun x33 => wr h32 a0 4 8 (.inl x33) (fun h34 => rdI h34 a1 4 9 (fun x35 => wr h34 a0 4 9 (.inl x35) (fun h36 => rdI h36 a1 4 10 (fun x37 => wr h36 a0 4 10 (.inl x37) (fun h38 => rdI h38 a1 4 11 (fun x39 => wr h38 a0 4 11 (.inl x39) (fun h40 => fX2_copyFrom_98 c FU h40 a0 a1 (0 : Int32)))))))))))))))))))))))))
set_option maxHeartbeats 4000000 in
set_option maxRecDepth 100000 in
theorem soX2_copyFrom (X : Cx) (h : Hp) (a0 : Option Nat) (a1 : Option Nat) : SO X mX2_copyFrom [.inr (.inr a0), .inr (.inr a1)] h (fX2_copyFrom X.2.2.2 h a0 a1) := by
  refine so_of (by decide +kernel) (Nat.le_of_ble_eq_true rfl) ?_
  show Gd X mX2_copyFrom h (fX2_copyFrom X.2.2.2 h a0 a1) h 0 [some (.inr (.inr a0)), some (.inr (.inr a1)), none] []
  unfold fX2_copyFrom
  refine q_run tkX2_copyFrom 0 2 (pc' := 2) (L' := [some (.inr (.inr a0)), some (.inr (.inr a1)), none]) (st' := [.inr (.inr a1), .inr (.inr a0)]) rfl ?_
  refine q_rdI RX2 TX2 14 (tbm tkX2_copyFrom (i := 2) rfl) rfl (Nat.le_of_ble_eq_true rfl) wd_58 (fun x17 => ?_)
  refine q_wr RX2 TX2 14 (tbm tkX2_copyFrom (i := 3) rfl) rfl (Nat.le_of_ble_eq_true rfl) (Or.inl rfl) wd_58 (fun h18 => ?_)
  refine q_run tkX2_copyFrom 4 2 (pc' := 10) (L' := [some (.inr (.inr a0)), some (.inr (.inr a1)), none]) (st' := [.inr (.inr a1), .inr (.inr a0)]) rfl ?_
  refine q_rdI RX2 TX2 14 (tbm tkX2_copyFrom (i := 6) rfl) rfl (Nat.le_of_ble_eq_true rfl) wd_61 (fun x19 => ?_)
  refine q_wr RX2 TX2 14 (tbm tkX2_copyFrom (i := 7) rfl) rfl (Nat.le_of_ble_eq_true rfl) (Or.inl rfl) wd_61 (fun h20 => ?_)
  refine q_run tkX2_copyFrom 8 2 (pc' := 18) (L' := [some (.inr (.inr a0)), some (.inr (.inr a1)), none]) (st' := [.inr (.inr a1), .inr (.inr a0)]) rfl ?_
  refine q_rdI RX2 TX2 14 (tbm tkX2_copyFrom (i := 10) rfl) rfl (Nat.le_of_ble_eq_true rfl) wd_63 (fun x21 => ?_)
  refine q_wr RX2 TX2 14 (tbm tkX2_copyFrom (i := 11) rfl) rfl (Nat.le_of_ble_eq_true rfl) (Or.inl rfl) wd_63 (fun h22 => ?_)
  refine q_run tkX2_copyFrom 12 2 (pc' := 26) (L' := [some (.inr (.inr a0)), some (.inr (.inr a1)), none]) (st' := [.inr (.inr a1), .inr (.inr a0)]) rfl ?_
  refine q_rdI RX2 TX2 14 (tbm tkX2_copyFrom (i := 14) rfl) rfl (Nat.le_of_ble_eq_true rfl) wd_65 (fun x23 => ?_)
  refine q_wr RX2 TX2 14 (tbm tkX2_copyFrom (i := 15) rfl) rfl (Nat.le_of_ble_eq_true rfl) (Or.inl rfl) wd_65 (fun h24 => ?_)
  refine q_run tkX2_copyFrom 16 2 (pc' := 34) (L' := [some (.inr (.inr a0)), some (.inr (.inr a1)), none]) (st' := [.inr (.inr a1), .inr (.inr a0)]) rfl ?_
  refine q_rdI RX2 TX2 14 (tbm tkX2_copyFrom (i := 18) rfl) rfl (Nat.le_of_ble_eq_true rfl) wd_68 (fun x25 => ?_)
  refine q_wr RX2 TX2 14 (tbm tkX2_copyFrom (i := 19) rfl) rfl (Nat.le_of_ble_eq_true rfl) (Or.inl rfl) wd_68 (fun h26 => ?_)
  refine q_run tkX2_copyFrom 20 2 (pc' := 42) (L' := [some (.inr (.inr a0)), some (.inr (.inr a1)), none]) (st' := [.inr (.inr a1), .inr (.inr a0)]) rfl ?_
  refine q_rdI RX2 TX2 14 (tbm tkX2_copyFrom (i := 22) rfl) rfl (Nat.le_of_ble_eq_true rfl) wd_70 (fun x27 => ?_)
  refine q_wr RX2 TX2 14 (tbm tkX2_copyFrom (i := 23) rfl) rfl (Nat.le_of_ble_eq_true rfl) (Or.inl rfl) wd_70 (fun h28 => ?_)
  refine q_run tkX2_copyFrom 24 2 (pc' := 50) (L' := [some (.inr (.inr a0)), some (.inr (.inr a1)), none]) (st' := [.inr (.inr a1), .inr (.inr a0)]) rfl ?_
  refine q_rdI RX2 TX2 14 (tbm tkX2_copyFrom (i := 26) rfl) rfl (Nat.le_of_ble_eq_true rfl) wd_73 (fun x29 => ?_)
  refine q_wr RX2 TX2 14 (tbm tkX2_copyFrom (i := 27) rfl) rfl (Nat.le_of_ble_eq_true rfl) (Or.inl rfl) wd_73 (fun h30 => ?_)
  refine q_run tkX2_copyFrom 28 2 (pc' := 58) (L' := [some (.inr (.inr a0)), some (.inr (.inr a1)), none]) (st' := [.inr (.inr a1), .inr (.inr a0)]) rfl ?_
  refine q_rdI RX2 TX2 14 (tbm tkX2_copyFrom (i := 30) rfl) rfl (Nat.le_of_ble_eq_true rfl) wd_76 (fun x31 => ?_)
  refine q_wr RX2 TX2 14 (tbm tkX2_copyFrom (i := 31) rfl) rfl (Nat.le_of_ble_eq_true rfl) (Or.inl rfl) wd_76 (fun h32 => ?_)
  refine q_run tkX2_copyFrom 32 2 (pc' := 66) (L' := [some (.inr (.inr a0)), some (.inr (.inr a1)), none]) (st' := [.inr (.inr a1), .inr (.inr a0)]) rfl ?_
  refine q_rdI RX2 TX2 14 (tbm tkX2_copyFrom (i := 34) rfl) rfl (Nat.le_of_ble_eq_true rfl) wd_79 (fun x33 => ?_)
  refine q_wr RX2 TX2 14 (tbm tkX2_copyFrom (i := 35) rfl) rfl (Nat.le_of_ble_eq_true rfl) (Or.inl rfl) wd_79 (fun h34 => ?_)
  refine q_run tkX2_copyFrom 36 2 (pc' := 74) (L' := [some (.inr (.inr a0)), some (.inr (.inr a1)), none]) (st' := [.inr (.inr a1), .inr (.inr a0)]) rfl ?_
  refine q_rdI RX2 TX2 14 (tbm tkX2_copyFrom (i := 38) rfl) rfl (Nat.le_of_ble_eq_true rfl) wd_81 (fun x35 => ?_)
  refine q_wr RX2 TX2 14 (tbm tkX2_copyFrom (i := 39) rfl) rfl (Nat.le_of_ble_eq_true rfl) (Or.inl rfl) wd_81 (fun h36 => ?_)
  refine q_run tkX2_copyFrom 40 2 (pc' := 82) (L' := [some (.inr (.inr a0)), some (.inr (.inr a1)), none]) (st' := [.inr (.inr a1), .inr (.inr a0)]) rfl ?_
  refine q_rdI RX2 TX2 14 (tbm tkX2_copyFrom (i := 42) rfl) rfl (Nat.le_of_ble_eq_true rfl) wd_84 (fun x37 => ?_)
  refine q_wr RX2 TX2 14 (tbm tkX2_copyFrom (i := 43) rfl) rfl (Nat.le_of_ble_eq_true rfl) (Or.inl rfl) wd_84 (fun h38 => ?_)
  refine q_run tkX2_copyFrom 44 2 (pc' := 90) (L' := [some (.inr (.inr a0)), some (.inr (.inr a1)), none]) (st' := [.inr (.inr a1), .inr (.inr a0)]) rfl ?_
  refine q_rdI RX2 TX2 14 (tbm tkX2_copyFrom (i := 46) rfl) rfl (Nat.le_of_ble_eq_true rfl) wd_85 (fun x39 => ?_)
  refine q_wr RX2 TX2 14 (tbm tkX2_copyFrom (i := 47) rfl) rfl (Nat.le_of_ble_eq_true rfl) (Or.inl rfl) wd_85 (fun h40 => ?_)
  refine q_run tkX2_copyFrom 48 2 (pc' := 98) (L' := [some (.inr (.inr a0)), some (.inr (.inr a1)), some (.inl (0 : Int32))]) (st' := []) rfl ?_
  exact sX2_copyFrom_98 X FU h40 a0 a1 (0 : Int32)
theorem ceX2_copyFrom : Ce mX2_copyFrom 1 := ⟨wd_20, wd_347, by decide +kernel, by decide +kernel, by decide +kernel⟩
/-- ReceiptRolls$State.copyReceipts -/
abbrev mX4_copyReceipts : MI := (yX4_copyReceipts, cX4_copyReceipts, 3, none, 1)
def tbX4_copyReceipts : List TE := [(0, .iconst 0, 1, 0, 0), (1, .istore_n 2, 1, 0, 0), (2, .iload_n 2, 1, 0, 0), (3, .aload_n 0, 1, 0, 0), (4, .arraylength, 1, 0, 0), (5, .if_icmp .ge 36, 3, 0, 41), (8, .iload_n 2, 1, 0, 0), (9, .aload_n 1, 1, 0, 0), (10, .arraylength, 1, 0, 0), (11, .if_icmp .ge 30, 3, 0, 41), (14, .aload_n 0, 1, 0, 0), (15, .iload_n 2, 1, 0, 0), (16, .aaload, 1, 0, 0), (17, .ifnull 18, 3, 0, 35), (20, .aload_n 1, 1, 0, 0), (21, .iload_n 2, 1, 0, 0), (22, .aaload, 1, 0, 0), (23, .ifnull 12, 3, 0, 35), (26, .aload_n 1, 1, 0, 0), (27, .iload_n 2, 1, 0, 0), (28, .aaload, 1, 0, 0), (29, .aload_n 0, 1, 0, 0), (30, .iload_n 2, 1, 0, 0), (31, .aaload, 1, 0, 0), (32, .invokevirtual 60, 3, 0, 0), (35, .iinc 2 1, 3, 1, 0), (38, .goto (-36), 3, 0, 2), (41, .return_, 1, 0, 0)]
theorem tkX4_copyReceipts : ∀ x ∈ tbX4_copyReceipts, tbB cX4_copyReceipts x = true := tb_all (by decide +kernel)
def fX4_copyReceipts_35 (c : Nat → Option Nat) (k2 : Hp → Option Nat → Option Nat → Int32 → Rs) (h : Hp) (l0 : Option Nat) (l1 : Option Nat) (l2 : Int32) : Rs := k2 h l0 l1 (l2 + (1 : Int32))
set_option maxHeartbeats 4000000 in
set_option maxRecDepth 100000 in
theorem sX4_copyReceipts_35 (X : Cx) {h0 : Hp} (k2 : Hp → Option Nat → Option Nat → Int32 → Rs) (hk2 : ∀ (h : Hp) (l0 : Option Nat) (l1 : Option Nat) (l2 : Int32), Gd X mX4_copyReceipts h0 (k2 h l0 l1 l2) h 2 [some (.inr (.inr l0)), some (.inr (.inr l1)), some (.inl l2)] []) (h : Hp) (l0 : Option Nat) (l1 : Option Nat) (l2 : Int32) : Gd X mX4_copyReceipts h0 (fX4_copyReceipts_35 X.2.2.2 k2 h l0 l1 l2) h 35 [some (.inr (.inr l0)), some (.inr (.inr l1)), some (.inl l2)] [] := by
  unfold fX4_copyReceipts_35
  refine q_run tkX4_copyReceipts 25 2 (pc' := 2) (L' := [some (.inr (.inr l0)), some (.inr (.inr l1)), some (.inl (l2 + (1 : Int32)))]) (st' := []) rfl ?_
  exact hk2 h l0 l1 (l2 + (1 : Int32))
def fX4_copyReceipts_41 (c : Nat → Option Nat) (h : Hp) : Rs := some (h, none)
set_option maxHeartbeats 4000000 in
set_option maxRecDepth 100000 in
theorem sX4_copyReceipts_41 (X : Cx) {h0 : Hp} (h : Hp) : Gd X mX4_copyReceipts h0 (fX4_copyReceipts_41 X.2.2.2 h) h 41 [none, none, none] [] := by
  unfold fX4_copyReceipts_41
  exact q_vret (tbm tkX4_copyReceipts (i := 27) rfl) rfl
def fX4_copyReceipts_2 (c : Nat → Option Nat) : Nat → Hp → Option Nat → Option Nat → Int32 → Rs
  | 0, _, _, _, _ => none
  | n + 1, h, l0, l1, l2 => lenA h l0 (fun x1 => if l2 < x1 then (lenA h l1 (fun x2 => if l2 < x2 then (aldR h l0 l2 (fun r3 => ifN r3 (fX4_copyReceipts_35 c (fX4_copyReceipts_2 c n) h l0 l1 l2) (aldR h l1 l2 (fun r4 => ifN r4 (fX4_copyReceipts_35 c (fX4_copyReceipts_2 c n) h l0 l1 l2) (aldR h l1 l2 (fun r5 => aldR h l0 l2 (fun r6 => ck h r5 4 (cc (fX2_copyFrom c h r5 r6) (kV fun h7 => fX4_copyReceipts_35 c (fX4_copyReceipts_2 c n) h7 l0 l1 l2))))))))) else (fX4_copyReceipts_41 c h))) else (fX4_copyReceipts_41 c h))
set_option maxHeartbeats 4000000 in
set_option maxRecDepth 100000 in
theorem sX4_copyReceipts_2 (X : Cx) {h0 : Hp} : ∀ (n : Nat) (h : Hp) (l0 : Option Nat) (l1 : Option Nat) (l2 : Int32), Gd X mX4_copyReceipts h0 (fX4_copyReceipts_2 X.2.2.2 n h l0 l1 l2) h 2 [some (.inr (.inr l0)), some (.inr (.inr l1)), some (.inl l2)] [] := by
  intro n
  induction n with
  | zero => intros; exact gd_none
  | succ n ih =>
    intro h l0 l1 l2
    unfold fX4_copyReceipts_2
    refine q_run tkX4_copyReceipts 2 2 (pc' := 4) (L' := [some (.inr (.inr l0)), some (.inr (.inr l1)), some (.inl l2)]) (st' := [.inr (.inr l0), .inl l2]) rfl ?_
    refine q_alen (tbm tkX4_copyReceipts (i := 4) rfl) (fun x1 => ?_)
    refine q_icmp_ge (tbm tkX4_copyReceipts (i := 5) rfl) ?_ ?_
    · refine q_run tkX4_copyReceipts 6 2 (pc' := 10) (L' := [some (.inr (.inr l0)), some (.inr (.inr l1)), some (.inl l2)]) (st' := [.inr (.inr l1), .inl l2]) rfl ?_
      refine q_alen (tbm tkX4_copyReceipts (i := 8) rfl) (fun x2 => ?_)
      refine q_icmp_ge (tbm tkX4_copyReceipts (i := 9) rfl) ?_ ?_
      · refine q_run tkX4_copyReceipts 10 2 (pc' := 16) (L' := [some (.inr (.inr l0)), some (.inr (.inr l1)), some (.inl l2)]) (st' := [.inl l2, .inr (.inr l0)]) rfl ?_
        refine q_aaload (tbm tkX4_copyReceipts (i := 12) rfl) (fun r3 => ?_)
        refine q_ifnull (tbm tkX4_copyReceipts (i := 13) rfl) ?_ ?_
        · exact sX4_copyReceipts_35 X (fX4_copyReceipts_2 X.2.2.2 n) ih h l0 l1 l2
        · refine q_run tkX4_copyReceipts 14 2 (pc' := 22) (L' := [some (.inr (.inr l0)), some (.inr (.inr l1)), some (.inl l2)]) (st' := [.inl l2, .inr (.inr l1)]) rfl ?_
          refine q_aaload (tbm tkX4_copyReceipts (i := 16) rfl) (fun r4 => ?_)
          refine q_ifnull (tbm tkX4_copyReceipts (i := 17) rfl) ?_ ?_
          · exact sX4_copyReceipts_35 X (fX4_copyReceipts_2 X.2.2.2 n) ih h l0 l1 l2
          · refine q_run tkX4_copyReceipts 18 2 (pc' := 28) (L' := [some (.inr (.inr l0)), some (.inr (.inr l1)), some (.inl l2)]) (st' := [.inl l2, .inr (.inr l1)]) rfl ?_
            refine q_aaload (tbm tkX4_copyReceipts (i := 20) rfl) (fun r5 => ?_)
            refine q_run tkX4_copyReceipts 21 2 (pc' := 31) (L' := [some (.inr (.inr l0)), some (.inr (.inr l1)), some (.inl l2)]) (st' := [.inl l2, .inr (.inr l0), .inr (.inr r5)]) rfl ?_
            refine q_aaload (tbm tkX4_copyReceipts (i := 23) rfl) (fun r6 => ?_)
            refine q_cv (r := r5) (ci := 4) (n := 1) (as := [.inr (.inr r6)]) (st := []) TX2 14 (soX2_copyFrom X h r5 r6) (tbm tkX4_copyReceipts (i := 24) rfl) rfl rfl ceX2_copyFrom wd_345 wd_346 wd_344 rfl (Nat.le_of_ble_eq_true rfl) (kV_gd (fun h7 => ?_))
            exact sX4_copyReceipts_35 X (fX4_copyReceipts_2 X.2.2.2 n) ih h7 l0 l1 l2
      · refine q_le (L' := [none, none, none]) (lvLe_n (lvLe_n (lvLe_n lvLe_0))) ?_
        exact sX4_copyReceipts_41 X h
    · refine q_le (L' := [none, none, none]) (lvLe_n (lvLe_n (lvLe_n lvLe_0))) ?_
      exact sX4_copyReceipts_41 X h
def fX4_copyReceipts (c : Nat → Option Nat) (h : Hp) (a0 : Option Nat) (a1 : Option Nat) : Rs := fX4_copyReceipts_2 c FU h a0 a1 (0 : Int32)
set_option maxHeartbeats 4000000 in
set_option maxRecDepth 100000 in
theorem soX4_copyReceipts (X : Cx) (h : Hp) (a0 : Option Nat) (a1 : Option Nat) : SO X mX4_copyReceipts [.inr (.inr a0), .inr (.inr a1)] h (fX4_copyReceipts X.2.2.2 h a0 a1) := by
  refine so_of (by decide +kernel) (Nat.le_of_ble_eq_true rfl) ?_
  show Gd X mX4_copyReceipts h (fX4_copyReceipts X.2.2.2 h a0 a1) h 0 [some (.inr (.inr a0)), some (.inr (.inr a1)), none] []
  unfold fX4_copyReceipts
  refine q_run tkX4_copyReceipts 0 2 (pc' := 2) (L' := [some (.inr (.inr a0)), some (.inr (.inr a1)), some (.inl (0 : Int32))]) (st' := []) rfl ?_
  exact sX4_copyReceipts_2 X FU h a0 a1 (0 : Int32)
theorem ceX4_copyReceipts : Ce mX4_copyReceipts 2 := ⟨wd_19, wd_343, by decide +kernel, by decide +kernel, by decide +kernel⟩
/-- ReceiptRolls$State.copyFrom -/
abbrev mX4_copyFrom : MI := (yX4_copyFrom, cX4_copyFrom, 3, none, 2)
def tbX4_copyFrom : List TE := [(0, .aload_n 0, 1, 0, 0), (1, .aload_n 1, 1, 0, 0), (2, .getfield 9, 3, 0, 0), (5, .putfield 9, 3, 0, 0), (8, .aload_n 0, 1, 0, 0), (9, .aload_n 1, 1, 0, 0), (10, .getfield 32, 3, 0, 0), (13, .putfield 32, 3, 0, 0), (16, .aload_n 0, 1, 0, 0), (17, .aload_n 1, 1, 0, 0), (18, .getfield 35, 3, 0, 0), (21, .putfield 35, 3, 0, 0), (24, .aload_n 0, 1, 0, 0), (25, .aload_n 1, 1, 0, 0), (26, .getfield 15, 3, 0, 0), (29, .putfield 15, 3, 0, 0), (32, .aload_n 0, 1, 0, 0), (33, .aload_n 1, 1, 0, 0), (34, .getfield 38, 3, 0, 0), (37, .putfield 38, 3, 0, 0), (40, .aload_n 0, 1, 0, 0), (41, .aload_n 1, 1, 0, 0), (42, .getfield 41, 3, 0, 0), (45, .putfield 41, 3, 0, 0), (48, .aload_n 0, 1, 0, 0), (49, .aload_n 1, 1, 0, 0), (50, .getfield 44, 3, 0, 0), (53, .putfield 44, 3, 0, 0), (56, .aload_n 0, 1, 0, 0), (57, .aload_n 1, 1, 0, 0), (58, .getfield 47, 3, 0, 0), (61, .putfield 47, 3, 0, 0), (64, .aload_n 0, 1, 0, 0), (65, .aload_n 1, 1, 0, 0), (66, .getfield 50, 3, 0, 0), (69, .putfield 50, 3, 0, 0), (72, .aload_n 0, 1, 0, 0), (73, .aload_n 1, 1, 0, 0), (74, .getfield 53, 3, 0, 0), (77, .putfield 53, 3, 0, 0), (80, .iconst 0, 1, 0, 0), (81, .istore_n 2, 1, 0, 0), (82, .iload_n 2, 1, 0, 0), (83, .aload_n 0, 1, 0, 0), (84, .getfield 18, 3, 0, 0), (87, .arraylength, 1, 0, 0), (88, .if_icmp .ge 30, 3, 0, 118), (91, .iload_n 2, 1, 0, 0), (92, .aload_n 1, 1, 0, 0), (93, .getfield 18, 3, 0, 0), (96, .arraylength, 1, 0, 0), (97, .if_icmp .ge 21, 3, 0, 118), (100, .aload_n 0, 1, 0, 0), (101, .getfield 18, 3, 0, 0), (104, .iload_n 2, 1, 0, 0), (105, .aload_n 1, 1, 0, 0), (106, .getfield 18, 3, 0, 0), (109, .iload_n 2, 1, 0, 0), (110, .iaload, 1, 0, 0), (111, .iastore, 1, 0, 0), (112, .iinc 2 1, 3, 1, 0), (115, .goto (-33), 3, 0, 82), (118, .aload_n 1, 1, 0, 0), (119, .getfield 24, 3, 0, 0), (122, .aload_n 0, 1, 0, 0), (123, .getfield 24, 3, 0, 0), (126, .invokestatic 56, 3, 0, 0), (129, .aload_n 1, 1, 0, 0), (130, .getfield 28, 3, 0, 0), (133, .aload_n 0, 1, 0, 0), (134, .getfield 28, 3, 0, 0), (137, .invokestatic 56, 3, 0, 0), (140, .return_, 1, 0, 0)]
theorem tkX4_copyFrom : ∀ x ∈ tbX4_copyFrom, tbB cX4_copyFrom x = true := tb_all (by decide +kernel)
def fX4_copyFrom_118 (c : Nat → Option Nat) (h : Hp) (l0 : Option Nat) (l1 : Option Nat) : Rs := rdR h l1 6 11 (fun r1 => rdR h l0 6 11 (fun r2 => cc (fX4_copyReceipts c h r1 r2) (kV fun h3 => rdR h3 l1 6 12 (fun r4 => rdR h3 l0 6 12 (fun r5 => cc (fX4_copyReceipts c h3 r4 r5) (kV fun h6 => some (h6, none)))))))
set_option maxHeartbeats 4000000 in
set_option maxRecDepth 100000 in
theorem sX4_copyFrom_118 (X : Cx) {h0 : Hp} (h : Hp) (l0 : Option Nat) (l1 : Option Nat) : Gd X mX4_copyFrom h0 (fX4_copyFrom_118 X.2.2.2 h l0 l1) h 118 [some (.inr (.inr l0)), some (.inr (.inr l1)), none] [] := by
  unfold fX4_copyFrom_118
  refine q_run tkX4_copyFrom 62 1 (pc' := 119) (L' := [some (.inr (.inr l0)), some (.inr (.inr l1)), none]) (st' := [.inr (.inr l1)]) rfl ?_
  refine q_rdR RX4 TX4 13 (tbm tkX4_copyFrom (i := 63) rfl) rfl (Nat.le_of_ble_eq_true rfl) wd_140 (fun r1 => ?_)
  refine q_run tkX4_copyFrom 64 1 (pc' := 123) (L' := [some (.inr (.inr l0)), some (.inr (.inr l1)), none]) (st' := [.inr (.inr l0), .inr (.inr r1)]) rfl ?_
  refine q_rdR RX4 TX4 13 (tbm tkX4_copyFrom (i := 65) rfl) rfl (Nat.le_of_ble_eq_true rfl) wd_140 (fun r2 => ?_)
  refine q_cs (n := 2) (as := [.inr (.inr r1), .inr (.inr r2)]) (st := []) (soX4_copyReceipts X h r1 r2) (tbm tkX4_copyFrom (i := 66) rfl) rfl ceX4_copyReceipts wd_342 wd_341 rfl (Nat.le_of_ble_eq_true rfl) (kV_gd (fun h3 => ?_))
  refine q_run tkX4_copyFrom 67 1 (pc' := 130) (L' := [some (.inr (.inr l0)), some (.inr (.inr l1)), none]) (st' := [.inr (.inr l1)]) rfl ?_
  refine q_rdR RX4 TX4 13 (tbm tkX4_copyFrom (i := 68) rfl) rfl (Nat.le_of_ble_eq_true rfl) wd_141 (fun r4 => ?_)
  refine q_run tkX4_copyFrom 69 1 (pc' := 134) (L' := [some (.inr (.inr l0)), some (.inr (.inr l1)), none]) (st' := [.inr (.inr l0), .inr (.inr r4)]) rfl ?_
  refine q_rdR RX4 TX4 13 (tbm tkX4_copyFrom (i := 70) rfl) rfl (Nat.le_of_ble_eq_true rfl) wd_141 (fun r5 => ?_)
  refine q_cs (n := 2) (as := [.inr (.inr r4), .inr (.inr r5)]) (st := []) (soX4_copyReceipts X h3 r4 r5) (tbm tkX4_copyFrom (i := 71) rfl) rfl ceX4_copyReceipts wd_342 wd_341 rfl (Nat.le_of_ble_eq_true rfl) (kV_gd (fun h6 => ?_))
  exact q_vret (tbm tkX4_copyFrom (i := 72) rfl) rfl
def fX4_copyFrom_82 (c : Nat → Option Nat) : Nat → Hp → Option Nat → Option Nat → Int32 → Rs
  | 0, _, _, _, _ => none
  | n + 1, h, l0, l1, l2 => rdR h l0 6 10 (fun r7 => lenA h r7 (fun x8 => if l2 < x8 then (rdR h l1 6 10 (fun r9 => lenA h r9 (fun x10 => if l2 < x10 then (rdR h l0 6 10 (fun r11 => rdR h l1 6 10 (fun r12 => aldI h r12 [0, 10] l2 (fun x13 => astI h r11 [0] l2 x13 (fun h14 => fX4_copyFrom_82 c n h14 l0 l1 (l2 + (1 : Int32))))))) else (fX4_copyFrom_118 c h l0 l1)))) else (fX4_copyFrom_118 c h l0 l1)))
set_option maxHeartbeats 4000000 in
set_option maxRecDepth 100000 in
theorem sX4_copyFrom_82 (X : Cx) {h0 : Hp} : ∀ (n : Nat) (h : Hp) (l0 : Option Nat) (l1 : Option Nat) (l2 : Int32), Gd X mX4_copyFrom h0 (fX4_copyFrom_82 X.2.2.2 n h l0 l1 l2) h 82 [some (.inr (.inr l0)), some (.inr (.inr l1)), some (.inl l2)] [] := by
  intro n
  induction n with
  | zero => intros; exact gd_none
  | succ n ih =>
    intro h l0 l1 l2
    unfold fX4_copyFrom_82
    refine q_run tkX4_copyFrom 42 2 (pc' := 84) (L' := [some (.inr (.inr l0)), some (.inr (.inr l1)), some (.inl l2)]) (st' := [.inr (.inr l0), .inl l2]) rfl ?_
    refine q_rdR RX4 TX4 13 (tbm tkX4_copyFrom (i := 44) rfl) rfl (Nat.le_of_ble_eq_true rfl) wd_139 (fun r7 => ?_)
    refine q_alen (tbm tkX4_copyFrom (i := 45) rfl) (fun x8 => ?_)
    refine q_icmp_ge (tbm tkX4_copyFrom (i := 46) rfl) ?_ ?_
    · refine q_run tkX4_copyFrom 47 2 (pc' := 93) (L' := [some (.inr (.inr l0)), some (.inr (.inr l1)), some (.inl l2)]) (st' := [.inr (.inr l1), .inl l2]) rfl ?_
      refine q_rdR RX4 TX4 13 (tbm tkX4_copyFrom (i := 49) rfl) rfl (Nat.le_of_ble_eq_true rfl) wd_139 (fun r9 => ?_)
      refine q_alen (tbm tkX4_copyFrom (i := 50) rfl) (fun x10 => ?_)
      refine q_icmp_ge (tbm tkX4_copyFrom (i := 51) rfl) ?_ ?_
      · refine q_run tkX4_copyFrom 52 1 (pc' := 101) (L' := [some (.inr (.inr l0)), some (.inr (.inr l1)), some (.inl l2)]) (st' := [.inr (.inr l0)]) rfl ?_
        refine q_rdR RX4 TX4 13 (tbm tkX4_copyFrom (i := 53) rfl) rfl (Nat.le_of_ble_eq_true rfl) wd_139 (fun r11 => ?_)
        refine q_run tkX4_copyFrom 54 2 (pc' := 106) (L' := [some (.inr (.inr l0)), some (.inr (.inr l1)), some (.inl l2)]) (st' := [.inr (.inr l1), .inl l2, .inr (.inr r11)]) rfl ?_
        refine q_rdR RX4 TX4 13 (tbm tkX4_copyFrom (i := 56) rfl) rfl (Nat.le_of_ble_eq_true rfl) wd_139 (fun r12 => ?_)
        refine q_run tkX4_copyFrom 57 1 (pc' := 110) (L' := [some (.inr (.inr l0)), some (.inr (.inr l1)), some (.inl l2)]) (st' := [.inl l2, .inr (.inr r12), .inl l2, .inr (.inr r11)]) rfl ?_
        refine q_iaload (tbm tkX4_copyFrom (i := 58) rfl) (fun x13 => ?_)
        refine q_iastore (tbm tkX4_copyFrom (i := 59) rfl) (fun h14 => ?_)
        refine q_run tkX4_copyFrom 60 2 (pc' := 82) (L' := [some (.inr (.inr l0)), some (.inr (.inr l1)), some (.inl (l2 + (1 : Int32)))]) (st' := []) rfl ?_
        exact ih h14 l0 l1 (l2 + (1 : Int32))
      · refine q_le (L' := [some (.inr (.inr l0)), some (.inr (.inr l1)), none]) (lvLe_s (lvLe_s (lvLe_n lvLe_0))) ?_
        exact sX4_copyFrom_118 X h l0 l1
    · refine q_le (L' := [some (.inr (.inr l0)), some (.inr (.inr l1)), none]) (lvLe_s (lvLe_s (lvLe_n lvLe_0))) ?_
      exact sX4_copyFrom_118 X h l0 l1
def fX4_copyFrom (c : Nat → Option Nat) (h : Hp) (a0 : Option Nat) (a1 : Option Nat) : Rs := rdI h a1 6 0 (fun x15 => wr h a0 6 0 (.inl x15) (fun h16 => rdI h16 a1 6 1 (fun x17 => wr h16 a0 6 1 (.inl x17) (fun h18 => rdI h18 a1 6 2 (fun x19 => wr h18 a0 6 2 (.inl x19) (fun h20 => rdI h20 a1 6 3 (fun x21 => wr h20 a0 6 3 (.inl x21) (fun h22 => rdI h22 a1 6 4 (fun x23 => wr h22 a0 6 4 (.inl x23) (fun h24 => rdI h24 a1 6 5 (fun x25 => wr h24 a0 6 5 (.inl x25) (fun h26 => rdI h26 a1 6 6 (fun x27 => wr h26 a0 6 6 (.inl x27) (fun h28 => rdI h28 a1 6 7 (fun x29 => wr h28 a0 6 7 (.inl x29) (fun h30 => rdI h30 a1 6 8 (fun x31 => wr h30 a0 6 8 (.inl x31) (fun h32 => rdI h32 a1 6 9 (fun x33 => wr h32 a0 6 9 (.inl x33) (fun h34 => fX4_copyFrom_82 c FU h34 a0 a1 (0 : Int32)))))))))))))))))))))
set_option maxHeartbeats 4000000 in
set_option maxRecDepth 100000 in
theorem soX4_copyFrom (X : Cx) (h : Hp) (a0 : Option Nat) (a1 : Option Nat) : SO X mX4_copyFrom [.inr (.inr a0), .inr (.inr a1)] h (fX4_copyFrom X.2.2.2 h a0 a1) := by
  refine so_of (by decide +kernel) (Nat.le_of_ble_eq_true rfl) ?_
  show Gd X mX4_copyFrom h (fX4_copyFrom X.2.2.2 h a0 a1) h 0 [some (.inr (.inr a0)), some (.inr (.inr a1)), none] []
  unfold fX4_copyFrom
  refine q_run tkX4_copyFrom 0 2 (pc' := 2) (L' := [some (.inr (.inr a0)), some (.inr (.inr a1)), none]) (st' := [.inr (.inr a1), .inr (.inr a0)]) rfl ?_
  refine q_rdI RX4 TX4 13 (tbm tkX4_copyFrom (i := 2) rfl) rfl (Nat.le_of_ble_eq_true rfl) wd_119 (fun x15 => ?_)
  refine q_wr RX4 TX4 13 (tbm tkX4_copyFrom (i := 3) rfl) rfl (Nat.le_of_ble_eq_true rfl) (Or.inl rfl) wd_119 (fun h16 => ?_)
  refine q_run tkX4_copyFrom 4 2 (pc' := 10) (L' := [some (.inr (.inr a0)), some (.inr (.inr a1)), none]) (st' := [.inr (.inr a1), .inr (.inr a0)]) rfl ?_
  refine q_rdI RX4 TX4 13 (tbm tkX4_copyFrom (i := 6) rfl) rfl (Nat.le_of_ble_eq_true rfl) wd_121 (fun x17 => ?_)
  refine q_wr RX4 TX4 13 (tbm tkX4_copyFrom (i := 7) rfl) rfl (Nat.le_of_ble_eq_true rfl) (Or.inl rfl) wd_121 (fun h18 => ?_)
  refine q_run tkX4_copyFrom 8 2 (pc' := 18) (L' := [some (.inr (.inr a0)), some (.inr (.inr a1)), none]) (st' := [.inr (.inr a1), .inr (.inr a0)]) rfl ?_
  refine q_rdI RX4 TX4 13 (tbm tkX4_copyFrom (i := 10) rfl) rfl (Nat.le_of_ble_eq_true rfl) wd_123 (fun x19 => ?_)
  refine q_wr RX4 TX4 13 (tbm tkX4_copyFrom (i := 11) rfl) rfl (Nat.le_of_ble_eq_true rfl) (Or.inl rfl) wd_123 (fun h20 => ?_)
  refine q_run tkX4_copyFrom 12 2 (pc' := 26) (L' := [some (.inr (.inr a0)), some (.inr (.inr a1)), none]) (st' := [.inr (.inr a1), .inr (.inr a0)]) rfl ?_
  refine q_rdI RX4 TX4 13 (tbm tkX4_copyFrom (i := 14) rfl) rfl (Nat.le_of_ble_eq_true rfl) wd_125 (fun x21 => ?_)
  refine q_wr RX4 TX4 13 (tbm tkX4_copyFrom (i := 15) rfl) rfl (Nat.le_of_ble_eq_true rfl) (Or.inl rfl) wd_125 (fun h22 => ?_)
  refine q_run tkX4_copyFrom 16 2 (pc' := 34) (L' := [some (.inr (.inr a0)), some (.inr (.inr a1)), none]) (st' := [.inr (.inr a1), .inr (.inr a0)]) rfl ?_
  refine q_rdI RX4 TX4 13 (tbm tkX4_copyFrom (i := 18) rfl) rfl (Nat.le_of_ble_eq_true rfl) wd_127 (fun x23 => ?_)
  refine q_wr RX4 TX4 13 (tbm tkX4_copyFrom (i := 19) rfl) rfl (Nat.le_of_ble_eq_true rfl) (Or.inl rfl) wd_127 (fun h24 => ?_)
  refine q_run tkX4_copyFrom 20 2 (pc' := 42) (L' := [some (.inr (.inr a0)), some (.inr (.inr a1)), none]) (st' := [.inr (.inr a1), .inr (.inr a0)]) rfl ?_
  refine q_rdI RX4 TX4 13 (tbm tkX4_copyFrom (i := 22) rfl) rfl (Nat.le_of_ble_eq_true rfl) wd_129 (fun x25 => ?_)
  refine q_wr RX4 TX4 13 (tbm tkX4_copyFrom (i := 23) rfl) rfl (Nat.le_of_ble_eq_true rfl) (Or.inl rfl) wd_129 (fun h26 => ?_)
  refine q_run tkX4_copyFrom 24 2 (pc' := 50) (L' := [some (.inr (.inr a0)), some (.inr (.inr a1)), none]) (st' := [.inr (.inr a1), .inr (.inr a0)]) rfl ?_
  refine q_rdI RX4 TX4 13 (tbm tkX4_copyFrom (i := 26) rfl) rfl (Nat.le_of_ble_eq_true rfl) wd_131 (fun x27 => ?_)
  refine q_wr RX4 TX4 13 (tbm tkX4_copyFrom (i := 27) rfl) rfl (Nat.le_of_ble_eq_true rfl) (Or.inl rfl) wd_131 (fun h28 => ?_)
  refine q_run tkX4_copyFrom 28 2 (pc' := 58) (L' := [some (.inr (.inr a0)), some (.inr (.inr a1)), none]) (st' := [.inr (.inr a1), .inr (.inr a0)]) rfl ?_
  refine q_rdI RX4 TX4 13 (tbm tkX4_copyFrom (i := 30) rfl) rfl (Nat.le_of_ble_eq_true rfl) wd_133 (fun x29 => ?_)
  refine q_wr RX4 TX4 13 (tbm tkX4_copyFrom (i := 31) rfl) rfl (Nat.le_of_ble_eq_true rfl) (Or.inl rfl) wd_133 (fun h30 => ?_)
  refine q_run tkX4_copyFrom 32 2 (pc' := 66) (L' := [some (.inr (.inr a0)), some (.inr (.inr a1)), none]) (st' := [.inr (.inr a1), .inr (.inr a0)]) rfl ?_
  refine q_rdI RX4 TX4 13 (tbm tkX4_copyFrom (i := 34) rfl) rfl (Nat.le_of_ble_eq_true rfl) wd_135 (fun x31 => ?_)
  refine q_wr RX4 TX4 13 (tbm tkX4_copyFrom (i := 35) rfl) rfl (Nat.le_of_ble_eq_true rfl) (Or.inl rfl) wd_135 (fun h32 => ?_)
  refine q_run tkX4_copyFrom 36 2 (pc' := 74) (L' := [some (.inr (.inr a0)), some (.inr (.inr a1)), none]) (st' := [.inr (.inr a1), .inr (.inr a0)]) rfl ?_
  refine q_rdI RX4 TX4 13 (tbm tkX4_copyFrom (i := 38) rfl) rfl (Nat.le_of_ble_eq_true rfl) wd_137 (fun x33 => ?_)
  refine q_wr RX4 TX4 13 (tbm tkX4_copyFrom (i := 39) rfl) rfl (Nat.le_of_ble_eq_true rfl) (Or.inl rfl) wd_137 (fun h34 => ?_)
  refine q_run tkX4_copyFrom 40 2 (pc' := 82) (L' := [some (.inr (.inr a0)), some (.inr (.inr a1)), some (.inl (0 : Int32))]) (st' := []) rfl ?_
  exact sX4_copyFrom_82 X FU h34 a0 a1 (0 : Int32)
theorem ceX4_copyFrom : Ce mX4_copyFrom 1 := ⟨wd_19, wd_340, by decide +kernel, by decide +kernel, by decide +kernel⟩
/-- ReceiptRolls$History.remember -/
abbrev mX0_remember : MI := (yX0_remember, cX0_remember, 2, none, 3)
def tbX0_remember : List TE := [(0, .aload_n 0, 1, 0, 0), (1, .getfield 18, 3, 0, 0), (4, .aload_n 0, 1, 0, 0), (5, .getfield 11, 3, 0, 0), (8, .arraylength, 1, 0, 0), (9, .if_icmp .lt 7, 3, 0, 16), (12, .aload_n 0, 1, 0, 0), (13, .invokevirtual 22, 3, 0, 0), (16, .aload_n 0, 1, 0, 0), (17, .getfield 18, 3, 0, 0), (20, .ifCond .lt 50, 3, 0, 70), (23, .aload_n 0, 1, 0, 0), (24, .getfield 18, 3, 0, 0), (27, .aload_n 0, 1, 0, 0), (28, .getfield 11, 3, 0, 0), (31, .arraylength, 1, 0, 0), (32, .if_icmp .ge 38, 3, 0, 70), (35, .aload_n 0, 1, 0, 0), (36, .getfield 11, 3, 0, 0), (39, .aload_n 0, 1, 0, 0), (40, .getfield 18, 3, 0, 0), (43, .aaload, 1, 0, 0), (44, .ifnull 26, 3, 0, 70), (47, .aload_n 0, 1, 0, 0), (48, .getfield 11, 3, 0, 0), (51, .aload_n 0, 1, 0, 0), (52, .getfield 18, 3, 0, 0), (55, .aaload, 1, 0, 0), (56, .aload_n 1, 1, 0, 0), (57, .invokevirtual 25, 3, 0, 0), (60, .aload_n 0, 1, 0, 0), (61, .dup, 1, 0, 0), (62, .getfield 18, 3, 0, 0), (65, .iconst 1, 1, 1, 0), (66, .iadd, 1, 0, 0), (67, .putfield 18, 3, 0, 0), (70, .return_, 1, 0, 0)]
theorem tkX0_remember : ∀ x ∈ tbX0_remember, tbB cX0_remember x = true := tb_all (by decide +kernel)
def fX0_remember_70 (c : Nat → Option Nat) (h : Hp) : Rs := some (h, none)
set_option maxHeartbeats 4000000 in
set_option maxRecDepth 100000 in
theorem sX0_remember_70 (X : Cx) {h0 : Hp} (h : Hp) : Gd X mX0_remember h0 (fX0_remember_70 X.2.2.2 h) h 70 [none, none] [] := by
  unfold fX0_remember_70
  exact q_vret (tbm tkX0_remember (i := 36) rfl) rfl
def fX0_remember_16 (c : Nat → Option Nat) (h : Hp) (l0 : Option Nat) (l1 : Option Nat) : Rs := rdI h l0 2 0 (fun x1 => if x1 < 0 then (fX0_remember_70 c h) else (rdI h l0 2 0 (fun x2 => rdR h l0 2 1 (fun r3 => lenA h r3 (fun x4 => if x2 < x4 then (rdR h l0 2 1 (fun r5 => rdI h l0 2 0 (fun x6 => aldR h r5 x6 (fun r7 => ifN r7 (fX0_remember_70 c h) (rdR h l0 2 1 (fun r8 => rdI h l0 2 0 (fun x9 => aldR h r8 x9 (fun r10 => ck h r10 6 (cc (fX4_copyFrom c h r10 l1) (kV fun h11 => rdI h11 l0 2 0 (fun x12 => wr h11 l0 2 0 (.inl (x12 + (1 : Int32))) (fun h13 => fX0_remember_70 c h13)))))))))))) else (fX0_remember_70 c h))))))
set_option maxHeartbeats 4000000 in
set_option maxRecDepth 100000 in
theorem sX0_remember_16 (X : Cx) {h0 : Hp} (h : Hp) (l0 : Option Nat) (l1 : Option Nat) : Gd X mX0_remember h0 (fX0_remember_16 X.2.2.2 h l0 l1) h 16 [some (.inr (.inr l0)), some (.inr (.inr l1))] [] := by
  unfold fX0_remember_16
  refine q_run tkX0_remember 8 1 (pc' := 17) (L' := [some (.inr (.inr l0)), some (.inr (.inr l1))]) (st' := [.inr (.inr l0)]) rfl ?_
  refine q_rdI RX0 TX0 2 (tbm tkX0_remember (i := 9) rfl) rfl (Nat.le_of_ble_eq_true rfl) wd_178 (fun x1 => ?_)
  refine q_if_lt (tbm tkX0_remember (i := 10) rfl) ?_ ?_
  · refine q_le (L' := [none, none]) (lvLe_n (lvLe_n lvLe_0)) ?_
    exact sX0_remember_70 X h
  · refine q_run tkX0_remember 11 1 (pc' := 24) (L' := [some (.inr (.inr l0)), some (.inr (.inr l1))]) (st' := [.inr (.inr l0)]) rfl ?_
    refine q_rdI RX0 TX0 2 (tbm tkX0_remember (i := 12) rfl) rfl (Nat.le_of_ble_eq_true rfl) wd_178 (fun x2 => ?_)
    refine q_run tkX0_remember 13 1 (pc' := 28) (L' := [some (.inr (.inr l0)), some (.inr (.inr l1))]) (st' := [.inr (.inr l0), .inl x2]) rfl ?_
    refine q_rdR RX0 TX0 2 (tbm tkX0_remember (i := 14) rfl) rfl (Nat.le_of_ble_eq_true rfl) wd_180 (fun r3 => ?_)
    refine q_alen (tbm tkX0_remember (i := 15) rfl) (fun x4 => ?_)
    refine q_icmp_ge (tbm tkX0_remember (i := 16) rfl) ?_ ?_
    · refine q_run tkX0_remember 17 1 (pc' := 36) (L' := [some (.inr (.inr l0)), some (.inr (.inr l1))]) (st' := [.inr (.inr l0)]) rfl ?_
      refine q_rdR RX0 TX0 2 (tbm tkX0_remember (i := 18) rfl) rfl (Nat.le_of_ble_eq_true rfl) wd_180 (fun r5 => ?_)
      refine q_run tkX0_remember 19 1 (pc' := 40) (L' := [some (.inr (.inr l0)), some (.inr (.inr l1))]) (st' := [.inr (.inr l0), .inr (.inr r5)]) rfl ?_
      refine q_rdI RX0 TX0 2 (tbm tkX0_remember (i := 20) rfl) rfl (Nat.le_of_ble_eq_true rfl) wd_178 (fun x6 => ?_)
      refine q_aaload (tbm tkX0_remember (i := 21) rfl) (fun r7 => ?_)
      refine q_ifnull (tbm tkX0_remember (i := 22) rfl) ?_ ?_
      · refine q_le (L' := [none, none]) (lvLe_n (lvLe_n lvLe_0)) ?_
        exact sX0_remember_70 X h
      · refine q_run tkX0_remember 23 1 (pc' := 48) (L' := [some (.inr (.inr l0)), some (.inr (.inr l1))]) (st' := [.inr (.inr l0)]) rfl ?_
        refine q_rdR RX0 TX0 2 (tbm tkX0_remember (i := 24) rfl) rfl (Nat.le_of_ble_eq_true rfl) wd_180 (fun r8 => ?_)
        refine q_run tkX0_remember 25 1 (pc' := 52) (L' := [some (.inr (.inr l0)), some (.inr (.inr l1))]) (st' := [.inr (.inr l0), .inr (.inr r8)]) rfl ?_
        refine q_rdI RX0 TX0 2 (tbm tkX0_remember (i := 26) rfl) rfl (Nat.le_of_ble_eq_true rfl) wd_178 (fun x9 => ?_)
        refine q_aaload (tbm tkX0_remember (i := 27) rfl) (fun r10 => ?_)
        refine q_run tkX0_remember 28 1 (pc' := 57) (L' := [some (.inr (.inr l0)), some (.inr (.inr l1))]) (st' := [.inr (.inr l1), .inr (.inr r10)]) rfl ?_
        refine q_cv (r := r10) (ci := 6) (n := 1) (as := [.inr (.inr l1)]) (st := []) TX4 13 (soX4_copyFrom X h r10 l1) (tbm tkX0_remember (i := 29) rfl) rfl rfl ceX4_copyFrom wd_338 wd_339 wd_337 rfl (Nat.le_of_ble_eq_true rfl) (kV_gd (fun h11 => ?_))
        refine q_run tkX0_remember 30 2 (pc' := 62) (L' := [some (.inr (.inr l0)), some (.inr (.inr l1))]) (st' := [.inr (.inr l0), .inr (.inr l0)]) rfl ?_
        refine q_rdI RX0 TX0 2 (tbm tkX0_remember (i := 32) rfl) rfl (Nat.le_of_ble_eq_true rfl) wd_178 (fun x12 => ?_)
        refine q_run tkX0_remember 33 2 (pc' := 67) (L' := [some (.inr (.inr l0)), some (.inr (.inr l1))]) (st' := [.inl (x12 + (1 : Int32)), .inr (.inr l0)]) rfl ?_
        refine q_wr RX0 TX0 2 (tbm tkX0_remember (i := 35) rfl) rfl (Nat.le_of_ble_eq_true rfl) (Or.inl rfl) wd_178 (fun h13 => ?_)
        refine q_le (L' := [none, none]) (lvLe_n (lvLe_n lvLe_0)) ?_
        exact sX0_remember_70 X h13
    · refine q_le (L' := [none, none]) (lvLe_n (lvLe_n lvLe_0)) ?_
      exact sX0_remember_70 X h
def fX0_remember (c : Nat → Option Nat) (h : Hp) (a0 : Option Nat) (a1 : Option Nat) : Rs := rdI h a0 2 0 (fun x14 => rdR h a0 2 1 (fun r15 => lenA h r15 (fun x16 => if x14 < x16 then (fX0_remember_16 c h a0 a1) else (ck h a0 2 (cc (fX0_dropOldest c h a0) (kV fun h17 => fX0_remember_16 c h17 a0 a1))))))
set_option maxHeartbeats 4000000 in
set_option maxRecDepth 100000 in
theorem soX0_remember (X : Cx) (h : Hp) (a0 : Option Nat) (a1 : Option Nat) : SO X mX0_remember [.inr (.inr a0), .inr (.inr a1)] h (fX0_remember X.2.2.2 h a0 a1) := by
  refine so_of (by decide +kernel) (Nat.le_of_ble_eq_true rfl) ?_
  show Gd X mX0_remember h (fX0_remember X.2.2.2 h a0 a1) h 0 [some (.inr (.inr a0)), some (.inr (.inr a1))] []
  unfold fX0_remember
  refine q_run tkX0_remember 0 1 (pc' := 1) (L' := [some (.inr (.inr a0)), some (.inr (.inr a1))]) (st' := [.inr (.inr a0)]) rfl ?_
  refine q_rdI RX0 TX0 2 (tbm tkX0_remember (i := 1) rfl) rfl (Nat.le_of_ble_eq_true rfl) wd_178 (fun x14 => ?_)
  refine q_run tkX0_remember 2 1 (pc' := 5) (L' := [some (.inr (.inr a0)), some (.inr (.inr a1))]) (st' := [.inr (.inr a0), .inl x14]) rfl ?_
  refine q_rdR RX0 TX0 2 (tbm tkX0_remember (i := 3) rfl) rfl (Nat.le_of_ble_eq_true rfl) wd_180 (fun r15 => ?_)
  refine q_alen (tbm tkX0_remember (i := 4) rfl) (fun x16 => ?_)
  refine q_icmp_lt (tbm tkX0_remember (i := 5) rfl) ?_ ?_
  · exact sX0_remember_16 X h a0 a1
  · refine q_run tkX0_remember 6 1 (pc' := 13) (L' := [some (.inr (.inr a0)), some (.inr (.inr a1))]) (st' := [.inr (.inr a0)]) rfl ?_
    refine q_cv (r := a0) (ci := 2) (n := 0) (as := []) (st := []) TX0 2 (soX0_dropOldest X h a0) (tbm tkX0_remember (i := 7) rfl) rfl rfl ceX0_dropOldest wd_513 wd_10 wd_511 rfl (Nat.le_of_ble_eq_true rfl) (kV_gd (fun h17 => ?_))
    exact sX0_remember_16 X h17 a0 a1
theorem ceX0_remember : Ce mX0_remember 1 := ⟨wd_21, wd_510, by decide +kernel, by decide +kernel, by decide +kernel⟩
/-- ReceiptRolls$Receipt.closeAs -/
abbrev mX2_closeAs : MI := (yX2_closeAs, cX2_closeAs, 6, none, 0)
def tbX2_closeAs : List TE := [(0, .aload_n 0, 1, 0, 0), (1, .iload_n 1, 1, 0, 0), (2, .putfield 21, 3, 0, 0), (5, .aload_n 0, 1, 0, 0), (6, .iload_n 2, 1, 0, 0), (7, .putfield 25, 3, 0, 0), (10, .aload_n 0, 1, 0, 0), (11, .iload_n 3, 1, 0, 0), (12, .putfield 28, 3, 0, 0), (15, .aload_n 0, 1, 0, 0), (16, .iconst 0, 1, 0, 0), (17, .putfield 31, 3, 0, 0), (20, .aload_n 0, 1, 0, 0), (21, .iload 4, 2, 0, 0), (23, .putfield 34, 3, 0, 0), (26, .aload_n 0, 1, 0, 0), (27, .iload 5, 2, 0, 0), (29, .putfield 37, 3, 0, 0), (32, .aload_n 0, 1, 0, 0), (33, .iconst 0, 1, 0, 0), (34, .putfield 40, 3, 0, 0), (37, .return_, 1, 0, 0)]
theorem tkX2_closeAs : ∀ x ∈ tbX2_closeAs, tbB cX2_closeAs x = true := tb_all (by decide +kernel)
def fX2_closeAs (c : Nat → Option Nat) (h : Hp) (a0 : Option Nat) (a1 : Int32) (a2 : Int32) (a3 : Int32) (a4 : Int32) (a5 : Int32) : Rs := wr h a0 4 0 (.inl a1) (fun h1 => wr h1 a0 4 1 (.inl a2) (fun h2 => wr h2 a0 4 2 (.inl a3) (fun h3 => wr h3 a0 4 3 (.inl (0 : Int32)) (fun h4 => wr h4 a0 4 4 (.inl a4) (fun h5 => wr h5 a0 4 5 (.inl a5) (fun h6 => wr h6 a0 4 6 (.inl (0 : Int32)) (fun h7 => some (h7, none))))))))
set_option maxHeartbeats 4000000 in
set_option maxRecDepth 100000 in
theorem soX2_closeAs (X : Cx) (h : Hp) (a0 : Option Nat) (a1 : Int32) (a2 : Int32) (a3 : Int32) (a4 : Int32) (a5 : Int32) : SO X mX2_closeAs [.inr (.inr a0), .inl a1, .inl a2, .inl a3, .inl a4, .inl a5] h (fX2_closeAs X.2.2.2 h a0 a1 a2 a3 a4 a5) := by
  refine so_of (by decide +kernel) (Nat.le_of_ble_eq_true rfl) ?_
  show Gd X mX2_closeAs h (fX2_closeAs X.2.2.2 h a0 a1 a2 a3 a4 a5) h 0 [some (.inr (.inr a0)), some (.inl a1), some (.inl a2), some (.inl a3), some (.inl a4), some (.inl a5)] []
  unfold fX2_closeAs
  refine q_run tkX2_closeAs 0 2 (pc' := 2) (L' := [some (.inr (.inr a0)), some (.inl a1), some (.inl a2), some (.inl a3), some (.inl a4), some (.inl a5)]) (st' := [.inl a1, .inr (.inr a0)]) rfl ?_
  refine q_wr RX2 TX2 14 (tbm tkX2_closeAs (i := 2) rfl) rfl (Nat.le_of_ble_eq_true rfl) (Or.inl rfl) wd_58 (fun h1 => ?_)
  refine q_run tkX2_closeAs 3 2 (pc' := 7) (L' := [some (.inr (.inr a0)), some (.inl a1), some (.inl a2), some (.inl a3), some (.inl a4), some (.inl a5)]) (st' := [.inl a2, .inr (.inr a0)]) rfl ?_
  refine q_wr RX2 TX2 14 (tbm tkX2_closeAs (i := 5) rfl) rfl (Nat.le_of_ble_eq_true rfl) (Or.inl rfl) wd_61 (fun h2 => ?_)
  refine q_run tkX2_closeAs 6 2 (pc' := 12) (L' := [some (.inr (.inr a0)), some (.inl a1), some (.inl a2), some (.inl a3), some (.inl a4), some (.inl a5)]) (st' := [.inl a3, .inr (.inr a0)]) rfl ?_
  refine q_wr RX2 TX2 14 (tbm tkX2_closeAs (i := 8) rfl) rfl (Nat.le_of_ble_eq_true rfl) (Or.inl rfl) wd_63 (fun h3 => ?_)
  refine q_run tkX2_closeAs 9 2 (pc' := 17) (L' := [some (.inr (.inr a0)), some (.inl a1), some (.inl a2), some (.inl a3), some (.inl a4), some (.inl a5)]) (st' := [.inl (0 : Int32), .inr (.inr a0)]) rfl ?_
  refine q_wr RX2 TX2 14 (tbm tkX2_closeAs (i := 11) rfl) rfl (Nat.le_of_ble_eq_true rfl) (Or.inl rfl) wd_65 (fun h4 => ?_)
  refine q_run tkX2_closeAs 12 2 (pc' := 23) (L' := [some (.inr (.inr a0)), some (.inl a1), some (.inl a2), some (.inl a3), some (.inl a4), some (.inl a5)]) (st' := [.inl a4, .inr (.inr a0)]) rfl ?_
  refine q_wr RX2 TX2 14 (tbm tkX2_closeAs (i := 14) rfl) rfl (Nat.le_of_ble_eq_true rfl) (Or.inl rfl) wd_68 (fun h5 => ?_)
  refine q_run tkX2_closeAs 15 2 (pc' := 29) (L' := [some (.inr (.inr a0)), some (.inl a1), some (.inl a2), some (.inl a3), some (.inl a4), some (.inl a5)]) (st' := [.inl a5, .inr (.inr a0)]) rfl ?_
  refine q_wr RX2 TX2 14 (tbm tkX2_closeAs (i := 17) rfl) rfl (Nat.le_of_ble_eq_true rfl) (Or.inl rfl) wd_70 (fun h6 => ?_)
  refine q_run tkX2_closeAs 18 2 (pc' := 34) (L' := [some (.inr (.inr a0)), some (.inl a1), some (.inl a2), some (.inl a3), some (.inl a4), some (.inl a5)]) (st' := [.inl (0 : Int32), .inr (.inr a0)]) rfl ?_
  refine q_wr RX2 TX2 14 (tbm tkX2_closeAs (i := 20) rfl) rfl (Nat.le_of_ble_eq_true rfl) (Or.inl rfl) wd_73 (fun h7 => ?_)
  exact q_vret (tbm tkX2_closeAs (i := 21) rfl) rfl
theorem ceX2_closeAs : Ce mX2_closeAs 5 := ⟨wd_20, wd_519, by decide +kernel, by decide +kernel, by decide +kernel⟩
/-- ReceiptRolls$Receipt.clear -/
abbrev mX2_clear : MI := (yX2_clear, cX2_clear, 1, none, 0)
def tbX2_clear : List TE := [(0, .aload_n 0, 1, 0, 0), (1, .iconst 0, 1, 0, 0), (2, .putfield 21, 3, 0, 0), (5, .aload_n 0, 1, 0, 0), (6, .iconst 0, 1, 0, 0), (7, .putfield 49, 3, 0, 0), (10, .aload_n 0, 1, 0, 0), (11, .iconst 0, 1, 0, 0), (12, .putfield 52, 3, 0, 0), (15, .aload_n 0, 1, 0, 0), (16, .iconst 0, 1, 0, 0), (17, .putfield 55, 3, 0, 0), (20, .return_, 1, 0, 0)]
theorem tkX2_clear : ∀ x ∈ tbX2_clear, tbB cX2_clear x = true := tb_all (by decide +kernel)
def fX2_clear (c : Nat → Option Nat) (h : Hp) (a0 : Option Nat) : Rs := wr h a0 4 0 (.inl (0 : Int32)) (fun h1 => wr h1 a0 4 9 (.inl (0 : Int32)) (fun h2 => wr h2 a0 4 10 (.inl (0 : Int32)) (fun h3 => wr h3 a0 4 11 (.inl (0 : Int32)) (fun h4 => some (h4, none)))))
set_option maxHeartbeats 4000000 in
set_option maxRecDepth 100000 in
theorem soX2_clear (X : Cx) (h : Hp) (a0 : Option Nat) : SO X mX2_clear [.inr (.inr a0)] h (fX2_clear X.2.2.2 h a0) := by
  refine so_of (by decide +kernel) (Nat.le_of_ble_eq_true rfl) ?_
  show Gd X mX2_clear h (fX2_clear X.2.2.2 h a0) h 0 [some (.inr (.inr a0))] []
  unfold fX2_clear
  refine q_run tkX2_clear 0 2 (pc' := 2) (L' := [some (.inr (.inr a0))]) (st' := [.inl (0 : Int32), .inr (.inr a0)]) rfl ?_
  refine q_wr RX2 TX2 14 (tbm tkX2_clear (i := 2) rfl) rfl (Nat.le_of_ble_eq_true rfl) (Or.inl rfl) wd_58 (fun h1 => ?_)
  refine q_run tkX2_clear 3 2 (pc' := 7) (L' := [some (.inr (.inr a0))]) (st' := [.inl (0 : Int32), .inr (.inr a0)]) rfl ?_
  refine q_wr RX2 TX2 14 (tbm tkX2_clear (i := 5) rfl) rfl (Nat.le_of_ble_eq_true rfl) (Or.inl rfl) wd_81 (fun h2 => ?_)
  refine q_run tkX2_clear 6 2 (pc' := 12) (L' := [some (.inr (.inr a0))]) (st' := [.inl (0 : Int32), .inr (.inr a0)]) rfl ?_
  refine q_wr RX2 TX2 14 (tbm tkX2_clear (i := 8) rfl) rfl (Nat.le_of_ble_eq_true rfl) (Or.inl rfl) wd_84 (fun h3 => ?_)
  refine q_run tkX2_clear 9 2 (pc' := 17) (L' := [some (.inr (.inr a0))]) (st' := [.inl (0 : Int32), .inr (.inr a0)]) rfl ?_
  refine q_wr RX2 TX2 14 (tbm tkX2_clear (i := 11) rfl) rfl (Nat.le_of_ble_eq_true rfl) (Or.inl rfl) wd_85 (fun h4 => ?_)
  exact q_vret (tbm tkX2_clear (i := 12) rfl) rfl
theorem ceX2_clear : Ce mX2_clear 0 := ⟨wd_20, wd_523, by decide +kernel, by decide +kernel, by decide +kernel⟩
/-- ReceiptRolls$Receipt.addEvent -/
abbrev mX2_addEvent : MI := (yX2_addEvent, cX2_addEvent, 2, none, 0)
def tbX2_addEvent : List TE := [(0, .aload_n 0, 1, 0, 0), (1, .getfield 52, 3, 0, 0), (4, .ifCond .lt 35, 3, 0, 39), (7, .aload_n 0, 1, 0, 0), (8, .getfield 52, 3, 0, 0), (11, .aload_n 0, 1, 0, 0), (12, .getfield 17, 3, 0, 0), (15, .arraylength, 1, 0, 0), (16, .if_icmp .ge 23, 3, 0, 39), (19, .aload_n 0, 1, 0, 0), (20, .getfield 17, 3, 0, 0), (23, .aload_n 0, 1, 0, 0), (24, .getfield 52, 3, 0, 0), (27, .iload_n 1, 1, 0, 0), (28, .iastore, 1, 0, 0), (29, .aload_n 0, 1, 0, 0), (30, .dup, 1, 0, 0), (31, .getfield 52, 3, 0, 0), (34, .iconst 1, 1, 1, 0), (35, .iadd, 1, 0, 0), (36, .putfield 52, 3, 0, 0), (39, .return_, 1, 0, 0)]
theorem tkX2_addEvent : ∀ x ∈ tbX2_addEvent, tbB cX2_addEvent x = true := tb_all (by decide +kernel)
def fX2_addEvent_39 (c : Nat → Option Nat) (h : Hp) : Rs := some (h, none)
set_option maxHeartbeats 4000000 in
set_option maxRecDepth 100000 in
theorem sX2_addEvent_39 (X : Cx) {h0 : Hp} (h : Hp) : Gd X mX2_addEvent h0 (fX2_addEvent_39 X.2.2.2 h) h 39 [none, none] [] := by
  unfold fX2_addEvent_39
  exact q_vret (tbm tkX2_addEvent (i := 21) rfl) rfl
def fX2_addEvent (c : Nat → Option Nat) (h : Hp) (a0 : Option Nat) (a1 : Int32) : Rs := rdI h a0 4 10 (fun x1 => if x1 < 0 then (fX2_addEvent_39 c h) else (rdI h a0 4 10 (fun x2 => rdR h a0 4 13 (fun r3 => lenA h r3 (fun x4 => if x2 < x4 then (rdR h a0 4 13 (fun r5 => rdI h a0 4 10 (fun x6 => astI h r5 [0] x6 a1 (fun h7 => rdI h7 a0 4 10 (fun x8 => wr h7 a0 4 10 (.inl (x8 + (1 : Int32))) (fun h9 => fX2_addEvent_39 c h9)))))) else (fX2_addEvent_39 c h))))))
set_option maxHeartbeats 4000000 in
set_option maxRecDepth 100000 in
theorem soX2_addEvent (X : Cx) (h : Hp) (a0 : Option Nat) (a1 : Int32) : SO X mX2_addEvent [.inr (.inr a0), .inl a1] h (fX2_addEvent X.2.2.2 h a0 a1) := by
  refine so_of (by decide +kernel) (Nat.le_of_ble_eq_true rfl) ?_
  show Gd X mX2_addEvent h (fX2_addEvent X.2.2.2 h a0 a1) h 0 [some (.inr (.inr a0)), some (.inl a1)] []
  unfold fX2_addEvent
  refine q_run tkX2_addEvent 0 1 (pc' := 1) (L' := [some (.inr (.inr a0)), some (.inl a1)]) (st' := [.inr (.inr a0)]) rfl ?_
  refine q_rdI RX2 TX2 14 (tbm tkX2_addEvent (i := 1) rfl) rfl (Nat.le_of_ble_eq_true rfl) wd_84 (fun x1 => ?_)
  refine q_if_lt (tbm tkX2_addEvent (i := 2) rfl) ?_ ?_
  · refine q_le (L' := [none, none]) (lvLe_n (lvLe_n lvLe_0)) ?_
    exact sX2_addEvent_39 X h
  · refine q_run tkX2_addEvent 3 1 (pc' := 8) (L' := [some (.inr (.inr a0)), some (.inl a1)]) (st' := [.inr (.inr a0)]) rfl ?_
    refine q_rdI RX2 TX2 14 (tbm tkX2_addEvent (i := 4) rfl) rfl (Nat.le_of_ble_eq_true rfl) wd_84 (fun x2 => ?_)
    refine q_run tkX2_addEvent 5 1 (pc' := 12) (L' := [some (.inr (.inr a0)), some (.inl a1)]) (st' := [.inr (.inr a0), .inl x2]) rfl ?_
    refine q_rdR RX2 TX2 14 (tbm tkX2_addEvent (i := 6) rfl) rfl (Nat.le_of_ble_eq_true rfl) wd_87 (fun r3 => ?_)
    refine q_alen (tbm tkX2_addEvent (i := 7) rfl) (fun x4 => ?_)
    refine q_icmp_ge (tbm tkX2_addEvent (i := 8) rfl) ?_ ?_
    · refine q_run tkX2_addEvent 9 1 (pc' := 20) (L' := [some (.inr (.inr a0)), some (.inl a1)]) (st' := [.inr (.inr a0)]) rfl ?_
      refine q_rdR RX2 TX2 14 (tbm tkX2_addEvent (i := 10) rfl) rfl (Nat.le_of_ble_eq_true rfl) wd_87 (fun r5 => ?_)
      refine q_run tkX2_addEvent 11 1 (pc' := 24) (L' := [some (.inr (.inr a0)), some (.inl a1)]) (st' := [.inr (.inr a0), .inr (.inr r5)]) rfl ?_
      refine q_rdI RX2 TX2 14 (tbm tkX2_addEvent (i := 12) rfl) rfl (Nat.le_of_ble_eq_true rfl) wd_84 (fun x6 => ?_)
      refine q_run tkX2_addEvent 13 1 (pc' := 28) (L' := [some (.inr (.inr a0)), some (.inl a1)]) (st' := [.inl a1, .inl x6, .inr (.inr r5)]) rfl ?_
      refine q_iastore (tbm tkX2_addEvent (i := 14) rfl) (fun h7 => ?_)
      refine q_run tkX2_addEvent 15 2 (pc' := 31) (L' := [some (.inr (.inr a0)), some (.inl a1)]) (st' := [.inr (.inr a0), .inr (.inr a0)]) rfl ?_
      refine q_rdI RX2 TX2 14 (tbm tkX2_addEvent (i := 17) rfl) rfl (Nat.le_of_ble_eq_true rfl) wd_84 (fun x8 => ?_)
      refine q_run tkX2_addEvent 18 2 (pc' := 36) (L' := [some (.inr (.inr a0)), some (.inl a1)]) (st' := [.inl (x8 + (1 : Int32)), .inr (.inr a0)]) rfl ?_
      refine q_wr RX2 TX2 14 (tbm tkX2_addEvent (i := 20) rfl) rfl (Nat.le_of_ble_eq_true rfl) (Or.inl rfl) wd_84 (fun h9 => ?_)
      refine q_le (L' := [none, none]) (lvLe_n (lvLe_n lvLe_0)) ?_
      exact sX2_addEvent_39 X h9
    · refine q_le (L' := [none, none]) (lvLe_n (lvLe_n lvLe_0)) ?_
      exact sX2_addEvent_39 X h
theorem ceX2_addEvent : Ce mX2_addEvent 1 := ⟨wd_20, wd_537, by decide +kernel, by decide +kernel, by decide +kernel⟩
/-- ReceiptRolls$Receipt.strikeItem -/
abbrev mX2_strikeItem : MI := (yX2_strikeItem, cX2_strikeItem, 2, none, 1)
def tbX2_strikeItem : List TE := [(0, .aload_n 0, 1, 0, 0), (1, .dup, 1, 0, 0), (2, .getfield 55, 3, 0, 0), (5, .iconst 1, 1, 1, 0), (6, .iload_n 1, 1, 0, 0), (7, .ishl, 1, 0, 0), (8, .ior, 1, 0, 0), (9, .putfield 55, 3, 0, 0), (12, .aload_n 0, 1, 0, 0), (13, .bipush 12, 2, 12, 0), (15, .iload_n 1, 1, 0, 0), (16, .iadd, 1, 0, 0), (17, .invokevirtual 64, 3, 0, 0), (20, .return_, 1, 0, 0)]
theorem tkX2_strikeItem : ∀ x ∈ tbX2_strikeItem, tbB cX2_strikeItem x = true := tb_all (by decide +kernel)
def fX2_strikeItem (c : Nat → Option Nat) (h : Hp) (a0 : Option Nat) (a1 : Int32) : Rs := rdI h a0 4 11 (fun x1 => wr h a0 4 11 (.inl (x1 ||| (shlI (1 : Int32) a1))) (fun h2 => ck h2 a0 4 (cc (fX2_addEvent c h2 a0 ((12 : Int32) + a1)) (kV fun h3 => some (h3, none)))))
set_option maxHeartbeats 4000000 in
set_option maxRecDepth 100000 in
theorem soX2_strikeItem (X : Cx) (h : Hp) (a0 : Option Nat) (a1 : Int32) : SO X mX2_strikeItem [.inr (.inr a0), .inl a1] h (fX2_strikeItem X.2.2.2 h a0 a1) := by
  refine so_of (by decide +kernel) (Nat.le_of_ble_eq_true rfl) ?_
  show Gd X mX2_strikeItem h (fX2_strikeItem X.2.2.2 h a0 a1) h 0 [some (.inr (.inr a0)), some (.inl a1)] []
  unfold fX2_strikeItem
  refine q_run tkX2_strikeItem 0 2 (pc' := 2) (L' := [some (.inr (.inr a0)), some (.inl a1)]) (st' := [.inr (.inr a0), .inr (.inr a0)]) rfl ?_
  refine q_rdI RX2 TX2 14 (tbm tkX2_strikeItem (i := 2) rfl) rfl (Nat.le_of_ble_eq_true rfl) wd_85 (fun x1 => ?_)
  refine q_run tkX2_strikeItem 3 4 (pc' := 9) (L' := [some (.inr (.inr a0)), some (.inl a1)]) (st' := [.inl (x1 ||| (shlI (1 : Int32) a1)), .inr (.inr a0)]) rfl ?_
  refine q_wr RX2 TX2 14 (tbm tkX2_strikeItem (i := 7) rfl) rfl (Nat.le_of_ble_eq_true rfl) (Or.inl rfl) wd_85 (fun h2 => ?_)
  refine q_run tkX2_strikeItem 8 4 (pc' := 17) (L' := [some (.inr (.inr a0)), some (.inl a1)]) (st' := [.inl ((12 : Int32) + a1), .inr (.inr a0)]) rfl ?_
  refine q_cv (r := a0) (ci := 4) (n := 1) (as := [.inl ((12 : Int32) + a1)]) (st := []) TX2 14 (soX2_addEvent X h2 a0 ((12 : Int32) + a1)) (tbm tkX2_strikeItem (i := 12) rfl) rfl rfl ceX2_addEvent wd_536 wd_11 wd_534 rfl (Nat.le_of_ble_eq_true rfl) (kV_gd (fun h3 => ?_))
  exact q_vret (tbm tkX2_strikeItem (i := 13) rfl) rfl
theorem ceX2_strikeItem : Ce mX2_strikeItem 1 := ⟨wd_20, wd_533, by decide +kernel, by decide +kernel, by decide +kernel⟩
/-- ReceiptRolls$State.changeSetting -/
abbrev mX4_changeSetting : MI := (yX4_changeSetting, cX4_changeSetting, 4, some .int, 1)
def tbX4_changeSetting : List TE := [(0, .aload_n 0, 1, 0, 0), (1, .iload_n 1, 1, 0, 0), (2, .invokevirtual 64, 3, 0, 0), (5, .istore_n 3, 1, 0, 0), (6, .iload_n 1, 1, 0, 0), (7, .ifCond .lt 19, 3, 0, 26), (10, .iload_n 1, 1, 0, 0), (11, .aload_n 0, 1, 0, 0), (12, .getfield 18, 3, 0, 0), (15, .arraylength, 1, 0, 0), (16, .if_icmp .ge 10, 3, 0, 26), (19, .aload_n 0, 1, 0, 0), (20, .getfield 18, 3, 0, 0), (23, .iload_n 1, 1, 0, 0), (24, .iload_n 2, 1, 0, 0), (25, .iastore, 1, 0, 0), (26, .iload_n 3, 1, 0, 0), (27, .ireturn, 1, 0, 0)]
theorem tkX4_changeSetting : ∀ x ∈ tbX4_changeSetting, tbB cX4_changeSetting x = true := tb_all (by decide +kernel)
def fX4_changeSetting_26 (c : Nat → Option Nat) (h : Hp) (l3 : Int32) : Rs := some (h, some (.inl l3))
set_option maxHeartbeats 4000000 in
set_option maxRecDepth 100000 in
theorem sX4_changeSetting_26 (X : Cx) {h0 : Hp} (h : Hp) (l3 : Int32) : Gd X mX4_changeSetting h0 (fX4_changeSetting_26 X.2.2.2 h l3) h 26 [none, none, none, some (.inl l3)] [] := by
  unfold fX4_changeSetting_26
  refine q_run tkX4_changeSetting 16 1 (pc' := 27) (L' := [none, none, none, some (.inl l3)]) (st' := [.inl l3]) rfl ?_
  exact q_iret (tbm tkX4_changeSetting (i := 17) rfl) rfl
def fX4_changeSetting (c : Nat → Option Nat) (h : Hp) (a0 : Option Nat) (a1 : Int32) (a2 : Int32) : Rs := ck h a0 6 (cc (fX4_settingAt c h a0 a1) (kI fun h1 x2 => if a1 < 0 then (fX4_changeSetting_26 c h1 x2) else (rdR h1 a0 6 10 (fun r3 => lenA h1 r3 (fun x4 => if a1 < x4 then (rdR h1 a0 6 10 (fun r5 => astI h1 r5 [0] a1 a2 (fun h6 => fX4_changeSetting_26 c h6 x2))) else (fX4_changeSetting_26 c h1 x2))))))
set_option maxHeartbeats 4000000 in
set_option maxRecDepth 100000 in
theorem soX4_changeSetting (X : Cx) (h : Hp) (a0 : Option Nat) (a1 : Int32) (a2 : Int32) : SO X mX4_changeSetting [.inr (.inr a0), .inl a1, .inl a2] h (fX4_changeSetting X.2.2.2 h a0 a1 a2) := by
  refine so_of (by decide +kernel) (Nat.le_of_ble_eq_true rfl) ?_
  show Gd X mX4_changeSetting h (fX4_changeSetting X.2.2.2 h a0 a1 a2) h 0 [some (.inr (.inr a0)), some (.inl a1), some (.inl a2), none] []
  unfold fX4_changeSetting
  refine q_run tkX4_changeSetting 0 2 (pc' := 2) (L' := [some (.inr (.inr a0)), some (.inl a1), some (.inl a2), none]) (st' := [.inl a1, .inr (.inr a0)]) rfl ?_
  refine q_cv (r := a0) (ci := 6) (n := 1) (as := [.inl a1]) (st := []) TX4 13 (soX4_settingAt X h a0 a1) (tbm tkX4_changeSetting (i := 2) rfl) rfl rfl ceX4_settingAt wd_319 wd_320 wd_551 rfl (Nat.le_of_ble_eq_true rfl) (kI_gd (fun h1 x2 => ?_))
  refine q_run tkX4_changeSetting 3 2 (pc' := 7) (L' := [some (.inr (.inr a0)), some (.inl a1), some (.inl a2), some (.inl x2)]) (st' := [.inl a1]) rfl ?_
  refine q_if_lt (tbm tkX4_changeSetting (i := 5) rfl) ?_ ?_
  · refine q_le (L' := [none, none, none, some (.inl x2)]) (lvLe_n (lvLe_n (lvLe_n (lvLe_s lvLe_0)))) ?_
    exact sX4_changeSetting_26 X h1 x2
  · refine q_run tkX4_changeSetting 6 2 (pc' := 12) (L' := [some (.inr (.inr a0)), some (.inl a1), some (.inl a2), some (.inl x2)]) (st' := [.inr (.inr a0), .inl a1]) rfl ?_
    refine q_rdR RX4 TX4 13 (tbm tkX4_changeSetting (i := 8) rfl) rfl (Nat.le_of_ble_eq_true rfl) wd_139 (fun r3 => ?_)
    refine q_alen (tbm tkX4_changeSetting (i := 9) rfl) (fun x4 => ?_)
    refine q_icmp_ge (tbm tkX4_changeSetting (i := 10) rfl) ?_ ?_
    · refine q_run tkX4_changeSetting 11 1 (pc' := 20) (L' := [some (.inr (.inr a0)), some (.inl a1), some (.inl a2), some (.inl x2)]) (st' := [.inr (.inr a0)]) rfl ?_
      refine q_rdR RX4 TX4 13 (tbm tkX4_changeSetting (i := 12) rfl) rfl (Nat.le_of_ble_eq_true rfl) wd_139 (fun r5 => ?_)
      refine q_run tkX4_changeSetting 13 2 (pc' := 25) (L' := [some (.inr (.inr a0)), some (.inl a1), some (.inl a2), some (.inl x2)]) (st' := [.inl a2, .inl a1, .inr (.inr r5)]) rfl ?_
      refine q_iastore (tbm tkX4_changeSetting (i := 15) rfl) (fun h6 => ?_)
      refine q_le (L' := [none, none, none, some (.inl x2)]) (lvLe_n (lvLe_n (lvLe_n (lvLe_s lvLe_0)))) ?_
      exact sX4_changeSetting_26 X h6 x2
    · refine q_le (L' := [none, none, none, some (.inl x2)]) (lvLe_n (lvLe_n (lvLe_n (lvLe_s lvLe_0)))) ?_
      exact sX4_changeSetting_26 X h1 x2
theorem ceX4_changeSetting : Ce mX4_changeSetting 2 := ⟨wd_19, wd_550, by decide +kernel, by decide +kernel, by decide +kernel⟩
/-- ReceiptRolls$Receipt.isAheadOf -/
abbrev mX2_isAheadOf : MI := (yX2_isAheadOf, cX2_isAheadOf, 2, some .boolean, 0)
def tbX2_isAheadOf : List TE := [(0, .aload_n 0, 1, 0, 0), (1, .getfield 31, 3, 0, 0), (4, .aload_n 1, 1, 0, 0), (5, .getfield 31, 3, 0, 0), (8, .if_icmp .eq 17, 3, 0, 25), (11, .aload_n 0, 1, 0, 0), (12, .getfield 31, 3, 0, 0), (15, .iconst 1, 1, 1, 0), (16, .if_icmp .ne 7, 3, 0, 23), (19, .iconst 1, 1, 1, 0), (20, .goto 4, 3, 0, 24), (23, .iconst 0, 1, 0, 0), (24, .ireturn, 1, 0, 0), (25, .aload_n 0, 1, 0, 0), (26, .getfield 28, 3, 0, 0), (29, .aload_n 1, 1, 0, 0), (30, .getfield 28, 3, 0, 0), (33, .if_icmp .eq 22, 3, 0, 55), (36, .aload_n 0, 1, 0, 0), (37, .getfield 28, 3, 0, 0), (40, .aload_n 1, 1, 0, 0), (41, .getfield 28, 3, 0, 0), (44, .if_icmp .le 7, 3, 0, 51), (47, .iconst 1, 1, 1, 0), (48, .goto 23, 3, 0, 71), (51, .iconst 0, 1, 0, 0), (52, .goto 19, 3, 0, 71), (55, .aload_n 0, 1, 0, 0), (56, .getfield 21, 3, 0, 0), (59, .aload_n 1, 1, 0, 0), (60, .getfield 21, 3, 0, 0), (63, .if_icmp .ge 7, 3, 0, 70), (66, .iconst 1, 1, 1, 0), (67, .goto 4, 3, 0, 71), (70, .iconst 0, 1, 0, 0), (71, .ireturn, 1, 0, 0)]
theorem tkX2_isAheadOf : ∀ x ∈ tbX2_isAheadOf, tbB cX2_isAheadOf x = true := tb_all (by decide +kernel)
def fX2_isAheadOf_24 (c : Nat → Option Nat) (h : Hp) (s0 : Int32) : Rs := rtI .boolean h s0
set_option maxHeartbeats 4000000 in
set_option maxRecDepth 100000 in
theorem sX2_isAheadOf_24 (X : Cx) {h0 : Hp} (h : Hp) (s0 : Int32) : Gd X mX2_isAheadOf h0 (fX2_isAheadOf_24 X.2.2.2 h s0) h 24 [none, none] [.inl s0] := by
  unfold fX2_isAheadOf_24
  exact q_zret (tbm tkX2_isAheadOf (i := 12) rfl) rfl
def fX2_isAheadOf_71 (c : Nat → Option Nat) (h : Hp) (s0 : Int32) : Rs := rtI .boolean h s0
set_option maxHeartbeats 4000000 in
set_option maxRecDepth 100000 in
theorem sX2_isAheadOf_71 (X : Cx) {h0 : Hp} (h : Hp) (s0 : Int32) : Gd X mX2_isAheadOf h0 (fX2_isAheadOf_71 X.2.2.2 h s0) h 71 [none, none] [.inl s0] := by
  unfold fX2_isAheadOf_71
  exact q_zret (tbm tkX2_isAheadOf (i := 35) rfl) rfl
def fX2_isAheadOf (c : Nat → Option Nat) (h : Hp) (a0 : Option Nat) (a1 : Option Nat) : Rs := rdI h a0 4 3 (fun x1 => rdI h a1 4 3 (fun x2 => if x1 = x2 then (rdI h a0 4 2 (fun x3 => rdI h a1 4 2 (fun x4 => if x3 = x4 then (rdI h a0 4 0 (fun x5 => rdI h a1 4 0 (fun x6 => if x5 < x6 then (fX2_isAheadOf_71 c h (1 : Int32)) else (fX2_isAheadOf_71 c h (0 : Int32))))) else (rdI h a0 4 2 (fun x7 => rdI h a1 4 2 (fun x8 => if x8 < x7 then (fX2_isAheadOf_71 c h (1 : Int32)) else (fX2_isAheadOf_71 c h (0 : Int32)))))))) else (rdI h a0 4 3 (fun x9 => if x9 = (1 : Int32) then (fX2_isAheadOf_24 c h (1 : Int32)) else (fX2_isAheadOf_24 c h (0 : Int32))))))
set_option maxHeartbeats 4000000 in
set_option maxRecDepth 100000 in
theorem soX2_isAheadOf (X : Cx) (h : Hp) (a0 : Option Nat) (a1 : Option Nat) : SO X mX2_isAheadOf [.inr (.inr a0), .inr (.inr a1)] h (fX2_isAheadOf X.2.2.2 h a0 a1) := by
  refine so_of (by decide +kernel) (Nat.le_of_ble_eq_true rfl) ?_
  show Gd X mX2_isAheadOf h (fX2_isAheadOf X.2.2.2 h a0 a1) h 0 [some (.inr (.inr a0)), some (.inr (.inr a1))] []
  unfold fX2_isAheadOf
  refine q_run tkX2_isAheadOf 0 1 (pc' := 1) (L' := [some (.inr (.inr a0)), some (.inr (.inr a1))]) (st' := [.inr (.inr a0)]) rfl ?_
  refine q_rdI RX2 TX2 14 (tbm tkX2_isAheadOf (i := 1) rfl) rfl (Nat.le_of_ble_eq_true rfl) wd_65 (fun x1 => ?_)
  refine q_run tkX2_isAheadOf 2 1 (pc' := 5) (L' := [some (.inr (.inr a0)), some (.inr (.inr a1))]) (st' := [.inr (.inr a1), .inl x1]) rfl ?_
  refine q_rdI RX2 TX2 14 (tbm tkX2_isAheadOf (i := 3) rfl) rfl (Nat.le_of_ble_eq_true rfl) wd_65 (fun x2 => ?_)
  refine q_icmp_eq (tbm tkX2_isAheadOf (i := 4) rfl) ?_ ?_
  · refine q_run tkX2_isAheadOf 13 1 (pc' := 26) (L' := [some (.inr (.inr a0)), some (.inr (.inr a1))]) (st' := [.inr (.inr a0)]) rfl ?_
    refine q_rdI RX2 TX2 14 (tbm tkX2_isAheadOf (i := 14) rfl) rfl (Nat.le_of_ble_eq_true rfl) wd_63 (fun x3 => ?_)
    refine q_run tkX2_isAheadOf 15 1 (pc' := 30) (L' := [some (.inr (.inr a0)), some (.inr (.inr a1))]) (st' := [.inr (.inr a1), .inl x3]) rfl ?_
    refine q_rdI RX2 TX2 14 (tbm tkX2_isAheadOf (i := 16) rfl) rfl (Nat.le_of_ble_eq_true rfl) wd_63 (fun x4 => ?_)
    refine q_icmp_eq (tbm tkX2_isAheadOf (i := 17) rfl) ?_ ?_
    · refine q_run tkX2_isAheadOf 27 1 (pc' := 56) (L' := [some (.inr (.inr a0)), some (.inr (.inr a1))]) (st' := [.inr (.inr a0)]) rfl ?_
      refine q_rdI RX2 TX2 14 (tbm tkX2_isAheadOf (i := 28) rfl) rfl (Nat.le_of_ble_eq_true rfl) wd_58 (fun x5 => ?_)
      refine q_run tkX2_isAheadOf 29 1 (pc' := 60) (L' := [some (.inr (.inr a0)), some (.inr (.inr a1))]) (st' := [.inr (.inr a1), .inl x5]) rfl ?_
      refine q_rdI RX2 TX2 14 (tbm tkX2_isAheadOf (i := 30) rfl) rfl (Nat.le_of_ble_eq_true rfl) wd_58 (fun x6 => ?_)
      refine q_icmp_ge (tbm tkX2_isAheadOf (i := 31) rfl) ?_ ?_
      · refine q_run tkX2_isAheadOf 32 2 (pc' := 71) (L' := [some (.inr (.inr a0)), some (.inr (.inr a1))]) (st' := [.inl (1 : Int32)]) rfl ?_
        refine q_le (L' := [none, none]) (lvLe_n (lvLe_n lvLe_0)) ?_
        exact sX2_isAheadOf_71 X h (1 : Int32)
      · refine q_run tkX2_isAheadOf 34 1 (pc' := 71) (L' := [some (.inr (.inr a0)), some (.inr (.inr a1))]) (st' := [.inl (0 : Int32)]) rfl ?_
        refine q_le (L' := [none, none]) (lvLe_n (lvLe_n lvLe_0)) ?_
        exact sX2_isAheadOf_71 X h (0 : Int32)
    · refine q_run tkX2_isAheadOf 18 1 (pc' := 37) (L' := [some (.inr (.inr a0)), some (.inr (.inr a1))]) (st' := [.inr (.inr a0)]) rfl ?_
      refine q_rdI RX2 TX2 14 (tbm tkX2_isAheadOf (i := 19) rfl) rfl (Nat.le_of_ble_eq_true rfl) wd_63 (fun x7 => ?_)
      refine q_run tkX2_isAheadOf 20 1 (pc' := 41) (L' := [some (.inr (.inr a0)), some (.inr (.inr a1))]) (st' := [.inr (.inr a1), .inl x7]) rfl ?_
      refine q_rdI RX2 TX2 14 (tbm tkX2_isAheadOf (i := 21) rfl) rfl (Nat.le_of_ble_eq_true rfl) wd_63 (fun x8 => ?_)
      refine q_icmp_le (tbm tkX2_isAheadOf (i := 22) rfl) ?_ ?_
      · refine q_run tkX2_isAheadOf 23 2 (pc' := 71) (L' := [some (.inr (.inr a0)), some (.inr (.inr a1))]) (st' := [.inl (1 : Int32)]) rfl ?_
        refine q_le (L' := [none, none]) (lvLe_n (lvLe_n lvLe_0)) ?_
        exact sX2_isAheadOf_71 X h (1 : Int32)
      · refine q_run tkX2_isAheadOf 25 2 (pc' := 71) (L' := [some (.inr (.inr a0)), some (.inr (.inr a1))]) (st' := [.inl (0 : Int32)]) rfl ?_
        refine q_le (L' := [none, none]) (lvLe_n (lvLe_n lvLe_0)) ?_
        exact sX2_isAheadOf_71 X h (0 : Int32)
  · refine q_run tkX2_isAheadOf 5 1 (pc' := 12) (L' := [some (.inr (.inr a0)), some (.inr (.inr a1))]) (st' := [.inr (.inr a0)]) rfl ?_
    refine q_rdI RX2 TX2 14 (tbm tkX2_isAheadOf (i := 6) rfl) rfl (Nat.le_of_ble_eq_true rfl) wd_65 (fun x9 => ?_)
    refine q_run tkX2_isAheadOf 7 1 (pc' := 16) (L' := [some (.inr (.inr a0)), some (.inr (.inr a1))]) (st' := [.inl (1 : Int32), .inl x9]) rfl ?_
    refine q_icmp_ne (tbm tkX2_isAheadOf (i := 8) rfl) ?_ ?_
    · refine q_run tkX2_isAheadOf 9 2 (pc' := 24) (L' := [some (.inr (.inr a0)), some (.inr (.inr a1))]) (st' := [.inl (1 : Int32)]) rfl ?_
      refine q_le (L' := [none, none]) (lvLe_n (lvLe_n lvLe_0)) ?_
      exact sX2_isAheadOf_24 X h (1 : Int32)
    · refine q_run tkX2_isAheadOf 11 1 (pc' := 24) (L' := [some (.inr (.inr a0)), some (.inr (.inr a1))]) (st' := [.inl (0 : Int32)]) rfl ?_
      refine q_le (L' := [none, none]) (lvLe_n (lvLe_n lvLe_0)) ?_
      exact sX2_isAheadOf_24 X h (0 : Int32)
theorem ceX2_isAheadOf : Ce mX2_isAheadOf 1 := ⟨wd_20, wd_592, by decide +kernel, by decide +kernel, by decide +kernel⟩
/-- ReceiptRolls$State.waitingAheadOf -/
abbrev mX4_waitingAheadOf : MI := (yX4_waitingAheadOf, cX4_waitingAheadOf, 5, some .int, 1)
def tbX4_waitingAheadOf : List TE := [(0, .iconst 0, 1, 0, 0), (1, .istore_n 2, 1, 0, 0), (2, .iconst 0, 1, 0, 0), (3, .istore_n 3, 1, 0, 0), (4, .iload_n 3, 1, 0, 0), (5, .aload_n 0, 1, 0, 0), (6, .invokevirtual 71, 3, 0, 0), (9, .if_icmp .ge 41, 3, 0, 50), (12, .aload_n 0, 1, 0, 0), (13, .iload_n 3, 1, 0, 0), (14, .invokevirtual 75, 3, 0, 0), (17, .astore 4, 2, 0, 0), (19, .aload 4, 2, 0, 0), (21, .ifnull 23, 3, 0, 44), (24, .aload 4, 2, 0, 0), (26, .getfield 79, 3, 0, 0), (29, .ifCond .ne 15, 3, 0, 44), (32, .aload 4, 2, 0, 0), (34, .aload_n 1, 1, 0, 0), (35, .invokevirtual 86, 3, 0, 0), (38, .ifCond .eq 6, 3, 0, 44), (41, .iinc 2 1, 3, 1, 0), (44, .iinc 3 1, 3, 1, 0), (47, .goto (-43), 3, 0, 4), (50, .iload_n 2, 1, 0, 0), (51, .ireturn, 1, 0, 0)]
theorem tkX4_waitingAheadOf : ∀ x ∈ tbX4_waitingAheadOf, tbB cX4_waitingAheadOf x = true := tb_all (by decide +kernel)
def fX4_waitingAheadOf_44 (c : Nat → Option Nat) (k4 : Hp → Option Nat → Option Nat → Int32 → Int32 → Rs) (h : Hp) (l0 : Option Nat) (l1 : Option Nat) (l2 : Int32) (l3 : Int32) : Rs := k4 h l0 l1 l2 (l3 + (1 : Int32))
set_option maxHeartbeats 4000000 in
set_option maxRecDepth 100000 in
theorem sX4_waitingAheadOf_44 (X : Cx) {h0 : Hp} (k4 : Hp → Option Nat → Option Nat → Int32 → Int32 → Rs) (hk4 : ∀ (h : Hp) (l0 : Option Nat) (l1 : Option Nat) (l2 : Int32) (l3 : Int32), Gd X mX4_waitingAheadOf h0 (k4 h l0 l1 l2 l3) h 4 [some (.inr (.inr l0)), some (.inr (.inr l1)), some (.inl l2), some (.inl l3), none] []) (h : Hp) (l0 : Option Nat) (l1 : Option Nat) (l2 : Int32) (l3 : Int32) : Gd X mX4_waitingAheadOf h0 (fX4_waitingAheadOf_44 X.2.2.2 k4 h l0 l1 l2 l3) h 44 [some (.inr (.inr l0)), some (.inr (.inr l1)), some (.inl l2), some (.inl l3), none] [] := by
  unfold fX4_waitingAheadOf_44
  refine q_run tkX4_waitingAheadOf 22 2 (pc' := 4) (L' := [some (.inr (.inr l0)), some (.inr (.inr l1)), some (.inl l2), some (.inl (l3 + (1 : Int32))), none]) (st' := []) rfl ?_
  exact hk4 h l0 l1 l2 (l3 + (1 : Int32))
def fX4_waitingAheadOf_4 (c : Nat → Option Nat) : Nat → Hp → Option Nat → Option Nat → Int32 → Int32 → Rs
  | 0, _, _, _, _, _ => none
  | n + 1, h, l0, l1, l2, l3 => ck h l0 6 (cc (fX4_places c h l0) (kI fun h1 x2 => if l3 < x2 then (ck h1 l0 6 (cc (fX4_placeAt c h1 l0 l3) (kR fun h3 r4 => ifN r4 (fX4_waitingAheadOf_44 c (fX4_waitingAheadOf_4 c n) h3 l0 l1 l2 l3) (rdI h3 r4 4 3 (fun x5 => if x5 = 0 then (ck h3 r4 4 (cc (fX2_isAheadOf c h3 r4 l1) (kI fun h6 x7 => if x7 = 0 then (fX4_waitingAheadOf_44 c (fX4_waitingAheadOf_4 c n) h6 l0 l1 l2 l3) else (fX4_waitingAheadOf_44 c (fX4_waitingAheadOf_4 c n) h6 l0 l1 (l2 + (1 : Int32)) l3)))) else (fX4_waitingAheadOf_44 c (fX4_waitingAheadOf_4 c n) h3 l0 l1 l2 l3)))))) else (some (h1, some (.inl l2)))))
set_option maxHeartbeats 4000000 in
set_option maxRecDepth 100000 in
theorem sX4_waitingAheadOf_4 (X : Cx) {h0 : Hp} : ∀ (n : Nat) (h : Hp) (l0 : Option Nat) (l1 : Option Nat) (l2 : Int32) (l3 : Int32), Gd X mX4_waitingAheadOf h0 (fX4_waitingAheadOf_4 X.2.2.2 n h l0 l1 l2 l3) h 4 [some (.inr (.inr l0)), some (.inr (.inr l1)), some (.inl l2), some (.inl l3), none] [] := by
  intro n
  induction n with
  | zero => intros; exact gd_none
  | succ n ih =>
    intro h l0 l1 l2 l3
    unfold fX4_waitingAheadOf_4
    refine q_run tkX4_waitingAheadOf 4 2 (pc' := 6) (L' := [some (.inr (.inr l0)), some (.inr (.inr l1)), some (.inl l2), some (.inl l3), none]) (st' := [.inr (.inr l0), .inl l3]) rfl ?_
    refine q_cv (r := l0) (ci := 6) (n := 0) (as := []) (st := [.inl l3]) TX4 13 (soX4_places X h l0) (tbm tkX4_waitingAheadOf (i := 6) rfl) rfl rfl ceX4_places wd_273 wd_274 wd_272 rfl (Nat.le_of_ble_eq_true rfl) (kI_gd (fun h1 x2 => ?_))
    refine q_icmp_ge (tbm tkX4_waitingAheadOf (i := 7) rfl) ?_ ?_
    · refine q_run tkX4_waitingAheadOf 8 2 (pc' := 14) (L' := [some (.inr (.inr l0)), some (.inr (.inr l1)), some (.inl l2), some (.inl l3), none]) (st' := [.inl l3, .inr (.inr l0)]) rfl ?_
      refine q_cv (r := l0) (ci := 6) (n := 1) (as := [.inl l3]) (st := []) TX4 13 (soX4_placeAt X h1 l0 l3) (tbm tkX4_waitingAheadOf (i := 10) rfl) rfl rfl ceX4_placeAt wd_277 wd_278 wd_276 rfl (Nat.le_of_ble_eq_true rfl) (kR_gd (fun h3 r4 => ?_))
      refine q_run tkX4_waitingAheadOf 11 2 (pc' := 21) (L' := [some (.inr (.inr l0)), some (.inr (.inr l1)), some (.inl l2), some (.inl l3), some (.inr (.inr r4))]) (st' := [.inr (.inr r4)]) rfl ?_
      refine q_ifnull (tbm tkX4_waitingAheadOf (i := 13) rfl) ?_ ?_
      · refine q_le (L' := [some (.inr (.inr l0)), some (.inr (.inr l1)), some (.inl l2), some (.inl l3), none]) (lvLe_s (lvLe_s (lvLe_s (lvLe_s (lvLe_n lvLe_0))))) ?_
        exact sX4_waitingAheadOf_44 X (fX4_waitingAheadOf_4 X.2.2.2 n) ih h3 l0 l1 l2 l3
      · refine q_run tkX4_waitingAheadOf 14 1 (pc' := 26) (L' := [some (.inr (.inr l0)), some (.inr (.inr l1)), some (.inl l2), some (.inl l3), some (.inr (.inr r4))]) (st' := [.inr (.inr r4)]) rfl ?_
        refine q_rdI RX2 TX2 14 (tbm tkX4_waitingAheadOf (i := 15) rfl) rfl (Nat.le_of_ble_eq_true rfl) wd_67 (fun x5 => ?_)
        refine q_if_ne (tbm tkX4_waitingAheadOf (i := 16) rfl) ?_ ?_
        · refine q_run tkX4_waitingAheadOf 17 2 (pc' := 35) (L' := [some (.inr (.inr l0)), some (.inr (.inr l1)), some (.inl l2), some (.inl l3), some (.inr (.inr r4))]) (st' := [.inr (.inr l1), .inr (.inr r4)]) rfl ?_
          refine q_cv (r := r4) (ci := 4) (n := 1) (as := [.inr (.inr l1)]) (st := []) TX2 14 (soX2_isAheadOf X h3 r4 l1) (tbm tkX4_waitingAheadOf (i := 19) rfl) rfl rfl ceX2_isAheadOf wd_590 wd_591 wd_589 rfl (Nat.le_of_ble_eq_true rfl) (kI_gd (fun h6 x7 => ?_))
          refine q_if_eq (tbm tkX4_waitingAheadOf (i := 20) rfl) ?_ ?_
          · refine q_le (L' := [some (.inr (.inr l0)), some (.inr (.inr l1)), some (.inl l2), some (.inl l3), none]) (lvLe_s (lvLe_s (lvLe_s (lvLe_s (lvLe_n lvLe_0))))) ?_
            exact sX4_waitingAheadOf_44 X (fX4_waitingAheadOf_4 X.2.2.2 n) ih h6 l0 l1 l2 l3
          · refine q_run tkX4_waitingAheadOf 21 1 (pc' := 44) (L' := [some (.inr (.inr l0)), some (.inr (.inr l1)), some (.inl (l2 + (1 : Int32))), some (.inl l3), some (.inr (.inr r4))]) (st' := []) rfl ?_
            refine q_le (L' := [some (.inr (.inr l0)), some (.inr (.inr l1)), some (.inl (l2 + (1 : Int32))), some (.inl l3), none]) (lvLe_s (lvLe_s (lvLe_s (lvLe_s (lvLe_n lvLe_0))))) ?_
            exact sX4_waitingAheadOf_44 X (fX4_waitingAheadOf_4 X.2.2.2 n) ih h6 l0 l1 (l2 + (1 : Int32)) l3
        · refine q_le (L' := [some (.inr (.inr l0)), some (.inr (.inr l1)), some (.inl l2), some (.inl l3), none]) (lvLe_s (lvLe_s (lvLe_s (lvLe_s (lvLe_n lvLe_0))))) ?_
          exact sX4_waitingAheadOf_44 X (fX4_waitingAheadOf_4 X.2.2.2 n) ih h3 l0 l1 l2 l3
    · refine q_run tkX4_waitingAheadOf 24 1 (pc' := 51) (L' := [some (.inr (.inr l0)), some (.inr (.inr l1)), some (.inl l2), some (.inl l3), none]) (st' := [.inl l2]) rfl ?_
      exact q_iret (tbm tkX4_waitingAheadOf (i := 25) rfl) rfl
def fX4_waitingAheadOf (c : Nat → Option Nat) (h : Hp) (a0 : Option Nat) (a1 : Option Nat) : Rs := fX4_waitingAheadOf_4 c FU h a0 a1 (0 : Int32) (0 : Int32)
set_option maxHeartbeats 4000000 in
set_option maxRecDepth 100000 in
theorem soX4_waitingAheadOf (X : Cx) (h : Hp) (a0 : Option Nat) (a1 : Option Nat) : SO X mX4_waitingAheadOf [.inr (.inr a0), .inr (.inr a1)] h (fX4_waitingAheadOf X.2.2.2 h a0 a1) := by
  refine so_of (by decide +kernel) (Nat.le_of_ble_eq_true rfl) ?_
  show Gd X mX4_waitingAheadOf h (fX4_waitingAheadOf X.2.2.2 h a0 a1) h 0 [some (.inr (.inr a0)), some (.inr (.inr a1)), none, none, none] []
  unfold fX4_waitingAheadOf
  refine q_run tkX4_waitingAheadOf 0 4 (pc' := 4) (L' := [some (.inr (.inr a0)), some (.inr (.inr a1)), some (.inl (0 : Int32)), some (.inl (0 : Int32)), none]) (st' := []) rfl ?_
  exact sX4_waitingAheadOf_4 X FU h a0 a1 (0 : Int32) (0 : Int32)
theorem ceX4_waitingAheadOf : Ce mX4_waitingAheadOf 1 := ⟨wd_19, wd_588, by decide +kernel, by decide +kernel, by decide +kernel⟩
/-- ReceiptRolls$State.waitingAt -/
abbrev mX4_waitingAt : MI := (yX4_waitingAt, cX4_waitingAt, 4, some (.object "ReceiptRolls$Receipt"), 2)
def tbX4_waitingAt : List TE := [(0, .iconst 0, 1, 0, 0), (1, .istore_n 2, 1, 0, 0), (2, .iload_n 2, 1, 0, 0), (3, .aload_n 0, 1, 0, 0), (4, .invokevirtual 71, 3, 0, 0), (7, .if_icmp .ge 37, 3, 0, 44), (10, .aload_n 0, 1, 0, 0), (11, .iload_n 2, 1, 0, 0), (12, .invokevirtual 75, 3, 0, 0), (15, .astore_n 3, 1, 0, 0), (16, .aload_n 3, 1, 0, 0), (17, .ifnull 21, 3, 0, 38), (20, .aload_n 3, 1, 0, 0), (21, .getfield 79, 3, 0, 0), (24, .ifCond .ne 14, 3, 0, 38), (27, .aload_n 0, 1, 0, 0), (28, .aload_n 3, 1, 0, 0), (29, .invokevirtual 82, 3, 0, 0), (32, .iload_n 1, 1, 0, 0), (33, .if_icmp .ne 5, 3, 0, 38), (36, .aload_n 3, 1, 0, 0), (37, .areturn, 1, 0, 0), (38, .iinc 2 1, 3, 1, 0), (41, .goto (-39), 3, 0, 2), (44, .aconst_null, 1, 0, 0), (45, .areturn, 1, 0, 0)]
theorem tkX4_waitingAt : ∀ x ∈ tbX4_waitingAt, tbB cX4_waitingAt x = true := tb_all (by decide +kernel)
def fX4_waitingAt_38 (c : Nat → Option Nat) (k2 : Hp → Option Nat → Int32 → Int32 → Rs) (h : Hp) (l0 : Option Nat) (l1 : Int32) (l2 : Int32) : Rs := k2 h l0 l1 (l2 + (1 : Int32))
set_option maxHeartbeats 4000000 in
set_option maxRecDepth 100000 in
theorem sX4_waitingAt_38 (X : Cx) {h0 : Hp} (k2 : Hp → Option Nat → Int32 → Int32 → Rs) (hk2 : ∀ (h : Hp) (l0 : Option Nat) (l1 : Int32) (l2 : Int32), Gd X mX4_waitingAt h0 (k2 h l0 l1 l2) h 2 [some (.inr (.inr l0)), some (.inl l1), some (.inl l2), none] []) (h : Hp) (l0 : Option Nat) (l1 : Int32) (l2 : Int32) : Gd X mX4_waitingAt h0 (fX4_waitingAt_38 X.2.2.2 k2 h l0 l1 l2) h 38 [some (.inr (.inr l0)), some (.inl l1), some (.inl l2), none] [] := by
  unfold fX4_waitingAt_38
  refine q_run tkX4_waitingAt 22 2 (pc' := 2) (L' := [some (.inr (.inr l0)), some (.inl l1), some (.inl (l2 + (1 : Int32))), none]) (st' := []) rfl ?_
  exact hk2 h l0 l1 (l2 + (1 : Int32))
def fX4_waitingAt_2 (c : Nat → Option Nat) : Nat → Hp → Option Nat → Int32 → Int32 → Rs
  | 0, _, _, _, _ => none
  | n + 1, h, l0, l1, l2 => ck h l0 6 (cc (fX4_places c h l0) (kI fun h1 x2 => if l2 < x2 then (ck h1 l0 6 (cc (fX4_placeAt c h1 l0 l2) (kR fun h3 r4 => ifN r4 (fX4_waitingAt_38 c (fX4_waitingAt_2 c n) h3 l0 l1 l2) (rdI h3 r4 4 3 (fun x5 => if x5 = 0 then (ck h3 l0 6 (cc (fX4_waitingAheadOf c h3 l0 r4) (kI fun h6 x7 => if x7 = l1 then (some (h6, some (.inr (.inr r4)))) else (fX4_waitingAt_38 c (fX4_waitingAt_2 c n) h6 l0 l1 l2)))) else (fX4_waitingAt_38 c (fX4_waitingAt_2 c n) h3 l0 l1 l2)))))) else (some (h1, some (.inr (.inr none))))))
set_option maxHeartbeats 4000000 in
set_option maxRecDepth 100000 in
theorem sX4_waitingAt_2 (X : Cx) {h0 : Hp} : ∀ (n : Nat) (h : Hp) (l0 : Option Nat) (l1 : Int32) (l2 : Int32), Gd X mX4_waitingAt h0 (fX4_waitingAt_2 X.2.2.2 n h l0 l1 l2) h 2 [some (.inr (.inr l0)), some (.inl l1), some (.inl l2), none] [] := by
  intro n
  induction n with
  | zero => intros; exact gd_none
  | succ n ih =>
    intro h l0 l1 l2
    unfold fX4_waitingAt_2
    refine q_run tkX4_waitingAt 2 2 (pc' := 4) (L' := [some (.inr (.inr l0)), some (.inl l1), some (.inl l2), none]) (st' := [.inr (.inr l0), .inl l2]) rfl ?_
    refine q_cv (r := l0) (ci := 6) (n := 0) (as := []) (st := [.inl l2]) TX4 13 (soX4_places X h l0) (tbm tkX4_waitingAt (i := 4) rfl) rfl rfl ceX4_places wd_273 wd_274 wd_272 rfl (Nat.le_of_ble_eq_true rfl) (kI_gd (fun h1 x2 => ?_))
    refine q_icmp_ge (tbm tkX4_waitingAt (i := 5) rfl) ?_ ?_
    · refine q_run tkX4_waitingAt 6 2 (pc' := 12) (L' := [some (.inr (.inr l0)), some (.inl l1), some (.inl l2), none]) (st' := [.inl l2, .inr (.inr l0)]) rfl ?_
      refine q_cv (r := l0) (ci := 6) (n := 1) (as := [.inl l2]) (st := []) TX4 13 (soX4_placeAt X h1 l0 l2) (tbm tkX4_waitingAt (i := 8) rfl) rfl rfl ceX4_placeAt wd_277 wd_278 wd_276 rfl (Nat.le_of_ble_eq_true rfl) (kR_gd (fun h3 r4 => ?_))
      refine q_run tkX4_waitingAt 9 2 (pc' := 17) (L' := [some (.inr (.inr l0)), some (.inl l1), some (.inl l2), some (.inr (.inr r4))]) (st' := [.inr (.inr r4)]) rfl ?_
      refine q_ifnull (tbm tkX4_waitingAt (i := 11) rfl) ?_ ?_
      · refine q_le (L' := [some (.inr (.inr l0)), some (.inl l1), some (.inl l2), none]) (lvLe_s (lvLe_s (lvLe_s (lvLe_n lvLe_0)))) ?_
        exact sX4_waitingAt_38 X (fX4_waitingAt_2 X.2.2.2 n) ih h3 l0 l1 l2
      · refine q_run tkX4_waitingAt 12 1 (pc' := 21) (L' := [some (.inr (.inr l0)), some (.inl l1), some (.inl l2), some (.inr (.inr r4))]) (st' := [.inr (.inr r4)]) rfl ?_
        refine q_rdI RX2 TX2 14 (tbm tkX4_waitingAt (i := 13) rfl) rfl (Nat.le_of_ble_eq_true rfl) wd_67 (fun x5 => ?_)
        refine q_if_ne (tbm tkX4_waitingAt (i := 14) rfl) ?_ ?_
        · refine q_run tkX4_waitingAt 15 2 (pc' := 29) (L' := [some (.inr (.inr l0)), some (.inl l1), some (.inl l2), some (.inr (.inr r4))]) (st' := [.inr (.inr r4), .inr (.inr l0)]) rfl ?_
          refine q_cv (r := l0) (ci := 6) (n := 1) (as := [.inr (.inr r4)]) (st := []) TX4 13 (soX4_waitingAheadOf X h3 l0 r4) (tbm tkX4_waitingAt (i := 17) rfl) rfl rfl ceX4_waitingAheadOf wd_587 wd_14 wd_585 rfl (Nat.le_of_ble_eq_true rfl) (kI_gd (fun h6 x7 => ?_))
          refine q_run tkX4_waitingAt 18 1 (pc' := 33) (L' := [some (.inr (.inr l0)), some (.inl l1), some (.inl l2), some (.inr (.inr r4))]) (st' := [.inl l1, .inl x7]) rfl ?_
          refine q_icmp_ne (tbm tkX4_waitingAt (i := 19) rfl) ?_ ?_
          · refine q_run tkX4_waitingAt 20 1 (pc' := 37) (L' := [some (.inr (.inr l0)), some (.inl l1), some (.inl l2), some (.inr (.inr r4))]) (st' := [.inr (.inr r4)]) rfl ?_
            exact q_aret (tbm tkX4_waitingAt (i := 21) rfl) rfl (Or.inl ⟨_, rfl⟩)
          · refine q_le (L' := [some (.inr (.inr l0)), some (.inl l1), some (.inl l2), none]) (lvLe_s (lvLe_s (lvLe_s (lvLe_n lvLe_0)))) ?_
            exact sX4_waitingAt_38 X (fX4_waitingAt_2 X.2.2.2 n) ih h6 l0 l1 l2
        · refine q_le (L' := [some (.inr (.inr l0)), some (.inl l1), some (.inl l2), none]) (lvLe_s (lvLe_s (lvLe_s (lvLe_n lvLe_0)))) ?_
          exact sX4_waitingAt_38 X (fX4_waitingAt_2 X.2.2.2 n) ih h3 l0 l1 l2
    · refine q_run tkX4_waitingAt 24 1 (pc' := 45) (L' := [some (.inr (.inr l0)), some (.inl l1), some (.inl l2), none]) (st' := [.inr (.inr none)]) rfl ?_
      exact q_aret (tbm tkX4_waitingAt (i := 25) rfl) rfl (Or.inl ⟨_, rfl⟩)
def fX4_waitingAt (c : Nat → Option Nat) (h : Hp) (a0 : Option Nat) (a1 : Int32) : Rs := fX4_waitingAt_2 c FU h a0 a1 (0 : Int32)
set_option maxHeartbeats 4000000 in
set_option maxRecDepth 100000 in
theorem soX4_waitingAt (X : Cx) (h : Hp) (a0 : Option Nat) (a1 : Int32) : SO X mX4_waitingAt [.inr (.inr a0), .inl a1] h (fX4_waitingAt X.2.2.2 h a0 a1) := by
  refine so_of (by decide +kernel) (Nat.le_of_ble_eq_true rfl) ?_
  show Gd X mX4_waitingAt h (fX4_waitingAt X.2.2.2 h a0 a1) h 0 [some (.inr (.inr a0)), some (.inl a1), none, none] []
  unfold fX4_waitingAt
  refine q_run tkX4_waitingAt 0 2 (pc' := 2) (L' := [some (.inr (.inr a0)), some (.inl a1), some (.inl (0 : Int32)), none]) (st' := []) rfl ?_
  exact sX4_waitingAt_2 X FU h a0 a1 (0 : Int32)
theorem ceX4_waitingAt : Ce mX4_waitingAt 1 := ⟨wd_19, wd_584, by decide +kernel, by decide +kernel, by decide +kernel⟩
/-- ReceiptRolls$State.takeReceipt -/
abbrev mX4_takeReceipt : MI := (yX4_takeReceipt, cX4_takeReceipt, 2, some (.object "ReceiptRolls$Receipt"), 3)
def tbX4_takeReceipt : List TE := [(0, .aload_n 0, 1, 0, 0), (1, .getfield 53, 3, 0, 0), (4, .ifCond .eq 12, 3, 0, 16), (7, .aload_n 0, 1, 0, 0), (8, .aload_n 0, 1, 0, 0), (9, .getfield 53, 3, 0, 0), (12, .invokevirtual 107, 3, 0, 0), (15, .areturn, 1, 0, 0), (16, .aload_n 0, 1, 0, 0), (17, .iconst 0, 1, 0, 0), (18, .invokevirtual 110, 3, 0, 0), (21, .astore_n 1, 1, 0, 0), (22, .aload_n 1, 1, 0, 0), (23, .ifnull 16, 3, 0, 39), (26, .aload_n 1, 1, 0, 0), (27, .iconst 1, 1, 1, 0), (28, .putfield 79, 3, 0, 0), (31, .aload_n 0, 1, 0, 0), (32, .aload_n 1, 1, 0, 0), (33, .getfield 68, 3, 0, 0), (36, .putfield 53, 3, 0, 0), (39, .aload_n 1, 1, 0, 0), (40, .areturn, 1, 0, 0)]
theorem tkX4_takeReceipt : ∀ x ∈ tbX4_takeReceipt, tbB cX4_takeReceipt x = true := tb_all (by decide +kernel)
def fX4_takeReceipt_39 (c : Nat → Option Nat) (h : Hp) (l1 : Option Nat) : Rs := some (h, some (.inr (.inr l1)))
set_option maxHeartbeats 4000000 in
set_option maxRecDepth 100000 in
theorem sX4_takeReceipt_39 (X : Cx) {h0 : Hp} (h : Hp) (l1 : Option Nat) : Gd X mX4_takeReceipt h0 (fX4_takeReceipt_39 X.2.2.2 h l1) h 39 [none, some (.inr (.inr l1))] [] := by
  unfold fX4_takeReceipt_39
  refine q_run tkX4_takeReceipt 21 1 (pc' := 40) (L' := [none, some (.inr (.inr l1))]) (st' := [.inr (.inr l1)]) rfl ?_
  exact q_aret (tbm tkX4_takeReceipt (i := 22) rfl) rfl (Or.inl ⟨_, rfl⟩)
def fX4_takeReceipt (c : Nat → Option Nat) (h : Hp) (a0 : Option Nat) : Rs := rdI h a0 6 9 (fun x1 => if x1 = 0 then (ck h a0 6 (cc (fX4_waitingAt c h a0 (0 : Int32)) (kR fun h2 r3 => ifN r3 (fX4_takeReceipt_39 c h2 r3) (wr h2 r3 4 3 (.inl (1 : Int32)) (fun h4 => rdI h4 r3 4 0 (fun x5 => wr h4 a0 6 9 (.inl x5) (fun h6 => fX4_takeReceipt_39 c h6 r3))))))) else (rdI h a0 6 9 (fun x7 => ck h a0 6 (cc (fX4_known c h a0 x7) (kR fun h8 r9 => some (h8, some (.inr (.inr r9))))))))
set_option maxHeartbeats 4000000 in
set_option maxRecDepth 100000 in
theorem soX4_takeReceipt (X : Cx) (h : Hp) (a0 : Option Nat) : SO X mX4_takeReceipt [.inr (.inr a0)] h (fX4_takeReceipt X.2.2.2 h a0) := by
  refine so_of (by decide +kernel) (Nat.le_of_ble_eq_true rfl) ?_
  show Gd X mX4_takeReceipt h (fX4_takeReceipt X.2.2.2 h a0) h 0 [some (.inr (.inr a0)), none] []
  unfold fX4_takeReceipt
  refine q_run tkX4_takeReceipt 0 1 (pc' := 1) (L' := [some (.inr (.inr a0)), none]) (st' := [.inr (.inr a0)]) rfl ?_
  refine q_rdI RX4 TX4 13 (tbm tkX4_takeReceipt (i := 1) rfl) rfl (Nat.le_of_ble_eq_true rfl) wd_137 (fun x1 => ?_)
  refine q_if_eq (tbm tkX4_takeReceipt (i := 2) rfl) ?_ ?_
  · refine q_run tkX4_takeReceipt 8 2 (pc' := 18) (L' := [some (.inr (.inr a0)), none]) (st' := [.inl (0 : Int32), .inr (.inr a0)]) rfl ?_
    refine q_cv (r := a0) (ci := 6) (n := 1) (as := [.inl (0 : Int32)]) (st := []) TX4 13 (soX4_waitingAt X h a0 (0 : Int32)) (tbm tkX4_takeReceipt (i := 10) rfl) rfl rfl ceX4_waitingAt wd_582 wd_583 wd_581 rfl (Nat.le_of_ble_eq_true rfl) (kR_gd (fun h2 r3 => ?_))
    refine q_run tkX4_takeReceipt 11 2 (pc' := 23) (L' := [some (.inr (.inr a0)), some (.inr (.inr r3))]) (st' := [.inr (.inr r3)]) rfl ?_
    refine q_ifnull (tbm tkX4_takeReceipt (i := 13) rfl) ?_ ?_
    · refine q_le (L' := [none, some (.inr (.inr r3))]) (lvLe_n (lvLe_s lvLe_0)) ?_
      exact sX4_takeReceipt_39 X h2 r3
    · refine q_run tkX4_takeReceipt 14 2 (pc' := 28) (L' := [some (.inr (.inr a0)), some (.inr (.inr r3))]) (st' := [.inl (1 : Int32), .inr (.inr r3)]) rfl ?_
      refine q_wr RX2 TX2 14 (tbm tkX4_takeReceipt (i := 16) rfl) rfl (Nat.le_of_ble_eq_true rfl) (Or.inl rfl) wd_67 (fun h4 => ?_)
      refine q_run tkX4_takeReceipt 17 2 (pc' := 33) (L' := [some (.inr (.inr a0)), some (.inr (.inr r3))]) (st' := [.inr (.inr r3), .inr (.inr a0)]) rfl ?_
      refine q_rdI RX2 TX2 14 (tbm tkX4_takeReceipt (i := 19) rfl) rfl (Nat.le_of_ble_eq_true rfl) wd_59 (fun x5 => ?_)
      refine q_wr RX4 TX4 13 (tbm tkX4_takeReceipt (i := 20) rfl) rfl (Nat.le_of_ble_eq_true rfl) (Or.inl rfl) wd_137 (fun h6 => ?_)
      refine q_le (L' := [none, some (.inr (.inr r3))]) (lvLe_n (lvLe_s lvLe_0)) ?_
      exact sX4_takeReceipt_39 X h6 r3
  · refine q_run tkX4_takeReceipt 3 2 (pc' := 9) (L' := [some (.inr (.inr a0)), none]) (st' := [.inr (.inr a0), .inr (.inr a0)]) rfl ?_
    refine q_rdI RX4 TX4 13 (tbm tkX4_takeReceipt (i := 5) rfl) rfl (Nat.le_of_ble_eq_true rfl) wd_137 (fun x7 => ?_)
    refine q_cv (r := a0) (ci := 6) (n := 1) (as := [.inl x7]) (st := []) TX4 13 (soX4_known X h a0 x7) (tbm tkX4_takeReceipt (i := 6) rfl) rfl rfl ceX4_known wd_269 wd_270 wd_580 rfl (Nat.le_of_ble_eq_true rfl) (kR_gd (fun h8 r9 => ?_))
    exact q_aret (tbm tkX4_takeReceipt (i := 7) rfl) rfl (Or.inl ⟨_, rfl⟩)
theorem ceX4_takeReceipt : Ce mX4_takeReceipt 0 := ⟨wd_19, wd_579, by decide +kernel, by decide +kernel, by decide +kernel⟩
/-- ReceiptRolls$State.finish -/
abbrev mX4_finish : MI := (yX4_finish, cX4_finish, 4, none, 1)
def tbX4_finish : List TE := [(0, .aload_n 1, 1, 0, 0), (1, .iconst 2, 1, 2, 0), (2, .putfield 79, 3, 0, 0), (5, .aload_n 1, 1, 0, 0), (6, .aload_n 0, 1, 0, 0), (7, .getfield 41, 3, 0, 0), (10, .putfield 113, 3, 0, 0), (13, .aload_n 1, 1, 0, 0), (14, .aload_n 0, 1, 0, 0), (15, .getfield 47, 3, 0, 0), (18, .putfield 116, 3, 0, 0), (21, .aload_n 0, 1, 0, 0), (22, .iconst 0, 1, 0, 0), (23, .putfield 53, 3, 0, 0), (26, .aload_n 0, 1, 0, 0), (27, .dup, 1, 0, 0), (28, .getfield 47, 3, 0, 0), (31, .iconst 1, 1, 1, 0), (32, .iadd, 1, 0, 0), (33, .putfield 47, 3, 0, 0), (36, .iconst 0, 1, 0, 0), (37, .istore_n 2, 1, 0, 0), (38, .iload_n 2, 1, 0, 0), (39, .aload_n 0, 1, 0, 0), (40, .invokevirtual 71, 3, 0, 0), (43, .if_icmp .ge 45, 3, 0, 88), (46, .aload_n 0, 1, 0, 0), (47, .iload_n 2, 1, 0, 0), (48, .invokevirtual 75, 3, 0, 0), (51, .astore_n 3, 1, 0, 0), (52, .aload_n 3, 1, 0, 0), (53, .ifnull 29, 3, 0, 82), (56, .aload_n 3, 1, 0, 0), (57, .getfield 79, 3, 0, 0), (60, .iconst 2, 1, 2, 0), (61, .if_icmp .ne 21, 3, 0, 82), (64, .aload_n 3, 1, 0, 0), (65, .getfield 116, 3, 0, 0), (68, .aload_n 0, 1, 0, 0), (69, .getfield 47, 3, 0, 0), (72, .bipush 8, 2, 8, 0), (74, .isub, 1, 0, 0), (75, .if_icmp .ge 7, 3, 0, 82), (78, .aload_n 3, 1, 0, 0), (79, .invokevirtual 119, 3, 0, 0), (82, .iinc 2 1, 3, 1, 0), (85, .goto (-47), 3, 0, 38), (88, .return_, 1, 0, 0)]
theorem tkX4_finish : ∀ x ∈ tbX4_finish, tbB cX4_finish x = true := tb_all (by decide +kernel)
def fX4_finish_82 (c : Nat → Option Nat) (k38 : Hp → Option Nat → Int32 → Rs) (h : Hp) (l0 : Option Nat) (l2 : Int32) : Rs := k38 h l0 (l2 + (1 : Int32))
set_option maxHeartbeats 4000000 in
set_option maxRecDepth 100000 in
theorem sX4_finish_82 (X : Cx) {h0 : Hp} (k38 : Hp → Option Nat → Int32 → Rs) (hk38 : ∀ (h : Hp) (l0 : Option Nat) (l2 : Int32), Gd X mX4_finish h0 (k38 h l0 l2) h 38 [some (.inr (.inr l0)), none, some (.inl l2), none] []) (h : Hp) (l0 : Option Nat) (l2 : Int32) : Gd X mX4_finish h0 (fX4_finish_82 X.2.2.2 k38 h l0 l2) h 82 [some (.inr (.inr l0)), none, some (.inl l2), none] [] := by
  unfold fX4_finish_82
  refine q_run tkX4_finish 45 2 (pc' := 38) (L' := [some (.inr (.inr l0)), none, some (.inl (l2 + (1 : Int32))), none]) (st' := []) rfl ?_
  exact hk38 h l0 (l2 + (1 : Int32))
def fX4_finish_38 (c : Nat → Option Nat) : Nat → Hp → Option Nat → Int32 → Rs
  | 0, _, _, _ => none
  | n + 1, h, l0, l2 => ck h l0 6 (cc (fX4_places c h l0) (kI fun h1 x2 => if l2 < x2 then (ck h1 l0 6 (cc (fX4_placeAt c h1 l0 l2) (kR fun h3 r4 => ifN r4 (fX4_finish_82 c (fX4_finish_38 c n) h3 l0 l2) (rdI h3 r4 4 3 (fun x5 => if x5 = (2 : Int32) then (rdI h3 r4 4 8 (fun x6 => rdI h3 l0 6 7 (fun x7 => if x6 < (x7 - (8 : Int32)) then (ck h3 r4 4 (cc (fX2_clear c h3 r4) (kV fun h8 => fX4_finish_82 c (fX4_finish_38 c n) h8 l0 l2))) else (fX4_finish_82 c (fX4_finish_38 c n) h3 l0 l2)))) else (fX4_finish_82 c (fX4_finish_38 c n) h3 l0 l2)))))) else (some (h1, none))))
set_option maxHeartbeats 4000000 in
set_option maxRecDepth 100000 in
theorem sX4_finish_38 (X : Cx) {h0 : Hp} : ∀ (n : Nat) (h : Hp) (l0 : Option Nat) (l2 : Int32), Gd X mX4_finish h0 (fX4_finish_38 X.2.2.2 n h l0 l2) h 38 [some (.inr (.inr l0)), none, some (.inl l2), none] [] := by
  intro n
  induction n with
  | zero => intros; exact gd_none
  | succ n ih =>
    intro h l0 l2
    unfold fX4_finish_38
    refine q_run tkX4_finish 22 2 (pc' := 40) (L' := [some (.inr (.inr l0)), none, some (.inl l2), none]) (st' := [.inr (.inr l0), .inl l2]) rfl ?_
    refine q_cv (r := l0) (ci := 6) (n := 0) (as := []) (st := [.inl l2]) TX4 13 (soX4_places X h l0) (tbm tkX4_finish (i := 24) rfl) rfl rfl ceX4_places wd_273 wd_274 wd_272 rfl (Nat.le_of_ble_eq_true rfl) (kI_gd (fun h1 x2 => ?_))
    refine q_icmp_ge (tbm tkX4_finish (i := 25) rfl) ?_ ?_
    · refine q_run tkX4_finish 26 2 (pc' := 48) (L' := [some (.inr (.inr l0)), none, some (.inl l2), none]) (st' := [.inl l2, .inr (.inr l0)]) rfl ?_
      refine q_cv (r := l0) (ci := 6) (n := 1) (as := [.inl l2]) (st := []) TX4 13 (soX4_placeAt X h1 l0 l2) (tbm tkX4_finish (i := 28) rfl) rfl rfl ceX4_placeAt wd_277 wd_278 wd_276 rfl (Nat.le_of_ble_eq_true rfl) (kR_gd (fun h3 r4 => ?_))
      refine q_run tkX4_finish 29 2 (pc' := 53) (L' := [some (.inr (.inr l0)), none, some (.inl l2), some (.inr (.inr r4))]) (st' := [.inr (.inr r4)]) rfl ?_
      refine q_ifnull (tbm tkX4_finish (i := 31) rfl) ?_ ?_
      · refine q_le (L' := [some (.inr (.inr l0)), none, some (.inl l2), none]) (lvLe_s (lvLe_n (lvLe_s (lvLe_n lvLe_0)))) ?_
        exact sX4_finish_82 X (fX4_finish_38 X.2.2.2 n) ih h3 l0 l2
      · refine q_run tkX4_finish 32 1 (pc' := 57) (L' := [some (.inr (.inr l0)), none, some (.inl l2), some (.inr (.inr r4))]) (st' := [.inr (.inr r4)]) rfl ?_
        refine q_rdI RX2 TX2 14 (tbm tkX4_finish (i := 33) rfl) rfl (Nat.le_of_ble_eq_true rfl) wd_67 (fun x5 => ?_)
        refine q_run tkX4_finish 34 1 (pc' := 61) (L' := [some (.inr (.inr l0)), none, some (.inl l2), some (.inr (.inr r4))]) (st' := [.inl (2 : Int32), .inl x5]) rfl ?_
        refine q_icmp_ne (tbm tkX4_finish (i := 35) rfl) ?_ ?_
        · refine q_run tkX4_finish 36 1 (pc' := 65) (L' := [some (.inr (.inr l0)), none, some (.inl l2), some (.inr (.inr r4))]) (st' := [.inr (.inr r4)]) rfl ?_
          refine q_rdI RX2 TX2 14 (tbm tkX4_finish (i := 37) rfl) rfl (Nat.le_of_ble_eq_true rfl) wd_80 (fun x6 => ?_)
          refine q_run tkX4_finish 38 1 (pc' := 69) (L' := [some (.inr (.inr l0)), none, some (.inl l2), some (.inr (.inr r4))]) (st' := [.inr (.inr l0), .inl x6]) rfl ?_
          refine q_rdI RX4 TX4 13 (tbm tkX4_finish (i := 39) rfl) rfl (Nat.le_of_ble_eq_true rfl) wd_133 (fun x7 => ?_)
          refine q_run tkX4_finish 40 2 (pc' := 75) (L' := [some (.inr (.inr l0)), none, some (.inl l2), some (.inr (.inr r4))]) (st' := [.inl (x7 - (8 : Int32)), .inl x6]) rfl ?_
          refine q_icmp_ge (tbm tkX4_finish (i := 42) rfl) ?_ ?_
          · refine q_run tkX4_finish 43 1 (pc' := 79) (L' := [some (.inr (.inr l0)), none, some (.inl l2), some (.inr (.inr r4))]) (st' := [.inr (.inr r4)]) rfl ?_
            refine q_cv (r := r4) (ci := 4) (n := 0) (as := []) (st := []) TX2 14 (soX2_clear X h3 r4) (tbm tkX4_finish (i := 44) rfl) rfl rfl ceX2_clear wd_521 wd_522 wd_597 rfl (Nat.le_of_ble_eq_true rfl) (kV_gd (fun h8 => ?_))
            refine q_le (L' := [some (.inr (.inr l0)), none, some (.inl l2), none]) (lvLe_s (lvLe_n (lvLe_s (lvLe_n lvLe_0)))) ?_
            exact sX4_finish_82 X (fX4_finish_38 X.2.2.2 n) ih h8 l0 l2
          · refine q_le (L' := [some (.inr (.inr l0)), none, some (.inl l2), none]) (lvLe_s (lvLe_n (lvLe_s (lvLe_n lvLe_0)))) ?_
            exact sX4_finish_82 X (fX4_finish_38 X.2.2.2 n) ih h3 l0 l2
        · refine q_le (L' := [some (.inr (.inr l0)), none, some (.inl l2), none]) (lvLe_s (lvLe_n (lvLe_s (lvLe_n lvLe_0)))) ?_
          exact sX4_finish_82 X (fX4_finish_38 X.2.2.2 n) ih h3 l0 l2
    · exact q_vret (tbm tkX4_finish (i := 47) rfl) rfl
def fX4_finish (c : Nat → Option Nat) (h : Hp) (a0 : Option Nat) (a1 : Option Nat) : Rs := wr h a1 4 3 (.inl (2 : Int32)) (fun h9 => rdI h9 a0 6 5 (fun x10 => wr h9 a1 4 7 (.inl x10) (fun h11 => rdI h11 a0 6 7 (fun x12 => wr h11 a1 4 8 (.inl x12) (fun h13 => wr h13 a0 6 9 (.inl (0 : Int32)) (fun h14 => rdI h14 a0 6 7 (fun x15 => wr h14 a0 6 7 (.inl (x15 + (1 : Int32))) (fun h16 => fX4_finish_38 c FU h16 a0 (0 : Int32)))))))))
set_option maxHeartbeats 4000000 in
set_option maxRecDepth 100000 in
theorem soX4_finish (X : Cx) (h : Hp) (a0 : Option Nat) (a1 : Option Nat) : SO X mX4_finish [.inr (.inr a0), .inr (.inr a1)] h (fX4_finish X.2.2.2 h a0 a1) := by
  refine so_of (by decide +kernel) (Nat.le_of_ble_eq_true rfl) ?_
  show Gd X mX4_finish h (fX4_finish X.2.2.2 h a0 a1) h 0 [some (.inr (.inr a0)), some (.inr (.inr a1)), none, none] []
  unfold fX4_finish
  refine q_run tkX4_finish 0 2 (pc' := 2) (L' := [some (.inr (.inr a0)), some (.inr (.inr a1)), none, none]) (st' := [.inl (2 : Int32), .inr (.inr a1)]) rfl ?_
  refine q_wr RX2 TX2 14 (tbm tkX4_finish (i := 2) rfl) rfl (Nat.le_of_ble_eq_true rfl) (Or.inl rfl) wd_67 (fun h9 => ?_)
  refine q_run tkX4_finish 3 2 (pc' := 7) (L' := [some (.inr (.inr a0)), some (.inr (.inr a1)), none, none]) (st' := [.inr (.inr a0), .inr (.inr a1)]) rfl ?_
  refine q_rdI RX4 TX4 13 (tbm tkX4_finish (i := 5) rfl) rfl (Nat.le_of_ble_eq_true rfl) wd_129 (fun x10 => ?_)
  refine q_wr RX2 TX2 14 (tbm tkX4_finish (i := 6) rfl) rfl (Nat.le_of_ble_eq_true rfl) (Or.inl rfl) wd_78 (fun h11 => ?_)
  refine q_run tkX4_finish 7 2 (pc' := 15) (L' := [some (.inr (.inr a0)), some (.inr (.inr a1)), none, none]) (st' := [.inr (.inr a0), .inr (.inr a1)]) rfl ?_
  refine q_rdI RX4 TX4 13 (tbm tkX4_finish (i := 9) rfl) rfl (Nat.le_of_ble_eq_true rfl) wd_133 (fun x12 => ?_)
  refine q_wr RX2 TX2 14 (tbm tkX4_finish (i := 10) rfl) rfl (Nat.le_of_ble_eq_true rfl) (Or.inl rfl) wd_80 (fun h13 => ?_)
  refine q_run tkX4_finish 11 2 (pc' := 23) (L' := [some (.inr (.inr a0)), some (.inr (.inr a1)), none, none]) (st' := [.inl (0 : Int32), .inr (.inr a0)]) rfl ?_
  refine q_wr RX4 TX4 13 (tbm tkX4_finish (i := 13) rfl) rfl (Nat.le_of_ble_eq_true rfl) (Or.inl rfl) wd_137 (fun h14 => ?_)
  refine q_run tkX4_finish 14 2 (pc' := 28) (L' := [some (.inr (.inr a0)), some (.inr (.inr a1)), none, none]) (st' := [.inr (.inr a0), .inr (.inr a0)]) rfl ?_
  refine q_rdI RX4 TX4 13 (tbm tkX4_finish (i := 16) rfl) rfl (Nat.le_of_ble_eq_true rfl) wd_133 (fun x15 => ?_)
  refine q_run tkX4_finish 17 2 (pc' := 33) (L' := [some (.inr (.inr a0)), some (.inr (.inr a1)), none, none]) (st' := [.inl (x15 + (1 : Int32)), .inr (.inr a0)]) rfl ?_
  refine q_wr RX4 TX4 13 (tbm tkX4_finish (i := 19) rfl) rfl (Nat.le_of_ble_eq_true rfl) (Or.inl rfl) wd_133 (fun h16 => ?_)
  refine q_run tkX4_finish 20 2 (pc' := 38) (L' := [some (.inr (.inr a0)), some (.inr (.inr a1)), some (.inl (0 : Int32)), none]) (st' := []) rfl ?_
  refine q_le (L' := [some (.inr (.inr a0)), none, some (.inl (0 : Int32)), none]) (lvLe_s (lvLe_n (lvLe_s (lvLe_n lvLe_0)))) ?_
  exact sX4_finish_38 X FU h16 a0 (0 : Int32)
theorem ceX4_finish : Ce mX4_finish 1 := ⟨wd_19, wd_596, by decide +kernel, by decide +kernel, by decide +kernel⟩
/-- ReceiptRolls$State.printLine -/
abbrev mX4_printLine : MI := (yX4_printLine, cX4_printLine, 2, some .boolean, 4)
def tbX4_printLine : List TE := [(0, .aload_n 0, 1, 0, 0), (1, .invokevirtual 94, 3, 0, 0), (4, .astore_n 1, 1, 0, 0), (5, .aload_n 1, 1, 0, 0), (6, .ifnull 10, 3, 0, 16), (9, .aload_n 0, 1, 0, 0), (10, .getfield 9, 3, 0, 0), (13, .ifCond .gt 5, 3, 0, 18), (16, .iconst 0, 1, 0, 0), (17, .ireturn, 1, 0, 0), (18, .aload_n 1, 1, 0, 0), (19, .dup, 1, 0, 0), (20, .getfield 98, 3, 0, 0), (23, .iconst 1, 1, 1, 0), (24, .iadd, 1, 0, 0), (25, .putfield 98, 3, 0, 0), (28, .aload_n 0, 1, 0, 0), (29, .dup, 1, 0, 0), (30, .getfield 9, 3, 0, 0), (33, .iconst 1, 1, 1, 0), (34, .isub, 1, 0, 0), (35, .putfield 9, 3, 0, 0), (38, .aload_n 0, 1, 0, 0), (39, .dup, 1, 0, 0), (40, .getfield 32, 3, 0, 0), (43, .iconst 1, 1, 1, 0), (44, .iadd, 1, 0, 0), (45, .putfield 32, 3, 0, 0), (48, .aload_n 1, 1, 0, 0), (49, .getfield 98, 3, 0, 0), (52, .aload_n 1, 1, 0, 0), (53, .getfield 101, 3, 0, 0), (56, .if_icmp .lt 8, 3, 0, 64), (59, .aload_n 0, 1, 0, 0), (60, .aload_n 1, 1, 0, 0), (61, .invokevirtual 104, 3, 0, 0), (64, .iconst 1, 1, 1, 0), (65, .ireturn, 1, 0, 0)]
theorem tkX4_printLine : ∀ x ∈ tbX4_printLine, tbB cX4_printLine x = true := tb_all (by decide +kernel)
def fX4_printLine_64 (c : Nat → Option Nat) (h : Hp) : Rs := rtI .boolean h (1 : Int32)
set_option maxHeartbeats 4000000 in
set_option maxRecDepth 100000 in
theorem sX4_printLine_64 (X : Cx) {h0 : Hp} (h : Hp) : Gd X mX4_printLine h0 (fX4_printLine_64 X.2.2.2 h) h 64 [none, none] [] := by
  unfold fX4_printLine_64
  refine q_run tkX4_printLine 36 1 (pc' := 65) (L' := [none, none]) (st' := [.inl (1 : Int32)]) rfl ?_
  exact q_zret (tbm tkX4_printLine (i := 37) rfl) rfl
def fX4_printLine_16 (c : Nat → Option Nat) (h : Hp) : Rs := rtI .boolean h (0 : Int32)
set_option maxHeartbeats 4000000 in
set_option maxRecDepth 100000 in
theorem sX4_printLine_16 (X : Cx) {h0 : Hp} (h : Hp) : Gd X mX4_printLine h0 (fX4_printLine_16 X.2.2.2 h) h 16 [none, none] [] := by
  unfold fX4_printLine_16
  refine q_run tkX4_printLine 8 1 (pc' := 17) (L' := [none, none]) (st' := [.inl (0 : Int32)]) rfl ?_
  exact q_zret (tbm tkX4_printLine (i := 9) rfl) rfl
def fX4_printLine (c : Nat → Option Nat) (h : Hp) (a0 : Option Nat) : Rs := ck h a0 6 (cc (fX4_takeReceipt c h a0) (kR fun h1 r2 => ifN r2 (fX4_printLine_16 c h1) (rdI h1 a0 6 0 (fun x3 => if 0 < x3 then (rdI h1 r2 4 6 (fun x4 => wr h1 r2 4 6 (.inl (x4 + (1 : Int32))) (fun h5 => rdI h5 a0 6 0 (fun x6 => wr h5 a0 6 0 (.inl (x6 - (1 : Int32))) (fun h7 => rdI h7 a0 6 1 (fun x8 => wr h7 a0 6 1 (.inl (x8 + (1 : Int32))) (fun h9 => rdI h9 r2 4 6 (fun x10 => rdI h9 r2 4 5 (fun x11 => if x10 < x11 then (fX4_printLine_64 c h9) else (ck h9 a0 6 (cc (fX4_finish c h9 a0 r2) (kV fun h12 => fX4_printLine_64 c h12)))))))))))) else (fX4_printLine_16 c h1)))))
set_option maxHeartbeats 4000000 in
set_option maxRecDepth 100000 in
theorem soX4_printLine (X : Cx) (h : Hp) (a0 : Option Nat) : SO X mX4_printLine [.inr (.inr a0)] h (fX4_printLine X.2.2.2 h a0) := by
  refine so_of (by decide +kernel) (Nat.le_of_ble_eq_true rfl) ?_
  show Gd X mX4_printLine h (fX4_printLine X.2.2.2 h a0) h 0 [some (.inr (.inr a0)), none] []
  unfold fX4_printLine
  refine q_run tkX4_printLine 0 1 (pc' := 1) (L' := [some (.inr (.inr a0)), none]) (st' := [.inr (.inr a0)]) rfl ?_
  refine q_cv (r := a0) (ci := 6) (n := 0) (as := []) (st := []) TX4 13 (soX4_takeReceipt X h a0) (tbm tkX4_printLine (i := 1) rfl) rfl rfl ceX4_takeReceipt wd_578 wd_13 wd_576 rfl (Nat.le_of_ble_eq_true rfl) (kR_gd (fun h1 r2 => ?_))
  refine q_run tkX4_printLine 2 2 (pc' := 6) (L' := [some (.inr (.inr a0)), some (.inr (.inr r2))]) (st' := [.inr (.inr r2)]) rfl ?_
  refine q_ifnull (tbm tkX4_printLine (i := 4) rfl) ?_ ?_
  · refine q_le (L' := [none, none]) (lvLe_n (lvLe_n lvLe_0)) ?_
    exact sX4_printLine_16 X h1
  · refine q_run tkX4_printLine 5 1 (pc' := 10) (L' := [some (.inr (.inr a0)), some (.inr (.inr r2))]) (st' := [.inr (.inr a0)]) rfl ?_
    refine q_rdI RX4 TX4 13 (tbm tkX4_printLine (i := 6) rfl) rfl (Nat.le_of_ble_eq_true rfl) wd_119 (fun x3 => ?_)
    refine q_if_gt (tbm tkX4_printLine (i := 7) rfl) ?_ ?_
    · refine q_run tkX4_printLine 10 2 (pc' := 20) (L' := [some (.inr (.inr a0)), some (.inr (.inr r2))]) (st' := [.inr (.inr r2), .inr (.inr r2)]) rfl ?_
      refine q_rdI RX2 TX2 14 (tbm tkX4_printLine (i := 12) rfl) rfl (Nat.le_of_ble_eq_true rfl) wd_75 (fun x4 => ?_)
      refine q_run tkX4_printLine 13 2 (pc' := 25) (L' := [some (.inr (.inr a0)), some (.inr (.inr r2))]) (st' := [.inl (x4 + (1 : Int32)), .inr (.inr r2)]) rfl ?_
      refine q_wr RX2 TX2 14 (tbm tkX4_printLine (i := 15) rfl) rfl (Nat.le_of_ble_eq_true rfl) (Or.inl rfl) wd_75 (fun h5 => ?_)
      refine q_run tkX4_printLine 16 2 (pc' := 30) (L' := [some (.inr (.inr a0)), some (.inr (.inr r2))]) (st' := [.inr (.inr a0), .inr (.inr a0)]) rfl ?_
      refine q_rdI RX4 TX4 13 (tbm tkX4_printLine (i := 18) rfl) rfl (Nat.le_of_ble_eq_true rfl) wd_119 (fun x6 => ?_)
      refine q_run tkX4_printLine 19 2 (pc' := 35) (L' := [some (.inr (.inr a0)), some (.inr (.inr r2))]) (st' := [.inl (x6 - (1 : Int32)), .inr (.inr a0)]) rfl ?_
      refine q_wr RX4 TX4 13 (tbm tkX4_printLine (i := 21) rfl) rfl (Nat.le_of_ble_eq_true rfl) (Or.inl rfl) wd_119 (fun h7 => ?_)
      refine q_run tkX4_printLine 22 2 (pc' := 40) (L' := [some (.inr (.inr a0)), some (.inr (.inr r2))]) (st' := [.inr (.inr a0), .inr (.inr a0)]) rfl ?_
      refine q_rdI RX4 TX4 13 (tbm tkX4_printLine (i := 24) rfl) rfl (Nat.le_of_ble_eq_true rfl) wd_121 (fun x8 => ?_)
      refine q_run tkX4_printLine 25 2 (pc' := 45) (L' := [some (.inr (.inr a0)), some (.inr (.inr r2))]) (st' := [.inl (x8 + (1 : Int32)), .inr (.inr a0)]) rfl ?_
      refine q_wr RX4 TX4 13 (tbm tkX4_printLine (i := 27) rfl) rfl (Nat.le_of_ble_eq_true rfl) (Or.inl rfl) wd_121 (fun h9 => ?_)
      refine q_run tkX4_printLine 28 1 (pc' := 49) (L' := [some (.inr (.inr a0)), some (.inr (.inr r2))]) (st' := [.inr (.inr r2)]) rfl ?_
      refine q_rdI RX2 TX2 14 (tbm tkX4_printLine (i := 29) rfl) rfl (Nat.le_of_ble_eq_true rfl) wd_75 (fun x10 => ?_)
      refine q_run tkX4_printLine 30 1 (pc' := 53) (L' := [some (.inr (.inr a0)), some (.inr (.inr r2))]) (st' := [.inr (.inr r2), .inl x10]) rfl ?_
      refine q_rdI RX2 TX2 14 (tbm tkX4_printLine (i := 31) rfl) rfl (Nat.le_of_ble_eq_true rfl) wd_72 (fun x11 => ?_)
      refine q_icmp_lt (tbm tkX4_printLine (i := 32) rfl) ?_ ?_
      · refine q_le (L' := [none, none]) (lvLe_n (lvLe_n lvLe_0)) ?_
        exact sX4_printLine_64 X h9
      · refine q_run tkX4_printLine 33 2 (pc' := 61) (L' := [some (.inr (.inr a0)), some (.inr (.inr r2))]) (st' := [.inr (.inr r2), .inr (.inr a0)]) rfl ?_
        refine q_cv (r := a0) (ci := 6) (n := 1) (as := [.inr (.inr r2)]) (st := []) TX4 13 (soX4_finish X h9 a0 r2) (tbm tkX4_printLine (i := 35) rfl) rfl rfl ceX4_finish wd_595 wd_15 wd_593 rfl (Nat.le_of_ble_eq_true rfl) (kV_gd (fun h12 => ?_))
        refine q_le (L' := [none, none]) (lvLe_n (lvLe_n lvLe_0)) ?_
        exact sX4_printLine_64 X h12
    · refine q_le (L' := [none, none]) (lvLe_n (lvLe_n lvLe_0)) ?_
      exact sX4_printLine_16 X h1
theorem ceX4_printLine : Ce mX4_printLine 0 := ⟨wd_19, wd_575, by decide +kernel, by decide +kernel, by decide +kernel⟩
/-- ReceiptRolls$State.tick -/
abbrev mX4_tick : MI := (yX4_tick, cX4_tick, 2, some .int, 5)
def tbX4_tick : List TE := [(0, .iconst 0, 1, 0, 0), (1, .istore_n 1, 1, 0, 0), (2, .iload_n 1, 1, 0, 0), (3, .aload_n 0, 1, 0, 0), (4, .iconst 2, 1, 2, 0), (5, .invokevirtual 64, 3, 0, 0), (8, .if_icmp .ge 16, 3, 0, 24), (11, .aload_n 0, 1, 0, 0), (12, .invokevirtual 90, 3, 0, 0), (15, .ifCond .eq 9, 3, 0, 24), (18, .iinc 1 1, 3, 1, 0), (21, .goto (-19), 3, 0, 2), (24, .aload_n 0, 1, 0, 0), (25, .dup, 1, 0, 0), (26, .getfield 41, 3, 0, 0), (29, .iconst 1, 1, 1, 0), (30, .iadd, 1, 0, 0), (31, .putfield 41, 3, 0, 0), (34, .iload_n 1, 1, 0, 0), (35, .ireturn, 1, 0, 0)]
theorem tkX4_tick : ∀ x ∈ tbX4_tick, tbB cX4_tick x = true := tb_all (by decide +kernel)
def fX4_tick_24 (c : Nat → Option Nat) (h : Hp) (l0 : Option Nat) (l1 : Int32) : Rs := rdI h l0 6 5 (fun x1 => wr h l0 6 5 (.inl (x1 + (1 : Int32))) (fun h2 => some (h2, some (.inl l1))))
set_option maxHeartbeats 4000000 in
set_option maxRecDepth 100000 in
theorem sX4_tick_24 (X : Cx) {h0 : Hp} (h : Hp) (l0 : Option Nat) (l1 : Int32) : Gd X mX4_tick h0 (fX4_tick_24 X.2.2.2 h l0 l1) h 24 [some (.inr (.inr l0)), some (.inl l1)] [] := by
  unfold fX4_tick_24
  refine q_run tkX4_tick 12 2 (pc' := 26) (L' := [some (.inr (.inr l0)), some (.inl l1)]) (st' := [.inr (.inr l0), .inr (.inr l0)]) rfl ?_
  refine q_rdI RX4 TX4 13 (tbm tkX4_tick (i := 14) rfl) rfl (Nat.le_of_ble_eq_true rfl) wd_129 (fun x1 => ?_)
  refine q_run tkX4_tick 15 2 (pc' := 31) (L' := [some (.inr (.inr l0)), some (.inl l1)]) (st' := [.inl (x1 + (1 : Int32)), .inr (.inr l0)]) rfl ?_
  refine q_wr RX4 TX4 13 (tbm tkX4_tick (i := 17) rfl) rfl (Nat.le_of_ble_eq_true rfl) (Or.inl rfl) wd_129 (fun h2 => ?_)
  refine q_run tkX4_tick 18 1 (pc' := 35) (L' := [some (.inr (.inr l0)), some (.inl l1)]) (st' := [.inl l1]) rfl ?_
  exact q_iret (tbm tkX4_tick (i := 19) rfl) rfl
def fX4_tick_2 (c : Nat → Option Nat) : Nat → Hp → Option Nat → Int32 → Rs
  | 0, _, _, _ => none
  | n + 1, h, l0, l1 => ck h l0 6 (cc (fX4_settingAt c h l0 (2 : Int32)) (kI fun h3 x4 => if l1 < x4 then (ck h3 l0 6 (cc (fX4_printLine c h3 l0) (kI fun h5 x6 => if x6 = 0 then (fX4_tick_24 c h5 l0 l1) else (fX4_tick_2 c n h5 l0 (l1 + (1 : Int32)))))) else (fX4_tick_24 c h3 l0 l1)))
set_option maxHeartbeats 4000000 in
set_option maxRecDepth 100000 in
theorem sX4_tick_2 (X : Cx) {h0 : Hp} : ∀ (n : Nat) (h : Hp) (l0 : Option Nat) (l1 : Int32), Gd X mX4_tick h0 (fX4_tick_2 X.2.2.2 n h l0 l1) h 2 [some (.inr (.inr l0)), some (.inl l1)] [] := by
  intro n
  induction n with
  | zero => intros; exact gd_none
  | succ n ih =>
    intro h l0 l1
    unfold fX4_tick_2
    refine q_run tkX4_tick 2 3 (pc' := 5) (L' := [some (.inr (.inr l0)), some (.inl l1)]) (st' := [.inl (2 : Int32), .inr (.inr l0), .inl l1]) rfl ?_
    refine q_cv (r := l0) (ci := 6) (n := 1) (as := [.inl (2 : Int32)]) (st := [.inl l1]) TX4 13 (soX4_settingAt X h l0 (2 : Int32)) (tbm tkX4_tick (i := 5) rfl) rfl rfl ceX4_settingAt wd_319 wd_320 wd_551 rfl (Nat.le_of_ble_eq_true rfl) (kI_gd (fun h3 x4 => ?_))
    refine q_icmp_ge (tbm tkX4_tick (i := 6) rfl) ?_ ?_
    · refine q_run tkX4_tick 7 1 (pc' := 12) (L' := [some (.inr (.inr l0)), some (.inl l1)]) (st' := [.inr (.inr l0)]) rfl ?_
      refine q_cv (r := l0) (ci := 6) (n := 0) (as := []) (st := []) TX4 13 (soX4_printLine X h3 l0) (tbm tkX4_tick (i := 8) rfl) rfl rfl ceX4_printLine wd_574 wd_12 wd_572 rfl (Nat.le_of_ble_eq_true rfl) (kI_gd (fun h5 x6 => ?_))
      refine q_if_eq (tbm tkX4_tick (i := 9) rfl) ?_ ?_
      · exact sX4_tick_24 X h5 l0 l1
      · refine q_run tkX4_tick 10 2 (pc' := 2) (L' := [some (.inr (.inr l0)), some (.inl (l1 + (1 : Int32)))]) (st' := []) rfl ?_
        exact ih h5 l0 (l1 + (1 : Int32))
    · exact sX4_tick_24 X h3 l0 l1
def fX4_tick (c : Nat → Option Nat) (h : Hp) (a0 : Option Nat) : Rs := fX4_tick_2 c FU h a0 (0 : Int32)
set_option maxHeartbeats 4000000 in
set_option maxRecDepth 100000 in
theorem soX4_tick (X : Cx) (h : Hp) (a0 : Option Nat) : SO X mX4_tick [.inr (.inr a0)] h (fX4_tick X.2.2.2 h a0) := by
  refine so_of (by decide +kernel) (Nat.le_of_ble_eq_true rfl) ?_
  show Gd X mX4_tick h (fX4_tick X.2.2.2 h a0) h 0 [some (.inr (.inr a0)), none] []
  unfold fX4_tick
  refine q_run tkX4_tick 0 2 (pc' := 2) (L' := [some (.inr (.inr a0)), some (.inl (0 : Int32))]) (st' := []) rfl ?_
  exact sX4_tick_2 X FU h a0 (0 : Int32)
theorem ceX4_tick : Ce mX4_tick 0 := ⟨wd_19, wd_571, by decide +kernel, by decide +kernel, by decide +kernel⟩
/-- ReceiptRolls$Item.init -/
abbrev mX1_init : MI := (yX1_init, cX1_init, 5, none, 1)
def tbX1_init : List TE := [(0, .aload_n 0, 1, 0, 0), (1, .invokespecial 1, 3, 0, 0), (4, .aload_n 0, 1, 0, 0), (5, .aload_n 1, 1, 0, 0), (6, .putfield 7, 3, 0, 0), (9, .aload_n 0, 1, 0, 0), (10, .iload_n 2, 1, 0, 0), (11, .putfield 13, 3, 0, 0), (14, .aload_n 0, 1, 0, 0), (15, .iload_n 3, 1, 0, 0), (16, .putfield 17, 3, 0, 0), (19, .aload_n 0, 1, 0, 0), (20, .iload 4, 2, 0, 0), (22, .putfield 20, 3, 0, 0), (25, .return_, 1, 0, 0)]
theorem tkX1_init : ∀ x ∈ tbX1_init, tbB cX1_init x = true := tb_all (by decide +kernel)
def fX1_init (c : Nat → Option Nat) (h : Hp) (a0 : Option Nat) (a1 : Option Nat) (a2 : Int32) (a3 : Int32) (a4 : Int32) : Rs := dn a0 (wr h a0 3 0 (.inr (.inr a1)) (fun h1 => wr h1 a0 3 1 (.inl a2) (fun h2 => wr h2 a0 3 2 (.inl a3) (fun h3 => wr h3 a0 3 3 (.inl a4) (fun h4 => some (h4, none))))))
set_option maxHeartbeats 4000000 in
set_option maxRecDepth 100000 in
theorem soX1_init (X : Cx) (h : Hp) (a0 : Option Nat) (a1 : Option Nat) (a2 : Int32) (a3 : Int32) (a4 : Int32) : SO X mX1_init [.inr (.inr a0), .inr (.inr a1), .inl a2, .inl a3, .inl a4] h (fX1_init X.2.2.2 h a0 a1 a2 a3 a4) := by
  refine so_of (by decide +kernel) (Nat.le_of_ble_eq_true rfl) ?_
  show Gd X mX1_init h (fX1_init X.2.2.2 h a0 a1 a2 a3 a4) h 0 [some (.inr (.inr a0)), some (.inr (.inr a1)), some (.inl a2), some (.inl a3), some (.inl a4)] []
  unfold fX1_init
  refine q_run tkX1_init 0 1 (pc' := 1) (L' := [some (.inr (.inr a0)), some (.inr (.inr a1)), some (.inl a2), some (.inl a3), some (.inl a4)]) (st' := [.inr (.inr a0)]) rfl ?_
  refine q_obj (tbm tkX1_init (i := 1) rfl) (Nat.le_of_ble_eq_true rfl) (Nat.le_of_ble_eq_true rfl) ⟨wd_781, wd_oi, wd_oc⟩ ?_
  refine q_run tkX1_init 2 2 (pc' := 6) (L' := [some (.inr (.inr a0)), some (.inr (.inr a1)), some (.inl a2), some (.inl a3), some (.inl a4)]) (st' := [.inr (.inr a1), .inr (.inr a0)]) rfl ?_
  refine q_wr RX1 TX1 4 (tbm tkX1_init (i := 4) rfl) rfl (Nat.le_of_ble_eq_true rfl) (Or.inr ⟨rfl, rfl⟩) wd_782 (fun h1 => ?_)
  refine q_run tkX1_init 5 2 (pc' := 11) (L' := [some (.inr (.inr a0)), some (.inr (.inr a1)), some (.inl a2), some (.inl a3), some (.inl a4)]) (st' := [.inl a2, .inr (.inr a0)]) rfl ?_
  refine q_wr RX1 TX1 4 (tbm tkX1_init (i := 7) rfl) rfl (Nat.le_of_ble_eq_true rfl) (Or.inr ⟨rfl, rfl⟩) wd_784 (fun h2 => ?_)
  refine q_run tkX1_init 8 2 (pc' := 16) (L' := [some (.inr (.inr a0)), some (.inr (.inr a1)), some (.inl a2), some (.inl a3), some (.inl a4)]) (st' := [.inl a3, .inr (.inr a0)]) rfl ?_
  refine q_wr RX1 TX1 4 (tbm tkX1_init (i := 10) rfl) rfl (Nat.le_of_ble_eq_true rfl) (Or.inr ⟨rfl, rfl⟩) wd_786 (fun h3 => ?_)
  refine q_run tkX1_init 11 2 (pc' := 22) (L' := [some (.inr (.inr a0)), some (.inr (.inr a1)), some (.inl a2), some (.inl a3), some (.inl a4)]) (st' := [.inl a4, .inr (.inr a0)]) rfl ?_
  refine q_wr RX1 TX1 4 (tbm tkX1_init (i := 13) rfl) rfl (Nat.le_of_ble_eq_true rfl) (Or.inr ⟨rfl, rfl⟩) wd_787 (fun h4 => ?_)
  exact q_vret (tbm tkX1_init (i := 14) rfl) rfl
theorem ceX1_init : Ce mX1_init 4 := ⟨wd_34, wd_780, by decide +kernel, by decide +kernel, by decide +kernel⟩
/-- ReceiptRolls$Receipt.addItem -/
abbrev mX2_addItem : MI := (yX2_addItem, cX2_addItem, 2, none, 1)
def tbX2_addItem : List TE := [(0, .aload_n 0, 1, 0, 0), (1, .getfield 49, 3, 0, 0), (4, .ifCond .lt 43, 3, 0, 47), (7, .aload_n 0, 1, 0, 0), (8, .getfield 49, 3, 0, 0), (11, .aload_n 0, 1, 0, 0), (12, .getfield 11, 3, 0, 0), (15, .arraylength, 1, 0, 0), (16, .if_icmp .ge 31, 3, 0, 47), (19, .aload_n 0, 1, 0, 0), (20, .getfield 11, 3, 0, 0), (23, .aload_n 0, 1, 0, 0), (24, .getfield 49, 3, 0, 0), (27, .aload_n 1, 1, 0, 0), (28, .aastore, 1, 0, 0), (29, .aload_n 0, 1, 0, 0), (30, .aload_n 0, 1, 0, 0), (31, .getfield 49, 3, 0, 0), (34, .invokevirtual 64, 3, 0, 0), (37, .aload_n 0, 1, 0, 0), (38, .dup, 1, 0, 0), (39, .getfield 49, 3, 0, 0), (42, .iconst 1, 1, 1, 0), (43, .iadd, 1, 0, 0), (44, .putfield 49, 3, 0, 0), (47, .return_, 1, 0, 0)]
theorem tkX2_addItem : ∀ x ∈ tbX2_addItem, tbB cX2_addItem x = true := tb_all (by decide +kernel)
def fX2_addItem_47 (c : Nat → Option Nat) (h : Hp) : Rs := some (h, none)
set_option maxHeartbeats 4000000 in
set_option maxRecDepth 100000 in
theorem sX2_addItem_47 (X : Cx) {h0 : Hp} (h : Hp) : Gd X mX2_addItem h0 (fX2_addItem_47 X.2.2.2 h) h 47 [none, none] [] := by
  unfold fX2_addItem_47
  exact q_vret (tbm tkX2_addItem (i := 25) rfl) rfl
def fX2_addItem (c : Nat → Option Nat) (h : Hp) (a0 : Option Nat) (a1 : Option Nat) : Rs := rdI h a0 4 9 (fun x1 => if x1 < 0 then (fX2_addItem_47 c h) else (rdI h a0 4 9 (fun x2 => rdR h a0 4 12 (fun r3 => lenA h r3 (fun x4 => if x2 < x4 then (rdR h a0 4 12 (fun r5 => rdI h a0 4 9 (fun x6 => astR h r5 x6 a1 (fun h7 => rdI h7 a0 4 9 (fun x8 => ck h7 a0 4 (cc (fX2_addEvent c h7 a0 x8) (kV fun h9 => rdI h9 a0 4 9 (fun x10 => wr h9 a0 4 9 (.inl (x10 + (1 : Int32))) (fun h11 => fX2_addItem_47 c h11))))))))) else (fX2_addItem_47 c h))))))
set_option maxHeartbeats 4000000 in
set_option maxRecDepth 100000 in
theorem soX2_addItem (X : Cx) (h : Hp) (a0 : Option Nat) (a1 : Option Nat) : SO X mX2_addItem [.inr (.inr a0), .inr (.inr a1)] h (fX2_addItem X.2.2.2 h a0 a1) := by
  refine so_of (by decide +kernel) (Nat.le_of_ble_eq_true rfl) ?_
  show Gd X mX2_addItem h (fX2_addItem X.2.2.2 h a0 a1) h 0 [some (.inr (.inr a0)), some (.inr (.inr a1))] []
  unfold fX2_addItem
  refine q_run tkX2_addItem 0 1 (pc' := 1) (L' := [some (.inr (.inr a0)), some (.inr (.inr a1))]) (st' := [.inr (.inr a0)]) rfl ?_
  refine q_rdI RX2 TX2 14 (tbm tkX2_addItem (i := 1) rfl) rfl (Nat.le_of_ble_eq_true rfl) wd_81 (fun x1 => ?_)
  refine q_if_lt (tbm tkX2_addItem (i := 2) rfl) ?_ ?_
  · refine q_le (L' := [none, none]) (lvLe_n (lvLe_n lvLe_0)) ?_
    exact sX2_addItem_47 X h
  · refine q_run tkX2_addItem 3 1 (pc' := 8) (L' := [some (.inr (.inr a0)), some (.inr (.inr a1))]) (st' := [.inr (.inr a0)]) rfl ?_
    refine q_rdI RX2 TX2 14 (tbm tkX2_addItem (i := 4) rfl) rfl (Nat.le_of_ble_eq_true rfl) wd_81 (fun x2 => ?_)
    refine q_run tkX2_addItem 5 1 (pc' := 12) (L' := [some (.inr (.inr a0)), some (.inr (.inr a1))]) (st' := [.inr (.inr a0), .inl x2]) rfl ?_
    refine q_rdR RX2 TX2 14 (tbm tkX2_addItem (i := 6) rfl) rfl (Nat.le_of_ble_eq_true rfl) wd_86 (fun r3 => ?_)
    refine q_alen (tbm tkX2_addItem (i := 7) rfl) (fun x4 => ?_)
    refine q_icmp_ge (tbm tkX2_addItem (i := 8) rfl) ?_ ?_
    · refine q_run tkX2_addItem 9 1 (pc' := 20) (L' := [some (.inr (.inr a0)), some (.inr (.inr a1))]) (st' := [.inr (.inr a0)]) rfl ?_
      refine q_rdR RX2 TX2 14 (tbm tkX2_addItem (i := 10) rfl) rfl (Nat.le_of_ble_eq_true rfl) wd_86 (fun r5 => ?_)
      refine q_run tkX2_addItem 11 1 (pc' := 24) (L' := [some (.inr (.inr a0)), some (.inr (.inr a1))]) (st' := [.inr (.inr a0), .inr (.inr r5)]) rfl ?_
      refine q_rdI RX2 TX2 14 (tbm tkX2_addItem (i := 12) rfl) rfl (Nat.le_of_ble_eq_true rfl) wd_81 (fun x6 => ?_)
      refine q_run tkX2_addItem 13 1 (pc' := 28) (L' := [some (.inr (.inr a0)), some (.inr (.inr a1))]) (st' := [.inr (.inr a1), .inl x6, .inr (.inr r5)]) rfl ?_
      refine q_aastore (tbm tkX2_addItem (i := 14) rfl) (fun h7 => ?_)
      refine q_run tkX2_addItem 15 2 (pc' := 31) (L' := [some (.inr (.inr a0)), some (.inr (.inr a1))]) (st' := [.inr (.inr a0), .inr (.inr a0)]) rfl ?_
      refine q_rdI RX2 TX2 14 (tbm tkX2_addItem (i := 17) rfl) rfl (Nat.le_of_ble_eq_true rfl) wd_81 (fun x8 => ?_)
      refine q_cv (r := a0) (ci := 4) (n := 1) (as := [.inl x8]) (st := []) TX2 14 (soX2_addEvent X h7 a0 x8) (tbm tkX2_addItem (i := 18) rfl) rfl rfl ceX2_addEvent wd_536 wd_11 wd_534 rfl (Nat.le_of_ble_eq_true rfl) (kV_gd (fun h9 => ?_))
      refine q_run tkX2_addItem 19 2 (pc' := 39) (L' := [some (.inr (.inr a0)), some (.inr (.inr a1))]) (st' := [.inr (.inr a0), .inr (.inr a0)]) rfl ?_
      refine q_rdI RX2 TX2 14 (tbm tkX2_addItem (i := 21) rfl) rfl (Nat.le_of_ble_eq_true rfl) wd_81 (fun x10 => ?_)
      refine q_run tkX2_addItem 22 2 (pc' := 44) (L' := [some (.inr (.inr a0)), some (.inr (.inr a1))]) (st' := [.inl (x10 + (1 : Int32)), .inr (.inr a0)]) rfl ?_
      refine q_wr RX2 TX2 14 (tbm tkX2_addItem (i := 24) rfl) rfl (Nat.le_of_ble_eq_true rfl) (Or.inl rfl) wd_81 (fun h11 => ?_)
      refine q_le (L' := [none, none]) (lvLe_n (lvLe_n lvLe_0)) ?_
      exact sX2_addItem_47 X h11
    · refine q_le (L' := [none, none]) (lvLe_n (lvLe_n lvLe_0)) ?_
      exact sX2_addItem_47 X h
theorem ceX2_addItem : Ce mX2_addItem 1 := ⟨wd_20, wd_801, by decide +kernel, by decide +kernel, by decide +kernel⟩
/-- ReceiptRolls$History.giveBack -/
abbrev mX0_giveBack : MI := (yX0_giveBack, cX0_giveBack, 3, none, 3)
def tbX0_giveBack : List TE := [(0, .aload_n 0, 1, 0, 0), (1, .getfield 18, 3, 0, 0), (4, .iconst 1, 1, 1, 0), (5, .isub, 1, 0, 0), (6, .istore_n 2, 1, 0, 0), (7, .iload_n 2, 1, 0, 0), (8, .ifCond .lt 36, 3, 0, 44), (11, .iload_n 2, 1, 0, 0), (12, .aload_n 0, 1, 0, 0), (13, .getfield 11, 3, 0, 0), (16, .arraylength, 1, 0, 0), (17, .if_icmp .ge 27, 3, 0, 44), (20, .aload_n 0, 1, 0, 0), (21, .getfield 11, 3, 0, 0), (24, .iload_n 2, 1, 0, 0), (25, .aaload, 1, 0, 0), (26, .ifnull 18, 3, 0, 44), (29, .aload_n 1, 1, 0, 0), (30, .aload_n 0, 1, 0, 0), (31, .getfield 11, 3, 0, 0), (34, .iload_n 2, 1, 0, 0), (35, .aaload, 1, 0, 0), (36, .invokevirtual 25, 3, 0, 0), (39, .aload_n 0, 1, 0, 0), (40, .iload_n 2, 1, 0, 0), (41, .putfield 18, 3, 0, 0), (44, .return_, 1, 0, 0)]
theorem tkX0_giveBack : ∀ x ∈ tbX0_giveBack, tbB cX0_giveBack x = true := tb_all (by decide +kernel)
def fX0_giveBack_44 (c : Nat → Option Nat) (h : Hp) : Rs := some (h, none)
set_option maxHeartbeats 4000000 in
set_option maxRecDepth 100000 in
theorem sX0_giveBack_44 (X : Cx) {h0 : Hp} (h : Hp) : Gd X mX0_giveBack h0 (fX0_giveBack_44 X.2.2.2 h) h 44 [none, none, none] [] := by
  unfold fX0_giveBack_44
  exact q_vret (tbm tkX0_giveBack (i := 26) rfl) rfl
def fX0_giveBack (c : Nat → Option Nat) (h : Hp) (a0 : Option Nat) (a1 : Option Nat) : Rs := rdI h a0 2 0 (fun x1 => if (x1 - (1 : Int32)) < 0 then (fX0_giveBack_44 c h) else (rdR h a0 2 1 (fun r2 => lenA h r2 (fun x3 => if (x1 - (1 : Int32)) < x3 then (rdR h a0 2 1 (fun r4 => aldR h r4 (x1 - (1 : Int32)) (fun r5 => ifN r5 (fX0_giveBack_44 c h) (rdR h a0 2 1 (fun r6 => aldR h r6 (x1 - (1 : Int32)) (fun r7 => ck h a1 6 (cc (fX4_copyFrom c h a1 r7) (kV fun h8 => wr h8 a0 2 0 (.inl (x1 - (1 : Int32))) (fun h9 => fX0_giveBack_44 c h9))))))))) else (fX0_giveBack_44 c h)))))
set_option maxHeartbeats 4000000 in
set_option maxRecDepth 100000 in
theorem soX0_giveBack (X : Cx) (h : Hp) (a0 : Option Nat) (a1 : Option Nat) : SO X mX0_giveBack [.inr (.inr a0), .inr (.inr a1)] h (fX0_giveBack X.2.2.2 h a0 a1) := by
  refine so_of (by decide +kernel) (Nat.le_of_ble_eq_true rfl) ?_
  show Gd X mX0_giveBack h (fX0_giveBack X.2.2.2 h a0 a1) h 0 [some (.inr (.inr a0)), some (.inr (.inr a1)), none] []
  unfold fX0_giveBack
  refine q_run tkX0_giveBack 0 1 (pc' := 1) (L' := [some (.inr (.inr a0)), some (.inr (.inr a1)), none]) (st' := [.inr (.inr a0)]) rfl ?_
  refine q_rdI RX0 TX0 2 (tbm tkX0_giveBack (i := 1) rfl) rfl (Nat.le_of_ble_eq_true rfl) wd_178 (fun x1 => ?_)
  refine q_run tkX0_giveBack 2 4 (pc' := 8) (L' := [some (.inr (.inr a0)), some (.inr (.inr a1)), some (.inl (x1 - (1 : Int32)))]) (st' := [.inl (x1 - (1 : Int32))]) rfl ?_
  refine q_if_lt (tbm tkX0_giveBack (i := 6) rfl) ?_ ?_
  · refine q_le (L' := [none, none, none]) (lvLe_n (lvLe_n (lvLe_n lvLe_0))) ?_
    exact sX0_giveBack_44 X h
  · refine q_run tkX0_giveBack 7 2 (pc' := 13) (L' := [some (.inr (.inr a0)), some (.inr (.inr a1)), some (.inl (x1 - (1 : Int32)))]) (st' := [.inr (.inr a0), .inl (x1 - (1 : Int32))]) rfl ?_
    refine q_rdR RX0 TX0 2 (tbm tkX0_giveBack (i := 9) rfl) rfl (Nat.le_of_ble_eq_true rfl) wd_180 (fun r2 => ?_)
    refine q_alen (tbm tkX0_giveBack (i := 10) rfl) (fun x3 => ?_)
    refine q_icmp_ge (tbm tkX0_giveBack (i := 11) rfl) ?_ ?_
    · refine q_run tkX0_giveBack 12 1 (pc' := 21) (L' := [some (.inr (.inr a0)), some (.inr (.inr a1)), some (.inl (x1 - (1 : Int32)))]) (st' := [.inr (.inr a0)]) rfl ?_
      refine q_rdR RX0 TX0 2 (tbm tkX0_giveBack (i := 13) rfl) rfl (Nat.le_of_ble_eq_true rfl) wd_180 (fun r4 => ?_)
      refine q_run tkX0_giveBack 14 1 (pc' := 25) (L' := [some (.inr (.inr a0)), some (.inr (.inr a1)), some (.inl (x1 - (1 : Int32)))]) (st' := [.inl (x1 - (1 : Int32)), .inr (.inr r4)]) rfl ?_
      refine q_aaload (tbm tkX0_giveBack (i := 15) rfl) (fun r5 => ?_)
      refine q_ifnull (tbm tkX0_giveBack (i := 16) rfl) ?_ ?_
      · refine q_le (L' := [none, none, none]) (lvLe_n (lvLe_n (lvLe_n lvLe_0))) ?_
        exact sX0_giveBack_44 X h
      · refine q_run tkX0_giveBack 17 2 (pc' := 31) (L' := [some (.inr (.inr a0)), some (.inr (.inr a1)), some (.inl (x1 - (1 : Int32)))]) (st' := [.inr (.inr a0), .inr (.inr a1)]) rfl ?_
        refine q_rdR RX0 TX0 2 (tbm tkX0_giveBack (i := 19) rfl) rfl (Nat.le_of_ble_eq_true rfl) wd_180 (fun r6 => ?_)
        refine q_run tkX0_giveBack 20 1 (pc' := 35) (L' := [some (.inr (.inr a0)), some (.inr (.inr a1)), some (.inl (x1 - (1 : Int32)))]) (st' := [.inl (x1 - (1 : Int32)), .inr (.inr r6), .inr (.inr a1)]) rfl ?_
        refine q_aaload (tbm tkX0_giveBack (i := 21) rfl) (fun r7 => ?_)
        refine q_cv (r := a1) (ci := 6) (n := 1) (as := [.inr (.inr r7)]) (st := []) TX4 13 (soX4_copyFrom X h a1 r7) (tbm tkX0_giveBack (i := 22) rfl) rfl rfl ceX4_copyFrom wd_338 wd_339 wd_337 rfl (Nat.le_of_ble_eq_true rfl) (kV_gd (fun h8 => ?_))
        refine q_run tkX0_giveBack 23 2 (pc' := 41) (L' := [some (.inr (.inr a0)), some (.inr (.inr a1)), some (.inl (x1 - (1 : Int32)))]) (st' := [.inl (x1 - (1 : Int32)), .inr (.inr a0)]) rfl ?_
        refine q_wr RX0 TX0 2 (tbm tkX0_giveBack (i := 25) rfl) rfl (Nat.le_of_ble_eq_true rfl) (Or.inl rfl) wd_178 (fun h9 => ?_)
        refine q_le (L' := [none, none, none]) (lvLe_n (lvLe_n (lvLe_n lvLe_0))) ?_
        exact sX0_giveBack_44 X h9
    · refine q_le (L' := [none, none, none]) (lvLe_n (lvLe_n (lvLe_n lvLe_0))) ?_
      exact sX0_giveBack_44 X h
theorem ceX0_giveBack : Ce mX0_giveBack 1 := ⟨wd_21, wd_336, by decide +kernel, by decide +kernel, by decide +kernel⟩
/-- ReceiptRolls$Sheet.signAt -/
abbrev mX3_signAt : MI := (yX3_signAt, cX3_signAt, 2, some .int, 0)
def tbX3_signAt : List TE := [(0, .iload_n 1, 1, 0, 0), (1, .ifCond .lt 21, 3, 0, 22), (4, .iload_n 1, 1, 0, 0), (5, .aload_n 0, 1, 0, 0), (6, .getfield 9, 3, 0, 0), (9, .arraylength, 1, 0, 0), (10, .if_icmp .ge 12, 3, 0, 22), (13, .aload_n 0, 1, 0, 0), (14, .getfield 9, 3, 0, 0), (17, .iload_n 1, 1, 0, 0), (18, .caload, 1, 0, 0), (19, .goto 5, 3, 0, 24), (22, .bipush 32, 2, 32, 0), (24, .ireturn, 1, 0, 0)]
theorem tkX3_signAt : ∀ x ∈ tbX3_signAt, tbB cX3_signAt x = true := tb_all (by decide +kernel)
def fX3_signAt_24 (c : Nat → Option Nat) (h : Hp) (s0 : Int32) : Rs := some (h, some (.inl s0))
set_option maxHeartbeats 4000000 in
set_option maxRecDepth 100000 in
theorem sX3_signAt_24 (X : Cx) {h0 : Hp} (h : Hp) (s0 : Int32) : Gd X mX3_signAt h0 (fX3_signAt_24 X.2.2.2 h s0) h 24 [none, none] [.inl s0] := by
  unfold fX3_signAt_24
  exact q_iret (tbm tkX3_signAt (i := 13) rfl) rfl
def fX3_signAt_22 (c : Nat → Option Nat) (h : Hp) : Rs := fX3_signAt_24 c h (32 : Int32)
set_option maxHeartbeats 4000000 in
set_option maxRecDepth 100000 in
theorem sX3_signAt_22 (X : Cx) {h0 : Hp} (h : Hp) : Gd X mX3_signAt h0 (fX3_signAt_22 X.2.2.2 h) h 22 [none, none] [] := by
  unfold fX3_signAt_22
  refine q_run tkX3_signAt 12 1 (pc' := 24) (L' := [none, none]) (st' := [.inl (32 : Int32)]) rfl ?_
  exact sX3_signAt_24 X h (32 : Int32)
def fX3_signAt (c : Nat → Option Nat) (h : Hp) (a0 : Option Nat) (a1 : Int32) : Rs := if a1 < 0 then (fX3_signAt_22 c h) else (rdR h a0 5 5 (fun r1 => lenA h r1 (fun x2 => if a1 < x2 then (rdR h a0 5 5 (fun r3 => aldI h r3 [3] a1 (fun x4 => fX3_signAt_24 c h x4))) else (fX3_signAt_22 c h))))
set_option maxHeartbeats 4000000 in
set_option maxRecDepth 100000 in
theorem soX3_signAt (X : Cx) (h : Hp) (a0 : Option Nat) (a1 : Int32) : SO X mX3_signAt [.inr (.inr a0), .inl a1] h (fX3_signAt X.2.2.2 h a0 a1) := by
  refine so_of (by decide +kernel) (Nat.le_of_ble_eq_true rfl) ?_
  show Gd X mX3_signAt h (fX3_signAt X.2.2.2 h a0 a1) h 0 [some (.inr (.inr a0)), some (.inl a1)] []
  unfold fX3_signAt
  refine q_run tkX3_signAt 0 1 (pc' := 1) (L' := [some (.inr (.inr a0)), some (.inl a1)]) (st' := [.inl a1]) rfl ?_
  refine q_if_lt (tbm tkX3_signAt (i := 1) rfl) ?_ ?_
  · refine q_le (L' := [none, none]) (lvLe_n (lvLe_n lvLe_0)) ?_
    exact sX3_signAt_22 X h
  · refine q_run tkX3_signAt 2 2 (pc' := 6) (L' := [some (.inr (.inr a0)), some (.inl a1)]) (st' := [.inr (.inr a0), .inl a1]) rfl ?_
    refine q_rdR RX3 TX3 6 (tbm tkX3_signAt (i := 4) rfl) rfl (Nat.le_of_ble_eq_true rfl) wd_233 (fun r1 => ?_)
    refine q_alen (tbm tkX3_signAt (i := 5) rfl) (fun x2 => ?_)
    refine q_icmp_ge (tbm tkX3_signAt (i := 6) rfl) ?_ ?_
    · refine q_run tkX3_signAt 7 1 (pc' := 14) (L' := [some (.inr (.inr a0)), some (.inl a1)]) (st' := [.inr (.inr a0)]) rfl ?_
      refine q_rdR RX3 TX3 6 (tbm tkX3_signAt (i := 8) rfl) rfl (Nat.le_of_ble_eq_true rfl) wd_233 (fun r3 => ?_)
      refine q_run tkX3_signAt 9 1 (pc' := 18) (L' := [some (.inr (.inr a0)), some (.inl a1)]) (st' := [.inl a1, .inr (.inr r3)]) rfl ?_
      refine q_caload (tbm tkX3_signAt (i := 10) rfl) (fun x4 => ?_)
      refine q_run tkX3_signAt 11 1 (pc' := 24) (L' := [some (.inr (.inr a0)), some (.inl a1)]) (st' := [.inl x4]) rfl ?_
      refine q_le (L' := [none, none]) (lvLe_n (lvLe_n lvLe_0)) ?_
      exact sX3_signAt_24 X h x4
    · refine q_le (L' := [none, none]) (lvLe_n (lvLe_n lvLe_0)) ?_
      exact sX3_signAt_22 X h
theorem ceX3_signAt : Ce mX3_signAt 1 := ⟨wd_26, wd_815, by decide +kernel, by decide +kernel, by decide +kernel⟩
/-- ReceiptRolls$Receipt.linesToPrint -/
abbrev mX2_linesToPrint : MI := (yX2_linesToPrint, cX2_linesToPrint, 1, some .int, 0)
def tbX2_linesToPrint : List TE := [(0, .aload_n 0, 1, 0, 0), (1, .getfield 31, 3, 0, 0), (4, .iconst 2, 1, 2, 0), (5, .if_icmp .ne 7, 3, 0, 12), (8, .iconst 0, 1, 0, 0), (9, .goto 12, 3, 0, 21), (12, .aload_n 0, 1, 0, 0), (13, .getfield 37, 3, 0, 0), (16, .aload_n 0, 1, 0, 0), (17, .getfield 40, 3, 0, 0), (20, .isub, 1, 0, 0), (21, .ireturn, 1, 0, 0)]
theorem tkX2_linesToPrint : ∀ x ∈ tbX2_linesToPrint, tbB cX2_linesToPrint x = true := tb_all (by decide +kernel)
def fX2_linesToPrint_21 (c : Nat → Option Nat) (h : Hp) (s0 : Int32) : Rs := some (h, some (.inl s0))
set_option maxHeartbeats 4000000 in
set_option maxRecDepth 100000 in
theorem sX2_linesToPrint_21 (X : Cx) {h0 : Hp} (h : Hp) (s0 : Int32) : Gd X mX2_linesToPrint h0 (fX2_linesToPrint_21 X.2.2.2 h s0) h 21 [none] [.inl s0] := by
  unfold fX2_linesToPrint_21
  exact q_iret (tbm tkX2_linesToPrint (i := 11) rfl) rfl
def fX2_linesToPrint (c : Nat → Option Nat) (h : Hp) (a0 : Option Nat) : Rs := rdI h a0 4 3 (fun x1 => if x1 = (2 : Int32) then (fX2_linesToPrint_21 c h (0 : Int32)) else (rdI h a0 4 5 (fun x2 => rdI h a0 4 6 (fun x3 => fX2_linesToPrint_21 c h (x2 - x3)))))
set_option maxHeartbeats 4000000 in
set_option maxRecDepth 100000 in
theorem soX2_linesToPrint (X : Cx) (h : Hp) (a0 : Option Nat) : SO X mX2_linesToPrint [.inr (.inr a0)] h (fX2_linesToPrint X.2.2.2 h a0) := by
  refine so_of (by decide +kernel) (Nat.le_of_ble_eq_true rfl) ?_
  show Gd X mX2_linesToPrint h (fX2_linesToPrint X.2.2.2 h a0) h 0 [some (.inr (.inr a0))] []
  unfold fX2_linesToPrint
  refine q_run tkX2_linesToPrint 0 1 (pc' := 1) (L' := [some (.inr (.inr a0))]) (st' := [.inr (.inr a0)]) rfl ?_
  refine q_rdI RX2 TX2 14 (tbm tkX2_linesToPrint (i := 1) rfl) rfl (Nat.le_of_ble_eq_true rfl) wd_65 (fun x1 => ?_)
  refine q_run tkX2_linesToPrint 2 1 (pc' := 5) (L' := [some (.inr (.inr a0))]) (st' := [.inl (2 : Int32), .inl x1]) rfl ?_
  refine q_icmp_ne (tbm tkX2_linesToPrint (i := 3) rfl) ?_ ?_
  · refine q_run tkX2_linesToPrint 4 2 (pc' := 21) (L' := [some (.inr (.inr a0))]) (st' := [.inl (0 : Int32)]) rfl ?_
    refine q_le (L' := [none]) (lvLe_n lvLe_0) ?_
    exact sX2_linesToPrint_21 X h (0 : Int32)
  · refine q_run tkX2_linesToPrint 6 1 (pc' := 13) (L' := [some (.inr (.inr a0))]) (st' := [.inr (.inr a0)]) rfl ?_
    refine q_rdI RX2 TX2 14 (tbm tkX2_linesToPrint (i := 7) rfl) rfl (Nat.le_of_ble_eq_true rfl) wd_70 (fun x2 => ?_)
    refine q_run tkX2_linesToPrint 8 1 (pc' := 17) (L' := [some (.inr (.inr a0))]) (st' := [.inr (.inr a0), .inl x2]) rfl ?_
    refine q_rdI RX2 TX2 14 (tbm tkX2_linesToPrint (i := 9) rfl) rfl (Nat.le_of_ble_eq_true rfl) wd_73 (fun x3 => ?_)
    refine q_run tkX2_linesToPrint 10 1 (pc' := 21) (L' := [some (.inr (.inr a0))]) (st' := [.inl (x2 - x3)]) rfl ?_
    refine q_le (L' := [none]) (lvLe_n lvLe_0) ?_
    exact sX2_linesToPrint_21 X h (x2 - x3)
theorem ceX2_linesToPrint : Ce mX2_linesToPrint 0 := ⟨wd_20, wd_827, by decide +kernel, by decide +kernel, by decide +kernel⟩
/-- ReceiptRolls$State.linesToPrint -/
abbrev mX4_linesToPrint : MI := (yX4_linesToPrint, cX4_linesToPrint, 4, some .int, 1)
def tbX4_linesToPrint : List TE := [(0, .iconst 0, 1, 0, 0), (1, .istore_n 1, 1, 0, 0), (2, .iconst 0, 1, 0, 0), (3, .istore_n 2, 1, 0, 0), (4, .iload_n 2, 1, 0, 0), (5, .aload_n 0, 1, 0, 0), (6, .invokevirtual 71, 3, 0, 0), (9, .if_icmp .ge 26, 3, 0, 35), (12, .aload_n 0, 1, 0, 0), (13, .iload_n 2, 1, 0, 0), (14, .invokevirtual 75, 3, 0, 0), (17, .astore_n 3, 1, 0, 0), (18, .aload_n 3, 1, 0, 0), (19, .ifnull 10, 3, 0, 29), (22, .iload_n 1, 1, 0, 0), (23, .aload_n 3, 1, 0, 0), (24, .invokevirtual 122, 3, 0, 0), (27, .iadd, 1, 0, 0), (28, .istore_n 1, 1, 0, 0), (29, .iinc 2 1, 3, 1, 0), (32, .goto (-28), 3, 0, 4), (35, .iload_n 1, 1, 0, 0), (36, .ireturn, 1, 0, 0)]
theorem tkX4_linesToPrint : ∀ x ∈ tbX4_linesToPrint, tbB cX4_linesToPrint x = true := tb_all (by decide +kernel)
def fX4_linesToPrint_29 (c : Nat → Option Nat) (k4 : Hp → Option Nat → Int32 → Int32 → Rs) (h : Hp) (l0 : Option Nat) (l1 : Int32) (l2 : Int32) : Rs := k4 h l0 l1 (l2 + (1 : Int32))
set_option maxHeartbeats 4000000 in
set_option maxRecDepth 100000 in
theorem sX4_linesToPrint_29 (X : Cx) {h0 : Hp} (k4 : Hp → Option Nat → Int32 → Int32 → Rs) (hk4 : ∀ (h : Hp) (l0 : Option Nat) (l1 : Int32) (l2 : Int32), Gd X mX4_linesToPrint h0 (k4 h l0 l1 l2) h 4 [some (.inr (.inr l0)), some (.inl l1), some (.inl l2), none] []) (h : Hp) (l0 : Option Nat) (l1 : Int32) (l2 : Int32) : Gd X mX4_linesToPrint h0 (fX4_linesToPrint_29 X.2.2.2 k4 h l0 l1 l2) h 29 [some (.inr (.inr l0)), some (.inl l1), some (.inl l2), none] [] := by
  unfold fX4_linesToPrint_29
  refine q_run tkX4_linesToPrint 19 2 (pc' := 4) (L' := [some (.inr (.inr l0)), some (.inl l1), some (.inl (l2 + (1 : Int32))), none]) (st' := []) rfl ?_
  exact hk4 h l0 l1 (l2 + (1 : Int32))
def fX4_linesToPrint_4 (c : Nat → Option Nat) : Nat → Hp → Option Nat → Int32 → Int32 → Rs
  | 0, _, _, _, _ => none
  | n + 1, h, l0, l1, l2 => ck h l0 6 (cc (fX4_places c h l0) (kI fun h1 x2 => if l2 < x2 then (ck h1 l0 6 (cc (fX4_placeAt c h1 l0 l2) (kR fun h3 r4 => ifN r4 (fX4_linesToPrint_29 c (fX4_linesToPrint_4 c n) h3 l0 l1 l2) (ck h3 r4 4 (cc (fX2_linesToPrint c h3 r4) (kI fun h5 x6 => fX4_linesToPrint_29 c (fX4_linesToPrint_4 c n) h5 l0 (l1 + x6) l2)))))) else (some (h1, some (.inl l1)))))
set_option maxHeartbeats 4000000 in
set_option maxRecDepth 100000 in
theorem sX4_linesToPrint_4 (X : Cx) {h0 : Hp} : ∀ (n : Nat) (h : Hp) (l0 : Option Nat) (l1 : Int32) (l2 : Int32), Gd X mX4_linesToPrint h0 (fX4_linesToPrint_4 X.2.2.2 n h l0 l1 l2) h 4 [some (.inr (.inr l0)), some (.inl l1), some (.inl l2), none] [] := by
  intro n
  induction n with
  | zero => intros; exact gd_none
  | succ n ih =>
    intro h l0 l1 l2
    unfold fX4_linesToPrint_4
    refine q_run tkX4_linesToPrint 4 2 (pc' := 6) (L' := [some (.inr (.inr l0)), some (.inl l1), some (.inl l2), none]) (st' := [.inr (.inr l0), .inl l2]) rfl ?_
    refine q_cv (r := l0) (ci := 6) (n := 0) (as := []) (st := [.inl l2]) TX4 13 (soX4_places X h l0) (tbm tkX4_linesToPrint (i := 6) rfl) rfl rfl ceX4_places wd_273 wd_274 wd_272 rfl (Nat.le_of_ble_eq_true rfl) (kI_gd (fun h1 x2 => ?_))
    refine q_icmp_ge (tbm tkX4_linesToPrint (i := 7) rfl) ?_ ?_
    · refine q_run tkX4_linesToPrint 8 2 (pc' := 14) (L' := [some (.inr (.inr l0)), some (.inl l1), some (.inl l2), none]) (st' := [.inl l2, .inr (.inr l0)]) rfl ?_
      refine q_cv (r := l0) (ci := 6) (n := 1) (as := [.inl l2]) (st := []) TX4 13 (soX4_placeAt X h1 l0 l2) (tbm tkX4_linesToPrint (i := 10) rfl) rfl rfl ceX4_placeAt wd_277 wd_278 wd_276 rfl (Nat.le_of_ble_eq_true rfl) (kR_gd (fun h3 r4 => ?_))
      refine q_run tkX4_linesToPrint 11 2 (pc' := 19) (L' := [some (.inr (.inr l0)), some (.inl l1), some (.inl l2), some (.inr (.inr r4))]) (st' := [.inr (.inr r4)]) rfl ?_
      refine q_ifnull (tbm tkX4_linesToPrint (i := 13) rfl) ?_ ?_
      · refine q_le (L' := [some (.inr (.inr l0)), some (.inl l1), some (.inl l2), none]) (lvLe_s (lvLe_s (lvLe_s (lvLe_n lvLe_0)))) ?_
        exact sX4_linesToPrint_29 X (fX4_linesToPrint_4 X.2.2.2 n) ih h3 l0 l1 l2
      · refine q_run tkX4_linesToPrint 14 2 (pc' := 24) (L' := [some (.inr (.inr l0)), some (.inl l1), some (.inl l2), some (.inr (.inr r4))]) (st' := [.inr (.inr r4), .inl l1]) rfl ?_
        refine q_cv (r := r4) (ci := 4) (n := 0) (as := []) (st := [.inl l1]) TX2 14 (soX2_linesToPrint X h3 r4) (tbm tkX4_linesToPrint (i := 16) rfl) rfl rfl ceX2_linesToPrint wd_825 wd_826 wd_824 rfl (Nat.le_of_ble_eq_true rfl) (kI_gd (fun h5 x6 => ?_))
        refine q_run tkX4_linesToPrint 17 2 (pc' := 29) (L' := [some (.inr (.inr l0)), some (.inl (l1 + x6)), some (.inl l2), some (.inr (.inr r4))]) (st' := []) rfl ?_
        refine q_le (L' := [some (.inr (.inr l0)), some (.inl (l1 + x6)), some (.inl l2), none]) (lvLe_s (lvLe_s (lvLe_s (lvLe_n lvLe_0)))) ?_
        exact sX4_linesToPrint_29 X (fX4_linesToPrint_4 X.2.2.2 n) ih h5 l0 (l1 + x6) l2
    · refine q_run tkX4_linesToPrint 21 1 (pc' := 36) (L' := [some (.inr (.inr l0)), some (.inl l1), some (.inl l2), none]) (st' := [.inl l1]) rfl ?_
      exact q_iret (tbm tkX4_linesToPrint (i := 22) rfl) rfl
def fX4_linesToPrint (c : Nat → Option Nat) (h : Hp) (a0 : Option Nat) : Rs := fX4_linesToPrint_4 c FU h a0 (0 : Int32) (0 : Int32)
set_option maxHeartbeats 4000000 in
set_option maxRecDepth 100000 in
theorem soX4_linesToPrint (X : Cx) (h : Hp) (a0 : Option Nat) : SO X mX4_linesToPrint [.inr (.inr a0)] h (fX4_linesToPrint X.2.2.2 h a0) := by
  refine so_of (by decide +kernel) (Nat.le_of_ble_eq_true rfl) ?_
  show Gd X mX4_linesToPrint h (fX4_linesToPrint X.2.2.2 h a0) h 0 [some (.inr (.inr a0)), none, none, none] []
  unfold fX4_linesToPrint
  refine q_run tkX4_linesToPrint 0 4 (pc' := 4) (L' := [some (.inr (.inr a0)), some (.inl (0 : Int32)), some (.inl (0 : Int32)), none]) (st' := []) rfl ?_
  exact sX4_linesToPrint_4 X FU h a0 (0 : Int32) (0 : Int32)
theorem ceX4_linesToPrint : Ce mX4_linesToPrint 0 := ⟨wd_19, wd_823, by decide +kernel, by decide +kernel, by decide +kernel⟩
