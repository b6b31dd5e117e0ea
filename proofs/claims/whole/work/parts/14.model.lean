/-- ReceiptRollsModel.lay -/
abbrev mX6_lay : MI := (yX6_lay, cX6_lay, 4, none, 0)
def tbX6_lay : List TE := [(0, .aload_n 0, 1, 0, 0), (1, .getfield 7, 3, 0, 0), (4, .bipush 12, 2, 12, 0), (6, .bipush 86, 2, 86, 0), (8, .iload_n 1, 1, 0, 0), (9, .imul, 1, 0, 0), (10, .iadd, 1, 0, 0), (11, .iload_n 2, 1, 0, 0), (12, .iadd, 1, 0, 0), (13, .iload_n 3, 1, 0, 0), (14, .iastore, 1, 0, 0), (15, .return_, 1, 0, 0)]
theorem tkX6_lay : ∀ x ∈ tbX6_lay, tbB cX6_lay x = true := tb_all (by decide +kernel)
def fX6_lay (c : Nat → Option Nat) (h : Hp) (a0 : Option Nat) (a1 : Int32) (a2 : Int32) (a3 : Int32) : Rs := rdR h a0 8 1 (fun r1 => astI h r1 [0] (((12 : Int32) + ((86 : Int32) * a1)) + a2) a3 (fun h2 => some (h2, none)))
set_option maxHeartbeats 4000000 in
set_option maxRecDepth 100000 in
theorem soX6_lay (X : Cx) (h : Hp) (a0 : Option Nat) (a1 : Int32) (a2 : Int32) (a3 : Int32) : SO X mX6_lay [.inr (.inr a0), .inl a1, .inl a2, .inl a3] h (fX6_lay X.2.2.2 h a0 a1 a2 a3) := by
  refine so_of (by decide +kernel) (Nat.le_of_ble_eq_true rfl) ?_
  show Gd X mX6_lay h (fX6_lay X.2.2.2 h a0 a1 a2 a3) h 0 [some (.inr (.inr a0)), some (.inl a1), some (.inl a2), some (.inl a3)] []
  unfold fX6_lay
  refine q_run tkX6_lay 0 1 (pc' := 1) (L' := [some (.inr (.inr a0)), some (.inl a1), some (.inl a2), some (.inl a3)]) (st' := [.inr (.inr a0)]) rfl ?_
  refine q_rdR RX6 TX6 15 (tbm tkX6_lay (i := 1) rfl) rfl (Nat.le_of_ble_eq_true rfl) wd_936 (fun r1 => ?_)
  refine q_run tkX6_lay 2 8 (pc' := 14) (L' := [some (.inr (.inr a0)), some (.inl a1), some (.inl a2), some (.inl a3)]) (st' := [.inl a3, .inl (((12 : Int32) + ((86 : Int32) * a1)) + a2), .inr (.inr r1)]) rfl ?_
  refine q_iastore (tbm tkX6_lay (i := 10) rfl) (fun h2 => ?_)
  exact q_vret (tbm tkX6_lay (i := 11) rfl) rfl
theorem ceX6_lay : Ce mX6_lay 3 := ⟨wd_81, wd_934, by decide +kernel, by decide +kernel, by decide +kernel⟩
/-- ReceiptRollsModel.init -/
abbrev mX6_init : MI := (yX6_init, cX6_init, 2, none, 1)
def tbX6_init : List TE := [(0, .aload_n 0, 1, 0, 0), (1, .invokespecial 1, 3, 0, 0), (4, .aload_n 0, 1, 0, 0), (5, .sipush 1818, 3, 1818, 0), (8, .newarray .int, 2, 0, 0), (10, .putfield 7, 3, 0, 0), (13, .aload_n 0, 1, 0, 0), (14, .sipush 10908, 3, 10908, 0), (17, .newarray .int, 2, 0, 0), (19, .putfield 13, 3, 0, 0), (22, .aload_n 0, 1, 0, 0), (23, .sipush 3636, 3, 3636, 0), (26, .newarray .int, 2, 0, 0), (28, .putfield 16, 3, 0, 0), (31, .aload_n 0, 1, 0, 0), (32, .iconst 2, 1, 2, 0), (33, .newarray .boolean, 2, 0, 0), (35, .putfield 19, 3, 0, 0), (38, .aload_n 0, 1, 0, 0), (39, .bipush 80, 2, 80, 0), (41, .newarray .int, 2, 0, 0), (43, .putfield 23, 3, 0, 0), (46, .aload_n 0, 1, 0, 0), (47, .bipush 40, 2, 40, 0), (49, .newarray .int, 2, 0, 0), (51, .putfield 26, 3, 0, 0), (54, .aload_n 0, 1, 0, 0), (55, .bipush 30, 2, 30, 0), (57, .newarray .int, 2, 0, 0), (59, .putfield 29, 3, 0, 0), (62, .aload_n 0, 1, 0, 0), (63, .iconst 0, 1, 0, 0), (64, .putfield 32, 3, 0, 0), (67, .aload_n 0, 1, 0, 0), (68, .getfield 7, 3, 0, 0), (71, .iconst 0, 1, 0, 0), (72, .bipush 24, 2, 24, 0), (74, .iastore, 1, 0, 0), (75, .aload_n 0, 1, 0, 0), (76, .getfield 7, 3, 0, 0), (79, .iconst 1, 1, 1, 0), (80, .bipush 40, 2, 40, 0), (82, .iastore, 1, 0, 0), (83, .aload_n 0, 1, 0, 0), (84, .getfield 7, 3, 0, 0), (87, .iconst 2, 1, 2, 0), (88, .iconst 2, 1, 2, 0), (89, .iastore, 1, 0, 0), (90, .aload_n 0, 1, 0, 0), (91, .getfield 7, 3, 0, 0), (94, .bipush 7, 2, 7, 0), (96, .bipush 40, 2, 40, 0), (98, .iastore, 1, 0, 0), (99, .aload_n 0, 1, 0, 0), (100, .getfield 7, 3, 0, 0), (103, .bipush 10, 2, 10, 0), (105, .iconst 1, 1, 1, 0), (106, .iastore, 1, 0, 0), (107, .iconst 0, 1, 0, 0), (108, .istore_n 1, 1, 0, 0), (109, .iload_n 1, 1, 0, 0), (110, .iconst 3, 1, 3, 0), (111, .if_icmp .ge 16, 3, 0, 127), (114, .aload_n 0, 1, 0, 0), (115, .iload_n 1, 1, 0, 0), (116, .iconst 1, 1, 1, 0), (117, .iload_n 1, 1, 0, 0), (118, .invokevirtual 36, 3, 0, 0), (121, .iinc 1 1, 3, 1, 0), (124, .goto (-15), 3, 0, 109), (127, .return_, 1, 0, 0)]
theorem tkX6_init : ∀ x ∈ tbX6_init, tbB cX6_init x = true := tb_all (by decide +kernel)
def fX6_init_109 (c : Nat → Option Nat) : Nat → Hp → Option Nat → Int32 → Rs
  | 0, _, _, _ => none
  | n + 1, h, l0, l1 => if l1 < (3 : Int32) then (ck h l0 8 (cc (fX6_lay c h l0 l1 (1 : Int32) l1) (kV fun h1 => fX6_init_109 c n h1 l0 (l1 + (1 : Int32))))) else (some (h, none))
set_option maxHeartbeats 4000000 in
set_option maxRecDepth 100000 in
theorem sX6_init_109 (X : Cx) {h0 : Hp} : ∀ (n : Nat) (h : Hp) (l0 : Option Nat) (l1 : Int32), Gd X mX6_init h0 (fX6_init_109 X.2.2.2 n h l0 l1) h 109 [some (.inr (.inr l0)), some (.inl l1)] [] := by
  intro n
  induction n with
  | zero => intros; exact gd_none
  | succ n ih =>
    intro h l0 l1
    unfold fX6_init_109
    refine q_run tkX6_init 60 2 (pc' := 111) (L' := [some (.inr (.inr l0)), some (.inl l1)]) (st' := [.inl (3 : Int32), .inl l1]) rfl ?_
    refine q_icmp_ge (tbm tkX6_init (i := 62) rfl) ?_ ?_
    · refine q_run tkX6_init 63 4 (pc' := 118) (L' := [some (.inr (.inr l0)), some (.inl l1)]) (st' := [.inl l1, .inl (1 : Int32), .inl l1, .inr (.inr l0)]) rfl ?_
      refine q_cv (r := l0) (ci := 8) (n := 3) (as := [.inl l1, .inl (1 : Int32), .inl l1]) (st := []) TX6 15 (soX6_lay X h l0 l1 (1 : Int32) l1) (tbm tkX6_init (i := 67) rfl) rfl rfl ceX6_lay wd_933 wd_17 wd_931 rfl (Nat.le_of_ble_eq_true rfl) (kV_gd (fun h1 => ?_))
      refine q_run tkX6_init 68 2 (pc' := 109) (L' := [some (.inr (.inr l0)), some (.inl (l1 + (1 : Int32)))]) (st' := []) rfl ?_
      exact ih h1 l0 (l1 + (1 : Int32))
    · exact q_vret (tbm tkX6_init (i := 70) rfl) rfl
def fX6_init (c : Nat → Option Nat) (h : Hp) (a0 : Option Nat) : Rs := dn a0 (nwA h 0 (1818 : Int32) (fun h2 r3 => wr h2 a0 8 1 (.inr (.inr r3)) (fun h4 => nwA h4 0 (10908 : Int32) (fun h5 r6 => wr h5 a0 8 2 (.inr (.inr r6)) (fun h7 => nwA h7 0 (3636 : Int32) (fun h8 r9 => wr h8 a0 8 4 (.inr (.inr r9)) (fun h10 => nwA h10 2 (2 : Int32) (fun h11 r12 => wr h11 a0 8 5 (.inr (.inr r12)) (fun h13 => nwA h13 0 (80 : Int32) (fun h14 r15 => wr h14 a0 8 6 (.inr (.inr r15)) (fun h16 => nwA h16 0 (40 : Int32) (fun h17 r18 => wr h17 a0 8 8 (.inr (.inr r18)) (fun h19 => nwA h19 0 (30 : Int32) (fun h20 r21 => wr h20 a0 8 13 (.inr (.inr r21)) (fun h22 => wr h22 a0 8 0 (.inl (0 : Int32)) (fun h23 => rdR h23 a0 8 1 (fun r24 => astI h23 r24 [0] (0 : Int32) (24 : Int32) (fun h25 => rdR h25 a0 8 1 (fun r26 => astI h25 r26 [0] (1 : Int32) (40 : Int32) (fun h27 => rdR h27 a0 8 1 (fun r28 => astI h27 r28 [0] (2 : Int32) (2 : Int32) (fun h29 => rdR h29 a0 8 1 (fun r30 => astI h29 r30 [0] (7 : Int32) (40 : Int32) (fun h31 => rdR h31 a0 8 1 (fun r32 => astI h31 r32 [0] (10 : Int32) (1 : Int32) (fun h33 => fX6_init_109 c FU h33 a0 (0 : Int32)))))))))))))))))))))))))))
set_option maxHeartbeats 4000000 in
set_option maxRecDepth 100000 in
theorem soX6_init (X : Cx) (h : Hp) (a0 : Option Nat) : SO X mX6_init [.inr (.inr a0)] h (fX6_init X.2.2.2 h a0) := by
  refine so_of (by decide +kernel) (Nat.le_of_ble_eq_true rfl) ?_
  show Gd X mX6_init h (fX6_init X.2.2.2 h a0) h 0 [some (.inr (.inr a0)), none] []
  unfold fX6_init
  refine q_run tkX6_init 0 1 (pc' := 1) (L' := [some (.inr (.inr a0)), none]) (st' := [.inr (.inr a0)]) rfl ?_
  refine q_obj (tbm tkX6_init (i := 1) rfl) (Nat.le_of_ble_eq_true rfl) (Nat.le_of_ble_eq_true rfl) ⟨wd_930, wd_oi, wd_oc⟩ ?_
  refine q_run tkX6_init 2 2 (pc' := 8) (L' := [some (.inr (.inr a0)), none]) (st' := [.inl (1818 : Int32), .inr (.inr a0)]) rfl ?_
  refine q_newa (k := 0) (Nat.le_of_ble_eq_true rfl) (tbm tkX6_init (i := 4) rfl) wd_174 (fun h2 r3 => ?_)
  refine q_wr RX6 TX6 15 (tbm tkX6_init (i := 5) rfl) rfl (Nat.le_of_ble_eq_true rfl) (Or.inr ⟨rfl, rfl⟩) wd_936 (fun h4 => ?_)
  refine q_run tkX6_init 6 2 (pc' := 17) (L' := [some (.inr (.inr a0)), none]) (st' := [.inl (10908 : Int32), .inr (.inr a0)]) rfl ?_
  refine q_newa (k := 0) (Nat.le_of_ble_eq_true rfl) (tbm tkX6_init (i := 8) rfl) wd_174 (fun h5 r6 => ?_)
  refine q_wr RX6 TX6 15 (tbm tkX6_init (i := 9) rfl) rfl (Nat.le_of_ble_eq_true rfl) (Or.inr ⟨rfl, rfl⟩) wd_937 (fun h7 => ?_)
  refine q_run tkX6_init 10 2 (pc' := 26) (L' := [some (.inr (.inr a0)), none]) (st' := [.inl (3636 : Int32), .inr (.inr a0)]) rfl ?_
  refine q_newa (k := 0) (Nat.le_of_ble_eq_true rfl) (tbm tkX6_init (i := 12) rfl) wd_174 (fun h8 r9 => ?_)
  refine q_wr RX6 TX6 15 (tbm tkX6_init (i := 13) rfl) rfl (Nat.le_of_ble_eq_true rfl) (Or.inr ⟨rfl, rfl⟩) wd_939 (fun h10 => ?_)
  refine q_run tkX6_init 14 2 (pc' := 33) (L' := [some (.inr (.inr a0)), none]) (st' := [.inl (2 : Int32), .inr (.inr a0)]) rfl ?_
  refine q_newa (k := 2) (Nat.le_of_ble_eq_true rfl) (tbm tkX6_init (i := 16) rfl) wd_981 (fun h11 r12 => ?_)
  refine q_wr RX6 TX6 15 (tbm tkX6_init (i := 17) rfl) rfl (Nat.le_of_ble_eq_true rfl) (Or.inr ⟨rfl, rfl⟩) wd_940 (fun h13 => ?_)
  refine q_run tkX6_init 18 2 (pc' := 41) (L' := [some (.inr (.inr a0)), none]) (st' := [.inl (80 : Int32), .inr (.inr a0)]) rfl ?_
  refine q_newa (k := 0) (Nat.le_of_ble_eq_true rfl) (tbm tkX6_init (i := 20) rfl) wd_174 (fun h14 r15 => ?_)
  refine q_wr RX6 TX6 15 (tbm tkX6_init (i := 21) rfl) rfl (Nat.le_of_ble_eq_true rfl) (Or.inr ⟨rfl, rfl⟩) wd_941 (fun h16 => ?_)
  refine q_run tkX6_init 22 2 (pc' := 49) (L' := [some (.inr (.inr a0)), none]) (st' := [.inl (40 : Int32), .inr (.inr a0)]) rfl ?_
  refine q_newa (k := 0) (Nat.le_of_ble_eq_true rfl) (tbm tkX6_init (i := 24) rfl) wd_174 (fun h17 r18 => ?_)
  refine q_wr RX6 TX6 15 (tbm tkX6_init (i := 25) rfl) rfl (Nat.le_of_ble_eq_true rfl) (Or.inr ⟨rfl, rfl⟩) wd_943 (fun h19 => ?_)
  refine q_run tkX6_init 26 2 (pc' := 57) (L' := [some (.inr (.inr a0)), none]) (st' := [.inl (30 : Int32), .inr (.inr a0)]) rfl ?_
  refine q_newa (k := 0) (Nat.le_of_ble_eq_true rfl) (tbm tkX6_init (i := 28) rfl) wd_174 (fun h20 r21 => ?_)
  refine q_wr RX6 TX6 15 (tbm tkX6_init (i := 29) rfl) rfl (Nat.le_of_ble_eq_true rfl) (Or.inr ⟨rfl, rfl⟩) wd_948 (fun h22 => ?_)
  refine q_run tkX6_init 30 2 (pc' := 64) (L' := [some (.inr (.inr a0)), none]) (st' := [.inl (0 : Int32), .inr (.inr a0)]) rfl ?_
  refine q_wr RX6 TX6 15 (tbm tkX6_init (i := 32) rfl) rfl (Nat.le_of_ble_eq_true rfl) (Or.inl rfl) wd_935 (fun h23 => ?_)
  refine q_run tkX6_init 33 1 (pc' := 68) (L' := [some (.inr (.inr a0)), none]) (st' := [.inr (.inr a0)]) rfl ?_
  refine q_rdR RX6 TX6 15 (tbm tkX6_init (i := 34) rfl) rfl (Nat.le_of_ble_eq_true rfl) wd_936 (fun r24 => ?_)
  refine q_run tkX6_init 35 2 (pc' := 74) (L' := [some (.inr (.inr a0)), none]) (st' := [.inl (24 : Int32), .inl (0 : Int32), .inr (.inr r24)]) rfl ?_
  refine q_iastore (tbm tkX6_init (i := 37) rfl) (fun h25 => ?_)
  refine q_run tkX6_init 38 1 (pc' := 76) (L' := [some (.inr (.inr a0)), none]) (st' := [.inr (.inr a0)]) rfl ?_
  refine q_rdR RX6 TX6 15 (tbm tkX6_init (i := 39) rfl) rfl (Nat.le_of_ble_eq_true rfl) wd_936 (fun r26 => ?_)
  refine q_run tkX6_init 40 2 (pc' := 82) (L' := [some (.inr (.inr a0)), none]) (st' := [.inl (40 : Int32), .inl (1 : Int32), .inr (.inr r26)]) rfl ?_
  refine q_iastore (tbm tkX6_init (i := 42) rfl) (fun h27 => ?_)
  refine q_run tkX6_init 43 1 (pc' := 84) (L' := [some (.inr (.inr a0)), none]) (st' := [.inr (.inr a0)]) rfl ?_
  refine q_rdR RX6 TX6 15 (tbm tkX6_init (i := 44) rfl) rfl (Nat.le_of_ble_eq_true rfl) wd_936 (fun r28 => ?_)
  refine q_run tkX6_init 45 2 (pc' := 89) (L' := [some (.inr (.inr a0)), none]) (st' := [.inl (2 : Int32), .inl (2 : Int32), .inr (.inr r28)]) rfl ?_
  refine q_iastore (tbm tkX6_init (i := 47) rfl) (fun h29 => ?_)
  refine q_run tkX6_init 48 1 (pc' := 91) (L' := [some (.inr (.inr a0)), none]) (st' := [.inr (.inr a0)]) rfl ?_
  refine q_rdR RX6 TX6 15 (tbm tkX6_init (i := 49) rfl) rfl (Nat.le_of_ble_eq_true rfl) wd_936 (fun r30 => ?_)
  refine q_run tkX6_init 50 2 (pc' := 98) (L' := [some (.inr (.inr a0)), none]) (st' := [.inl (40 : Int32), .inl (7 : Int32), .inr (.inr r30)]) rfl ?_
  refine q_iastore (tbm tkX6_init (i := 52) rfl) (fun h31 => ?_)
  refine q_run tkX6_init 53 1 (pc' := 100) (L' := [some (.inr (.inr a0)), none]) (st' := [.inr (.inr a0)]) rfl ?_
  refine q_rdR RX6 TX6 15 (tbm tkX6_init (i := 54) rfl) rfl (Nat.le_of_ble_eq_true rfl) wd_936 (fun r32 => ?_)
  refine q_run tkX6_init 55 2 (pc' := 106) (L' := [some (.inr (.inr a0)), none]) (st' := [.inl (1 : Int32), .inl (10 : Int32), .inr (.inr r32)]) rfl ?_
  refine q_iastore (tbm tkX6_init (i := 57) rfl) (fun h33 => ?_)
  refine q_run tkX6_init 58 2 (pc' := 109) (L' := [some (.inr (.inr a0)), some (.inl (0 : Int32))]) (st' := []) rfl ?_
  exact sX6_init_109 X FU h33 a0 (0 : Int32)
theorem ceX6_init : Ce mX6_init 0 := ⟨wd_81, wd_929, by decide +kernel, by decide +kernel, by decide +kernel⟩
/-- ReceiptRollsModel.in -/
abbrev mX6_in : MI := (yX6_in, cX6_in, 3, some .boolean, 0)
def tbX6_in : List TE := [(0, .iload_n 0, 1, 0, 0), (1, .iload_n 1, 1, 0, 0), (2, .if_icmp .lt 12, 3, 0, 14), (5, .iload_n 0, 1, 0, 0), (6, .iload_n 2, 1, 0, 0), (7, .if_icmp .gt 7, 3, 0, 14), (10, .iconst 1, 1, 1, 0), (11, .goto 4, 3, 0, 15), (14, .iconst 0, 1, 0, 0), (15, .ireturn, 1, 0, 0)]
theorem tkX6_in : ∀ x ∈ tbX6_in, tbB cX6_in x = true := tb_all (by decide +kernel)
def fX6_in_15 (c : Nat → Option Nat) (h : Hp) (s0 : Int32) : Rs := rtI .boolean h s0
set_option maxHeartbeats 4000000 in
set_option maxRecDepth 100000 in
theorem sX6_in_15 (X : Cx) {h0 : Hp} (h : Hp) (s0 : Int32) : Gd X mX6_in h0 (fX6_in_15 X.2.2.2 h s0) h 15 [none, none, none] [.inl s0] := by
  unfold fX6_in_15
  exact q_zret (tbm tkX6_in (i := 9) rfl) rfl
def fX6_in_14 (c : Nat → Option Nat) (h : Hp) : Rs := fX6_in_15 c h (0 : Int32)
set_option maxHeartbeats 4000000 in
set_option maxRecDepth 100000 in
theorem sX6_in_14 (X : Cx) {h0 : Hp} (h : Hp) : Gd X mX6_in h0 (fX6_in_14 X.2.2.2 h) h 14 [none, none, none] [] := by
  unfold fX6_in_14
  refine q_run tkX6_in 8 1 (pc' := 15) (L' := [none, none, none]) (st' := [.inl (0 : Int32)]) rfl ?_
  exact sX6_in_15 X h (0 : Int32)
def fX6_in (c : Nat → Option Nat) (h : Hp) (a0 : Int32) (a1 : Int32) (a2 : Int32) : Rs := if a0 < a1 then (fX6_in_14 c h) else (if a2 < a0 then (fX6_in_14 c h) else (fX6_in_15 c h (1 : Int32)))
set_option maxHeartbeats 4000000 in
set_option maxRecDepth 100000 in
theorem soX6_in (X : Cx) (h : Hp) (a0 : Int32) (a1 : Int32) (a2 : Int32) : SO X mX6_in [.inl a0, .inl a1, .inl a2] h (fX6_in X.2.2.2 h a0 a1 a2) := by
  refine so_of (by decide +kernel) (Nat.le_of_ble_eq_true rfl) ?_
  show Gd X mX6_in h (fX6_in X.2.2.2 h a0 a1 a2) h 0 [some (.inl a0), some (.inl a1), some (.inl a2)] []
  unfold fX6_in
  refine q_run tkX6_in 0 2 (pc' := 2) (L' := [some (.inl a0), some (.inl a1), some (.inl a2)]) (st' := [.inl a1, .inl a0]) rfl ?_
  refine q_icmp_lt (tbm tkX6_in (i := 2) rfl) ?_ ?_
  · refine q_le (L' := [none, none, none]) (lvLe_n (lvLe_n (lvLe_n lvLe_0))) ?_
    exact sX6_in_14 X h
  · refine q_run tkX6_in 3 2 (pc' := 7) (L' := [some (.inl a0), some (.inl a1), some (.inl a2)]) (st' := [.inl a2, .inl a0]) rfl ?_
    refine q_icmp_gt (tbm tkX6_in (i := 5) rfl) ?_ ?_
    · refine q_le (L' := [none, none, none]) (lvLe_n (lvLe_n (lvLe_n lvLe_0))) ?_
      exact sX6_in_14 X h
    · refine q_run tkX6_in 6 2 (pc' := 15) (L' := [some (.inl a0), some (.inl a1), some (.inl a2)]) (st' := [.inl (1 : Int32)]) rfl ?_
      refine q_le (L' := [none, none, none]) (lvLe_n (lvLe_n (lvLe_n lvLe_0))) ?_
      exact sX6_in_15 X h (1 : Int32)
theorem ceX6_in : Ce mX6_in 3 := ⟨wd_81, wd_988, by decide +kernel, by decide +kernel, by decide +kernel⟩
/-- ReceiptRollsModel.leastOf -/
abbrev mX6_leastOf : MI := (yX6_leastOf, cX6_leastOf, 1, some .int, 0)
def tbX6_leastOf : List TE := [(0, .iload_n 0, 1, 0, 0), (1, .ifCond .ne 8, 3, 0, 9), (4, .bipush 16, 2, 16, 0), (6, .goto 13, 3, 0, 19), (9, .iload_n 0, 1, 0, 0), (10, .iconst 1, 1, 1, 0), (11, .if_icmp .ne 7, 3, 0, 18), (14, .iconst 5, 1, 5, 0), (15, .goto 4, 3, 0, 19), (18, .iconst 1, 1, 1, 0), (19, .ireturn, 1, 0, 0)]
theorem tkX6_leastOf : ∀ x ∈ tbX6_leastOf, tbB cX6_leastOf x = true := tb_all (by decide +kernel)
def fX6_leastOf_19 (c : Nat → Option Nat) (h : Hp) (s0 : Int32) : Rs := some (h, some (.inl s0))
set_option maxHeartbeats 4000000 in
set_option maxRecDepth 100000 in
theorem sX6_leastOf_19 (X : Cx) {h0 : Hp} (h : Hp) (s0 : Int32) : Gd X mX6_leastOf h0 (fX6_leastOf_19 X.2.2.2 h s0) h 19 [none] [.inl s0] := by
  unfold fX6_leastOf_19
  exact q_iret (tbm tkX6_leastOf (i := 10) rfl) rfl
def fX6_leastOf (c : Nat → Option Nat) (h : Hp) (a0 : Int32) : Rs := if a0 = 0 then (fX6_leastOf_19 c h (16 : Int32)) else (if a0 = (1 : Int32) then (fX6_leastOf_19 c h (5 : Int32)) else (fX6_leastOf_19 c h (1 : Int32)))
set_option maxHeartbeats 4000000 in
set_option maxRecDepth 100000 in
theorem soX6_leastOf (X : Cx) (h : Hp) (a0 : Int32) : SO X mX6_leastOf [.inl a0] h (fX6_leastOf X.2.2.2 h a0) := by
  refine so_of (by decide +kernel) (Nat.le_of_ble_eq_true rfl) ?_
  show Gd X mX6_leastOf h (fX6_leastOf X.2.2.2 h a0) h 0 [some (.inl a0)] []
  unfold fX6_leastOf
  refine q_run tkX6_leastOf 0 1 (pc' := 1) (L' := [some (.inl a0)]) (st' := [.inl a0]) rfl ?_
  refine q_if_ne (tbm tkX6_leastOf (i := 1) rfl) ?_ ?_
  · refine q_run tkX6_leastOf 2 2 (pc' := 19) (L' := [some (.inl a0)]) (st' := [.inl (16 : Int32)]) rfl ?_
    refine q_le (L' := [none]) (lvLe_n lvLe_0) ?_
    exact sX6_leastOf_19 X h (16 : Int32)
  · refine q_run tkX6_leastOf 4 2 (pc' := 11) (L' := [some (.inl a0)]) (st' := [.inl (1 : Int32), .inl a0]) rfl ?_
    refine q_icmp_ne (tbm tkX6_leastOf (i := 6) rfl) ?_ ?_
    · refine q_run tkX6_leastOf 7 2 (pc' := 19) (L' := [some (.inl a0)]) (st' := [.inl (5 : Int32)]) rfl ?_
      refine q_le (L' := [none]) (lvLe_n lvLe_0) ?_
      exact sX6_leastOf_19 X h (5 : Int32)
    · refine q_run tkX6_leastOf 9 1 (pc' := 19) (L' := [some (.inl a0)]) (st' := [.inl (1 : Int32)]) rfl ?_
      refine q_le (L' := [none]) (lvLe_n lvLe_0) ?_
      exact sX6_leastOf_19 X h (1 : Int32)
theorem ceX6_leastOf : Ce mX6_leastOf 1 := ⟨wd_81, wd_991, by decide +kernel, by decide +kernel, by decide +kernel⟩
/-- ReceiptRollsModel.mostOf -/
abbrev mX6_mostOf : MI := (yX6_mostOf, cX6_mostOf, 1, some .int, 0)
def tbX6_mostOf : List TE := [(0, .iload_n 0, 1, 0, 0), (1, .ifCond .ne 8, 3, 0, 9), (4, .bipush 40, 2, 40, 0), (6, .goto 16, 3, 0, 22), (9, .iload_n 0, 1, 0, 0), (10, .iconst 1, 1, 1, 0), (11, .if_icmp .ne 9, 3, 0, 20), (14, .sipush 200, 3, 200, 0), (17, .goto 5, 3, 0, 22), (20, .bipush 9, 2, 9, 0), (22, .ireturn, 1, 0, 0)]
theorem tkX6_mostOf : ∀ x ∈ tbX6_mostOf, tbB cX6_mostOf x = true := tb_all (by decide +kernel)
def fX6_mostOf_22 (c : Nat → Option Nat) (h : Hp) (s0 : Int32) : Rs := some (h, some (.inl s0))
set_option maxHeartbeats 4000000 in
set_option maxRecDepth 100000 in
theorem sX6_mostOf_22 (X : Cx) {h0 : Hp} (h : Hp) (s0 : Int32) : Gd X mX6_mostOf h0 (fX6_mostOf_22 X.2.2.2 h s0) h 22 [none] [.inl s0] := by
  unfold fX6_mostOf_22
  exact q_iret (tbm tkX6_mostOf (i := 10) rfl) rfl
def fX6_mostOf (c : Nat → Option Nat) (h : Hp) (a0 : Int32) : Rs := if a0 = 0 then (fX6_mostOf_22 c h (40 : Int32)) else (if a0 = (1 : Int32) then (fX6_mostOf_22 c h (200 : Int32)) else (fX6_mostOf_22 c h (9 : Int32)))
set_option maxHeartbeats 4000000 in
set_option maxRecDepth 100000 in
theorem soX6_mostOf (X : Cx) (h : Hp) (a0 : Int32) : SO X mX6_mostOf [.inl a0] h (fX6_mostOf X.2.2.2 h a0) := by
  refine so_of (by decide +kernel) (Nat.le_of_ble_eq_true rfl) ?_
  show Gd X mX6_mostOf h (fX6_mostOf X.2.2.2 h a0) h 0 [some (.inl a0)] []
  unfold fX6_mostOf
  refine q_run tkX6_mostOf 0 1 (pc' := 1) (L' := [some (.inl a0)]) (st' := [.inl a0]) rfl ?_
  refine q_if_ne (tbm tkX6_mostOf (i := 1) rfl) ?_ ?_
  · refine q_run tkX6_mostOf 2 2 (pc' := 22) (L' := [some (.inl a0)]) (st' := [.inl (40 : Int32)]) rfl ?_
    refine q_le (L' := [none]) (lvLe_n lvLe_0) ?_
    exact sX6_mostOf_22 X h (40 : Int32)
  · refine q_run tkX6_mostOf 4 2 (pc' := 11) (L' := [some (.inl a0)]) (st' := [.inl (1 : Int32), .inl a0]) rfl ?_
    refine q_icmp_ne (tbm tkX6_mostOf (i := 6) rfl) ?_ ?_
    · refine q_run tkX6_mostOf 7 2 (pc' := 22) (L' := [some (.inl a0)]) (st' := [.inl (200 : Int32)]) rfl ?_
      refine q_le (L' := [none]) (lvLe_n lvLe_0) ?_
      exact sX6_mostOf_22 X h (200 : Int32)
    · refine q_run tkX6_mostOf 9 1 (pc' := 22) (L' := [some (.inl a0)]) (st' := [.inl (9 : Int32)]) rfl ?_
      refine q_le (L' := [none]) (lvLe_n lvLe_0) ?_
      exact sX6_mostOf_22 X h (9 : Int32)
theorem ceX6_mostOf : Ce mX6_mostOf 1 := ⟨wd_81, wd_994, by decide +kernel, by decide +kernel, by decide +kernel⟩
/-- ReceiptRollsModel.records -/
abbrev mX6_records : MI := (yX6_records, cX6_records, 2, none, 0)
def tbX6_records : List TE := [(0, .aload_n 0, 1, 0, 0), (1, .getfield 44, 3, 0, 0), (4, .bipush 6, 2, 6, 0), (6, .if_icmp .ne 44, 3, 0, 50), (9, .iconst 0, 1, 0, 0), (10, .istore_n 1, 1, 0, 0), (11, .iload_n 1, 1, 0, 0), (12, .sipush 9090, 3, 9090, 0), (15, .if_icmp .ge 25, 3, 0, 40), (18, .aload_n 0, 1, 0, 0), (19, .getfield 13, 3, 0, 0), (22, .iload_n 1, 1, 0, 0), (23, .aload_n 0, 1, 0, 0), (24, .getfield 13, 3, 0, 0), (27, .iload_n 1, 1, 0, 0), (28, .sipush 1818, 3, 1818, 0), (31, .iadd, 1, 0, 0), (32, .iaload, 1, 0, 0), (33, .iastore, 1, 0, 0), (34, .iinc 1 1, 3, 1, 0), (37, .goto (-26), 3, 0, 11), (40, .aload_n 0, 1, 0, 0), (41, .dup, 1, 0, 0), (42, .getfield 44, 3, 0, 0), (45, .iconst 1, 1, 1, 0), (46, .isub, 1, 0, 0), (47, .putfield 44, 3, 0, 0), (50, .iconst 0, 1, 0, 0), (51, .istore_n 1, 1, 0, 0), (52, .iload_n 1, 1, 0, 0), (53, .sipush 1818, 3, 1818, 0), (56, .if_icmp .ge 30, 3, 0, 86), (59, .aload_n 0, 1, 0, 0), (60, .getfield 13, 3, 0, 0), (63, .sipush 1818, 3, 1818, 0), (66, .aload_n 0, 1, 0, 0), (67, .getfield 44, 3, 0, 0), (70, .imul, 1, 0, 0), (71, .iload_n 1, 1, 0, 0), (72, .iadd, 1, 0, 0), (73, .aload_n 0, 1, 0, 0), (74, .getfield 7, 3, 0, 0), (77, .iload_n 1, 1, 0, 0), (78, .iaload, 1, 0, 0), (79, .iastore, 1, 0, 0), (80, .iinc 1 1, 3, 1, 0), (83, .goto (-31), 3, 0, 52), (86, .aload_n 0, 1, 0, 0), (87, .dup, 1, 0, 0), (88, .getfield 44, 3, 0, 0), (91, .iconst 1, 1, 1, 0), (92, .iadd, 1, 0, 0), (93, .putfield 44, 3, 0, 0), (96, .return_, 1, 0, 0)]
theorem tkX6_records : ∀ x ∈ tbX6_records, tbB cX6_records x = true := tb_all (by decide +kernel)
def fX6_records_52 (c : Nat → Option Nat) : Nat → Hp → Option Nat → Int32 → Rs
  | 0, _, _, _ => none
  | n + 1, h, l0, l1 => if l1 < (1818 : Int32) then (rdR h l0 8 2 (fun r1 => rdI h l0 8 3 (fun x2 => rdR h l0 8 1 (fun r3 => aldI h r3 [0, 10] l1 (fun x4 => astI h r1 [0] (((1818 : Int32) * x2) + l1) x4 (fun h5 => fX6_records_52 c n h5 l0 (l1 + (1 : Int32)))))))) else (rdI h l0 8 3 (fun x6 => wr h l0 8 3 (.inl (x6 + (1 : Int32))) (fun h7 => some (h7, none))))
set_option maxHeartbeats 4000000 in
set_option maxRecDepth 100000 in
theorem sX6_records_52 (X : Cx) {h0 : Hp} : ∀ (n : Nat) (h : Hp) (l0 : Option Nat) (l1 : Int32), Gd X mX6_records h0 (fX6_records_52 X.2.2.2 n h l0 l1) h 52 [some (.inr (.inr l0)), some (.inl l1)] [] := by
  intro n
  induction n with
  | zero => intros; exact gd_none
  | succ n ih =>
    intro h l0 l1
    unfold fX6_records_52
    refine q_run tkX6_records 29 2 (pc' := 56) (L' := [some (.inr (.inr l0)), some (.inl l1)]) (st' := [.inl (1818 : Int32), .inl l1]) rfl ?_
    refine q_icmp_ge (tbm tkX6_records (i := 31) rfl) ?_ ?_
    · refine q_run tkX6_records 32 1 (pc' := 60) (L' := [some (.inr (.inr l0)), some (.inl l1)]) (st' := [.inr (.inr l0)]) rfl ?_
      refine q_rdR RX6 TX6 15 (tbm tkX6_records (i := 33) rfl) rfl (Nat.le_of_ble_eq_true rfl) wd_937 (fun r1 => ?_)
      refine q_run tkX6_records 34 2 (pc' := 67) (L' := [some (.inr (.inr l0)), some (.inl l1)]) (st' := [.inr (.inr l0), .inl (1818 : Int32), .inr (.inr r1)]) rfl ?_
      refine q_rdI RX6 TX6 15 (tbm tkX6_records (i := 36) rfl) rfl (Nat.le_of_ble_eq_true rfl) wd_938 (fun x2 => ?_)
      refine q_run tkX6_records 37 4 (pc' := 74) (L' := [some (.inr (.inr l0)), some (.inl l1)]) (st' := [.inr (.inr l0), .inl (((1818 : Int32) * x2) + l1), .inr (.inr r1)]) rfl ?_
      refine q_rdR RX6 TX6 15 (tbm tkX6_records (i := 41) rfl) rfl (Nat.le_of_ble_eq_true rfl) wd_936 (fun r3 => ?_)
      refine q_run tkX6_records 42 1 (pc' := 78) (L' := [some (.inr (.inr l0)), some (.inl l1)]) (st' := [.inl l1, .inr (.inr r3), .inl (((1818 : Int32) * x2) + l1), .inr (.inr r1)]) rfl ?_
      refine q_iaload (tbm tkX6_records (i := 43) rfl) (fun x4 => ?_)
      refine q_iastore (tbm tkX6_records (i := 44) rfl) (fun h5 => ?_)
      refine q_run tkX6_records 45 2 (pc' := 52) (L' := [some (.inr (.inr l0)), some (.inl (l1 + (1 : Int32)))]) (st' := []) rfl ?_
      exact ih h5 l0 (l1 + (1 : Int32))
    · refine q_run tkX6_records 47 2 (pc' := 88) (L' := [some (.inr (.inr l0)), some (.inl l1)]) (st' := [.inr (.inr l0), .inr (.inr l0)]) rfl ?_
      refine q_rdI RX6 TX6 15 (tbm tkX6_records (i := 49) rfl) rfl (Nat.le_of_ble_eq_true rfl) wd_938 (fun x6 => ?_)
      refine q_run tkX6_records 50 2 (pc' := 93) (L' := [some (.inr (.inr l0)), some (.inl l1)]) (st' := [.inl (x6 + (1 : Int32)), .inr (.inr l0)]) rfl ?_
      refine q_wr RX6 TX6 15 (tbm tkX6_records (i := 52) rfl) rfl (Nat.le_of_ble_eq_true rfl) (Or.inl rfl) wd_938 (fun h7 => ?_)
      exact q_vret (tbm tkX6_records (i := 53) rfl) rfl
def fX6_records_50 (c : Nat → Option Nat) (h : Hp) (l0 : Option Nat) : Rs := fX6_records_52 c FU h l0 (0 : Int32)
set_option maxHeartbeats 4000000 in
set_option maxRecDepth 100000 in
theorem sX6_records_50 (X : Cx) {h0 : Hp} (h : Hp) (l0 : Option Nat) : Gd X mX6_records h0 (fX6_records_50 X.2.2.2 h l0) h 50 [some (.inr (.inr l0)), none] [] := by
  unfold fX6_records_50
  refine q_run tkX6_records 27 2 (pc' := 52) (L' := [some (.inr (.inr l0)), some (.inl (0 : Int32))]) (st' := []) rfl ?_
  exact sX6_records_52 X FU h l0 (0 : Int32)
def fX6_records_11 (c : Nat → Option Nat) : Nat → Hp → Option Nat → Int32 → Rs
  | 0, _, _, _ => none
  | n + 1, h, l0, l1 => if l1 < (9090 : Int32) then (rdR h l0 8 2 (fun r8 => rdR h l0 8 2 (fun r9 => aldI h r9 [0, 10] (l1 + (1818 : Int32)) (fun x10 => astI h r8 [0] l1 x10 (fun h11 => fX6_records_11 c n h11 l0 (l1 + (1 : Int32))))))) else (rdI h l0 8 3 (fun x12 => wr h l0 8 3 (.inl (x12 - (1 : Int32))) (fun h13 => fX6_records_50 c h13 l0)))
set_option maxHeartbeats 4000000 in
set_option maxRecDepth 100000 in
theorem sX6_records_11 (X : Cx) {h0 : Hp} : ∀ (n : Nat) (h : Hp) (l0 : Option Nat) (l1 : Int32), Gd X mX6_records h0 (fX6_records_11 X.2.2.2 n h l0 l1) h 11 [some (.inr (.inr l0)), some (.inl l1)] [] := by
  intro n
  induction n with
  | zero => intros; exact gd_none
  | succ n ih =>
    intro h l0 l1
    unfold fX6_records_11
    refine q_run tkX6_records 6 2 (pc' := 15) (L' := [some (.inr (.inr l0)), some (.inl l1)]) (st' := [.inl (9090 : Int32), .inl l1]) rfl ?_
    refine q_icmp_ge (tbm tkX6_records (i := 8) rfl) ?_ ?_
    · refine q_run tkX6_records 9 1 (pc' := 19) (L' := [some (.inr (.inr l0)), some (.inl l1)]) (st' := [.inr (.inr l0)]) rfl ?_
      refine q_rdR RX6 TX6 15 (tbm tkX6_records (i := 10) rfl) rfl (Nat.le_of_ble_eq_true rfl) wd_937 (fun r8 => ?_)
      refine q_run tkX6_records 11 2 (pc' := 24) (L' := [some (.inr (.inr l0)), some (.inl l1)]) (st' := [.inr (.inr l0), .inl l1, .inr (.inr r8)]) rfl ?_
      refine q_rdR RX6 TX6 15 (tbm tkX6_records (i := 13) rfl) rfl (Nat.le_of_ble_eq_true rfl) wd_937 (fun r9 => ?_)
      refine q_run tkX6_records 14 3 (pc' := 32) (L' := [some (.inr (.inr l0)), some (.inl l1)]) (st' := [.inl (l1 + (1818 : Int32)), .inr (.inr r9), .inl l1, .inr (.inr r8)]) rfl ?_
      refine q_iaload (tbm tkX6_records (i := 17) rfl) (fun x10 => ?_)
      refine q_iastore (tbm tkX6_records (i := 18) rfl) (fun h11 => ?_)
      refine q_run tkX6_records 19 2 (pc' := 11) (L' := [some (.inr (.inr l0)), some (.inl (l1 + (1 : Int32)))]) (st' := []) rfl ?_
      exact ih h11 l0 (l1 + (1 : Int32))
    · refine q_run tkX6_records 21 2 (pc' := 42) (L' := [some (.inr (.inr l0)), some (.inl l1)]) (st' := [.inr (.inr l0), .inr (.inr l0)]) rfl ?_
      refine q_rdI RX6 TX6 15 (tbm tkX6_records (i := 23) rfl) rfl (Nat.le_of_ble_eq_true rfl) wd_938 (fun x12 => ?_)
      refine q_run tkX6_records 24 2 (pc' := 47) (L' := [some (.inr (.inr l0)), some (.inl l1)]) (st' := [.inl (x12 - (1 : Int32)), .inr (.inr l0)]) rfl ?_
      refine q_wr RX6 TX6 15 (tbm tkX6_records (i := 26) rfl) rfl (Nat.le_of_ble_eq_true rfl) (Or.inl rfl) wd_938 (fun h13 => ?_)
      refine q_le (L' := [some (.inr (.inr l0)), none]) (lvLe_s (lvLe_n lvLe_0)) ?_
      exact sX6_records_50 X h13 l0
def fX6_records (c : Nat → Option Nat) (h : Hp) (a0 : Option Nat) : Rs := rdI h a0 8 3 (fun x14 => if x14 = (6 : Int32) then (fX6_records_11 c FU h a0 (0 : Int32)) else (fX6_records_50 c h a0))
set_option maxHeartbeats 4000000 in
set_option maxRecDepth 100000 in
theorem soX6_records (X : Cx) (h : Hp) (a0 : Option Nat) : SO X mX6_records [.inr (.inr a0)] h (fX6_records X.2.2.2 h a0) := by
  refine so_of (by decide +kernel) (Nat.le_of_ble_eq_true rfl) ?_
  show Gd X mX6_records h (fX6_records X.2.2.2 h a0) h 0 [some (.inr (.inr a0)), none] []
  unfold fX6_records
  refine q_run tkX6_records 0 1 (pc' := 1) (L' := [some (.inr (.inr a0)), none]) (st' := [.inr (.inr a0)]) rfl ?_
  refine q_rdI RX6 TX6 15 (tbm tkX6_records (i := 1) rfl) rfl (Nat.le_of_ble_eq_true rfl) wd_938 (fun x14 => ?_)
  refine q_run tkX6_records 2 1 (pc' := 6) (L' := [some (.inr (.inr a0)), none]) (st' := [.inl (6 : Int32), .inl x14]) rfl ?_
  refine q_icmp_ne (tbm tkX6_records (i := 3) rfl) ?_ ?_
  · refine q_run tkX6_records 4 2 (pc' := 11) (L' := [some (.inr (.inr a0)), some (.inl (0 : Int32))]) (st' := []) rfl ?_
    exact sX6_records_11 X FU h a0 (0 : Int32)
  · exact sX6_records_50 X h a0
theorem ceX6_records : Ce mX6_records 0 := ⟨wd_81, wd_998, by decide +kernel, by decide +kernel, by decide +kernel⟩
/-- ReceiptRollsModel.set -/
abbrev mX6_set : MI := (yX6_set, cX6_set, 4, some .int, 1)
def tbX6_set : List TE := [(0, .aload_n 0, 1, 0, 0), (1, .iconst 0, 1, 0, 0), (2, .putfield 32, 3, 0, 0), (5, .iload_n 1, 1, 0, 0), (6, .iconst 0, 1, 0, 0), (7, .iconst 2, 1, 2, 0), (8, .invokestatic 40, 3, 0, 0), (11, .ifCond .eq 18, 3, 0, 29), (14, .iload_n 2, 1, 0, 0), (15, .iload_n 1, 1, 0, 0), (16, .invokestatic 184, 3, 0, 0), (19, .iload_n 1, 1, 0, 0), (20, .invokestatic 187, 3, 0, 0), (23, .invokestatic 40, 3, 0, 0), (26, .ifCond .ne 6, 3, 0, 32), (29, .bipush (-2), 2, -2, 0), (31, .ireturn, 1, 0, 0), (32, .aload_n 0, 1, 0, 0), (33, .invokevirtual 190, 3, 0, 0), (36, .aload_n 0, 1, 0, 0), (37, .getfield 7, 3, 0, 0), (40, .iload_n 1, 1, 0, 0), (41, .iaload, 1, 0, 0), (42, .istore_n 3, 1, 0, 0), (43, .aload_n 0, 1, 0, 0), (44, .getfield 7, 3, 0, 0), (47, .iload_n 1, 1, 0, 0), (48, .iload_n 2, 1, 0, 0), (49, .iastore, 1, 0, 0), (50, .iload_n 3, 1, 0, 0), (51, .ireturn, 1, 0, 0)]
theorem tkX6_set : ∀ x ∈ tbX6_set, tbB cX6_set x = true := tb_all (by decide +kernel)
def fX6_set_29 (c : Nat → Option Nat) (h : Hp) : Rs := some (h, some (.inl (-2 : Int32)))
set_option maxHeartbeats 4000000 in
set_option maxRecDepth 100000 in
theorem sX6_set_29 (X : Cx) {h0 : Hp} (h : Hp) : Gd X mX6_set h0 (fX6_set_29 X.2.2.2 h) h 29 [none, none, none, none] [] := by
  unfold fX6_set_29
  refine q_run tkX6_set 15 1 (pc' := 31) (L' := [none, none, none, none]) (st' := [.inl (-2 : Int32)]) rfl ?_
  exact q_iret (tbm tkX6_set (i := 16) rfl) rfl
def fX6_set (c : Nat → Option Nat) (h : Hp) (a0 : Option Nat) (a1 : Int32) (a2 : Int32) : Rs := wr h a0 8 0 (.inl (0 : Int32)) (fun h1 => cc (fX6_in c h1 a1 (0 : Int32) (2 : Int32)) (kI fun h2 x3 => if x3 = 0 then (fX6_set_29 c h2) else (cc (fX6_leastOf c h2 a1) (kI fun h4 x5 => cc (fX6_mostOf c h4 a1) (kI fun h6 x7 => cc (fX6_in c h6 a2 x5 x7) (kI fun h8 x9 => if x9 = 0 then (fX6_set_29 c h8) else (ck h8 a0 8 (cc (fX6_records c h8 a0) (kV fun h10 => rdR h10 a0 8 1 (fun r11 => aldI h10 r11 [0, 10] a1 (fun x12 => rdR h10 a0 8 1 (fun r13 => astI h10 r13 [0] a1 a2 (fun h14 => some (h14, some (.inl x12)))))))))))))))
set_option maxHeartbeats 4000000 in
set_option maxRecDepth 100000 in
theorem soX6_set (X : Cx) (h : Hp) (a0 : Option Nat) (a1 : Int32) (a2 : Int32) : SO X mX6_set [.inr (.inr a0), .inl a1, .inl a2] h (fX6_set X.2.2.2 h a0 a1 a2) := by
  refine so_of (by decide +kernel) (Nat.le_of_ble_eq_true rfl) ?_
  show Gd X mX6_set h (fX6_set X.2.2.2 h a0 a1 a2) h 0 [some (.inr (.inr a0)), some (.inl a1), some (.inl a2), none] []
  unfold fX6_set
  refine q_run tkX6_set 0 2 (pc' := 2) (L' := [some (.inr (.inr a0)), some (.inl a1), some (.inl a2), none]) (st' := [.inl (0 : Int32), .inr (.inr a0)]) rfl ?_
  refine q_wr RX6 TX6 15 (tbm tkX6_set (i := 2) rfl) rfl (Nat.le_of_ble_eq_true rfl) (Or.inl rfl) wd_935 (fun h1 => ?_)
  refine q_run tkX6_set 3 3 (pc' := 8) (L' := [some (.inr (.inr a0)), some (.inl a1), some (.inl a2), none]) (st' := [.inl (2 : Int32), .inl (0 : Int32), .inl a1]) rfl ?_
  refine q_cs (n := 3) (as := [.inl a1, .inl (0 : Int32), .inl (2 : Int32)]) (st := []) (soX6_in X h1 a1 (0 : Int32) (2 : Int32)) (tbm tkX6_set (i := 6) rfl) rfl ceX6_in wd_987 wd_986 rfl (Nat.le_of_ble_eq_true rfl) (kI_gd (fun h2 x3 => ?_))
  refine q_if_eq (tbm tkX6_set (i := 7) rfl) ?_ ?_
  · refine q_le (L' := [none, none, none, none]) (lvLe_n (lvLe_n (lvLe_n (lvLe_n lvLe_0)))) ?_
    exact sX6_set_29 X h2
  · refine q_run tkX6_set 8 2 (pc' := 16) (L' := [some (.inr (.inr a0)), some (.inl a1), some (.inl a2), none]) (st' := [.inl a1, .inl a2]) rfl ?_
    refine q_cs (n := 1) (as := [.inl a1]) (st := [.inl a2]) (soX6_leastOf X h2 a1) (tbm tkX6_set (i := 10) rfl) rfl ceX6_leastOf wd_990 wd_989 rfl (Nat.le_of_ble_eq_true rfl) (kI_gd (fun h4 x5 => ?_))
    refine q_run tkX6_set 11 1 (pc' := 20) (L' := [some (.inr (.inr a0)), some (.inl a1), some (.inl a2), none]) (st' := [.inl a1, .inl x5, .inl a2]) rfl ?_
    refine q_cs (n := 1) (as := [.inl a1]) (st := [.inl x5, .inl a2]) (soX6_mostOf X h4 a1) (tbm tkX6_set (i := 12) rfl) rfl ceX6_mostOf wd_993 wd_992 rfl (Nat.le_of_ble_eq_true rfl) (kI_gd (fun h6 x7 => ?_))
    refine q_cs (n := 3) (as := [.inl a2, .inl x5, .inl x7]) (st := []) (soX6_in X h6 a2 x5 x7) (tbm tkX6_set (i := 13) rfl) rfl ceX6_in wd_987 wd_986 rfl (Nat.le_of_ble_eq_true rfl) (kI_gd (fun h8 x9 => ?_))
    refine q_if_ne (tbm tkX6_set (i := 14) rfl) ?_ ?_
    · refine q_le (L' := [none, none, none, none]) (lvLe_n (lvLe_n (lvLe_n (lvLe_n lvLe_0)))) ?_
      exact sX6_set_29 X h8
    · refine q_run tkX6_set 17 1 (pc' := 33) (L' := [some (.inr (.inr a0)), some (.inl a1), some (.inl a2), none]) (st' := [.inr (.inr a0)]) rfl ?_
      refine q_cv (r := a0) (ci := 8) (n := 0) (as := []) (st := []) TX6 15 (soX6_records X h8 a0) (tbm tkX6_set (i := 18) rfl) rfl rfl ceX6_records wd_997 wd_18 wd_995 rfl (Nat.le_of_ble_eq_true rfl) (kV_gd (fun h10 => ?_))
      refine q_run tkX6_set 19 1 (pc' := 37) (L' := [some (.inr (.inr a0)), some (.inl a1), some (.inl a2), none]) (st' := [.inr (.inr a0)]) rfl ?_
      refine q_rdR RX6 TX6 15 (tbm tkX6_set (i := 20) rfl) rfl (Nat.le_of_ble_eq_true rfl) wd_936 (fun r11 => ?_)
      refine q_run tkX6_set 21 1 (pc' := 41) (L' := [some (.inr (.inr a0)), some (.inl a1), some (.inl a2), none]) (st' := [.inl a1, .inr (.inr r11)]) rfl ?_
      refine q_iaload (tbm tkX6_set (i := 22) rfl) (fun x12 => ?_)
      refine q_run tkX6_set 23 2 (pc' := 44) (L' := [some (.inr (.inr a0)), some (.inl a1), some (.inl a2), some (.inl x12)]) (st' := [.inr (.inr a0)]) rfl ?_
      refine q_rdR RX6 TX6 15 (tbm tkX6_set (i := 25) rfl) rfl (Nat.le_of_ble_eq_true rfl) wd_936 (fun r13 => ?_)
      refine q_run tkX6_set 26 2 (pc' := 49) (L' := [some (.inr (.inr a0)), some (.inl a1), some (.inl a2), some (.inl x12)]) (st' := [.inl a2, .inl a1, .inr (.inr r13)]) rfl ?_
      refine q_iastore (tbm tkX6_set (i := 28) rfl) (fun h14 => ?_)
      refine q_run tkX6_set 29 1 (pc' := 51) (L' := [some (.inr (.inr a0)), some (.inl a1), some (.inl a2), some (.inl x12)]) (st' := [.inl x12]) rfl ?_
      exact q_iret (tbm tkX6_set (i := 30) rfl) rfl
theorem ceX6_set : Ce mX6_set 2 := ⟨wd_81, wd_985, by decide +kernel, by decide +kernel, by decide +kernel⟩
/-- ReceiptRollsModel.isTill -/
abbrev mX6_isTill : MI := (yX6_isTill, cX6_isTill, 1, some .boolean, 1)
def tbX6_isTill : List TE := [(0, .iload_n 0, 1, 0, 0), (1, .iconst 0, 1, 0, 0), (2, .iconst 2, 1, 2, 0), (3, .invokestatic 40, 3, 0, 0), (6, .ireturn, 1, 0, 0)]
theorem tkX6_isTill : ∀ x ∈ tbX6_isTill, tbB cX6_isTill x = true := tb_all (by decide +kernel)
def fX6_isTill (c : Nat → Option Nat) (h : Hp) (a0 : Int32) : Rs := cc (fX6_in c h a0 (0 : Int32) (2 : Int32)) (kI fun h1 x2 => rtI .boolean h1 x2)
set_option maxHeartbeats 4000000 in
set_option maxRecDepth 100000 in
theorem soX6_isTill (X : Cx) (h : Hp) (a0 : Int32) : SO X mX6_isTill [.inl a0] h (fX6_isTill X.2.2.2 h a0) := by
  refine so_of (by decide +kernel) (Nat.le_of_ble_eq_true rfl) ?_
  show Gd X mX6_isTill h (fX6_isTill X.2.2.2 h a0) h 0 [some (.inl a0)] []
  unfold fX6_isTill
  refine q_run tkX6_isTill 0 3 (pc' := 3) (L' := [some (.inl a0)]) (st' := [.inl (2 : Int32), .inl (0 : Int32), .inl a0]) rfl ?_
  refine q_cs (n := 3) (as := [.inl a0, .inl (0 : Int32), .inl (2 : Int32)]) (st := []) (soX6_in X h a0 (0 : Int32) (2 : Int32)) (tbm tkX6_isTill (i := 3) rfl) rfl ceX6_in wd_987 wd_986 rfl (Nat.le_of_ble_eq_true rfl) (kI_gd (fun h1 x2 => ?_))
  exact q_zret (tbm tkX6_isTill (i := 4) rfl) rfl
theorem ceX6_isTill : Ce mX6_isTill 1 := ⟨wd_81, wd_1005, by decide +kernel, by decide +kernel, by decide +kernel⟩
/-- ReceiptRollsModel.canStand -/
abbrev mX6_canStand : MI := (yX6_canStand, cX6_canStand, 2, some .boolean, 1)
def tbX6_canStand : List TE := [(0, .aload_n 0, 1, 0, 0), (1, .getfield 23, 3, 0, 0), (4, .iload_n 1, 1, 0, 0), (5, .iaload, 1, 0, 0), (6, .bipush 97, 2, 97, 0), (8, .bipush 122, 2, 122, 0), (10, .invokestatic 40, 3, 0, 0), (13, .ifCond .eq 15, 3, 0, 28), (16, .iload_n 1, 1, 0, 0), (17, .bipush 30, 2, 30, 0), (19, .if_icmp .ge 7, 3, 0, 26), (22, .iconst 1, 1, 1, 0), (23, .goto 4, 3, 0, 27), (26, .iconst 0, 1, 0, 0), (27, .ireturn, 1, 0, 0), (28, .aload_n 0, 1, 0, 0), (29, .getfield 23, 3, 0, 0), (32, .iload_n 1, 1, 0, 0), (33, .iaload, 1, 0, 0), (34, .bipush 95, 2, 95, 0), (36, .if_icmp .ne 30, 3, 0, 66), (39, .iload_n 1, 1, 0, 0), (40, .ifCond .le 26, 3, 0, 66), (43, .iload_n 1, 1, 0, 0), (44, .bipush 29, 2, 29, 0), (46, .if_icmp .ge 20, 3, 0, 66), (49, .aload_n 0, 1, 0, 0), (50, .getfield 23, 3, 0, 0), (53, .iload_n 1, 1, 0, 0), (54, .iconst 1, 1, 1, 0), (55, .isub, 1, 0, 0), (56, .iaload, 1, 0, 0), (57, .bipush 95, 2, 95, 0), (59, .if_icmp .eq 7, 3, 0, 66), (62, .iconst 1, 1, 1, 0), (63, .goto 4, 3, 0, 67), (66, .iconst 0, 1, 0, 0), (67, .ireturn, 1, 0, 0)]
theorem tkX6_canStand : ∀ x ∈ tbX6_canStand, tbB cX6_canStand x = true := tb_all (by decide +kernel)
def fX6_canStand_27 (c : Nat → Option Nat) (h : Hp) (s0 : Int32) : Rs := rtI .boolean h s0
set_option maxHeartbeats 4000000 in
set_option maxRecDepth 100000 in
theorem sX6_canStand_27 (X : Cx) {h0 : Hp} (h : Hp) (s0 : Int32) : Gd X mX6_canStand h0 (fX6_canStand_27 X.2.2.2 h s0) h 27 [none, none] [.inl s0] := by
  unfold fX6_canStand_27
  exact q_zret (tbm tkX6_canStand (i := 14) rfl) rfl
def fX6_canStand_67 (c : Nat → Option Nat) (h : Hp) (s0 : Int32) : Rs := rtI .boolean h s0
set_option maxHeartbeats 4000000 in
set_option maxRecDepth 100000 in
theorem sX6_canStand_67 (X : Cx) {h0 : Hp} (h : Hp) (s0 : Int32) : Gd X mX6_canStand h0 (fX6_canStand_67 X.2.2.2 h s0) h 67 [none, none] [.inl s0] := by
  unfold fX6_canStand_67
  exact q_zret (tbm tkX6_canStand (i := 37) rfl) rfl
def fX6_canStand_66 (c : Nat → Option Nat) (h : Hp) : Rs := fX6_canStand_67 c h (0 : Int32)
set_option maxHeartbeats 4000000 in
set_option maxRecDepth 100000 in
theorem sX6_canStand_66 (X : Cx) {h0 : Hp} (h : Hp) : Gd X mX6_canStand h0 (fX6_canStand_66 X.2.2.2 h) h 66 [none, none] [] := by
  unfold fX6_canStand_66
  refine q_run tkX6_canStand 36 1 (pc' := 67) (L' := [none, none]) (st' := [.inl (0 : Int32)]) rfl ?_
  exact sX6_canStand_67 X h (0 : Int32)
def fX6_canStand (c : Nat → Option Nat) (h : Hp) (a0 : Option Nat) (a1 : Int32) : Rs := rdR h a0 8 6 (fun r1 => aldI h r1 [0, 10] a1 (fun x2 => cc (fX6_in c h x2 (97 : Int32) (122 : Int32)) (kI fun h3 x4 => if x4 = 0 then (rdR h3 a0 8 6 (fun r5 => aldI h3 r5 [0, 10] a1 (fun x6 => if x6 = (95 : Int32) then (if 0 < a1 then (if a1 < (29 : Int32) then (rdR h3 a0 8 6 (fun r7 => aldI h3 r7 [0, 10] (a1 - (1 : Int32)) (fun x8 => if x8 = (95 : Int32) then (fX6_canStand_66 c h3) else (fX6_canStand_67 c h3 (1 : Int32))))) else (fX6_canStand_66 c h3)) else (fX6_canStand_66 c h3)) else (fX6_canStand_66 c h3)))) else (if a1 < (30 : Int32) then (fX6_canStand_27 c h3 (1 : Int32)) else (fX6_canStand_27 c h3 (0 : Int32))))))
set_option maxHeartbeats 4000000 in
set_option maxRecDepth 100000 in
theorem soX6_canStand (X : Cx) (h : Hp) (a0 : Option Nat) (a1 : Int32) : SO X mX6_canStand [.inr (.inr a0), .inl a1] h (fX6_canStand X.2.2.2 h a0 a1) := by
  refine so_of (by decide +kernel) (Nat.le_of_ble_eq_true rfl) ?_
  show Gd X mX6_canStand h (fX6_canStand X.2.2.2 h a0 a1) h 0 [some (.inr (.inr a0)), some (.inl a1)] []
  unfold fX6_canStand
  refine q_run tkX6_canStand 0 1 (pc' := 1) (L' := [some (.inr (.inr a0)), some (.inl a1)]) (st' := [.inr (.inr a0)]) rfl ?_
  refine q_rdR RX6 TX6 15 (tbm tkX6_canStand (i := 1) rfl) rfl (Nat.le_of_ble_eq_true rfl) wd_941 (fun r1 => ?_)
  refine q_run tkX6_canStand 2 1 (pc' := 5) (L' := [some (.inr (.inr a0)), some (.inl a1)]) (st' := [.inl a1, .inr (.inr r1)]) rfl ?_
  refine q_iaload (tbm tkX6_canStand (i := 3) rfl) (fun x2 => ?_)
  refine q_run tkX6_canStand 4 2 (pc' := 10) (L' := [some (.inr (.inr a0)), some (.inl a1)]) (st' := [.inl (122 : Int32), .inl (97 : Int32), .inl x2]) rfl ?_
  refine q_cs (n := 3) (as := [.inl x2, .inl (97 : Int32), .inl (122 : Int32)]) (st := []) (soX6_in X h x2 (97 : Int32) (122 : Int32)) (tbm tkX6_canStand (i := 6) rfl) rfl ceX6_in wd_987 wd_986 rfl (Nat.le_of_ble_eq_true rfl) (kI_gd (fun h3 x4 => ?_))
  refine q_if_eq (tbm tkX6_canStand (i := 7) rfl) ?_ ?_
  · refine q_run tkX6_canStand 15 1 (pc' := 29) (L' := [some (.inr (.inr a0)), some (.inl a1)]) (st' := [.inr (.inr a0)]) rfl ?_
    refine q_rdR RX6 TX6 15 (tbm tkX6_canStand (i := 16) rfl) rfl (Nat.le_of_ble_eq_true rfl) wd_941 (fun r5 => ?_)
    refine q_run tkX6_canStand 17 1 (pc' := 33) (L' := [some (.inr (.inr a0)), some (.inl a1)]) (st' := [.inl a1, .inr (.inr r5)]) rfl ?_
    refine q_iaload (tbm tkX6_canStand (i := 18) rfl) (fun x6 => ?_)
    refine q_run tkX6_canStand 19 1 (pc' := 36) (L' := [some (.inr (.inr a0)), some (.inl a1)]) (st' := [.inl (95 : Int32), .inl x6]) rfl ?_
    refine q_icmp_ne (tbm tkX6_canStand (i := 20) rfl) ?_ ?_
    · refine q_run tkX6_canStand 21 1 (pc' := 40) (L' := [some (.inr (.inr a0)), some (.inl a1)]) (st' := [.inl a1]) rfl ?_
      refine q_if_le (tbm tkX6_canStand (i := 22) rfl) ?_ ?_
      · refine q_run tkX6_canStand 23 2 (pc' := 46) (L' := [some (.inr (.inr a0)), some (.inl a1)]) (st' := [.inl (29 : Int32), .inl a1]) rfl ?_
        refine q_icmp_ge (tbm tkX6_canStand (i := 25) rfl) ?_ ?_
        · refine q_run tkX6_canStand 26 1 (pc' := 50) (L' := [some (.inr (.inr a0)), some (.inl a1)]) (st' := [.inr (.inr a0)]) rfl ?_
          refine q_rdR RX6 TX6 15 (tbm tkX6_canStand (i := 27) rfl) rfl (Nat.le_of_ble_eq_true rfl) wd_941 (fun r7 => ?_)
          refine q_run tkX6_canStand 28 3 (pc' := 56) (L' := [some (.inr (.inr a0)), some (.inl a1)]) (st' := [.inl (a1 - (1 : Int32)), .inr (.inr r7)]) rfl ?_
          refine q_iaload (tbm tkX6_canStand (i := 31) rfl) (fun x8 => ?_)
          refine q_run tkX6_canStand 32 1 (pc' := 59) (L' := [some (.inr (.inr a0)), some (.inl a1)]) (st' := [.inl (95 : Int32), .inl x8]) rfl ?_
          refine q_icmp_eq (tbm tkX6_canStand (i := 33) rfl) ?_ ?_
          · refine q_le (L' := [none, none]) (lvLe_n (lvLe_n lvLe_0)) ?_
            exact sX6_canStand_66 X h3
          · refine q_run tkX6_canStand 34 2 (pc' := 67) (L' := [some (.inr (.inr a0)), some (.inl a1)]) (st' := [.inl (1 : Int32)]) rfl ?_
            refine q_le (L' := [none, none]) (lvLe_n (lvLe_n lvLe_0)) ?_
            exact sX6_canStand_67 X h3 (1 : Int32)
        · refine q_le (L' := [none, none]) (lvLe_n (lvLe_n lvLe_0)) ?_
          exact sX6_canStand_66 X h3
      · refine q_le (L' := [none, none]) (lvLe_n (lvLe_n lvLe_0)) ?_
        exact sX6_canStand_66 X h3
    · refine q_le (L' := [none, none]) (lvLe_n (lvLe_n lvLe_0)) ?_
      exact sX6_canStand_66 X h3
  · refine q_run tkX6_canStand 8 2 (pc' := 19) (L' := [some (.inr (.inr a0)), some (.inl a1)]) (st' := [.inl (30 : Int32), .inl a1]) rfl ?_
    refine q_icmp_ge (tbm tkX6_canStand (i := 10) rfl) ?_ ?_
    · refine q_run tkX6_canStand 11 2 (pc' := 27) (L' := [some (.inr (.inr a0)), some (.inl a1)]) (st' := [.inl (1 : Int32)]) rfl ?_
      refine q_le (L' := [none, none]) (lvLe_n (lvLe_n lvLe_0)) ?_
      exact sX6_canStand_27 X h3 (1 : Int32)
    · refine q_run tkX6_canStand 13 1 (pc' := 27) (L' := [some (.inr (.inr a0)), some (.inl a1)]) (st' := [.inl (0 : Int32)]) rfl ?_
      refine q_le (L' := [none, none]) (lvLe_n (lvLe_n lvLe_0)) ?_
      exact sX6_canStand_27 X h3 (0 : Int32)
theorem ceX6_canStand : Ce mX6_canStand 1 := ⟨wd_81, wd_1013, by decide +kernel, by decide +kernel, by decide +kernel⟩
/-- ReceiptRollsModel.faultAt -/
abbrev mX6_faultAt : MI := (yX6_faultAt, cX6_faultAt, 2, some .int, 2)
def tbX6_faultAt : List TE := [(0, .iconst 0, 1, 0, 0), (1, .istore_n 1, 1, 0, 0), (2, .iload_n 1, 1, 0, 0), (3, .aload_n 0, 1, 0, 0), (4, .getfield 193, 3, 0, 0), (7, .if_icmp .ge 19, 3, 0, 26), (10, .aload_n 0, 1, 0, 0), (11, .iload_n 1, 1, 0, 0), (12, .invokevirtual 245, 3, 0, 0), (15, .ifCond .ne 5, 3, 0, 20), (18, .iload_n 1, 1, 0, 0), (19, .ireturn, 1, 0, 0), (20, .iinc 1 1, 3, 1, 0), (23, .goto (-21), 3, 0, 2), (26, .aload_n 0, 1, 0, 0), (27, .getfield 193, 3, 0, 0), (30, .ifCond .eq 19, 3, 0, 49), (33, .aload_n 0, 1, 0, 0), (34, .getfield 23, 3, 0, 0), (37, .aload_n 0, 1, 0, 0), (38, .getfield 193, 3, 0, 0), (41, .iconst 1, 1, 1, 0), (42, .isub, 1, 0, 0), (43, .iaload, 1, 0, 0), (44, .bipush 95, 2, 95, 0), (46, .if_icmp .ne 10, 3, 0, 56), (49, .aload_n 0, 1, 0, 0), (50, .getfield 193, 3, 0, 0), (53, .goto 5, 3, 0, 58), (56, .bipush (-6), 2, -6, 0), (58, .ireturn, 1, 0, 0)]
theorem tkX6_faultAt : ∀ x ∈ tbX6_faultAt, tbB cX6_faultAt x = true := tb_all (by decide +kernel)
def fX6_faultAt_58 (c : Nat → Option Nat) (h : Hp) (s0 : Int32) : Rs := some (h, some (.inl s0))
set_option maxHeartbeats 4000000 in
set_option maxRecDepth 100000 in
theorem sX6_faultAt_58 (X : Cx) {h0 : Hp} (h : Hp) (s0 : Int32) : Gd X mX6_faultAt h0 (fX6_faultAt_58 X.2.2.2 h s0) h 58 [none, none] [.inl s0] := by
  unfold fX6_faultAt_58
  exact q_iret (tbm tkX6_faultAt (i := 30) rfl) rfl
def fX6_faultAt_49 (c : Nat → Option Nat) (h : Hp) (l0 : Option Nat) : Rs := rdI h l0 8 7 (fun x1 => fX6_faultAt_58 c h x1)
set_option maxHeartbeats 4000000 in
set_option maxRecDepth 100000 in
theorem sX6_faultAt_49 (X : Cx) {h0 : Hp} (h : Hp) (l0 : Option Nat) : Gd X mX6_faultAt h0 (fX6_faultAt_49 X.2.2.2 h l0) h 49 [some (.inr (.inr l0)), none] [] := by
  unfold fX6_faultAt_49
  refine q_run tkX6_faultAt 26 1 (pc' := 50) (L' := [some (.inr (.inr l0)), none]) (st' := [.inr (.inr l0)]) rfl ?_
  refine q_rdI RX6 TX6 15 (tbm tkX6_faultAt (i := 27) rfl) rfl (Nat.le_of_ble_eq_true rfl) wd_942 (fun x1 => ?_)
  refine q_run tkX6_faultAt 28 1 (pc' := 58) (L' := [some (.inr (.inr l0)), none]) (st' := [.inl x1]) rfl ?_
  refine q_le (L' := [none, none]) (lvLe_n (lvLe_n lvLe_0)) ?_
  exact sX6_faultAt_58 X h x1
def fX6_faultAt_2 (c : Nat → Option Nat) : Nat → Hp → Option Nat → Int32 → Rs
  | 0, _, _, _ => none
  | n + 1, h, l0, l1 => rdI h l0 8 7 (fun x2 => if l1 < x2 then (ck h l0 8 (cc (fX6_canStand c h l0 l1) (kI fun h3 x4 => if x4 = 0 then (some (h3, some (.inl l1))) else (fX6_faultAt_2 c n h3 l0 (l1 + (1 : Int32)))))) else (rdI h l0 8 7 (fun x5 => if x5 = 0 then (fX6_faultAt_49 c h l0) else (rdR h l0 8 6 (fun r6 => rdI h l0 8 7 (fun x7 => aldI h r6 [0, 10] (x7 - (1 : Int32)) (fun x8 => if x8 = (95 : Int32) then (fX6_faultAt_49 c h l0) else (fX6_faultAt_58 c h (-6 : Int32)))))))))
set_option maxHeartbeats 4000000 in
set_option maxRecDepth 100000 in
theorem sX6_faultAt_2 (X : Cx) {h0 : Hp} : ∀ (n : Nat) (h : Hp) (l0 : Option Nat) (l1 : Int32), Gd X mX6_faultAt h0 (fX6_faultAt_2 X.2.2.2 n h l0 l1) h 2 [some (.inr (.inr l0)), some (.inl l1)] [] := by
  intro n
  induction n with
  | zero => intros; exact gd_none
  | succ n ih =>
    intro h l0 l1
    unfold fX6_faultAt_2
    refine q_run tkX6_faultAt 2 2 (pc' := 4) (L' := [some (.inr (.inr l0)), some (.inl l1)]) (st' := [.inr (.inr l0), .inl l1]) rfl ?_
    refine q_rdI RX6 TX6 15 (tbm tkX6_faultAt (i := 4) rfl) rfl (Nat.le_of_ble_eq_true rfl) wd_942 (fun x2 => ?_)
    refine q_icmp_ge (tbm tkX6_faultAt (i := 5) rfl) ?_ ?_
    · refine q_run tkX6_faultAt 6 2 (pc' := 12) (L' := [some (.inr (.inr l0)), some (.inl l1)]) (st' := [.inl l1, .inr (.inr l0)]) rfl ?_
      refine q_cv (r := l0) (ci := 8) (n := 1) (as := [.inl l1]) (st := []) TX6 15 (soX6_canStand X h l0 l1) (tbm tkX6_faultAt (i := 8) rfl) rfl rfl ceX6_canStand wd_1012 wd_20 wd_1010 rfl (Nat.le_of_ble_eq_true rfl) (kI_gd (fun h3 x4 => ?_))
      refine q_if_ne (tbm tkX6_faultAt (i := 9) rfl) ?_ ?_
      · refine q_run tkX6_faultAt 10 1 (pc' := 19) (L' := [some (.inr (.inr l0)), some (.inl l1)]) (st' := [.inl l1]) rfl ?_
        exact q_iret (tbm tkX6_faultAt (i := 11) rfl) rfl
      · refine q_run tkX6_faultAt 12 2 (pc' := 2) (L' := [some (.inr (.inr l0)), some (.inl (l1 + (1 : Int32)))]) (st' := []) rfl ?_
        exact ih h3 l0 (l1 + (1 : Int32))
    · refine q_run tkX6_faultAt 14 1 (pc' := 27) (L' := [some (.inr (.inr l0)), some (.inl l1)]) (st' := [.inr (.inr l0)]) rfl ?_
      refine q_rdI RX6 TX6 15 (tbm tkX6_faultAt (i := 15) rfl) rfl (Nat.le_of_ble_eq_true rfl) wd_942 (fun x5 => ?_)
      refine q_if_eq (tbm tkX6_faultAt (i := 16) rfl) ?_ ?_
      · refine q_le (L' := [some (.inr (.inr l0)), none]) (lvLe_s (lvLe_n lvLe_0)) ?_
        exact sX6_faultAt_49 X h l0
      · refine q_run tkX6_faultAt 17 1 (pc' := 34) (L' := [some (.inr (.inr l0)), some (.inl l1)]) (st' := [.inr (.inr l0)]) rfl ?_
        refine q_rdR RX6 TX6 15 (tbm tkX6_faultAt (i := 18) rfl) rfl (Nat.le_of_ble_eq_true rfl) wd_941 (fun r6 => ?_)
        refine q_run tkX6_faultAt 19 1 (pc' := 38) (L' := [some (.inr (.inr l0)), some (.inl l1)]) (st' := [.inr (.inr l0), .inr (.inr r6)]) rfl ?_
        refine q_rdI RX6 TX6 15 (tbm tkX6_faultAt (i := 20) rfl) rfl (Nat.le_of_ble_eq_true rfl) wd_942 (fun x7 => ?_)
        refine q_run tkX6_faultAt 21 2 (pc' := 43) (L' := [some (.inr (.inr l0)), some (.inl l1)]) (st' := [.inl (x7 - (1 : Int32)), .inr (.inr r6)]) rfl ?_
        refine q_iaload (tbm tkX6_faultAt (i := 23) rfl) (fun x8 => ?_)
        refine q_run tkX6_faultAt 24 1 (pc' := 46) (L' := [some (.inr (.inr l0)), some (.inl l1)]) (st' := [.inl (95 : Int32), .inl x8]) rfl ?_
        refine q_icmp_ne (tbm tkX6_faultAt (i := 25) rfl) ?_ ?_
        · refine q_le (L' := [some (.inr (.inr l0)), none]) (lvLe_s (lvLe_n lvLe_0)) ?_
          exact sX6_faultAt_49 X h l0
        · refine q_run tkX6_faultAt 29 1 (pc' := 58) (L' := [some (.inr (.inr l0)), some (.inl l1)]) (st' := [.inl (-6 : Int32)]) rfl ?_
          refine q_le (L' := [none, none]) (lvLe_n (lvLe_n lvLe_0)) ?_
          exact sX6_faultAt_58 X h (-6 : Int32)
def fX6_faultAt (c : Nat → Option Nat) (h : Hp) (a0 : Option Nat) : Rs := fX6_faultAt_2 c FU h a0 (0 : Int32)
set_option maxHeartbeats 4000000 in
set_option maxRecDepth 100000 in
theorem soX6_faultAt (X : Cx) (h : Hp) (a0 : Option Nat) : SO X mX6_faultAt [.inr (.inr a0)] h (fX6_faultAt X.2.2.2 h a0) := by
  refine so_of (by decide +kernel) (Nat.le_of_ble_eq_true rfl) ?_
  show Gd X mX6_faultAt h (fX6_faultAt X.2.2.2 h a0) h 0 [some (.inr (.inr a0)), none] []
  unfold fX6_faultAt
  refine q_run tkX6_faultAt 0 2 (pc' := 2) (L' := [some (.inr (.inr a0)), some (.inl (0 : Int32))]) (st' := []) rfl ?_
  exact sX6_faultAt_2 X FU h a0 (0 : Int32)
theorem ceX6_faultAt : Ce mX6_faultAt 0 := ⟨wd_81, wd_1009, by decide +kernel, by decide +kernel, by decide +kernel⟩
/-- ReceiptRollsModel.of -/
abbrev mX6_of : MI := (yX6_of, cX6_of, 3, some .int, 0)
def tbX6_of : List TE := [(0, .aload_n 0, 1, 0, 0), (1, .getfield 7, 3, 0, 0), (4, .bipush 12, 2, 12, 0), (6, .bipush 86, 2, 86, 0), (8, .iload_n 1, 1, 0, 0), (9, .imul, 1, 0, 0), (10, .iadd, 1, 0, 0), (11, .iload_n 2, 1, 0, 0), (12, .iadd, 1, 0, 0), (13, .iaload, 1, 0, 0), (14, .ireturn, 1, 0, 0)]
theorem tkX6_of : ∀ x ∈ tbX6_of, tbB cX6_of x = true := tb_all (by decide +kernel)
def fX6_of (c : Nat → Option Nat) (h : Hp) (a0 : Option Nat) (a1 : Int32) (a2 : Int32) : Rs := rdR h a0 8 1 (fun r1 => aldI h r1 [0, 10] (((12 : Int32) + ((86 : Int32) * a1)) + a2) (fun x2 => some (h, some (.inl x2))))
set_option maxHeartbeats 4000000 in
set_option maxRecDepth 100000 in
theorem soX6_of (X : Cx) (h : Hp) (a0 : Option Nat) (a1 : Int32) (a2 : Int32) : SO X mX6_of [.inr (.inr a0), .inl a1, .inl a2] h (fX6_of X.2.2.2 h a0 a1 a2) := by
  refine so_of (by decide +kernel) (Nat.le_of_ble_eq_true rfl) ?_
  show Gd X mX6_of h (fX6_of X.2.2.2 h a0 a1 a2) h 0 [some (.inr (.inr a0)), some (.inl a1), some (.inl a2)] []
  unfold fX6_of
  refine q_run tkX6_of 0 1 (pc' := 1) (L' := [some (.inr (.inr a0)), some (.inl a1), some (.inl a2)]) (st' := [.inr (.inr a0)]) rfl ?_
  refine q_rdR RX6 TX6 15 (tbm tkX6_of (i := 1) rfl) rfl (Nat.le_of_ble_eq_true rfl) wd_936 (fun r1 => ?_)
  refine q_run tkX6_of 2 7 (pc' := 13) (L' := [some (.inr (.inr a0)), some (.inl a1), some (.inl a2)]) (st' := [.inl (((12 : Int32) + ((86 : Int32) * a1)) + a2), .inr (.inr r1)]) rfl ?_
  refine q_iaload (tbm tkX6_of (i := 9) rfl) (fun x2 => ?_)
  exact q_iret (tbm tkX6_of (i := 10) rfl) rfl
theorem ceX6_of : Ce mX6_of 2 := ⟨wd_81, wd_1017, by decide +kernel, by decide +kernel, by decide +kernel⟩
/-- ReceiptRollsModel.packsName -/
abbrev mX6_packsName : MI := (yX6_packsName, cX6_packsName, 6, none, 1)
def tbX6_packsName : List TE := [(0, .iconst 0, 1, 0, 0), (1, .istore_n 3, 1, 0, 0), (2, .iload_n 3, 1, 0, 0), (3, .aload_n 0, 1, 0, 0), (4, .getfield 193, 3, 0, 0), (7, .if_icmp .ge 78, 3, 0, 85), (10, .bipush 14, 2, 14, 0), (12, .bipush 6, 2, 6, 0), (14, .iload_n 2, 1, 0, 0), (15, .imul, 1, 0, 0), (16, .iadd, 1, 0, 0), (17, .iconst 1, 1, 1, 0), (18, .iadd, 1, 0, 0), (19, .iload_n 3, 1, 0, 0), (20, .bipush 6, 2, 6, 0), (22, .idiv, 1, 0, 0), (23, .iadd, 1, 0, 0), (24, .istore 4, 2, 0, 0), (26, .aload_n 0, 1, 0, 0), (27, .getfield 23, 3, 0, 0), (30, .iload_n 3, 1, 0, 0), (31, .iaload, 1, 0, 0), (32, .bipush 95, 2, 95, 0), (34, .if_icmp .ne 8, 3, 0, 42), (37, .bipush 27, 2, 27, 0), (39, .goto 14, 3, 0, 53), (42, .aload_n 0, 1, 0, 0), (43, .getfield 23, 3, 0, 0), (46, .iload_n 3, 1, 0, 0), (47, .iaload, 1, 0, 0), (48, .bipush 97, 2, 97, 0), (50, .isub, 1, 0, 0), (51, .iconst 1, 1, 1, 0), (52, .iadd, 1, 0, 0), (53, .istore 5, 2, 0, 0), (55, .aload_n 0, 1, 0, 0), (56, .iload_n 1, 1, 0, 0), (57, .iload 4, 2, 0, 0), (59, .aload_n 0, 1, 0, 0), (60, .iload_n 1, 1, 0, 0), (61, .iload 4, 2, 0, 0), (63, .invokevirtual 47, 3, 0, 0), (66, .iload 5, 2, 0, 0), (68, .iconst 5, 1, 5, 0), (69, .iload_n 3, 1, 0, 0), (70, .bipush 6, 2, 6, 0), (72, .irem, 1, 0, 0), (73, .imul, 1, 0, 0), (74, .ishl, 1, 0, 0), (75, .ior, 1, 0, 0), (76, .invokevirtual 36, 3, 0, 0), (79, .iinc 3 1, 3, 1, 0), (82, .goto (-80), 3, 0, 2), (85, .return_, 1, 0, 0)]
theorem tkX6_packsName : ∀ x ∈ tbX6_packsName, tbB cX6_packsName x = true := tb_all (by decide +kernel)
def fX6_packsName_53 (c : Nat → Option Nat) (k2 : Hp → Option Nat → Int32 → Int32 → Int32 → Rs) (h : Hp) (l0 : Option Nat) (l1 : Int32) (l2 : Int32) (l3 : Int32) (l4 : Int32) (s0 : Int32) : Rs := ck h l0 8 (cc (fX6_of c h l0 l1 l4) (kI fun h1 x2 => dv (6 : Int32) (ck h1 l0 8 (cc (fX6_lay c h1 l0 l1 l4 (x2 ||| (shlI s0 ((5 : Int32) * (l3 - l3 / (6 : Int32) * (6 : Int32)))))) (kV fun h3 => k2 h3 l0 l1 l2 (l3 + (1 : Int32)))))))
set_option maxHeartbeats 4000000 in
set_option maxRecDepth 100000 in
theorem sX6_packsName_53 (X : Cx) {h0 : Hp} (k2 : Hp → Option Nat → Int32 → Int32 → Int32 → Rs) (hk2 : ∀ (h : Hp) (l0 : Option Nat) (l1 : Int32) (l2 : Int32) (l3 : Int32), Gd X mX6_packsName h0 (k2 h l0 l1 l2 l3) h 2 [some (.inr (.inr l0)), some (.inl l1), some (.inl l2), some (.inl l3), none, none] []) (h : Hp) (l0 : Option Nat) (l1 : Int32) (l2 : Int32) (l3 : Int32) (l4 : Int32) (s0 : Int32) : Gd X mX6_packsName h0 (fX6_packsName_53 X.2.2.2 k2 h l0 l1 l2 l3 l4 s0) h 53 [some (.inr (.inr l0)), some (.inl l1), some (.inl l2), some (.inl l3), some (.inl l4), none] [.inl s0] := by
  unfold fX6_packsName_53
  refine q_run tkX6_packsName 34 7 (pc' := 63) (L' := [some (.inr (.inr l0)), some (.inl l1), some (.inl l2), some (.inl l3), some (.inl l4), some (.inl s0)]) (st' := [.inl l4, .inl l1, .inr (.inr l0), .inl l4, .inl l1, .inr (.inr l0)]) rfl ?_
  refine q_cv (r := l0) (ci := 8) (n := 2) (as := [.inl l1, .inl l4]) (st := [.inl l4, .inl l1, .inr (.inr l0)]) TX6 15 (soX6_of X h l0 l1 l4) (tbm tkX6_packsName (i := 41) rfl) rfl rfl ceX6_of wd_1016 wd_21 wd_1014 rfl (Nat.le_of_ble_eq_true rfl) (kI_gd (fun h1 x2 => ?_))
  refine q_run tkX6_packsName 42 4 (pc' := 72) (L' := [some (.inr (.inr l0)), some (.inl l1), some (.inl l2), some (.inl l3), some (.inl l4), some (.inl s0)]) (st' := [.inl (6 : Int32), .inl l3, .inl (5 : Int32), .inl s0, .inl x2, .inl l4, .inl l1, .inr (.inr l0)]) rfl ?_
  refine q_rem (tbm tkX6_packsName (i := 46) rfl) ?_
  refine q_run tkX6_packsName 47 3 (pc' := 76) (L' := [some (.inr (.inr l0)), some (.inl l1), some (.inl l2), some (.inl l3), some (.inl l4), some (.inl s0)]) (st' := [.inl (x2 ||| (shlI s0 ((5 : Int32) * (l3 - l3 / (6 : Int32) * (6 : Int32))))), .inl l4, .inl l1, .inr (.inr l0)]) rfl ?_
  refine q_cv (r := l0) (ci := 8) (n := 3) (as := [.inl l1, .inl l4, .inl (x2 ||| (shlI s0 ((5 : Int32) * (l3 - l3 / (6 : Int32) * (6 : Int32)))))]) (st := []) TX6 15 (soX6_lay X h1 l0 l1 l4 (x2 ||| (shlI s0 ((5 : Int32) * (l3 - l3 / (6 : Int32) * (6 : Int32)))))) (tbm tkX6_packsName (i := 50) rfl) rfl rfl ceX6_lay wd_933 wd_17 wd_931 rfl (Nat.le_of_ble_eq_true rfl) (kV_gd (fun h3 => ?_))
  refine q_run tkX6_packsName 51 2 (pc' := 2) (L' := [some (.inr (.inr l0)), some (.inl l1), some (.inl l2), some (.inl (l3 + (1 : Int32))), some (.inl l4), some (.inl s0)]) (st' := []) rfl ?_
  refine q_le (L' := [some (.inr (.inr l0)), some (.inl l1), some (.inl l2), some (.inl (l3 + (1 : Int32))), none, none]) (lvLe_s (lvLe_s (lvLe_s (lvLe_s (lvLe_n (lvLe_n lvLe_0)))))) ?_
  exact hk2 h3 l0 l1 l2 (l3 + (1 : Int32))
def fX6_packsName_2 (c : Nat → Option Nat) : Nat → Hp → Option Nat → Int32 → Int32 → Int32 → Rs
  | 0, _, _, _, _, _ => none
  | n + 1, h, l0, l1, l2, l3 => rdI h l0 8 7 (fun x4 => if l3 < x4 then (dv (6 : Int32) (rdR h l0 8 6 (fun r5 => aldI h r5 [0, 10] l3 (fun x6 => if x6 = (95 : Int32) then (fX6_packsName_53 c (fX6_packsName_2 c n) h l0 l1 l2 l3 ((((14 : Int32) + ((6 : Int32) * l2)) + (1 : Int32)) + (l3 / (6 : Int32))) (27 : Int32)) else (rdR h l0 8 6 (fun r7 => aldI h r7 [0, 10] l3 (fun x8 => fX6_packsName_53 c (fX6_packsName_2 c n) h l0 l1 l2 l3 ((((14 : Int32) + ((6 : Int32) * l2)) + (1 : Int32)) + (l3 / (6 : Int32))) ((x8 - (97 : Int32)) + (1 : Int32))))))))) else (some (h, none)))
set_option maxHeartbeats 4000000 in
set_option maxRecDepth 100000 in
theorem sX6_packsName_2 (X : Cx) {h0 : Hp} : ∀ (n : Nat) (h : Hp) (l0 : Option Nat) (l1 : Int32) (l2 : Int32) (l3 : Int32), Gd X mX6_packsName h0 (fX6_packsName_2 X.2.2.2 n h l0 l1 l2 l3) h 2 [some (.inr (.inr l0)), some (.inl l1), some (.inl l2), some (.inl l3), none, none] [] := by
  intro n
  induction n with
  | zero => intros; exact gd_none
  | succ n ih =>
    intro h l0 l1 l2 l3
    unfold fX6_packsName_2
    refine q_run tkX6_packsName 2 2 (pc' := 4) (L' := [some (.inr (.inr l0)), some (.inl l1), some (.inl l2), some (.inl l3), none, none]) (st' := [.inr (.inr l0), .inl l3]) rfl ?_
    refine q_rdI RX6 TX6 15 (tbm tkX6_packsName (i := 4) rfl) rfl (Nat.le_of_ble_eq_true rfl) wd_942 (fun x4 => ?_)
    refine q_icmp_ge (tbm tkX6_packsName (i := 5) rfl) ?_ ?_
    · refine q_run tkX6_packsName 6 9 (pc' := 22) (L' := [some (.inr (.inr l0)), some (.inl l1), some (.inl l2), some (.inl l3), none, none]) (st' := [.inl (6 : Int32), .inl l3, .inl (((14 : Int32) + ((6 : Int32) * l2)) + (1 : Int32))]) rfl ?_
      refine q_div (tbm tkX6_packsName (i := 15) rfl) ?_
      refine q_run tkX6_packsName 16 3 (pc' := 27) (L' := [some (.inr (.inr l0)), some (.inl l1), some (.inl l2), some (.inl l3), some (.inl ((((14 : Int32) + ((6 : Int32) * l2)) + (1 : Int32)) + (l3 / (6 : Int32)))), none]) (st' := [.inr (.inr l0)]) rfl ?_
      refine q_rdR RX6 TX6 15 (tbm tkX6_packsName (i := 19) rfl) rfl (Nat.le_of_ble_eq_true rfl) wd_941 (fun r5 => ?_)
      refine q_run tkX6_packsName 20 1 (pc' := 31) (L' := [some (.inr (.inr l0)), some (.inl l1), some (.inl l2), some (.inl l3), some (.inl ((((14 : Int32) + ((6 : Int32) * l2)) + (1 : Int32)) + (l3 / (6 : Int32)))), none]) (st' := [.inl l3, .inr (.inr r5)]) rfl ?_
      refine q_iaload (tbm tkX6_packsName (i := 21) rfl) (fun x6 => ?_)
      refine q_run tkX6_packsName 22 1 (pc' := 34) (L' := [some (.inr (.inr l0)), some (.inl l1), some (.inl l2), some (.inl l3), some (.inl ((((14 : Int32) + ((6 : Int32) * l2)) + (1 : Int32)) + (l3 / (6 : Int32)))), none]) (st' := [.inl (95 : Int32), .inl x6]) rfl ?_
      refine q_icmp_ne (tbm tkX6_packsName (i := 23) rfl) ?_ ?_
      · refine q_run tkX6_packsName 24 2 (pc' := 53) (L' := [some (.inr (.inr l0)), some (.inl l1), some (.inl l2), some (.inl l3), some (.inl ((((14 : Int32) + ((6 : Int32) * l2)) + (1 : Int32)) + (l3 / (6 : Int32)))), none]) (st' := [.inl (27 : Int32)]) rfl ?_
        exact sX6_packsName_53 X (fX6_packsName_2 X.2.2.2 n) ih h l0 l1 l2 l3 ((((14 : Int32) + ((6 : Int32) * l2)) + (1 : Int32)) + (l3 / (6 : Int32))) (27 : Int32)
      · refine q_run tkX6_packsName 26 1 (pc' := 43) (L' := [some (.inr (.inr l0)), some (.inl l1), some (.inl l2), some (.inl l3), some (.inl ((((14 : Int32) + ((6 : Int32) * l2)) + (1 : Int32)) + (l3 / (6 : Int32)))), none]) (st' := [.inr (.inr l0)]) rfl ?_
        refine q_rdR RX6 TX6 15 (tbm tkX6_packsName (i := 27) rfl) rfl (Nat.le_of_ble_eq_true rfl) wd_941 (fun r7 => ?_)
        refine q_run tkX6_packsName 28 1 (pc' := 47) (L' := [some (.inr (.inr l0)), some (.inl l1), some (.inl l2), some (.inl l3), some (.inl ((((14 : Int32) + ((6 : Int32) * l2)) + (1 : Int32)) + (l3 / (6 : Int32)))), none]) (st' := [.inl l3, .inr (.inr r7)]) rfl ?_
        refine q_iaload (tbm tkX6_packsName (i := 29) rfl) (fun x8 => ?_)
        refine q_run tkX6_packsName 30 4 (pc' := 53) (L' := [some (.inr (.inr l0)), some (.inl l1), some (.inl l2), some (.inl l3), some (.inl ((((14 : Int32) + ((6 : Int32) * l2)) + (1 : Int32)) + (l3 / (6 : Int32)))), none]) (st' := [.inl ((x8 - (97 : Int32)) + (1 : Int32))]) rfl ?_
        exact sX6_packsName_53 X (fX6_packsName_2 X.2.2.2 n) ih h l0 l1 l2 l3 ((((14 : Int32) + ((6 : Int32) * l2)) + (1 : Int32)) + (l3 / (6 : Int32))) ((x8 - (97 : Int32)) + (1 : Int32))
    · exact q_vret (tbm tkX6_packsName (i := 53) rfl) rfl
def fX6_packsName (c : Nat → Option Nat) (h : Hp) (a0 : Option Nat) (a1 : Int32) (a2 : Int32) : Rs := fX6_packsName_2 c FU h a0 a1 a2 (0 : Int32)
set_option maxHeartbeats 4000000 in
set_option maxRecDepth 100000 in
theorem soX6_packsName (X : Cx) (h : Hp) (a0 : Option Nat) (a1 : Int32) (a2 : Int32) : SO X mX6_packsName [.inr (.inr a0), .inl a1, .inl a2] h (fX6_packsName X.2.2.2 h a0 a1 a2) := by
  refine so_of (by decide +kernel) (Nat.le_of_ble_eq_true rfl) ?_
  show Gd X mX6_packsName h (fX6_packsName X.2.2.2 h a0 a1 a2) h 0 [some (.inr (.inr a0)), some (.inl a1), some (.inl a2), none, none, none] []
  unfold fX6_packsName
  refine q_run tkX6_packsName 0 2 (pc' := 2) (L' := [some (.inr (.inr a0)), some (.inl a1), some (.inl a2), some (.inl (0 : Int32)), none, none]) (st' := []) rfl ?_
  exact sX6_packsName_2 X FU h a0 a1 a2 (0 : Int32)
theorem ceX6_packsName : Ce mX6_packsName 2 := ⟨wd_81, wd_1021, by decide +kernel, by decide +kernel, by decide +kernel⟩
/-- ReceiptRollsModel.happens -/
abbrev mX6_happens : MI := (yX6_happens, cX6_happens, 4, none, 1)
def tbX6_happens : List TE := [(0, .aload_n 0, 1, 0, 0), (1, .iload_n 1, 1, 0, 0), (2, .bipush 9, 2, 9, 0), (4, .invokevirtual 47, 3, 0, 0), (7, .istore_n 3, 1, 0, 0), (8, .aload_n 0, 1, 0, 0), (9, .iload_n 1, 1, 0, 0), (10, .bipush 10, 2, 10, 0), (12, .iload_n 3, 1, 0, 0), (13, .bipush 6, 2, 6, 0), (15, .idiv, 1, 0, 0), (16, .iadd, 1, 0, 0), (17, .aload_n 0, 1, 0, 0), (18, .iload_n 1, 1, 0, 0), (19, .bipush 10, 2, 10, 0), (21, .iload_n 3, 1, 0, 0), (22, .bipush 6, 2, 6, 0), (24, .idiv, 1, 0, 0), (25, .iadd, 1, 0, 0), (26, .invokevirtual 47, 3, 0, 0), (29, .iload_n 2, 1, 0, 0), (30, .iconst 5, 1, 5, 0), (31, .iload_n 3, 1, 0, 0), (32, .bipush 6, 2, 6, 0), (34, .irem, 1, 0, 0), (35, .imul, 1, 0, 0), (36, .ishl, 1, 0, 0), (37, .ior, 1, 0, 0), (38, .invokevirtual 36, 3, 0, 0), (41, .aload_n 0, 1, 0, 0), (42, .iload_n 1, 1, 0, 0), (43, .bipush 9, 2, 9, 0), (45, .iload_n 3, 1, 0, 0), (46, .iconst 1, 1, 1, 0), (47, .iadd, 1, 0, 0), (48, .invokevirtual 36, 3, 0, 0), (51, .return_, 1, 0, 0)]
theorem tkX6_happens : ∀ x ∈ tbX6_happens, tbB cX6_happens x = true := tb_all (by decide +kernel)
def fX6_happens (c : Nat → Option Nat) (h : Hp) (a0 : Option Nat) (a1 : Int32) (a2 : Int32) : Rs := ck h a0 8 (cc (fX6_of c h a0 a1 (9 : Int32)) (kI fun h1 x2 => dv (6 : Int32) (dv (6 : Int32) (ck h1 a0 8 (cc (fX6_of c h1 a0 a1 ((10 : Int32) + (x2 / (6 : Int32)))) (kI fun h3 x4 => dv (6 : Int32) (ck h3 a0 8 (cc (fX6_lay c h3 a0 a1 ((10 : Int32) + (x2 / (6 : Int32))) (x4 ||| (shlI a2 ((5 : Int32) * (x2 - x2 / (6 : Int32) * (6 : Int32)))))) (kV fun h5 => ck h5 a0 8 (cc (fX6_lay c h5 a0 a1 (9 : Int32) (x2 + (1 : Int32))) (kV fun h6 => some (h6, none))))))))))))
set_option maxHeartbeats 4000000 in
set_option maxRecDepth 100000 in
theorem soX6_happens (X : Cx) (h : Hp) (a0 : Option Nat) (a1 : Int32) (a2 : Int32) : SO X mX6_happens [.inr (.inr a0), .inl a1, .inl a2] h (fX6_happens X.2.2.2 h a0 a1 a2) := by
  refine so_of (by decide +kernel) (Nat.le_of_ble_eq_true rfl) ?_
  show Gd X mX6_happens h (fX6_happens X.2.2.2 h a0 a1 a2) h 0 [some (.inr (.inr a0)), some (.inl a1), some (.inl a2), none] []
  unfold fX6_happens
  refine q_run tkX6_happens 0 3 (pc' := 4) (L' := [some (.inr (.inr a0)), some (.inl a1), some (.inl a2), none]) (st' := [.inl (9 : Int32), .inl a1, .inr (.inr a0)]) rfl ?_
  refine q_cv (r := a0) (ci := 8) (n := 2) (as := [.inl a1, .inl (9 : Int32)]) (st := []) TX6 15 (soX6_of X h a0 a1 (9 : Int32)) (tbm tkX6_happens (i := 3) rfl) rfl rfl ceX6_of wd_1016 wd_21 wd_1014 rfl (Nat.le_of_ble_eq_true rfl) (kI_gd (fun h1 x2 => ?_))
  refine q_run tkX6_happens 4 6 (pc' := 15) (L' := [some (.inr (.inr a0)), some (.inl a1), some (.inl a2), some (.inl x2)]) (st' := [.inl (6 : Int32), .inl x2, .inl (10 : Int32), .inl a1, .inr (.inr a0)]) rfl ?_
  refine q_div (tbm tkX6_happens (i := 10) rfl) ?_
  refine q_run tkX6_happens 11 6 (pc' := 24) (L' := [some (.inr (.inr a0)), some (.inl a1), some (.inl a2), some (.inl x2)]) (st' := [.inl (6 : Int32), .inl x2, .inl (10 : Int32), .inl a1, .inr (.inr a0), .inl ((10 : Int32) + (x2 / (6 : Int32))), .inl a1, .inr (.inr a0)]) rfl ?_
  refine q_div (tbm tkX6_happens (i := 17) rfl) ?_
  refine q_run tkX6_happens 18 1 (pc' := 26) (L' := [some (.inr (.inr a0)), some (.inl a1), some (.inl a2), some (.inl x2)]) (st' := [.inl ((10 : Int32) + (x2 / (6 : Int32))), .inl a1, .inr (.inr a0), .inl ((10 : Int32) + (x2 / (6 : Int32))), .inl a1, .inr (.inr a0)]) rfl ?_
  refine q_cv (r := a0) (ci := 8) (n := 2) (as := [.inl a1, .inl ((10 : Int32) + (x2 / (6 : Int32)))]) (st := [.inl ((10 : Int32) + (x2 / (6 : Int32))), .inl a1, .inr (.inr a0)]) TX6 15 (soX6_of X h1 a0 a1 ((10 : Int32) + (x2 / (6 : Int32)))) (tbm tkX6_happens (i := 19) rfl) rfl rfl ceX6_of wd_1016 wd_21 wd_1014 rfl (Nat.le_of_ble_eq_true rfl) (kI_gd (fun h3 x4 => ?_))
  refine q_run tkX6_happens 20 4 (pc' := 34) (L' := [some (.inr (.inr a0)), some (.inl a1), some (.inl a2), some (.inl x2)]) (st' := [.inl (6 : Int32), .inl x2, .inl (5 : Int32), .inl a2, .inl x4, .inl ((10 : Int32) + (x2 / (6 : Int32))), .inl a1, .inr (.inr a0)]) rfl ?_
  refine q_rem (tbm tkX6_happens (i := 24) rfl) ?_
  refine q_run tkX6_happens 25 3 (pc' := 38) (L' := [some (.inr (.inr a0)), some (.inl a1), some (.inl a2), some (.inl x2)]) (st' := [.inl (x4 ||| (shlI a2 ((5 : Int32) * (x2 - x2 / (6 : Int32) * (6 : Int32))))), .inl ((10 : Int32) + (x2 / (6 : Int32))), .inl a1, .inr (.inr a0)]) rfl ?_
  refine q_cv (r := a0) (ci := 8) (n := 3) (as := [.inl a1, .inl ((10 : Int32) + (x2 / (6 : Int32))), .inl (x4 ||| (shlI a2 ((5 : Int32) * (x2 - x2 / (6 : Int32) * (6 : Int32)))))]) (st := []) TX6 15 (soX6_lay X h3 a0 a1 ((10 : Int32) + (x2 / (6 : Int32))) (x4 ||| (shlI a2 ((5 : Int32) * (x2 - x2 / (6 : Int32) * (6 : Int32)))))) (tbm tkX6_happens (i := 28) rfl) rfl rfl ceX6_lay wd_933 wd_17 wd_931 rfl (Nat.le_of_ble_eq_true rfl) (kV_gd (fun h5 => ?_))
  refine q_run tkX6_happens 29 6 (pc' := 48) (L' := [some (.inr (.inr a0)), some (.inl a1), some (.inl a2), some (.inl x2)]) (st' := [.inl (x2 + (1 : Int32)), .inl (9 : Int32), .inl a1, .inr (.inr a0)]) rfl ?_
  refine q_cv (r := a0) (ci := 8) (n := 3) (as := [.inl a1, .inl (9 : Int32), .inl (x2 + (1 : Int32))]) (st := []) TX6 15 (soX6_lay X h5 a0 a1 (9 : Int32) (x2 + (1 : Int32))) (tbm tkX6_happens (i := 35) rfl) rfl rfl ceX6_lay wd_933 wd_17 wd_931 rfl (Nat.le_of_ble_eq_true rfl) (kV_gd (fun h6 => ?_))
  exact q_vret (tbm tkX6_happens (i := 36) rfl) rfl
theorem ceX6_happens : Ce mX6_happens 2 := ⟨wd_81, wd_1025, by decide +kernel, by decide +kernel, by decide +kernel⟩
/-- ReceiptRollsModel.ring -/
abbrev mX6_ring : MI := (yX6_ring, cX6_ring, 6, some .int, 3)
def tbX6_ring : List TE := [(0, .aload_n 0, 1, 0, 0), (1, .iconst 0, 1, 0, 0), (2, .putfield 32, 3, 0, 0), (5, .iload_n 1, 1, 0, 0), (6, .invokestatic 196, 3, 0, 0), (9, .ifCond .ne 5, 3, 0, 14), (12, .iconst (-1), 1, -1, 0), (13, .ireturn, 1, 0, 0), (14, .aload_n 0, 1, 0, 0), (15, .invokevirtual 200, 3, 0, 0), (18, .bipush (-6), 2, -6, 0), (20, .if_icmp .eq 6, 3, 0, 26), (23, .bipush (-3), 2, -3, 0), (25, .ireturn, 1, 0, 0), (26, .iload_n 2, 1, 0, 0), (27, .iconst 1, 1, 1, 0), (28, .bipush 99, 2, 99, 0), (30, .invokestatic 40, 3, 0, 0), (33, .ifCond .eq 24, 3, 0, 57), (36, .iload_n 3, 1, 0, 0), (37, .iconst 1, 1, 1, 0), (38, .sipush 9999, 3, 9999, 0), (41, .invokestatic 40, 3, 0, 0), (44, .ifCond .eq 13, 3, 0, 57), (47, .iload 4, 2, 0, 0), (49, .iconst 0, 1, 0, 0), (50, .iconst 2, 1, 2, 0), (51, .invokestatic 40, 3, 0, 0), (54, .ifCond .ne 6, 3, 0, 60), (57, .bipush (-2), 2, -2, 0), (59, .ireturn, 1, 0, 0), (60, .aload_n 0, 1, 0, 0), (61, .iload_n 1, 1, 0, 0), (62, .bipush 8, 2, 8, 0), (64, .invokevirtual 47, 3, 0, 0), (67, .istore 5, 2, 0, 0), (69, .iload 5, 2, 0, 0), (71, .bipush 12, 2, 12, 0), (73, .if_icmp .ne 6, 3, 0, 79), (76, .bipush (-4), 2, -4, 0), (78, .ireturn, 1, 0, 0), (79, .aload_n 0, 1, 0, 0), (80, .invokevirtual 190, 3, 0, 0), (83, .aload_n 0, 1, 0, 0), (84, .iload_n 1, 1, 0, 0), (85, .bipush 14, 2, 14, 0), (87, .bipush 6, 2, 6, 0), (89, .iload 5, 2, 0, 0), (91, .imul, 1, 0, 0), (92, .iadd, 1, 0, 0), (93, .iload_n 2, 1, 0, 0), (94, .iload_n 3, 1, 0, 0), (95, .bipush 7, 2, 7, 0), (97, .ishl, 1, 0, 0), (98, .ior, 1, 0, 0), (99, .iload 4, 2, 0, 0), (101, .bipush 21, 2, 21, 0), (103, .ishl, 1, 0, 0), (104, .ior, 1, 0, 0), (105, .aload_n 0, 1, 0, 0), (106, .getfield 193, 3, 0, 0), (109, .bipush 24, 2, 24, 0), (111, .ishl, 1, 0, 0), (112, .ior, 1, 0, 0), (113, .invokevirtual 36, 3, 0, 0), (116, .aload_n 0, 1, 0, 0), (117, .iload_n 1, 1, 0, 0), (118, .iload 5, 2, 0, 0), (120, .invokevirtual 203, 3, 0, 0), (123, .aload_n 0, 1, 0, 0), (124, .iload_n 1, 1, 0, 0), (125, .bipush 8, 2, 8, 0), (127, .iload 5, 2, 0, 0), (129, .iconst 1, 1, 1, 0), (130, .iadd, 1, 0, 0), (131, .invokevirtual 36, 3, 0, 0), (134, .aload_n 0, 1, 0, 0), (135, .iload_n 1, 1, 0, 0), (136, .iload 5, 2, 0, 0), (138, .invokevirtual 206, 3, 0, 0), (141, .aload_n 0, 1, 0, 0), (142, .iconst 0, 1, 0, 0), (143, .putfield 193, 3, 0, 0), (146, .iload 5, 2, 0, 0), (148, .ireturn, 1, 0, 0)]
theorem tkX6_ring : ∀ x ∈ tbX6_ring, tbB cX6_ring x = true := tb_all (by decide +kernel)
def fX6_ring_57 (c : Nat → Option Nat) (h : Hp) : Rs := some (h, some (.inl (-2 : Int32)))
set_option maxHeartbeats 4000000 in
set_option maxRecDepth 100000 in
theorem sX6_ring_57 (X : Cx) {h0 : Hp} (h : Hp) : Gd X mX6_ring h0 (fX6_ring_57 X.2.2.2 h) h 57 [none, none, none, none, none, none] [] := by
  unfold fX6_ring_57
  refine q_run tkX6_ring 29 1 (pc' := 59) (L' := [none, none, none, none, none, none]) (st' := [.inl (-2 : Int32)]) rfl ?_
  exact q_iret (tbm tkX6_ring (i := 30) rfl) rfl
def fX6_ring (c : Nat → Option Nat) (h : Hp) (a0 : Option Nat) (a1 : Int32) (a2 : Int32) (a3 : Int32) (a4 : Int32) : Rs := wr h a0 8 0 (.inl (0 : Int32)) (fun h1 => cc (fX6_isTill c h1 a1) (kI fun h2 x3 => if x3 = 0 then (some (h2, some (.inl (-1 : Int32)))) else (ck h2 a0 8 (cc (fX6_faultAt c h2 a0) (kI fun h4 x5 => if x5 = (-6 : Int32) then (cc (fX6_in c h4 a2 (1 : Int32) (99 : Int32)) (kI fun h6 x7 => if x7 = 0 then (fX6_ring_57 c h6) else (cc (fX6_in c h6 a3 (1 : Int32) (9999 : Int32)) (kI fun h8 x9 => if x9 = 0 then (fX6_ring_57 c h8) else (cc (fX6_in c h8 a4 (0 : Int32) (2 : Int32)) (kI fun h10 x11 => if x11 = 0 then (fX6_ring_57 c h10) else (ck h10 a0 8 (cc (fX6_of c h10 a0 a1 (8 : Int32)) (kI fun h12 x13 => if x13 = (12 : Int32) then (some (h12, some (.inl (-4 : Int32)))) else (ck h12 a0 8 (cc (fX6_records c h12 a0) (kV fun h14 => rdI h14 a0 8 7 (fun x15 => ck h14 a0 8 (cc (fX6_lay c h14 a0 a1 ((14 : Int32) + ((6 : Int32) * x13)) (((a2 ||| (shlI a3 (7 : Int32))) ||| (shlI a4 (21 : Int32))) ||| (shlI x15 (24 : Int32)))) (kV fun h16 => ck h16 a0 8 (cc (fX6_packsName c h16 a0 a1 x13) (kV fun h17 => ck h17 a0 8 (cc (fX6_lay c h17 a0 a1 (8 : Int32) (x13 + (1 : Int32))) (kV fun h18 => ck h18 a0 8 (cc (fX6_happens c h18 a0 a1 x13) (kV fun h19 => wr h19 a0 8 7 (.inl (0 : Int32)) (fun h20 => some (h20, some (.inl x13)))))))))))))))))))))))) else (some (h4, some (.inl (-3 : Int32)))))))))
set_option maxHeartbeats 4000000 in
set_option maxRecDepth 100000 in
theorem soX6_ring (X : Cx) (h : Hp) (a0 : Option Nat) (a1 : Int32) (a2 : Int32) (a3 : Int32) (a4 : Int32) : SO X mX6_ring [.inr (.inr a0), .inl a1, .inl a2, .inl a3, .inl a4] h (fX6_ring X.2.2.2 h a0 a1 a2 a3 a4) := by
  refine so_of (by decide +kernel) (Nat.le_of_ble_eq_true rfl) ?_
  show Gd X mX6_ring h (fX6_ring X.2.2.2 h a0 a1 a2 a3 a4) h 0 [some (.inr (.inr a0)), some (.inl a1), some (.inl a2), some (.inl a3), some (.inl a4), none] []
  unfold fX6_ring
  refine q_run tkX6_ring 0 2 (pc' := 2) (L' := [some (.inr (.inr a0)), some (.inl a1), some (.inl a2), some (.inl a3), some (.inl a4), none]) (st' := [.inl (0 : Int32), .inr (.inr a0)]) rfl ?_
  refine q_wr RX6 TX6 15 (tbm tkX6_ring (i := 2) rfl) rfl (Nat.le_of_ble_eq_true rfl) (Or.inl rfl) wd_935 (fun h1 => ?_)
  refine q_run tkX6_ring 3 1 (pc' := 6) (L' := [some (.inr (.inr a0)), some (.inl a1), some (.inl a2), some (.inl a3), some (.inl a4), none]) (st' := [.inl a1]) rfl ?_
  refine q_cs (n := 1) (as := [.inl a1]) (st := []) (soX6_isTill X h1 a1) (tbm tkX6_ring (i := 4) rfl) rfl ceX6_isTill wd_1004 wd_1003 rfl (Nat.le_of_ble_eq_true rfl) (kI_gd (fun h2 x3 => ?_))
  refine q_if_ne (tbm tkX6_ring (i := 5) rfl) ?_ ?_
  · refine q_run tkX6_ring 6 1 (pc' := 13) (L' := [some (.inr (.inr a0)), some (.inl a1), some (.inl a2), some (.inl a3), some (.inl a4), none]) (st' := [.inl (-1 : Int32)]) rfl ?_
    exact q_iret (tbm tkX6_ring (i := 7) rfl) rfl
  · refine q_run tkX6_ring 8 1 (pc' := 15) (L' := [some (.inr (.inr a0)), some (.inl a1), some (.inl a2), some (.inl a3), some (.inl a4), none]) (st' := [.inr (.inr a0)]) rfl ?_
    refine q_cv (r := a0) (ci := 8) (n := 0) (as := []) (st := []) TX6 15 (soX6_faultAt X h2 a0) (tbm tkX6_ring (i := 9) rfl) rfl rfl ceX6_faultAt wd_1008 wd_19 wd_1006 rfl (Nat.le_of_ble_eq_true rfl) (kI_gd (fun h4 x5 => ?_))
    refine q_run tkX6_ring 10 1 (pc' := 20) (L' := [some (.inr (.inr a0)), some (.inl a1), some (.inl a2), some (.inl a3), some (.inl a4), none]) (st' := [.inl (-6 : Int32), .inl x5]) rfl ?_
    refine q_icmp_eq (tbm tkX6_ring (i := 11) rfl) ?_ ?_
    · refine q_run tkX6_ring 14 3 (pc' := 30) (L' := [some (.inr (.inr a0)), some (.inl a1), some (.inl a2), some (.inl a3), some (.inl a4), none]) (st' := [.inl (99 : Int32), .inl (1 : Int32), .inl a2]) rfl ?_
      refine q_cs (n := 3) (as := [.inl a2, .inl (1 : Int32), .inl (99 : Int32)]) (st := []) (soX6_in X h4 a2 (1 : Int32) (99 : Int32)) (tbm tkX6_ring (i := 17) rfl) rfl ceX6_in wd_987 wd_986 rfl (Nat.le_of_ble_eq_true rfl) (kI_gd (fun h6 x7 => ?_))
      refine q_if_eq (tbm tkX6_ring (i := 18) rfl) ?_ ?_
      · refine q_le (L' := [none, none, none, none, none, none]) (lvLe_n (lvLe_n (lvLe_n (lvLe_n (lvLe_n (lvLe_n lvLe_0)))))) ?_
        exact sX6_ring_57 X h6
      · refine q_run tkX6_ring 19 3 (pc' := 41) (L' := [some (.inr (.inr a0)), some (.inl a1), some (.inl a2), some (.inl a3), some (.inl a4), none]) (st' := [.inl (9999 : Int32), .inl (1 : Int32), .inl a3]) rfl ?_
        refine q_cs (n := 3) (as := [.inl a3, .inl (1 : Int32), .inl (9999 : Int32)]) (st := []) (soX6_in X h6 a3 (1 : Int32) (9999 : Int32)) (tbm tkX6_ring (i := 22) rfl) rfl ceX6_in wd_987 wd_986 rfl (Nat.le_of_ble_eq_true rfl) (kI_gd (fun h8 x9 => ?_))
        refine q_if_eq (tbm tkX6_ring (i := 23) rfl) ?_ ?_
        · refine q_le (L' := [none, none, none, none, none, none]) (lvLe_n (lvLe_n (lvLe_n (lvLe_n (lvLe_n (lvLe_n lvLe_0)))))) ?_
          exact sX6_ring_57 X h8
        · refine q_run tkX6_ring 24 3 (pc' := 51) (L' := [some (.inr (.inr a0)), some (.inl a1), some (.inl a2), some (.inl a3), some (.inl a4), none]) (st' := [.inl (2 : Int32), .inl (0 : Int32), .inl a4]) rfl ?_
          refine q_cs (n := 3) (as := [.inl a4, .inl (0 : Int32), .inl (2 : Int32)]) (st := []) (soX6_in X h8 a4 (0 : Int32) (2 : Int32)) (tbm tkX6_ring (i := 27) rfl) rfl ceX6_in wd_987 wd_986 rfl (Nat.le_of_ble_eq_true rfl) (kI_gd (fun h10 x11 => ?_))
          refine q_if_ne (tbm tkX6_ring (i := 28) rfl) ?_ ?_
          · refine q_le (L' := [none, none, none, none, none, none]) (lvLe_n (lvLe_n (lvLe_n (lvLe_n (lvLe_n (lvLe_n lvLe_0)))))) ?_
            exact sX6_ring_57 X h10
          · refine q_run tkX6_ring 31 3 (pc' := 64) (L' := [some (.inr (.inr a0)), some (.inl a1), some (.inl a2), some (.inl a3), some (.inl a4), none]) (st' := [.inl (8 : Int32), .inl a1, .inr (.inr a0)]) rfl ?_
            refine q_cv (r := a0) (ci := 8) (n := 2) (as := [.inl a1, .inl (8 : Int32)]) (st := []) TX6 15 (soX6_of X h10 a0 a1 (8 : Int32)) (tbm tkX6_ring (i := 34) rfl) rfl rfl ceX6_of wd_1016 wd_21 wd_1014 rfl (Nat.le_of_ble_eq_true rfl) (kI_gd (fun h12 x13 => ?_))
            refine q_run tkX6_ring 35 3 (pc' := 73) (L' := [some (.inr (.inr a0)), some (.inl a1), some (.inl a2), some (.inl a3), some (.inl a4), some (.inl x13)]) (st' := [.inl (12 : Int32), .inl x13]) rfl ?_
            refine q_icmp_ne (tbm tkX6_ring (i := 38) rfl) ?_ ?_
            · refine q_run tkX6_ring 39 1 (pc' := 78) (L' := [some (.inr (.inr a0)), some (.inl a1), some (.inl a2), some (.inl a3), some (.inl a4), some (.inl x13)]) (st' := [.inl (-4 : Int32)]) rfl ?_
              exact q_iret (tbm tkX6_ring (i := 40) rfl) rfl
            · refine q_run tkX6_ring 41 1 (pc' := 80) (L' := [some (.inr (.inr a0)), some (.inl a1), some (.inl a2), some (.inl a3), some (.inl a4), some (.inl x13)]) (st' := [.inr (.inr a0)]) rfl ?_
              refine q_cv (r := a0) (ci := 8) (n := 0) (as := []) (st := []) TX6 15 (soX6_records X h12 a0) (tbm tkX6_ring (i := 42) rfl) rfl rfl ceX6_records wd_997 wd_18 wd_995 rfl (Nat.le_of_ble_eq_true rfl) (kV_gd (fun h14 => ?_))
              refine q_run tkX6_ring 43 17 (pc' := 106) (L' := [some (.inr (.inr a0)), some (.inl a1), some (.inl a2), some (.inl a3), some (.inl a4), some (.inl x13)]) (st' := [.inr (.inr a0), .inl ((a2 ||| (shlI a3 (7 : Int32))) ||| (shlI a4 (21 : Int32))), .inl ((14 : Int32) + ((6 : Int32) * x13)), .inl a1, .inr (.inr a0)]) rfl ?_
              refine q_rdI RX6 TX6 15 (tbm tkX6_ring (i := 60) rfl) rfl (Nat.le_of_ble_eq_true rfl) wd_942 (fun x15 => ?_)
              refine q_run tkX6_ring 61 3 (pc' := 113) (L' := [some (.inr (.inr a0)), some (.inl a1), some (.inl a2), some (.inl a3), some (.inl a4), some (.inl x13)]) (st' := [.inl (((a2 ||| (shlI a3 (7 : Int32))) ||| (shlI a4 (21 : Int32))) ||| (shlI x15 (24 : Int32))), .inl ((14 : Int32) + ((6 : Int32) * x13)), .inl a1, .inr (.inr a0)]) rfl ?_
              refine q_cv (r := a0) (ci := 8) (n := 3) (as := [.inl a1, .inl ((14 : Int32) + ((6 : Int32) * x13)), .inl (((a2 ||| (shlI a3 (7 : Int32))) ||| (shlI a4 (21 : Int32))) ||| (shlI x15 (24 : Int32)))]) (st := []) TX6 15 (soX6_lay X h14 a0 a1 ((14 : Int32) + ((6 : Int32) * x13)) (((a2 ||| (shlI a3 (7 : Int32))) ||| (shlI a4 (21 : Int32))) ||| (shlI x15 (24 : Int32)))) (tbm tkX6_ring (i := 64) rfl) rfl rfl ceX6_lay wd_933 wd_17 wd_931 rfl (Nat.le_of_ble_eq_true rfl) (kV_gd (fun h16 => ?_))
              refine q_run tkX6_ring 65 3 (pc' := 120) (L' := [some (.inr (.inr a0)), some (.inl a1), some (.inl a2), some (.inl a3), some (.inl a4), some (.inl x13)]) (st' := [.inl x13, .inl a1, .inr (.inr a0)]) rfl ?_
              refine q_cv (r := a0) (ci := 8) (n := 2) (as := [.inl a1, .inl x13]) (st := []) TX6 15 (soX6_packsName X h16 a0 a1 x13) (tbm tkX6_ring (i := 68) rfl) rfl rfl ceX6_packsName wd_1020 wd_22 wd_1018 rfl (Nat.le_of_ble_eq_true rfl) (kV_gd (fun h17 => ?_))
              refine q_run tkX6_ring 69 6 (pc' := 131) (L' := [some (.inr (.inr a0)), some (.inl a1), some (.inl a2), some (.inl a3), some (.inl a4), some (.inl x13)]) (st' := [.inl (x13 + (1 : Int32)), .inl (8 : Int32), .inl a1, .inr (.inr a0)]) rfl ?_
              refine q_cv (r := a0) (ci := 8) (n := 3) (as := [.inl a1, .inl (8 : Int32), .inl (x13 + (1 : Int32))]) (st := []) TX6 15 (soX6_lay X h17 a0 a1 (8 : Int32) (x13 + (1 : Int32))) (tbm tkX6_ring (i := 75) rfl) rfl rfl ceX6_lay wd_933 wd_17 wd_931 rfl (Nat.le_of_ble_eq_true rfl) (kV_gd (fun h18 => ?_))
              refine q_run tkX6_ring 76 3 (pc' := 138) (L' := [some (.inr (.inr a0)), some (.inl a1), some (.inl a2), some (.inl a3), some (.inl a4), some (.inl x13)]) (st' := [.inl x13, .inl a1, .inr (.inr a0)]) rfl ?_
              refine q_cv (r := a0) (ci := 8) (n := 2) (as := [.inl a1, .inl x13]) (st := []) TX6 15 (soX6_happens X h18 a0 a1 x13) (tbm tkX6_ring (i := 79) rfl) rfl rfl ceX6_happens wd_1024 wd_23 wd_1022 rfl (Nat.le_of_ble_eq_true rfl) (kV_gd (fun h19 => ?_))
              refine q_run tkX6_ring 80 2 (pc' := 143) (L' := [some (.inr (.inr a0)), some (.inl a1), some (.inl a2), some (.inl a3), some (.inl a4), some (.inl x13)]) (st' := [.inl (0 : Int32), .inr (.inr a0)]) rfl ?_
              refine q_wr RX6 TX6 15 (tbm tkX6_ring (i := 82) rfl) rfl (Nat.le_of_ble_eq_true rfl) (Or.inl rfl) wd_942 (fun h20 => ?_)
              refine q_run tkX6_ring 83 1 (pc' := 148) (L' := [some (.inr (.inr a0)), some (.inl a1), some (.inl a2), some (.inl a3), some (.inl a4), some (.inl x13)]) (st' := [.inl x13]) rfl ?_
              exact q_iret (tbm tkX6_ring (i := 84) rfl) rfl
    · refine q_run tkX6_ring 12 1 (pc' := 25) (L' := [some (.inr (.inr a0)), some (.inl a1), some (.inl a2), some (.inl a3), some (.inl a4), none]) (st' := [.inl (-3 : Int32)]) rfl ?_
      exact q_iret (tbm tkX6_ring (i := 13) rfl) rfl
theorem ceX6_ring : Ce mX6_ring 4 := ⟨wd_81, wd_1002, by decide +kernel, by decide +kernel, by decide +kernel⟩
/-- ReceiptRollsModel.isItem -/
abbrev mX6_isItem : MI := (yX6_isItem, cX6_isItem, 3, some .boolean, 2)
def tbX6_isItem : List TE := [(0, .iload_n 1, 1, 0, 0), (1, .invokestatic 196, 3, 0, 0), (4, .ifCond .eq 24, 3, 0, 28), (7, .iload_n 2, 1, 0, 0), (8, .iconst 0, 1, 0, 0), (9, .aload_n 0, 1, 0, 0), (10, .iload_n 1, 1, 0, 0), (11, .bipush 8, 2, 8, 0), (13, .invokevirtual 47, 3, 0, 0), (16, .iconst 1, 1, 1, 0), (17, .isub, 1, 0, 0), (18, .invokestatic 40, 3, 0, 0), (21, .ifCond .eq 7, 3, 0, 28), (24, .iconst 1, 1, 1, 0), (25, .goto 4, 3, 0, 29), (28, .iconst 0, 1, 0, 0), (29, .ireturn, 1, 0, 0)]
theorem tkX6_isItem : ∀ x ∈ tbX6_isItem, tbB cX6_isItem x = true := tb_all (by decide +kernel)
def fX6_isItem_29 (c : Nat → Option Nat) (h : Hp) (s0 : Int32) : Rs := rtI .boolean h s0
set_option maxHeartbeats 4000000 in
set_option maxRecDepth 100000 in
theorem sX6_isItem_29 (X : Cx) {h0 : Hp} (h : Hp) (s0 : Int32) : Gd X mX6_isItem h0 (fX6_isItem_29 X.2.2.2 h s0) h 29 [none, none, none] [.inl s0] := by
  unfold fX6_isItem_29
  exact q_zret (tbm tkX6_isItem (i := 16) rfl) rfl
def fX6_isItem_28 (c : Nat → Option Nat) (h : Hp) : Rs := fX6_isItem_29 c h (0 : Int32)
set_option maxHeartbeats 4000000 in
set_option maxRecDepth 100000 in
theorem sX6_isItem_28 (X : Cx) {h0 : Hp} (h : Hp) : Gd X mX6_isItem h0 (fX6_isItem_28 X.2.2.2 h) h 28 [none, none, none] [] := by
  unfold fX6_isItem_28
  refine q_run tkX6_isItem 15 1 (pc' := 29) (L' := [none, none, none]) (st' := [.inl (0 : Int32)]) rfl ?_
  exact sX6_isItem_29 X h (0 : Int32)
def fX6_isItem (c : Nat → Option Nat) (h : Hp) (a0 : Option Nat) (a1 : Int32) (a2 : Int32) : Rs := cc (fX6_isTill c h a1) (kI fun h1 x2 => if x2 = 0 then (fX6_isItem_28 c h1) else (ck h1 a0 8 (cc (fX6_of c h1 a0 a1 (8 : Int32)) (kI fun h3 x4 => cc (fX6_in c h3 a2 (0 : Int32) (x4 - (1 : Int32))) (kI fun h5 x6 => if x6 = 0 then (fX6_isItem_28 c h5) else (fX6_isItem_29 c h5 (1 : Int32)))))))
set_option maxHeartbeats 4000000 in
set_option maxRecDepth 100000 in
theorem soX6_isItem (X : Cx) (h : Hp) (a0 : Option Nat) (a1 : Int32) (a2 : Int32) : SO X mX6_isItem [.inr (.inr a0), .inl a1, .inl a2] h (fX6_isItem X.2.2.2 h a0 a1 a2) := by
  refine so_of (by decide +kernel) (Nat.le_of_ble_eq_true rfl) ?_
  show Gd X mX6_isItem h (fX6_isItem X.2.2.2 h a0 a1 a2) h 0 [some (.inr (.inr a0)), some (.inl a1), some (.inl a2)] []
  unfold fX6_isItem
  refine q_run tkX6_isItem 0 1 (pc' := 1) (L' := [some (.inr (.inr a0)), some (.inl a1), some (.inl a2)]) (st' := [.inl a1]) rfl ?_
  refine q_cs (n := 1) (as := [.inl a1]) (st := []) (soX6_isTill X h a1) (tbm tkX6_isItem (i := 1) rfl) rfl ceX6_isTill wd_1004 wd_1003 rfl (Nat.le_of_ble_eq_true rfl) (kI_gd (fun h1 x2 => ?_))
  refine q_if_eq (tbm tkX6_isItem (i := 2) rfl) ?_ ?_
  · refine q_le (L' := [none, none, none]) (lvLe_n (lvLe_n (lvLe_n lvLe_0))) ?_
    exact sX6_isItem_28 X h1
  · refine q_run tkX6_isItem 3 5 (pc' := 13) (L' := [some (.inr (.inr a0)), some (.inl a1), some (.inl a2)]) (st' := [.inl (8 : Int32), .inl a1, .inr (.inr a0), .inl (0 : Int32), .inl a2]) rfl ?_
    refine q_cv (r := a0) (ci := 8) (n := 2) (as := [.inl a1, .inl (8 : Int32)]) (st := [.inl (0 : Int32), .inl a2]) TX6 15 (soX6_of X h1 a0 a1 (8 : Int32)) (tbm tkX6_isItem (i := 8) rfl) rfl rfl ceX6_of wd_1016 wd_21 wd_1014 rfl (Nat.le_of_ble_eq_true rfl) (kI_gd (fun h3 x4 => ?_))
    refine q_run tkX6_isItem 9 2 (pc' := 18) (L' := [some (.inr (.inr a0)), some (.inl a1), some (.inl a2)]) (st' := [.inl (x4 - (1 : Int32)), .inl (0 : Int32), .inl a2]) rfl ?_
    refine q_cs (n := 3) (as := [.inl a2, .inl (0 : Int32), .inl (x4 - (1 : Int32))]) (st := []) (soX6_in X h3 a2 (0 : Int32) (x4 - (1 : Int32))) (tbm tkX6_isItem (i := 11) rfl) rfl ceX6_in wd_987 wd_986 rfl (Nat.le_of_ble_eq_true rfl) (kI_gd (fun h5 x6 => ?_))
    refine q_if_eq (tbm tkX6_isItem (i := 12) rfl) ?_ ?_
    · refine q_le (L' := [none, none, none]) (lvLe_n (lvLe_n (lvLe_n lvLe_0))) ?_
      exact sX6_isItem_28 X h5
    · refine q_run tkX6_isItem 13 2 (pc' := 29) (L' := [some (.inr (.inr a0)), some (.inl a1), some (.inl a2)]) (st' := [.inl (1 : Int32)]) rfl ?_
      refine q_le (L' := [none, none, none]) (lvLe_n (lvLe_n (lvLe_n lvLe_0))) ?_
      exact sX6_isItem_29 X h5 (1 : Int32)
theorem ceX6_isItem : Ce mX6_isItem 2 := ⟨wd_81, wd_1033, by decide +kernel, by decide +kernel, by decide +kernel⟩
/-- ReceiptRollsModel.packed -/
abbrev mX6_packed : MI := (yX6_packed, cX6_packed, 3, some .int, 1)
def tbX6_packed : List TE := [(0, .aload_n 0, 1, 0, 0), (1, .iload_n 1, 1, 0, 0), (2, .bipush 14, 2, 14, 0), (4, .bipush 6, 2, 6, 0), (6, .iload_n 2, 1, 0, 0), (7, .imul, 1, 0, 0), (8, .iadd, 1, 0, 0), (9, .invokevirtual 47, 3, 0, 0), (12, .ireturn, 1, 0, 0)]
theorem tkX6_packed : ∀ x ∈ tbX6_packed, tbB cX6_packed x = true := tb_all (by decide +kernel)
def fX6_packed (c : Nat → Option Nat) (h : Hp) (a0 : Option Nat) (a1 : Int32) (a2 : Int32) : Rs := ck h a0 8 (cc (fX6_of c h a0 a1 ((14 : Int32) + ((6 : Int32) * a2))) (kI fun h1 x2 => some (h1, some (.inl x2))))
set_option maxHeartbeats 4000000 in
set_option maxRecDepth 100000 in
theorem soX6_packed (X : Cx) (h : Hp) (a0 : Option Nat) (a1 : Int32) (a2 : Int32) : SO X mX6_packed [.inr (.inr a0), .inl a1, .inl a2] h (fX6_packed X.2.2.2 h a0 a1 a2) := by
  refine so_of (by decide +kernel) (Nat.le_of_ble_eq_true rfl) ?_
  show Gd X mX6_packed h (fX6_packed X.2.2.2 h a0 a1 a2) h 0 [some (.inr (.inr a0)), some (.inl a1), some (.inl a2)] []
  unfold fX6_packed
  refine q_run tkX6_packed 0 7 (pc' := 9) (L' := [some (.inr (.inr a0)), some (.inl a1), some (.inl a2)]) (st' := [.inl ((14 : Int32) + ((6 : Int32) * a2)), .inl a1, .inr (.inr a0)]) rfl ?_
  refine q_cv (r := a0) (ci := 8) (n := 2) (as := [.inl a1, .inl ((14 : Int32) + ((6 : Int32) * a2))]) (st := []) TX6 15 (soX6_of X h a0 a1 ((14 : Int32) + ((6 : Int32) * a2))) (tbm tkX6_packed (i := 7) rfl) rfl rfl ceX6_of wd_1016 wd_21 wd_1014 rfl (Nat.le_of_ble_eq_true rfl) (kI_gd (fun h1 x2 => ?_))
  exact q_iret (tbm tkX6_packed (i := 8) rfl) rfl
theorem ceX6_packed : Ce mX6_packed 2 := ⟨wd_81, wd_1041, by decide +kernel, by decide +kernel, by decide +kernel⟩
/-- ReceiptRollsModel.isStruck -/
abbrev mX6_isStruck : MI := (yX6_isStruck, cX6_isStruck, 3, some .boolean, 2)
def tbX6_isStruck : List TE := [(0, .aload_n 0, 1, 0, 0), (1, .iload_n 1, 1, 0, 0), (2, .iload_n 2, 1, 0, 0), (3, .invokevirtual 51, 3, 0, 0), (6, .bipush 23, 2, 23, 0), (8, .ishr, 1, 0, 0), (9, .iconst 1, 1, 1, 0), (10, .iand, 1, 0, 0), (11, .iconst 1, 1, 1, 0), (12, .if_icmp .ne 7, 3, 0, 19), (15, .iconst 1, 1, 1, 0), (16, .goto 4, 3, 0, 20), (19, .iconst 0, 1, 0, 0), (20, .ireturn, 1, 0, 0)]
theorem tkX6_isStruck : ∀ x ∈ tbX6_isStruck, tbB cX6_isStruck x = true := tb_all (by decide +kernel)
def fX6_isStruck_20 (c : Nat → Option Nat) (h : Hp) (s0 : Int32) : Rs := rtI .boolean h s0
set_option maxHeartbeats 4000000 in
set_option maxRecDepth 100000 in
theorem sX6_isStruck_20 (X : Cx) {h0 : Hp} (h : Hp) (s0 : Int32) : Gd X mX6_isStruck h0 (fX6_isStruck_20 X.2.2.2 h s0) h 20 [none, none, none] [.inl s0] := by
  unfold fX6_isStruck_20
  exact q_zret (tbm tkX6_isStruck (i := 13) rfl) rfl
def fX6_isStruck (c : Nat → Option Nat) (h : Hp) (a0 : Option Nat) (a1 : Int32) (a2 : Int32) : Rs := ck h a0 8 (cc (fX6_packed c h a0 a1 a2) (kI fun h1 x2 => if ((shrI x2 (23 : Int32)) &&& (1 : Int32)) = (1 : Int32) then (fX6_isStruck_20 c h1 (1 : Int32)) else (fX6_isStruck_20 c h1 (0 : Int32))))
set_option maxHeartbeats 4000000 in
set_option maxRecDepth 100000 in
theorem soX6_isStruck (X : Cx) (h : Hp) (a0 : Option Nat) (a1 : Int32) (a2 : Int32) : SO X mX6_isStruck [.inr (.inr a0), .inl a1, .inl a2] h (fX6_isStruck X.2.2.2 h a0 a1 a2) := by
  refine so_of (by decide +kernel) (Nat.le_of_ble_eq_true rfl) ?_
  show Gd X mX6_isStruck h (fX6_isStruck X.2.2.2 h a0 a1 a2) h 0 [some (.inr (.inr a0)), some (.inl a1), some (.inl a2)] []
  unfold fX6_isStruck
  refine q_run tkX6_isStruck 0 3 (pc' := 3) (L' := [some (.inr (.inr a0)), some (.inl a1), some (.inl a2)]) (st' := [.inl a2, .inl a1, .inr (.inr a0)]) rfl ?_
  refine q_cv (r := a0) (ci := 8) (n := 2) (as := [.inl a1, .inl a2]) (st := []) TX6 15 (soX6_packed X h a0 a1 a2) (tbm tkX6_isStruck (i := 3) rfl) rfl rfl ceX6_packed wd_1040 wd_26 wd_1038 rfl (Nat.le_of_ble_eq_true rfl) (kI_gd (fun h1 x2 => ?_))
  refine q_run tkX6_isStruck 4 5 (pc' := 12) (L' := [some (.inr (.inr a0)), some (.inl a1), some (.inl a2)]) (st' := [.inl (1 : Int32), .inl ((shrI x2 (23 : Int32)) &&& (1 : Int32))]) rfl ?_
  refine q_icmp_ne (tbm tkX6_isStruck (i := 9) rfl) ?_ ?_
  · refine q_run tkX6_isStruck 10 2 (pc' := 20) (L' := [some (.inr (.inr a0)), some (.inl a1), some (.inl a2)]) (st' := [.inl (1 : Int32)]) rfl ?_
    refine q_le (L' := [none, none, none]) (lvLe_n (lvLe_n (lvLe_n lvLe_0))) ?_
    exact sX6_isStruck_20 X h1 (1 : Int32)
  · refine q_run tkX6_isStruck 12 1 (pc' := 20) (L' := [some (.inr (.inr a0)), some (.inl a1), some (.inl a2)]) (st' := [.inl (0 : Int32)]) rfl ?_
    refine q_le (L' := [none, none, none]) (lvLe_n (lvLe_n (lvLe_n lvLe_0))) ?_
    exact sX6_isStruck_20 X h1 (0 : Int32)
theorem ceX6_isStruck : Ce mX6_isStruck 2 := ⟨wd_81, wd_1037, by decide +kernel, by decide +kernel, by decide +kernel⟩
/-- ReceiptRollsModel.howMany -/
abbrev mX6_howMany : MI := (yX6_howMany, cX6_howMany, 3, some .int, 2)
def tbX6_howMany : List TE := [(0, .aload_n 0, 1, 0, 0), (1, .iload_n 1, 1, 0, 0), (2, .iload_n 2, 1, 0, 0), (3, .invokevirtual 51, 3, 0, 0), (6, .bipush 127, 2, 127, 0), (8, .iand, 1, 0, 0), (9, .ireturn, 1, 0, 0)]
theorem tkX6_howMany : ∀ x ∈ tbX6_howMany, tbB cX6_howMany x = true := tb_all (by decide +kernel)
def fX6_howMany (c : Nat → Option Nat) (h : Hp) (a0 : Option Nat) (a1 : Int32) (a2 : Int32) : Rs := ck h a0 8 (cc (fX6_packed c h a0 a1 a2) (kI fun h1 x2 => some (h1, some (.inl (x2 &&& (127 : Int32))))))
set_option maxHeartbeats 4000000 in
set_option maxRecDepth 100000 in
theorem soX6_howMany (X : Cx) (h : Hp) (a0 : Option Nat) (a1 : Int32) (a2 : Int32) : SO X mX6_howMany [.inr (.inr a0), .inl a1, .inl a2] h (fX6_howMany X.2.2.2 h a0 a1 a2) := by
  refine so_of (by decide +kernel) (Nat.le_of_ble_eq_true rfl) ?_
  show Gd X mX6_howMany h (fX6_howMany X.2.2.2 h a0 a1 a2) h 0 [some (.inr (.inr a0)), some (.inl a1), some (.inl a2)] []
  unfold fX6_howMany
  refine q_run tkX6_howMany 0 3 (pc' := 3) (L' := [some (.inr (.inr a0)), some (.inl a1), some (.inl a2)]) (st' := [.inl a2, .inl a1, .inr (.inr a0)]) rfl ?_
  refine q_cv (r := a0) (ci := 8) (n := 2) (as := [.inl a1, .inl a2]) (st := []) TX6 15 (soX6_packed X h a0 a1 a2) (tbm tkX6_howMany (i := 3) rfl) rfl rfl ceX6_packed wd_1040 wd_26 wd_1038 rfl (Nat.le_of_ble_eq_true rfl) (kI_gd (fun h1 x2 => ?_))
  refine q_run tkX6_howMany 4 2 (pc' := 9) (L' := [some (.inr (.inr a0)), some (.inl a1), some (.inl a2)]) (st' := [.inl (x2 &&& (127 : Int32))]) rfl ?_
  exact q_iret (tbm tkX6_howMany (i := 6) rfl) rfl
theorem ceX6_howMany : Ce mX6_howMany 2 := ⟨wd_81, wd_1050, by decide +kernel, by decide +kernel, by decide +kernel⟩
/-- ReceiptRollsModel.price -/
abbrev mX6_price : MI := (yX6_price, cX6_price, 3, some .int, 2)
def tbX6_price : List TE := [(0, .aload_n 0, 1, 0, 0), (1, .iload_n 1, 1, 0, 0), (2, .iload_n 2, 1, 0, 0), (3, .invokevirtual 51, 3, 0, 0), (6, .bipush 7, 2, 7, 0), (8, .ishr, 1, 0, 0), (9, .sipush 16383, 3, 16383, 0), (12, .iand, 1, 0, 0), (13, .ireturn, 1, 0, 0)]
theorem tkX6_price : ∀ x ∈ tbX6_price, tbB cX6_price x = true := tb_all (by decide +kernel)
def fX6_price (c : Nat → Option Nat) (h : Hp) (a0 : Option Nat) (a1 : Int32) (a2 : Int32) : Rs := ck h a0 8 (cc (fX6_packed c h a0 a1 a2) (kI fun h1 x2 => some (h1, some (.inl ((shrI x2 (7 : Int32)) &&& (16383 : Int32))))))
set_option maxHeartbeats 4000000 in
set_option maxRecDepth 100000 in
theorem soX6_price (X : Cx) (h : Hp) (a0 : Option Nat) (a1 : Int32) (a2 : Int32) : SO X mX6_price [.inr (.inr a0), .inl a1, .inl a2] h (fX6_price X.2.2.2 h a0 a1 a2) := by
  refine so_of (by decide +kernel) (Nat.le_of_ble_eq_true rfl) ?_
  show Gd X mX6_price h (fX6_price X.2.2.2 h a0 a1 a2) h 0 [some (.inr (.inr a0)), some (.inl a1), some (.inl a2)] []
  unfold fX6_price
  refine q_run tkX6_price 0 3 (pc' := 3) (L' := [some (.inr (.inr a0)), some (.inl a1), some (.inl a2)]) (st' := [.inl a2, .inl a1, .inr (.inr a0)]) rfl ?_
  refine q_cv (r := a0) (ci := 8) (n := 2) (as := [.inl a1, .inl a2]) (st := []) TX6 15 (soX6_packed X h a0 a1 a2) (tbm tkX6_price (i := 3) rfl) rfl rfl ceX6_packed wd_1040 wd_26 wd_1038 rfl (Nat.le_of_ble_eq_true rfl) (kI_gd (fun h1 x2 => ?_))
  refine q_run tkX6_price 4 4 (pc' := 13) (L' := [some (.inr (.inr a0)), some (.inl a1), some (.inl a2)]) (st' := [.inl ((shrI x2 (7 : Int32)) &&& (16383 : Int32))]) rfl ?_
  exact q_iret (tbm tkX6_price (i := 8) rfl) rfl
theorem ceX6_price : Ce mX6_price 2 := ⟨wd_81, wd_1054, by decide +kernel, by decide +kernel, by decide +kernel⟩
/-- ReceiptRollsModel.sum -/
abbrev mX6_sum : MI := (yX6_sum, cX6_sum, 3, some .int, 3)
def tbX6_sum : List TE := [(0, .aload_n 0, 1, 0, 0), (1, .iload_n 1, 1, 0, 0), (2, .iload_n 2, 1, 0, 0), (3, .invokevirtual 54, 3, 0, 0), (6, .aload_n 0, 1, 0, 0), (7, .iload_n 1, 1, 0, 0), (8, .iload_n 2, 1, 0, 0), (9, .invokevirtual 57, 3, 0, 0), (12, .imul, 1, 0, 0), (13, .ireturn, 1, 0, 0)]
theorem tkX6_sum : ∀ x ∈ tbX6_sum, tbB cX6_sum x = true := tb_all (by decide +kernel)
def fX6_sum (c : Nat → Option Nat) (h : Hp) (a0 : Option Nat) (a1 : Int32) (a2 : Int32) : Rs := ck h a0 8 (cc (fX6_howMany c h a0 a1 a2) (kI fun h1 x2 => ck h1 a0 8 (cc (fX6_price c h1 a0 a1 a2) (kI fun h3 x4 => some (h3, some (.inl (x2 * x4)))))))
set_option maxHeartbeats 4000000 in
set_option maxRecDepth 100000 in
theorem soX6_sum (X : Cx) (h : Hp) (a0 : Option Nat) (a1 : Int32) (a2 : Int32) : SO X mX6_sum [.inr (.inr a0), .inl a1, .inl a2] h (fX6_sum X.2.2.2 h a0 a1 a2) := by
  refine so_of (by decide +kernel) (Nat.le_of_ble_eq_true rfl) ?_
  show Gd X mX6_sum h (fX6_sum X.2.2.2 h a0 a1 a2) h 0 [some (.inr (.inr a0)), some (.inl a1), some (.inl a2)] []
  unfold fX6_sum
  refine q_run tkX6_sum 0 3 (pc' := 3) (L' := [some (.inr (.inr a0)), some (.inl a1), some (.inl a2)]) (st' := [.inl a2, .inl a1, .inr (.inr a0)]) rfl ?_
  refine q_cv (r := a0) (ci := 8) (n := 2) (as := [.inl a1, .inl a2]) (st := []) TX6 15 (soX6_howMany X h a0 a1 a2) (tbm tkX6_sum (i := 3) rfl) rfl rfl ceX6_howMany wd_1049 wd_28 wd_1047 rfl (Nat.le_of_ble_eq_true rfl) (kI_gd (fun h1 x2 => ?_))
  refine q_run tkX6_sum 4 3 (pc' := 9) (L' := [some (.inr (.inr a0)), some (.inl a1), some (.inl a2)]) (st' := [.inl a2, .inl a1, .inr (.inr a0), .inl x2]) rfl ?_
  refine q_cv (r := a0) (ci := 8) (n := 2) (as := [.inl a1, .inl a2]) (st := [.inl x2]) TX6 15 (soX6_price X h1 a0 a1 a2) (tbm tkX6_sum (i := 7) rfl) rfl rfl ceX6_price wd_1053 wd_29 wd_1051 rfl (Nat.le_of_ble_eq_true rfl) (kI_gd (fun h3 x4 => ?_))
  refine q_run tkX6_sum 8 1 (pc' := 13) (L' := [some (.inr (.inr a0)), some (.inl a1), some (.inl a2)]) (st' := [.inl (x2 * x4)]) rfl ?_
  exact q_iret (tbm tkX6_sum (i := 9) rfl) rfl
theorem ceX6_sum : Ce mX6_sum 2 := ⟨wd_81, wd_1046, by decide +kernel, by decide +kernel, by decide +kernel⟩
/-- ReceiptRollsModel.strike -/
abbrev mX6_strike : MI := (yX6_strike, cX6_strike, 3, some .int, 4)
def tbX6_strike : List TE := [(0, .aload_n 0, 1, 0, 0), (1, .iconst 0, 1, 0, 0), (2, .putfield 32, 3, 0, 0), (5, .aload_n 0, 1, 0, 0), (6, .iload_n 1, 1, 0, 0), (7, .iload_n 2, 1, 0, 0), (8, .invokevirtual 209, 3, 0, 0), (11, .ifCond .ne 5, 3, 0, 16), (14, .iconst (-1), 1, -1, 0), (15, .ireturn, 1, 0, 0), (16, .aload_n 0, 1, 0, 0), (17, .iload_n 1, 1, 0, 0), (18, .iload_n 2, 1, 0, 0), (19, .invokevirtual 60, 3, 0, 0), (22, .ifCond .eq 6, 3, 0, 28), (25, .bipush (-5), 2, -5, 0), (27, .ireturn, 1, 0, 0), (28, .aload_n 0, 1, 0, 0), (29, .invokevirtual 190, 3, 0, 0), (32, .aload_n 0, 1, 0, 0), (33, .iload_n 1, 1, 0, 0), (34, .bipush 14, 2, 14, 0), (36, .bipush 6, 2, 6, 0), (38, .iload_n 2, 1, 0, 0), (39, .imul, 1, 0, 0), (40, .iadd, 1, 0, 0), (41, .aload_n 0, 1, 0, 0), (42, .iload_n 1, 1, 0, 0), (43, .iload_n 2, 1, 0, 0), (44, .invokevirtual 51, 3, 0, 0), (47, .ldc 212, 2, 0, 0), (49, .ior, 1, 0, 0), (50, .invokevirtual 36, 3, 0, 0), (53, .aload_n 0, 1, 0, 0), (54, .iload_n 1, 1, 0, 0), (55, .iload_n 2, 1, 0, 0), (56, .bipush 16, 2, 16, 0), (58, .iadd, 1, 0, 0), (59, .invokevirtual 206, 3, 0, 0), (62, .aload_n 0, 1, 0, 0), (63, .getfield 7, 3, 0, 0), (66, .bipush 6, 2, 6, 0), (68, .dup2, 1, 0, 0), (69, .iaload, 1, 0, 0), (70, .iconst 1, 1, 1, 0), (71, .iadd, 1, 0, 0), (72, .iastore, 1, 0, 0), (73, .aload_n 0, 1, 0, 0), (74, .iload_n 1, 1, 0, 0), (75, .iload_n 2, 1, 0, 0), (76, .invokevirtual 64, 3, 0, 0), (79, .ireturn, 1, 0, 0)]
theorem tkX6_strike : ∀ x ∈ tbX6_strike, tbB cX6_strike x = true := tb_all (by decide +kernel)
def fX6_strike (c : Nat → Option Nat) (h : Hp) (a0 : Option Nat) (a1 : Int32) (a2 : Int32) : Rs := wr h a0 8 0 (.inl (0 : Int32)) (fun h1 => ck h1 a0 8 (cc (fX6_isItem c h1 a0 a1 a2) (kI fun h2 x3 => if x3 = 0 then (some (h2, some (.inl (-1 : Int32)))) else (ck h2 a0 8 (cc (fX6_isStruck c h2 a0 a1 a2) (kI fun h4 x5 => if x5 = 0 then (ck h4 a0 8 (cc (fX6_records c h4 a0) (kV fun h6 => ck h6 a0 8 (cc (fX6_packed c h6 a0 a1 a2) (kI fun h7 x8 => ck h7 a0 8 (cc (fX6_lay c h7 a0 a1 ((14 : Int32) + ((6 : Int32) * a2)) (x8 ||| (8388608 : Int32))) (kV fun h9 => ck h9 a0 8 (cc (fX6_happens c h9 a0 a1 (a2 + (16 : Int32))) (kV fun h10 => rdR h10 a0 8 1 (fun r11 => aldI h10 r11 [0, 10] (6 : Int32) (fun x12 => astI h10 r11 [0] (6 : Int32) (x12 + (1 : Int32)) (fun h13 => ck h13 a0 8 (cc (fX6_sum c h13 a0 a1 a2) (kI fun h14 x15 => some (h14, some (.inl x15)))))))))))))))) else (some (h4, some (.inl (-5 : Int32))))))))))
set_option maxHeartbeats 4000000 in
set_option maxRecDepth 100000 in
theorem soX6_strike (X : Cx) (h : Hp) (a0 : Option Nat) (a1 : Int32) (a2 : Int32) : SO X mX6_strike [.inr (.inr a0), .inl a1, .inl a2] h (fX6_strike X.2.2.2 h a0 a1 a2) := by
  refine so_of (by decide +kernel) (Nat.le_of_ble_eq_true rfl) ?_
  show Gd X mX6_strike h (fX6_strike X.2.2.2 h a0 a1 a2) h 0 [some (.inr (.inr a0)), some (.inl a1), some (.inl a2)] []
  unfold fX6_strike
  refine q_run tkX6_strike 0 2 (pc' := 2) (L' := [some (.inr (.inr a0)), some (.inl a1), some (.inl a2)]) (st' := [.inl (0 : Int32), .inr (.inr a0)]) rfl ?_
  refine q_wr RX6 TX6 15 (tbm tkX6_strike (i := 2) rfl) rfl (Nat.le_of_ble_eq_true rfl) (Or.inl rfl) wd_935 (fun h1 => ?_)
  refine q_run tkX6_strike 3 3 (pc' := 8) (L' := [some (.inr (.inr a0)), some (.inl a1), some (.inl a2)]) (st' := [.inl a2, .inl a1, .inr (.inr a0)]) rfl ?_
  refine q_cv (r := a0) (ci := 8) (n := 2) (as := [.inl a1, .inl a2]) (st := []) TX6 15 (soX6_isItem X h1 a0 a1 a2) (tbm tkX6_strike (i := 6) rfl) rfl rfl ceX6_isItem wd_1032 wd_24 wd_1030 rfl (Nat.le_of_ble_eq_true rfl) (kI_gd (fun h2 x3 => ?_))
  refine q_if_ne (tbm tkX6_strike (i := 7) rfl) ?_ ?_
  · refine q_run tkX6_strike 8 1 (pc' := 15) (L' := [some (.inr (.inr a0)), some (.inl a1), some (.inl a2)]) (st' := [.inl (-1 : Int32)]) rfl ?_
    exact q_iret (tbm tkX6_strike (i := 9) rfl) rfl
  · refine q_run tkX6_strike 10 3 (pc' := 19) (L' := [some (.inr (.inr a0)), some (.inl a1), some (.inl a2)]) (st' := [.inl a2, .inl a1, .inr (.inr a0)]) rfl ?_
    refine q_cv (r := a0) (ci := 8) (n := 2) (as := [.inl a1, .inl a2]) (st := []) TX6 15 (soX6_isStruck X h2 a0 a1 a2) (tbm tkX6_strike (i := 13) rfl) rfl rfl ceX6_isStruck wd_1036 wd_25 wd_1034 rfl (Nat.le_of_ble_eq_true rfl) (kI_gd (fun h4 x5 => ?_))
    refine q_if_eq (tbm tkX6_strike (i := 14) rfl) ?_ ?_
    · refine q_run tkX6_strike 17 1 (pc' := 29) (L' := [some (.inr (.inr a0)), some (.inl a1), some (.inl a2)]) (st' := [.inr (.inr a0)]) rfl ?_
      refine q_cv (r := a0) (ci := 8) (n := 0) (as := []) (st := []) TX6 15 (soX6_records X h4 a0) (tbm tkX6_strike (i := 18) rfl) rfl rfl ceX6_records wd_997 wd_18 wd_995 rfl (Nat.le_of_ble_eq_true rfl) (kV_gd (fun h6 => ?_))
      refine q_run tkX6_strike 19 10 (pc' := 44) (L' := [some (.inr (.inr a0)), some (.inl a1), some (.inl a2)]) (st' := [.inl a2, .inl a1, .inr (.inr a0), .inl ((14 : Int32) + ((6 : Int32) * a2)), .inl a1, .inr (.inr a0)]) rfl ?_
      refine q_cv (r := a0) (ci := 8) (n := 2) (as := [.inl a1, .inl a2]) (st := [.inl ((14 : Int32) + ((6 : Int32) * a2)), .inl a1, .inr (.inr a0)]) TX6 15 (soX6_packed X h6 a0 a1 a2) (tbm tkX6_strike (i := 29) rfl) rfl rfl ceX6_packed wd_1040 wd_26 wd_1038 rfl (Nat.le_of_ble_eq_true rfl) (kI_gd (fun h7 x8 => ?_))
      refine q_ldc (w := (8388608 : Int32)) (tbm tkX6_strike (i := 30) rfl) wd_1042 ?_
      refine q_run tkX6_strike 31 1 (pc' := 50) (L' := [some (.inr (.inr a0)), some (.inl a1), some (.inl a2)]) (st' := [.inl (x8 ||| (8388608 : Int32)), .inl ((14 : Int32) + ((6 : Int32) * a2)), .inl a1, .inr (.inr a0)]) rfl ?_
      refine q_cv (r := a0) (ci := 8) (n := 3) (as := [.inl a1, .inl ((14 : Int32) + ((6 : Int32) * a2)), .inl (x8 ||| (8388608 : Int32))]) (st := []) TX6 15 (soX6_lay X h7 a0 a1 ((14 : Int32) + ((6 : Int32) * a2)) (x8 ||| (8388608 : Int32))) (tbm tkX6_strike (i := 32) rfl) rfl rfl ceX6_lay wd_933 wd_17 wd_931 rfl (Nat.le_of_ble_eq_true rfl) (kV_gd (fun h9 => ?_))
      refine q_run tkX6_strike 33 5 (pc' := 59) (L' := [some (.inr (.inr a0)), some (.inl a1), some (.inl a2)]) (st' := [.inl (a2 + (16 : Int32)), .inl a1, .inr (.inr a0)]) rfl ?_
      refine q_cv (r := a0) (ci := 8) (n := 2) (as := [.inl a1, .inl (a2 + (16 : Int32))]) (st := []) TX6 15 (soX6_happens X h9 a0 a1 (a2 + (16 : Int32))) (tbm tkX6_strike (i := 38) rfl) rfl rfl ceX6_happens wd_1024 wd_23 wd_1022 rfl (Nat.le_of_ble_eq_true rfl) (kV_gd (fun h10 => ?_))
      refine q_run tkX6_strike 39 1 (pc' := 63) (L' := [some (.inr (.inr a0)), some (.inl a1), some (.inl a2)]) (st' := [.inr (.inr a0)]) rfl ?_
      refine q_rdR RX6 TX6 15 (tbm tkX6_strike (i := 40) rfl) rfl (Nat.le_of_ble_eq_true rfl) wd_936 (fun r11 => ?_)
      refine q_run tkX6_strike 41 2 (pc' := 69) (L' := [some (.inr (.inr a0)), some (.inl a1), some (.inl a2)]) (st' := [.inl (6 : Int32), .inr (.inr r11), .inl (6 : Int32), .inr (.inr r11)]) rfl ?_
      refine q_iaload (tbm tkX6_strike (i := 43) rfl) (fun x12 => ?_)
      refine q_run tkX6_strike 44 2 (pc' := 72) (L' := [some (.inr (.inr a0)), some (.inl a1), some (.inl a2)]) (st' := [.inl (x12 + (1 : Int32)), .inl (6 : Int32), .inr (.inr r11)]) rfl ?_
      refine q_iastore (tbm tkX6_strike (i := 46) rfl) (fun h13 => ?_)
      refine q_run tkX6_strike 47 3 (pc' := 76) (L' := [some (.inr (.inr a0)), some (.inl a1), some (.inl a2)]) (st' := [.inl a2, .inl a1, .inr (.inr a0)]) rfl ?_
      refine q_cv (r := a0) (ci := 8) (n := 2) (as := [.inl a1, .inl a2]) (st := []) TX6 15 (soX6_sum X h13 a0 a1 a2) (tbm tkX6_strike (i := 50) rfl) rfl rfl ceX6_sum wd_1045 wd_27 wd_1043 rfl (Nat.le_of_ble_eq_true rfl) (kI_gd (fun h14 x15 => ?_))
      exact q_iret (tbm tkX6_strike (i := 51) rfl) rfl
    · refine q_run tkX6_strike 15 1 (pc' := 27) (L' := [some (.inr (.inr a0)), some (.inl a1), some (.inl a2)]) (st' := [.inl (-5 : Int32)]) rfl ?_
      exact q_iret (tbm tkX6_strike (i := 16) rfl) rfl
theorem ceX6_strike : Ce mX6_strike 2 := ⟨wd_81, wd_1029, by decide +kernel, by decide +kernel, by decide +kernel⟩
/-- ReceiptRollsModel.isHow -/
abbrev mX6_isHow : MI := (yX6_isHow, cX6_isHow, 3, some .boolean, 1)
def tbX6_isHow : List TE := [(0, .aload_n 0, 1, 0, 0), (1, .iload_n 1, 1, 0, 0), (2, .iconst 0, 1, 0, 0), (3, .invokevirtual 47, 3, 0, 0), (6, .ifCond .le 17, 3, 0, 23), (9, .aload_n 0, 1, 0, 0), (10, .iload_n 1, 1, 0, 0), (11, .iconst 3, 1, 3, 0), (12, .invokevirtual 47, 3, 0, 0), (15, .iload_n 2, 1, 0, 0), (16, .if_icmp .ne 7, 3, 0, 23), (19, .iconst 1, 1, 1, 0), (20, .goto 4, 3, 0, 24), (23, .iconst 0, 1, 0, 0), (24, .ireturn, 1, 0, 0)]
theorem tkX6_isHow : ∀ x ∈ tbX6_isHow, tbB cX6_isHow x = true := tb_all (by decide +kernel)
def fX6_isHow_24 (c : Nat → Option Nat) (h : Hp) (s0 : Int32) : Rs := rtI .boolean h s0
set_option maxHeartbeats 4000000 in
set_option maxRecDepth 100000 in
theorem sX6_isHow_24 (X : Cx) {h0 : Hp} (h : Hp) (s0 : Int32) : Gd X mX6_isHow h0 (fX6_isHow_24 X.2.2.2 h s0) h 24 [none, none, none] [.inl s0] := by
  unfold fX6_isHow_24
  exact q_zret (tbm tkX6_isHow (i := 14) rfl) rfl
def fX6_isHow_23 (c : Nat → Option Nat) (h : Hp) : Rs := fX6_isHow_24 c h (0 : Int32)
set_option maxHeartbeats 4000000 in
set_option maxRecDepth 100000 in
theorem sX6_isHow_23 (X : Cx) {h0 : Hp} (h : Hp) : Gd X mX6_isHow h0 (fX6_isHow_23 X.2.2.2 h) h 23 [none, none, none] [] := by
  unfold fX6_isHow_23
  refine q_run tkX6_isHow 13 1 (pc' := 24) (L' := [none, none, none]) (st' := [.inl (0 : Int32)]) rfl ?_
  exact sX6_isHow_24 X h (0 : Int32)
def fX6_isHow (c : Nat → Option Nat) (h : Hp) (a0 : Option Nat) (a1 : Int32) (a2 : Int32) : Rs := ck h a0 8 (cc (fX6_of c h a0 a1 (0 : Int32)) (kI fun h1 x2 => if 0 < x2 then (ck h1 a0 8 (cc (fX6_of c h1 a0 a1 (3 : Int32)) (kI fun h3 x4 => if x4 = a2 then (fX6_isHow_24 c h3 (1 : Int32)) else (fX6_isHow_23 c h3)))) else (fX6_isHow_23 c h1)))
set_option maxHeartbeats 4000000 in
set_option maxRecDepth 100000 in
theorem soX6_isHow (X : Cx) (h : Hp) (a0 : Option Nat) (a1 : Int32) (a2 : Int32) : SO X mX6_isHow [.inr (.inr a0), .inl a1, .inl a2] h (fX6_isHow X.2.2.2 h a0 a1 a2) := by
  refine so_of (by decide +kernel) (Nat.le_of_ble_eq_true rfl) ?_
  show Gd X mX6_isHow h (fX6_isHow X.2.2.2 h a0 a1 a2) h 0 [some (.inr (.inr a0)), some (.inl a1), some (.inl a2)] []
  unfold fX6_isHow
  refine q_run tkX6_isHow 0 3 (pc' := 3) (L' := [some (.inr (.inr a0)), some (.inl a1), some (.inl a2)]) (st' := [.inl (0 : Int32), .inl a1, .inr (.inr a0)]) rfl ?_
  refine q_cv (r := a0) (ci := 8) (n := 2) (as := [.inl a1, .inl (0 : Int32)]) (st := []) TX6 15 (soX6_of X h a0 a1 (0 : Int32)) (tbm tkX6_isHow (i := 3) rfl) rfl rfl ceX6_of wd_1016 wd_21 wd_1014 rfl (Nat.le_of_ble_eq_true rfl) (kI_gd (fun h1 x2 => ?_))
  refine q_if_le (tbm tkX6_isHow (i := 4) rfl) ?_ ?_
  · refine q_run tkX6_isHow 5 3 (pc' := 12) (L' := [some (.inr (.inr a0)), some (.inl a1), some (.inl a2)]) (st' := [.inl (3 : Int32), .inl a1, .inr (.inr a0)]) rfl ?_
    refine q_cv (r := a0) (ci := 8) (n := 2) (as := [.inl a1, .inl (3 : Int32)]) (st := []) TX6 15 (soX6_of X h1 a0 a1 (3 : Int32)) (tbm tkX6_isHow (i := 8) rfl) rfl rfl ceX6_of wd_1016 wd_21 wd_1014 rfl (Nat.le_of_ble_eq_true rfl) (kI_gd (fun h3 x4 => ?_))
    refine q_run tkX6_isHow 9 1 (pc' := 16) (L' := [some (.inr (.inr a0)), some (.inl a1), some (.inl a2)]) (st' := [.inl a2, .inl x4]) rfl ?_
    refine q_icmp_ne (tbm tkX6_isHow (i := 10) rfl) ?_ ?_
    · refine q_run tkX6_isHow 11 2 (pc' := 24) (L' := [some (.inr (.inr a0)), some (.inl a1), some (.inl a2)]) (st' := [.inl (1 : Int32)]) rfl ?_
      refine q_le (L' := [none, none, none]) (lvLe_n (lvLe_n (lvLe_n lvLe_0))) ?_
      exact sX6_isHow_24 X h3 (1 : Int32)
    · refine q_le (L' := [none, none, none]) (lvLe_n (lvLe_n (lvLe_n lvLe_0))) ?_
      exact sX6_isHow_23 X h3
  · refine q_le (L' := [none, none, none]) (lvLe_n (lvLe_n (lvLe_n lvLe_0))) ?_
    exact sX6_isHow_23 X h1
theorem ceX6_isHow : Ce mX6_isHow 2 := ⟨wd_81, wd_1066, by decide +kernel, by decide +kernel, by decide +kernel⟩
/-- ReceiptRollsModel.manyHow -/
abbrev mX6_manyHow : MI := (yX6_manyHow, cX6_manyHow, 4, some .int, 2)
def tbX6_manyHow : List TE := [(0, .iconst 0, 1, 0, 0), (1, .istore_n 2, 1, 0, 0), (2, .iconst 3, 1, 3, 0), (3, .istore_n 3, 1, 0, 0), (4, .iload_n 3, 1, 0, 0), (5, .bipush 21, 2, 21, 0), (7, .if_icmp .ge 26, 3, 0, 33), (10, .iload_n 2, 1, 0, 0), (11, .aload_n 0, 1, 0, 0), (12, .iload_n 3, 1, 0, 0), (13, .iload_n 1, 1, 0, 0), (14, .invokevirtual 149, 3, 0, 0), (17, .ifCond .eq 7, 3, 0, 24), (20, .iconst 1, 1, 1, 0), (21, .goto 4, 3, 0, 25), (24, .iconst 0, 1, 0, 0), (25, .iadd, 1, 0, 0), (26, .istore_n 2, 1, 0, 0), (27, .iinc 3 1, 3, 1, 0), (30, .goto (-26), 3, 0, 4), (33, .iload_n 2, 1, 0, 0), (34, .ireturn, 1, 0, 0)]
theorem tkX6_manyHow : ∀ x ∈ tbX6_manyHow, tbB cX6_manyHow x = true := tb_all (by decide +kernel)
def fX6_manyHow_25 (c : Nat → Option Nat) (k4 : Hp → Option Nat → Int32 → Int32 → Int32 → Rs) (h : Hp) (l0 : Option Nat) (l1 : Int32) (l3 : Int32) (s0 : Int32) (s1 : Int32) : Rs := k4 h l0 l1 (s0 + s1) (l3 + (1 : Int32))
set_option maxHeartbeats 4000000 in
set_option maxRecDepth 100000 in
theorem sX6_manyHow_25 (X : Cx) {h0 : Hp} (k4 : Hp → Option Nat → Int32 → Int32 → Int32 → Rs) (hk4 : ∀ (h : Hp) (l0 : Option Nat) (l1 : Int32) (l2 : Int32) (l3 : Int32), Gd X mX6_manyHow h0 (k4 h l0 l1 l2 l3) h 4 [some (.inr (.inr l0)), some (.inl l1), some (.inl l2), some (.inl l3)] []) (h : Hp) (l0 : Option Nat) (l1 : Int32) (l3 : Int32) (s0 : Int32) (s1 : Int32) : Gd X mX6_manyHow h0 (fX6_manyHow_25 X.2.2.2 k4 h l0 l1 l3 s0 s1) h 25 [some (.inr (.inr l0)), some (.inl l1), none, some (.inl l3)] [.inl s1, .inl s0] := by
  unfold fX6_manyHow_25
  refine q_run tkX6_manyHow 16 4 (pc' := 4) (L' := [some (.inr (.inr l0)), some (.inl l1), some (.inl (s0 + s1)), some (.inl (l3 + (1 : Int32)))]) (st' := []) rfl ?_
  exact hk4 h l0 l1 (s0 + s1) (l3 + (1 : Int32))
def fX6_manyHow_4 (c : Nat → Option Nat) : Nat → Hp → Option Nat → Int32 → Int32 → Int32 → Rs
  | 0, _, _, _, _, _ => none
  | n + 1, h, l0, l1, l2, l3 => if l3 < (21 : Int32) then (ck h l0 8 (cc (fX6_isHow c h l0 l3 l1) (kI fun h1 x2 => if x2 = 0 then (fX6_manyHow_25 c (fX6_manyHow_4 c n) h1 l0 l1 l3 l2 (0 : Int32)) else (fX6_manyHow_25 c (fX6_manyHow_4 c n) h1 l0 l1 l3 l2 (1 : Int32))))) else (some (h, some (.inl l2)))
set_option maxHeartbeats 4000000 in
set_option maxRecDepth 100000 in
theorem sX6_manyHow_4 (X : Cx) {h0 : Hp} : ∀ (n : Nat) (h : Hp) (l0 : Option Nat) (l1 : Int32) (l2 : Int32) (l3 : Int32), Gd X mX6_manyHow h0 (fX6_manyHow_4 X.2.2.2 n h l0 l1 l2 l3) h 4 [some (.inr (.inr l0)), some (.inl l1), some (.inl l2), some (.inl l3)] [] := by
  intro n
  induction n with
  | zero => intros; exact gd_none
  | succ n ih =>
    intro h l0 l1 l2 l3
    unfold fX6_manyHow_4
    refine q_run tkX6_manyHow 4 2 (pc' := 7) (L' := [some (.inr (.inr l0)), some (.inl l1), some (.inl l2), some (.inl l3)]) (st' := [.inl (21 : Int32), .inl l3]) rfl ?_
    refine q_icmp_ge (tbm tkX6_manyHow (i := 6) rfl) ?_ ?_
    · refine q_run tkX6_manyHow 7 4 (pc' := 14) (L' := [some (.inr (.inr l0)), some (.inl l1), some (.inl l2), some (.inl l3)]) (st' := [.inl l1, .inl l3, .inr (.inr l0), .inl l2]) rfl ?_
      refine q_cv (r := l0) (ci := 8) (n := 2) (as := [.inl l3, .inl l1]) (st := [.inl l2]) TX6 15 (soX6_isHow X h l0 l3 l1) (tbm tkX6_manyHow (i := 11) rfl) rfl rfl ceX6_isHow wd_1065 wd_31 wd_1063 rfl (Nat.le_of_ble_eq_true rfl) (kI_gd (fun h1 x2 => ?_))
      refine q_if_eq (tbm tkX6_manyHow (i := 12) rfl) ?_ ?_
      · refine q_run tkX6_manyHow 15 1 (pc' := 25) (L' := [some (.inr (.inr l0)), some (.inl l1), some (.inl l2), some (.inl l3)]) (st' := [.inl (0 : Int32), .inl l2]) rfl ?_
        refine q_le (L' := [some (.inr (.inr l0)), some (.inl l1), none, some (.inl l3)]) (lvLe_s (lvLe_s (lvLe_n (lvLe_s lvLe_0)))) ?_
        exact sX6_manyHow_25 X (fX6_manyHow_4 X.2.2.2 n) ih h1 l0 l1 l3 l2 (0 : Int32)
      · refine q_run tkX6_manyHow 13 2 (pc' := 25) (L' := [some (.inr (.inr l0)), some (.inl l1), some (.inl l2), some (.inl l3)]) (st' := [.inl (1 : Int32), .inl l2]) rfl ?_
        refine q_le (L' := [some (.inr (.inr l0)), some (.inl l1), none, some (.inl l3)]) (lvLe_s (lvLe_s (lvLe_n (lvLe_s lvLe_0)))) ?_
        exact sX6_manyHow_25 X (fX6_manyHow_4 X.2.2.2 n) ih h1 l0 l1 l3 l2 (1 : Int32)
    · refine q_run tkX6_manyHow 20 1 (pc' := 34) (L' := [some (.inr (.inr l0)), some (.inl l1), some (.inl l2), some (.inl l3)]) (st' := [.inl l2]) rfl ?_
      exact q_iret (tbm tkX6_manyHow (i := 21) rfl) rfl
def fX6_manyHow (c : Nat → Option Nat) (h : Hp) (a0 : Option Nat) (a1 : Int32) : Rs := fX6_manyHow_4 c FU h a0 a1 (0 : Int32) (3 : Int32)
set_option maxHeartbeats 4000000 in
set_option maxRecDepth 100000 in
theorem soX6_manyHow (X : Cx) (h : Hp) (a0 : Option Nat) (a1 : Int32) : SO X mX6_manyHow [.inr (.inr a0), .inl a1] h (fX6_manyHow X.2.2.2 h a0 a1) := by
  refine so_of (by decide +kernel) (Nat.le_of_ble_eq_true rfl) ?_
  show Gd X mX6_manyHow h (fX6_manyHow X.2.2.2 h a0 a1) h 0 [some (.inr (.inr a0)), some (.inl a1), none, none] []
  unfold fX6_manyHow
  refine q_run tkX6_manyHow 0 4 (pc' := 4) (L' := [some (.inr (.inr a0)), some (.inl a1), some (.inl (0 : Int32)), some (.inl (3 : Int32))]) (st' := []) rfl ?_
  exact sX6_manyHow_4 X FU h a0 a1 (0 : Int32) (3 : Int32)
theorem ceX6_manyHow : Ce mX6_manyHow 1 := ⟨wd_81, wd_1062, by decide +kernel, by decide +kernel, by decide +kernel⟩
/-- ReceiptRollsModel.freeRecord -/
abbrev mX6_freeRecord : MI := (yX6_freeRecord, cX6_freeRecord, 2, some .int, 1)
def tbX6_freeRecord : List TE := [(0, .iconst 3, 1, 3, 0), (1, .istore_n 1, 1, 0, 0), (2, .aload_n 0, 1, 0, 0), (3, .iload_n 1, 1, 0, 0), (4, .iconst 0, 1, 0, 0), (5, .invokevirtual 47, 3, 0, 0), (8, .ifCond .le 9, 3, 0, 17), (11, .iinc 1 1, 3, 1, 0), (14, .goto (-12), 3, 0, 2), (17, .iload_n 1, 1, 0, 0), (18, .ireturn, 1, 0, 0)]
theorem tkX6_freeRecord : ∀ x ∈ tbX6_freeRecord, tbB cX6_freeRecord x = true := tb_all (by decide +kernel)
def fX6_freeRecord_2 (c : Nat → Option Nat) : Nat → Hp → Option Nat → Int32 → Rs
  | 0, _, _, _ => none
  | n + 1, h, l0, l1 => ck h l0 8 (cc (fX6_of c h l0 l1 (0 : Int32)) (kI fun h1 x2 => if 0 < x2 then (fX6_freeRecord_2 c n h1 l0 (l1 + (1 : Int32))) else (some (h1, some (.inl l1)))))
set_option maxHeartbeats 4000000 in
set_option maxRecDepth 100000 in
theorem sX6_freeRecord_2 (X : Cx) {h0 : Hp} : ∀ (n : Nat) (h : Hp) (l0 : Option Nat) (l1 : Int32), Gd X mX6_freeRecord h0 (fX6_freeRecord_2 X.2.2.2 n h l0 l1) h 2 [some (.inr (.inr l0)), some (.inl l1)] [] := by
  intro n
  induction n with
  | zero => intros; exact gd_none
  | succ n ih =>
    intro h l0 l1
    unfold fX6_freeRecord_2
    refine q_run tkX6_freeRecord 2 3 (pc' := 5) (L' := [some (.inr (.inr l0)), some (.inl l1)]) (st' := [.inl (0 : Int32), .inl l1, .inr (.inr l0)]) rfl ?_
    refine q_cv (r := l0) (ci := 8) (n := 2) (as := [.inl l1, .inl (0 : Int32)]) (st := []) TX6 15 (soX6_of X h l0 l1 (0 : Int32)) (tbm tkX6_freeRecord (i := 5) rfl) rfl rfl ceX6_of wd_1016 wd_21 wd_1014 rfl (Nat.le_of_ble_eq_true rfl) (kI_gd (fun h1 x2 => ?_))
    refine q_if_le (tbm tkX6_freeRecord (i := 6) rfl) ?_ ?_
    · refine q_run tkX6_freeRecord 7 2 (pc' := 2) (L' := [some (.inr (.inr l0)), some (.inl (l1 + (1 : Int32)))]) (st' := []) rfl ?_
      exact ih h1 l0 (l1 + (1 : Int32))
    · refine q_run tkX6_freeRecord 9 1 (pc' := 18) (L' := [some (.inr (.inr l0)), some (.inl l1)]) (st' := [.inl l1]) rfl ?_
      exact q_iret (tbm tkX6_freeRecord (i := 10) rfl) rfl
def fX6_freeRecord (c : Nat → Option Nat) (h : Hp) (a0 : Option Nat) : Rs := fX6_freeRecord_2 c FU h a0 (3 : Int32)
set_option maxHeartbeats 4000000 in
set_option maxRecDepth 100000 in
theorem soX6_freeRecord (X : Cx) (h : Hp) (a0 : Option Nat) : SO X mX6_freeRecord [.inr (.inr a0)] h (fX6_freeRecord X.2.2.2 h a0) := by
  refine so_of (by decide +kernel) (Nat.le_of_ble_eq_true rfl) ?_
  show Gd X mX6_freeRecord h (fX6_freeRecord X.2.2.2 h a0) h 0 [some (.inr (.inr a0)), none] []
  unfold fX6_freeRecord
  refine q_run tkX6_freeRecord 0 2 (pc' := 2) (L' := [some (.inr (.inr a0)), some (.inl (3 : Int32))]) (st' := []) rfl ?_
  exact sX6_freeRecord_2 X FU h a0 (3 : Int32)
theorem ceX6_freeRecord : Ce mX6_freeRecord 0 := ⟨wd_81, wd_1070, by decide +kernel, by decide +kernel, by decide +kernel⟩
/-- ReceiptRollsModel.empties -/
abbrev mX6_empties : MI := (yX6_empties, cX6_empties, 3, none, 1)
def tbX6_empties : List TE := [(0, .iconst 0, 1, 0, 0), (1, .istore_n 2, 1, 0, 0), (2, .iload_n 2, 1, 0, 0), (3, .bipush 86, 2, 86, 0), (5, .if_icmp .ge 16, 3, 0, 21), (8, .aload_n 0, 1, 0, 0), (9, .iload_n 1, 1, 0, 0), (10, .iload_n 2, 1, 0, 0), (11, .iconst 0, 1, 0, 0), (12, .invokevirtual 36, 3, 0, 0), (15, .iinc 2 1, 3, 1, 0), (18, .goto (-16), 3, 0, 2), (21, .return_, 1, 0, 0)]
theorem tkX6_empties : ∀ x ∈ tbX6_empties, tbB cX6_empties x = true := tb_all (by decide +kernel)
def fX6_empties_2 (c : Nat → Option Nat) : Nat → Hp → Option Nat → Int32 → Int32 → Rs
  | 0, _, _, _, _ => none
  | n + 1, h, l0, l1, l2 => if l2 < (86 : Int32) then (ck h l0 8 (cc (fX6_lay c h l0 l1 l2 (0 : Int32)) (kV fun h1 => fX6_empties_2 c n h1 l0 l1 (l2 + (1 : Int32))))) else (some (h, none))
set_option maxHeartbeats 4000000 in
set_option maxRecDepth 100000 in
theorem sX6_empties_2 (X : Cx) {h0 : Hp} : ∀ (n : Nat) (h : Hp) (l0 : Option Nat) (l1 : Int32) (l2 : Int32), Gd X mX6_empties h0 (fX6_empties_2 X.2.2.2 n h l0 l1 l2) h 2 [some (.inr (.inr l0)), some (.inl l1), some (.inl l2)] [] := by
  intro n
  induction n with
  | zero => intros; exact gd_none
  | succ n ih =>
    intro h l0 l1 l2
    unfold fX6_empties_2
    refine q_run tkX6_empties 2 2 (pc' := 5) (L' := [some (.inr (.inr l0)), some (.inl l1), some (.inl l2)]) (st' := [.inl (86 : Int32), .inl l2]) rfl ?_
    refine q_icmp_ge (tbm tkX6_empties (i := 4) rfl) ?_ ?_
    · refine q_run tkX6_empties 5 4 (pc' := 12) (L' := [some (.inr (.inr l0)), some (.inl l1), some (.inl l2)]) (st' := [.inl (0 : Int32), .inl l2, .inl l1, .inr (.inr l0)]) rfl ?_
      refine q_cv (r := l0) (ci := 8) (n := 3) (as := [.inl l1, .inl l2, .inl (0 : Int32)]) (st := []) TX6 15 (soX6_lay X h l0 l1 l2 (0 : Int32)) (tbm tkX6_empties (i := 9) rfl) rfl rfl ceX6_lay wd_933 wd_17 wd_931 rfl (Nat.le_of_ble_eq_true rfl) (kV_gd (fun h1 => ?_))
      refine q_run tkX6_empties 10 2 (pc' := 2) (L' := [some (.inr (.inr l0)), some (.inl l1), some (.inl (l2 + (1 : Int32)))]) (st' := []) rfl ?_
      exact ih h1 l0 l1 (l2 + (1 : Int32))
    · exact q_vret (tbm tkX6_empties (i := 12) rfl) rfl
def fX6_empties (c : Nat → Option Nat) (h : Hp) (a0 : Option Nat) (a1 : Int32) : Rs := fX6_empties_2 c FU h a0 a1 (0 : Int32)
set_option maxHeartbeats 4000000 in
set_option maxRecDepth 100000 in
theorem soX6_empties (X : Cx) (h : Hp) (a0 : Option Nat) (a1 : Int32) : SO X mX6_empties [.inr (.inr a0), .inl a1] h (fX6_empties X.2.2.2 h a0 a1) := by
  refine so_of (by decide +kernel) (Nat.le_of_ble_eq_true rfl) ?_
  show Gd X mX6_empties h (fX6_empties X.2.2.2 h a0 a1) h 0 [some (.inr (.inr a0)), some (.inl a1), none] []
  unfold fX6_empties
  refine q_run tkX6_empties 0 2 (pc' := 2) (L' := [some (.inr (.inr a0)), some (.inl a1), some (.inl (0 : Int32))]) (st' := []) rfl ?_
  exact sX6_empties_2 X FU h a0 a1 (0 : Int32)
theorem ceX6_empties : Ce mX6_empties 1 := ⟨wd_81, wd_1074, by decide +kernel, by decide +kernel, by decide +kernel⟩
/-- ReceiptRollsModel.close -/
abbrev mX6_close : MI := (yX6_close, cX6_close, 5, some .int, 3)
def tbX6_close : List TE := [(0, .aload_n 0, 1, 0, 0), (1, .iconst 0, 1, 0, 0), (2, .putfield 32, 3, 0, 0), (5, .iload_n 1, 1, 0, 0), (6, .invokestatic 196, 3, 0, 0), (9, .ifCond .ne 5, 3, 0, 14), (12, .iconst (-1), 1, -1, 0), (13, .ireturn, 1, 0, 0), (14, .iload_n 2, 1, 0, 0), (15, .iconst 0, 1, 0, 0), (16, .iconst 3, 1, 3, 0), (17, .invokestatic 40, 3, 0, 0), (20, .ifCond .ne 6, 3, 0, 26), (23, .bipush (-2), 2, -2, 0), (25, .ireturn, 1, 0, 0), (26, .aload_n 0, 1, 0, 0), (27, .iload_n 1, 1, 0, 0), (28, .bipush 8, 2, 8, 0), (30, .invokevirtual 47, 3, 0, 0), (33, .ifCond .ne 6, 3, 0, 39), (36, .bipush (-5), 2, -5, 0), (38, .ireturn, 1, 0, 0), (39, .aload_n 0, 1, 0, 0), (40, .iconst 0, 1, 0, 0), (41, .invokevirtual 158, 3, 0, 0), (44, .aload_n 0, 1, 0, 0), (45, .iconst 1, 1, 1, 0), (46, .invokevirtual 158, 3, 0, 0), (49, .iadd, 1, 0, 0), (50, .bipush 10, 2, 10, 0), (52, .if_icmp .ne 6, 3, 0, 58), (55, .bipush (-4), 2, -4, 0), (57, .ireturn, 1, 0, 0), (58, .aload_n 0, 1, 0, 0), (59, .invokevirtual 190, 3, 0, 0), (62, .aload_n 0, 1, 0, 0), (63, .invokevirtual 213, 3, 0, 0), (66, .istore_n 3, 1, 0, 0), (67, .iconst 0, 1, 0, 0), (68, .istore 4, 2, 0, 0), (70, .iload 4, 2, 0, 0), (72, .bipush 86, 2, 86, 0), (74, .if_icmp .ge 23, 3, 0, 97), (77, .aload_n 0, 1, 0, 0), (78, .iload_n 3, 1, 0, 0), (79, .iload 4, 2, 0, 0), (81, .aload_n 0, 1, 0, 0), (82, .iload_n 1, 1, 0, 0), (83, .iload 4, 2, 0, 0), (85, .invokevirtual 47, 3, 0, 0), (88, .invokevirtual 36, 3, 0, 0), (91, .iinc 4 1, 3, 1, 0), (94, .goto (-24), 3, 0, 70), (97, .aload_n 0, 1, 0, 0), (98, .getfield 7, 3, 0, 0), (101, .iconst 4, 1, 4, 0), (102, .dup2, 1, 0, 0), (103, .iaload, 1, 0, 0), (104, .iconst 1, 1, 1, 0), (105, .iadd, 1, 0, 0), (106, .iastore, 1, 0, 0), (107, .aload_n 0, 1, 0, 0), (108, .iload_n 3, 1, 0, 0), (109, .iconst 0, 1, 0, 0), (110, .aload_n 0, 1, 0, 0), (111, .getfield 7, 3, 0, 0), (114, .iconst 4, 1, 4, 0), (115, .iaload, 1, 0, 0), (116, .invokevirtual 36, 3, 0, 0), (119, .aload_n 0, 1, 0, 0), (120, .iload_n 3, 1, 0, 0), (121, .iconst 2, 1, 2, 0), (122, .iload_n 2, 1, 0, 0), (123, .invokevirtual 36, 3, 0, 0), (126, .aload_n 0, 1, 0, 0), (127, .iload_n 3, 1, 0, 0), (128, .iconst 4, 1, 4, 0), (129, .aload_n 0, 1, 0, 0), (130, .getfield 7, 3, 0, 0), (133, .iconst 0, 1, 0, 0), (134, .iaload, 1, 0, 0), (135, .invokevirtual 36, 3, 0, 0), (138, .aload_n 0, 1, 0, 0), (139, .iload_n 1, 1, 0, 0), (140, .invokevirtual 161, 3, 0, 0), (143, .aload_n 0, 1, 0, 0), (144, .iload_n 1, 1, 0, 0), (145, .iconst 1, 1, 1, 0), (146, .iload_n 1, 1, 0, 0), (147, .invokevirtual 36, 3, 0, 0), (150, .aload_n 0, 1, 0, 0), (151, .getfield 7, 3, 0, 0), (154, .iconst 4, 1, 4, 0), (155, .iaload, 1, 0, 0), (156, .ireturn, 1, 0, 0)]
theorem tkX6_close : ∀ x ∈ tbX6_close, tbB cX6_close x = true := tb_all (by decide +kernel)
def fX6_close_70 (c : Nat → Option Nat) : Nat → Hp → Option Nat → Int32 → Int32 → Int32 → Int32 → Rs
  | 0, _, _, _, _, _, _ => none
  | n + 1, h, l0, l1, l2, l3, l4 => if l4 < (86 : Int32) then (ck h l0 8 (cc (fX6_of c h l0 l1 l4) (kI fun h1 x2 => ck h1 l0 8 (cc (fX6_lay c h1 l0 l3 l4 x2) (kV fun h3 => fX6_close_70 c n h3 l0 l1 l2 l3 (l4 + (1 : Int32))))))) else (rdR h l0 8 1 (fun r4 => aldI h r4 [0, 10] (4 : Int32) (fun x5 => astI h r4 [0] (4 : Int32) (x5 + (1 : Int32)) (fun h6 => rdR h6 l0 8 1 (fun r7 => aldI h6 r7 [0, 10] (4 : Int32) (fun x8 => ck h6 l0 8 (cc (fX6_lay c h6 l0 l3 (0 : Int32) x8) (kV fun h9 => ck h9 l0 8 (cc (fX6_lay c h9 l0 l3 (2 : Int32) l2) (kV fun h10 => rdR h10 l0 8 1 (fun r11 => aldI h10 r11 [0, 10] (0 : Int32) (fun x12 => ck h10 l0 8 (cc (fX6_lay c h10 l0 l3 (4 : Int32) x12) (kV fun h13 => ck h13 l0 8 (cc (fX6_empties c h13 l0 l1) (kV fun h14 => ck h14 l0 8 (cc (fX6_lay c h14 l0 l1 (1 : Int32) l1) (kV fun h15 => rdR h15 l0 8 1 (fun r16 => aldI h15 r16 [0, 10] (4 : Int32) (fun x17 => some (h15, some (.inl x17))))))))))))))))))))))
set_option maxHeartbeats 4000000 in
set_option maxRecDepth 100000 in
theorem sX6_close_70 (X : Cx) {h0 : Hp} : ∀ (n : Nat) (h : Hp) (l0 : Option Nat) (l1 : Int32) (l2 : Int32) (l3 : Int32) (l4 : Int32), Gd X mX6_close h0 (fX6_close_70 X.2.2.2 n h l0 l1 l2 l3 l4) h 70 [some (.inr (.inr l0)), some (.inl l1), some (.inl l2), some (.inl l3), some (.inl l4)] [] := by
  intro n
  induction n with
  | zero => intros; exact gd_none
  | succ n ih =>
    intro h l0 l1 l2 l3 l4
    unfold fX6_close_70
    refine q_run tkX6_close 40 2 (pc' := 74) (L' := [some (.inr (.inr l0)), some (.inl l1), some (.inl l2), some (.inl l3), some (.inl l4)]) (st' := [.inl (86 : Int32), .inl l4]) rfl ?_
    refine q_icmp_ge (tbm tkX6_close (i := 42) rfl) ?_ ?_
    · refine q_run tkX6_close 43 6 (pc' := 85) (L' := [some (.inr (.inr l0)), some (.inl l1), some (.inl l2), some (.inl l3), some (.inl l4)]) (st' := [.inl l4, .inl l1, .inr (.inr l0), .inl l4, .inl l3, .inr (.inr l0)]) rfl ?_
      refine q_cv (r := l0) (ci := 8) (n := 2) (as := [.inl l1, .inl l4]) (st := [.inl l4, .inl l3, .inr (.inr l0)]) TX6 15 (soX6_of X h l0 l1 l4) (tbm tkX6_close (i := 49) rfl) rfl rfl ceX6_of wd_1016 wd_21 wd_1014 rfl (Nat.le_of_ble_eq_true rfl) (kI_gd (fun h1 x2 => ?_))
      refine q_cv (r := l0) (ci := 8) (n := 3) (as := [.inl l3, .inl l4, .inl x2]) (st := []) TX6 15 (soX6_lay X h1 l0 l3 l4 x2) (tbm tkX6_close (i := 50) rfl) rfl rfl ceX6_lay wd_933 wd_17 wd_931 rfl (Nat.le_of_ble_eq_true rfl) (kV_gd (fun h3 => ?_))
      refine q_run tkX6_close 51 2 (pc' := 70) (L' := [some (.inr (.inr l0)), some (.inl l1), some (.inl l2), some (.inl l3), some (.inl (l4 + (1 : Int32)))]) (st' := []) rfl ?_
      exact ih h3 l0 l1 l2 l3 (l4 + (1 : Int32))
    · refine q_run tkX6_close 53 1 (pc' := 98) (L' := [some (.inr (.inr l0)), some (.inl l1), some (.inl l2), some (.inl l3), some (.inl l4)]) (st' := [.inr (.inr l0)]) rfl ?_
      refine q_rdR RX6 TX6 15 (tbm tkX6_close (i := 54) rfl) rfl (Nat.le_of_ble_eq_true rfl) wd_936 (fun r4 => ?_)
      refine q_run tkX6_close 55 2 (pc' := 103) (L' := [some (.inr (.inr l0)), some (.inl l1), some (.inl l2), some (.inl l3), some (.inl l4)]) (st' := [.inl (4 : Int32), .inr (.inr r4), .inl (4 : Int32), .inr (.inr r4)]) rfl ?_
      refine q_iaload (tbm tkX6_close (i := 57) rfl) (fun x5 => ?_)
      refine q_run tkX6_close 58 2 (pc' := 106) (L' := [some (.inr (.inr l0)), some (.inl l1), some (.inl l2), some (.inl l3), some (.inl l4)]) (st' := [.inl (x5 + (1 : Int32)), .inl (4 : Int32), .inr (.inr r4)]) rfl ?_
      refine q_iastore (tbm tkX6_close (i := 60) rfl) (fun h6 => ?_)
      refine q_run tkX6_close 61 4 (pc' := 111) (L' := [some (.inr (.inr l0)), some (.inl l1), some (.inl l2), some (.inl l3), some (.inl l4)]) (st' := [.inr (.inr l0), .inl (0 : Int32), .inl l3, .inr (.inr l0)]) rfl ?_
      refine q_rdR RX6 TX6 15 (tbm tkX6_close (i := 65) rfl) rfl (Nat.le_of_ble_eq_true rfl) wd_936 (fun r7 => ?_)
      refine q_run tkX6_close 66 1 (pc' := 115) (L' := [some (.inr (.inr l0)), some (.inl l1), some (.inl l2), some (.inl l3), some (.inl l4)]) (st' := [.inl (4 : Int32), .inr (.inr r7), .inl (0 : Int32), .inl l3, .inr (.inr l0)]) rfl ?_
      refine q_iaload (tbm tkX6_close (i := 67) rfl) (fun x8 => ?_)
      refine q_cv (r := l0) (ci := 8) (n := 3) (as := [.inl l3, .inl (0 : Int32), .inl x8]) (st := []) TX6 15 (soX6_lay X h6 l0 l3 (0 : Int32) x8) (tbm tkX6_close (i := 68) rfl) rfl rfl ceX6_lay wd_933 wd_17 wd_931 rfl (Nat.le_of_ble_eq_true rfl) (kV_gd (fun h9 => ?_))
      refine q_run tkX6_close 69 4 (pc' := 123) (L' := [some (.inr (.inr l0)), some (.inl l1), some (.inl l2), some (.inl l3), some (.inl l4)]) (st' := [.inl l2, .inl (2 : Int32), .inl l3, .inr (.inr l0)]) rfl ?_
      refine q_cv (r := l0) (ci := 8) (n := 3) (as := [.inl l3, .inl (2 : Int32), .inl l2]) (st := []) TX6 15 (soX6_lay X h9 l0 l3 (2 : Int32) l2) (tbm tkX6_close (i := 73) rfl) rfl rfl ceX6_lay wd_933 wd_17 wd_931 rfl (Nat.le_of_ble_eq_true rfl) (kV_gd (fun h10 => ?_))
      refine q_run tkX6_close 74 4 (pc' := 130) (L' := [some (.inr (.inr l0)), some (.inl l1), some (.inl l2), some (.inl l3), some (.inl l4)]) (st' := [.inr (.inr l0), .inl (4 : Int32), .inl l3, .inr (.inr l0)]) rfl ?_
      refine q_rdR RX6 TX6 15 (tbm tkX6_close (i := 78) rfl) rfl (Nat.le_of_ble_eq_true rfl) wd_936 (fun r11 => ?_)
      refine q_run tkX6_close 79 1 (pc' := 134) (L' := [some (.inr (.inr l0)), some (.inl l1), some (.inl l2), some (.inl l3), some (.inl l4)]) (st' := [.inl (0 : Int32), .inr (.inr r11), .inl (4 : Int32), .inl l3, .inr (.inr l0)]) rfl ?_
      refine q_iaload (tbm tkX6_close (i := 80) rfl) (fun x12 => ?_)
      refine q_cv (r := l0) (ci := 8) (n := 3) (as := [.inl l3, .inl (4 : Int32), .inl x12]) (st := []) TX6 15 (soX6_lay X h10 l0 l3 (4 : Int32) x12) (tbm tkX6_close (i := 81) rfl) rfl rfl ceX6_lay wd_933 wd_17 wd_931 rfl (Nat.le_of_ble_eq_true rfl) (kV_gd (fun h13 => ?_))
      refine q_run tkX6_close 82 2 (pc' := 140) (L' := [some (.inr (.inr l0)), some (.inl l1), some (.inl l2), some (.inl l3), some (.inl l4)]) (st' := [.inl l1, .inr (.inr l0)]) rfl ?_
      refine q_cv (r := l0) (ci := 8) (n := 1) (as := [.inl l1]) (st := []) TX6 15 (soX6_empties X h13 l0 l1) (tbm tkX6_close (i := 84) rfl) rfl rfl ceX6_empties wd_1073 wd_33 wd_1071 rfl (Nat.le_of_ble_eq_true rfl) (kV_gd (fun h14 => ?_))
      refine q_run tkX6_close 85 4 (pc' := 147) (L' := [some (.inr (.inr l0)), some (.inl l1), some (.inl l2), some (.inl l3), some (.inl l4)]) (st' := [.inl l1, .inl (1 : Int32), .inl l1, .inr (.inr l0)]) rfl ?_
      refine q_cv (r := l0) (ci := 8) (n := 3) (as := [.inl l1, .inl (1 : Int32), .inl l1]) (st := []) TX6 15 (soX6_lay X h14 l0 l1 (1 : Int32) l1) (tbm tkX6_close (i := 89) rfl) rfl rfl ceX6_lay wd_933 wd_17 wd_931 rfl (Nat.le_of_ble_eq_true rfl) (kV_gd (fun h15 => ?_))
      refine q_run tkX6_close 90 1 (pc' := 151) (L' := [some (.inr (.inr l0)), some (.inl l1), some (.inl l2), some (.inl l3), some (.inl l4)]) (st' := [.inr (.inr l0)]) rfl ?_
      refine q_rdR RX6 TX6 15 (tbm tkX6_close (i := 91) rfl) rfl (Nat.le_of_ble_eq_true rfl) wd_936 (fun r16 => ?_)
      refine q_run tkX6_close 92 1 (pc' := 155) (L' := [some (.inr (.inr l0)), some (.inl l1), some (.inl l2), some (.inl l3), some (.inl l4)]) (st' := [.inl (4 : Int32), .inr (.inr r16)]) rfl ?_
      refine q_iaload (tbm tkX6_close (i := 93) rfl) (fun x17 => ?_)
      exact q_iret (tbm tkX6_close (i := 94) rfl) rfl
def fX6_close (c : Nat → Option Nat) (h : Hp) (a0 : Option Nat) (a1 : Int32) (a2 : Int32) : Rs := wr h a0 8 0 (.inl (0 : Int32)) (fun h18 => cc (fX6_isTill c h18 a1) (kI fun h19 x20 => if x20 = 0 then (some (h19, some (.inl (-1 : Int32)))) else (cc (fX6_in c h19 a2 (0 : Int32) (3 : Int32)) (kI fun h21 x22 => if x22 = 0 then (some (h21, some (.inl (-2 : Int32)))) else (ck h21 a0 8 (cc (fX6_of c h21 a0 a1 (8 : Int32)) (kI fun h23 x24 => if x24 = 0 then (some (h23, some (.inl (-5 : Int32)))) else (ck h23 a0 8 (cc (fX6_manyHow c h23 a0 (0 : Int32)) (kI fun h25 x26 => ck h25 a0 8 (cc (fX6_manyHow c h25 a0 (1 : Int32)) (kI fun h27 x28 => if (x26 + x28) = (10 : Int32) then (some (h27, some (.inl (-4 : Int32)))) else (ck h27 a0 8 (cc (fX6_records c h27 a0) (kV fun h29 => ck h29 a0 8 (cc (fX6_freeRecord c h29 a0) (kI fun h30 x31 => fX6_close_70 c FU h30 a0 a1 a2 x31 (0 : Int32))))))))))))))))))
set_option maxHeartbeats 4000000 in
set_option maxRecDepth 100000 in
theorem soX6_close (X : Cx) (h : Hp) (a0 : Option Nat) (a1 : Int32) (a2 : Int32) : SO X mX6_close [.inr (.inr a0), .inl a1, .inl a2] h (fX6_close X.2.2.2 h a0 a1 a2) := by
  refine so_of (by decide +kernel) (Nat.le_of_ble_eq_true rfl) ?_
  show Gd X mX6_close h (fX6_close X.2.2.2 h a0 a1 a2) h 0 [some (.inr (.inr a0)), some (.inl a1), some (.inl a2), none, none] []
  unfold fX6_close
  refine q_run tkX6_close 0 2 (pc' := 2) (L' := [some (.inr (.inr a0)), some (.inl a1), some (.inl a2), none, none]) (st' := [.inl (0 : Int32), .inr (.inr a0)]) rfl ?_
  refine q_wr RX6 TX6 15 (tbm tkX6_close (i := 2) rfl) rfl (Nat.le_of_ble_eq_true rfl) (Or.inl rfl) wd_935 (fun h18 => ?_)
  refine q_run tkX6_close 3 1 (pc' := 6) (L' := [some (.inr (.inr a0)), some (.inl a1), some (.inl a2), none, none]) (st' := [.inl a1]) rfl ?_
  refine q_cs (n := 1) (as := [.inl a1]) (st := []) (soX6_isTill X h18 a1) (tbm tkX6_close (i := 4) rfl) rfl ceX6_isTill wd_1004 wd_1003 rfl (Nat.le_of_ble_eq_true rfl) (kI_gd (fun h19 x20 => ?_))
  refine q_if_ne (tbm tkX6_close (i := 5) rfl) ?_ ?_
  · refine q_run tkX6_close 6 1 (pc' := 13) (L' := [some (.inr (.inr a0)), some (.inl a1), some (.inl a2), none, none]) (st' := [.inl (-1 : Int32)]) rfl ?_
    exact q_iret (tbm tkX6_close (i := 7) rfl) rfl
  · refine q_run tkX6_close 8 3 (pc' := 17) (L' := [some (.inr (.inr a0)), some (.inl a1), some (.inl a2), none, none]) (st' := [.inl (3 : Int32), .inl (0 : Int32), .inl a2]) rfl ?_
    refine q_cs (n := 3) (as := [.inl a2, .inl (0 : Int32), .inl (3 : Int32)]) (st := []) (soX6_in X h19 a2 (0 : Int32) (3 : Int32)) (tbm tkX6_close (i := 11) rfl) rfl ceX6_in wd_987 wd_986 rfl (Nat.le_of_ble_eq_true rfl) (kI_gd (fun h21 x22 => ?_))
    refine q_if_ne (tbm tkX6_close (i := 12) rfl) ?_ ?_
    · refine q_run tkX6_close 13 1 (pc' := 25) (L' := [some (.inr (.inr a0)), some (.inl a1), some (.inl a2), none, none]) (st' := [.inl (-2 : Int32)]) rfl ?_
      exact q_iret (tbm tkX6_close (i := 14) rfl) rfl
    · refine q_run tkX6_close 15 3 (pc' := 30) (L' := [some (.inr (.inr a0)), some (.inl a1), some (.inl a2), none, none]) (st' := [.inl (8 : Int32), .inl a1, .inr (.inr a0)]) rfl ?_
      refine q_cv (r := a0) (ci := 8) (n := 2) (as := [.inl a1, .inl (8 : Int32)]) (st := []) TX6 15 (soX6_of X h21 a0 a1 (8 : Int32)) (tbm tkX6_close (i := 18) rfl) rfl rfl ceX6_of wd_1016 wd_21 wd_1014 rfl (Nat.le_of_ble_eq_true rfl) (kI_gd (fun h23 x24 => ?_))
      refine q_if_ne (tbm tkX6_close (i := 19) rfl) ?_ ?_
      · refine q_run tkX6_close 20 1 (pc' := 38) (L' := [some (.inr (.inr a0)), some (.inl a1), some (.inl a2), none, none]) (st' := [.inl (-5 : Int32)]) rfl ?_
        exact q_iret (tbm tkX6_close (i := 21) rfl) rfl
      · refine q_run tkX6_close 22 2 (pc' := 41) (L' := [some (.inr (.inr a0)), some (.inl a1), some (.inl a2), none, none]) (st' := [.inl (0 : Int32), .inr (.inr a0)]) rfl ?_
        refine q_cv (r := a0) (ci := 8) (n := 1) (as := [.inl (0 : Int32)]) (st := []) TX6 15 (soX6_manyHow X h23 a0 (0 : Int32)) (tbm tkX6_close (i := 24) rfl) rfl rfl ceX6_manyHow wd_1061 wd_30 wd_1059 rfl (Nat.le_of_ble_eq_true rfl) (kI_gd (fun h25 x26 => ?_))
        refine q_run tkX6_close 25 2 (pc' := 46) (L' := [some (.inr (.inr a0)), some (.inl a1), some (.inl a2), none, none]) (st' := [.inl (1 : Int32), .inr (.inr a0), .inl x26]) rfl ?_
        refine q_cv (r := a0) (ci := 8) (n := 1) (as := [.inl (1 : Int32)]) (st := [.inl x26]) TX6 15 (soX6_manyHow X h25 a0 (1 : Int32)) (tbm tkX6_close (i := 27) rfl) rfl rfl ceX6_manyHow wd_1061 wd_30 wd_1059 rfl (Nat.le_of_ble_eq_true rfl) (kI_gd (fun h27 x28 => ?_))
        refine q_run tkX6_close 28 2 (pc' := 52) (L' := [some (.inr (.inr a0)), some (.inl a1), some (.inl a2), none, none]) (st' := [.inl (10 : Int32), .inl (x26 + x28)]) rfl ?_
        refine q_icmp_ne (tbm tkX6_close (i := 30) rfl) ?_ ?_
        · refine q_run tkX6_close 31 1 (pc' := 57) (L' := [some (.inr (.inr a0)), some (.inl a1), some (.inl a2), none, none]) (st' := [.inl (-4 : Int32)]) rfl ?_
          exact q_iret (tbm tkX6_close (i := 32) rfl) rfl
        · refine q_run tkX6_close 33 1 (pc' := 59) (L' := [some (.inr (.inr a0)), some (.inl a1), some (.inl a2), none, none]) (st' := [.inr (.inr a0)]) rfl ?_
          refine q_cv (r := a0) (ci := 8) (n := 0) (as := []) (st := []) TX6 15 (soX6_records X h27 a0) (tbm tkX6_close (i := 34) rfl) rfl rfl ceX6_records wd_997 wd_18 wd_995 rfl (Nat.le_of_ble_eq_true rfl) (kV_gd (fun h29 => ?_))
          refine q_run tkX6_close 35 1 (pc' := 63) (L' := [some (.inr (.inr a0)), some (.inl a1), some (.inl a2), none, none]) (st' := [.inr (.inr a0)]) rfl ?_
          refine q_cv (r := a0) (ci := 8) (n := 0) (as := []) (st := []) TX6 15 (soX6_freeRecord X h29 a0) (tbm tkX6_close (i := 36) rfl) rfl rfl ceX6_freeRecord wd_1069 wd_32 wd_1067 rfl (Nat.le_of_ble_eq_true rfl) (kI_gd (fun h30 x31 => ?_))
          refine q_run tkX6_close 37 3 (pc' := 70) (L' := [some (.inr (.inr a0)), some (.inl a1), some (.inl a2), some (.inl x31), some (.inl (0 : Int32))]) (st' := []) rfl ?_
          exact sX6_close_70 X FU h30 a0 a1 a2 x31 (0 : Int32)
theorem ceX6_close : Ce mX6_close 2 := ⟨wd_81, wd_1058, by decide +kernel, by decide +kernel, by decide +kernel⟩
/-- ReceiptRollsModel.recordOf -/
abbrev mX6_recordOf : MI := (yX6_recordOf, cX6_recordOf, 3, some .int, 1)
def tbX6_recordOf : List TE := [(0, .iconst 3, 1, 3, 0), (1, .istore_n 2, 1, 0, 0), (2, .iload_n 2, 1, 0, 0), (3, .bipush 21, 2, 21, 0), (5, .if_icmp .ge 25, 3, 0, 30), (8, .iload_n 1, 1, 0, 0), (9, .ifCond .le 15, 3, 0, 24), (12, .aload_n 0, 1, 0, 0), (13, .iload_n 2, 1, 0, 0), (14, .iconst 0, 1, 0, 0), (15, .invokevirtual 47, 3, 0, 0), (18, .iload_n 1, 1, 0, 0), (19, .if_icmp .ne 5, 3, 0, 24), (22, .iload_n 2, 1, 0, 0), (23, .ireturn, 1, 0, 0), (24, .iinc 2 1, 3, 1, 0), (27, .goto (-25), 3, 0, 2), (30, .bipush (-6), 2, -6, 0), (32, .ireturn, 1, 0, 0)]
theorem tkX6_recordOf : ∀ x ∈ tbX6_recordOf, tbB cX6_recordOf x = true := tb_all (by decide +kernel)
def fX6_recordOf_24 (c : Nat → Option Nat) (k2 : Hp → Option Nat → Int32 → Int32 → Rs) (h : Hp) (l0 : Option Nat) (l1 : Int32) (l2 : Int32) : Rs := k2 h l0 l1 (l2 + (1 : Int32))
set_option maxHeartbeats 4000000 in
set_option maxRecDepth 100000 in
theorem sX6_recordOf_24 (X : Cx) {h0 : Hp} (k2 : Hp → Option Nat → Int32 → Int32 → Rs) (hk2 : ∀ (h : Hp) (l0 : Option Nat) (l1 : Int32) (l2 : Int32), Gd X mX6_recordOf h0 (k2 h l0 l1 l2) h 2 [some (.inr (.inr l0)), some (.inl l1), some (.inl l2)] []) (h : Hp) (l0 : Option Nat) (l1 : Int32) (l2 : Int32) : Gd X mX6_recordOf h0 (fX6_recordOf_24 X.2.2.2 k2 h l0 l1 l2) h 24 [some (.inr (.inr l0)), some (.inl l1), some (.inl l2)] [] := by
  unfold fX6_recordOf_24
  refine q_run tkX6_recordOf 15 2 (pc' := 2) (L' := [some (.inr (.inr l0)), some (.inl l1), some (.inl (l2 + (1 : Int32)))]) (st' := []) rfl ?_
  exact hk2 h l0 l1 (l2 + (1 : Int32))
def fX6_recordOf_2 (c : Nat → Option Nat) : Nat → Hp → Option Nat → Int32 → Int32 → Rs
  | 0, _, _, _, _ => none
  | n + 1, h, l0, l1, l2 => if l2 < (21 : Int32) then (if 0 < l1 then (ck h l0 8 (cc (fX6_of c h l0 l2 (0 : Int32)) (kI fun h1 x2 => if x2 = l1 then (some (h1, some (.inl l2))) else (fX6_recordOf_24 c (fX6_recordOf_2 c n) h1 l0 l1 l2)))) else (fX6_recordOf_24 c (fX6_recordOf_2 c n) h l0 l1 l2)) else (some (h, some (.inl (-6 : Int32))))
set_option maxHeartbeats 4000000 in
set_option maxRecDepth 100000 in
theorem sX6_recordOf_2 (X : Cx) {h0 : Hp} : ∀ (n : Nat) (h : Hp) (l0 : Option Nat) (l1 : Int32) (l2 : Int32), Gd X mX6_recordOf h0 (fX6_recordOf_2 X.2.2.2 n h l0 l1 l2) h 2 [some (.inr (.inr l0)), some (.inl l1), some (.inl l2)] [] := by
  intro n
  induction n with
  | zero => intros; exact gd_none
  | succ n ih =>
    intro h l0 l1 l2
    unfold fX6_recordOf_2
    refine q_run tkX6_recordOf 2 2 (pc' := 5) (L' := [some (.inr (.inr l0)), some (.inl l1), some (.inl l2)]) (st' := [.inl (21 : Int32), .inl l2]) rfl ?_
    refine q_icmp_ge (tbm tkX6_recordOf (i := 4) rfl) ?_ ?_
    · refine q_run tkX6_recordOf 5 1 (pc' := 9) (L' := [some (.inr (.inr l0)), some (.inl l1), some (.inl l2)]) (st' := [.inl l1]) rfl ?_
      refine q_if_le (tbm tkX6_recordOf (i := 6) rfl) ?_ ?_
      · refine q_run tkX6_recordOf 7 3 (pc' := 15) (L' := [some (.inr (.inr l0)), some (.inl l1), some (.inl l2)]) (st' := [.inl (0 : Int32), .inl l2, .inr (.inr l0)]) rfl ?_
        refine q_cv (r := l0) (ci := 8) (n := 2) (as := [.inl l2, .inl (0 : Int32)]) (st := []) TX6 15 (soX6_of X h l0 l2 (0 : Int32)) (tbm tkX6_recordOf (i := 10) rfl) rfl rfl ceX6_of wd_1016 wd_21 wd_1014 rfl (Nat.le_of_ble_eq_true rfl) (kI_gd (fun h1 x2 => ?_))
        refine q_run tkX6_recordOf 11 1 (pc' := 19) (L' := [some (.inr (.inr l0)), some (.inl l1), some (.inl l2)]) (st' := [.inl l1, .inl x2]) rfl ?_
        refine q_icmp_ne (tbm tkX6_recordOf (i := 12) rfl) ?_ ?_
        · refine q_run tkX6_recordOf 13 1 (pc' := 23) (L' := [some (.inr (.inr l0)), some (.inl l1), some (.inl l2)]) (st' := [.inl l2]) rfl ?_
          exact q_iret (tbm tkX6_recordOf (i := 14) rfl) rfl
        · exact sX6_recordOf_24 X (fX6_recordOf_2 X.2.2.2 n) ih h1 l0 l1 l2
      · exact sX6_recordOf_24 X (fX6_recordOf_2 X.2.2.2 n) ih h l0 l1 l2
    · refine q_run tkX6_recordOf 17 1 (pc' := 32) (L' := [some (.inr (.inr l0)), some (.inl l1), some (.inl l2)]) (st' := [.inl (-6 : Int32)]) rfl ?_
      exact q_iret (tbm tkX6_recordOf (i := 18) rfl) rfl
def fX6_recordOf (c : Nat → Option Nat) (h : Hp) (a0 : Option Nat) (a1 : Int32) : Rs := fX6_recordOf_2 c FU h a0 a1 (3 : Int32)
set_option maxHeartbeats 4000000 in
set_option maxRecDepth 100000 in
theorem soX6_recordOf (X : Cx) (h : Hp) (a0 : Option Nat) (a1 : Int32) : SO X mX6_recordOf [.inr (.inr a0), .inl a1] h (fX6_recordOf X.2.2.2 h a0 a1) := by
  refine so_of (by decide +kernel) (Nat.le_of_ble_eq_true rfl) ?_
  show Gd X mX6_recordOf h (fX6_recordOf X.2.2.2 h a0 a1) h 0 [some (.inr (.inr a0)), some (.inl a1), none] []
  unfold fX6_recordOf
  refine q_run tkX6_recordOf 0 2 (pc' := 2) (L' := [some (.inr (.inr a0)), some (.inl a1), some (.inl (3 : Int32))]) (st' := []) rfl ?_
  exact sX6_recordOf_2 X FU h a0 a1 (3 : Int32)
theorem ceX6_recordOf : Ce mX6_recordOf 1 := ⟨wd_81, wd_1082, by decide +kernel, by decide +kernel, by decide +kernel⟩
/-- ReceiptRollsModel.hurry -/
abbrev mX6_hurry : MI := (yX6_hurry, cX6_hurry, 5, some .int, 2)
def tbX6_hurry : List TE := [(0, .aload_n 0, 1, 0, 0), (1, .iconst 0, 1, 0, 0), (2, .putfield 32, 3, 0, 0), (5, .aload_n 0, 1, 0, 0), (6, .iload_n 1, 1, 0, 0), (7, .invokevirtual 216, 3, 0, 0), (10, .istore_n 3, 1, 0, 0), (11, .iload_n 3, 1, 0, 0), (12, .bipush (-6), 2, -6, 0), (14, .if_icmp .ne 5, 3, 0, 19), (17, .iconst (-1), 1, -1, 0), (18, .ireturn, 1, 0, 0), (19, .iload_n 2, 1, 0, 0), (20, .iconst 0, 1, 0, 0), (21, .iconst 3, 1, 3, 0), (22, .invokestatic 40, 3, 0, 0), (25, .ifCond .ne 6, 3, 0, 31), (28, .bipush (-2), 2, -2, 0), (30, .ireturn, 1, 0, 0), (31, .aload_n 0, 1, 0, 0), (32, .iload_n 3, 1, 0, 0), (33, .iconst 3, 1, 3, 0), (34, .invokevirtual 47, 3, 0, 0), (37, .ifCond .eq 6, 3, 0, 43), (40, .bipush (-5), 2, -5, 0), (42, .ireturn, 1, 0, 0), (43, .aload_n 0, 1, 0, 0), (44, .invokevirtual 190, 3, 0, 0), (47, .aload_n 0, 1, 0, 0), (48, .iload_n 3, 1, 0, 0), (49, .iconst 2, 1, 2, 0), (50, .invokevirtual 47, 3, 0, 0), (53, .istore 4, 2, 0, 0), (55, .aload_n 0, 1, 0, 0), (56, .iload_n 3, 1, 0, 0), (57, .iconst 2, 1, 2, 0), (58, .iload_n 2, 1, 0, 0), (59, .invokevirtual 36, 3, 0, 0), (62, .iload 4, 2, 0, 0), (64, .ireturn, 1, 0, 0)]
theorem tkX6_hurry : ∀ x ∈ tbX6_hurry, tbB cX6_hurry x = true := tb_all (by decide +kernel)
def fX6_hurry (c : Nat → Option Nat) (h : Hp) (a0 : Option Nat) (a1 : Int32) (a2 : Int32) : Rs := wr h a0 8 0 (.inl (0 : Int32)) (fun h1 => ck h1 a0 8 (cc (fX6_recordOf c h1 a0 a1) (kI fun h2 x3 => if x3 = (-6 : Int32) then (some (h2, some (.inl (-1 : Int32)))) else (cc (fX6_in c h2 a2 (0 : Int32) (3 : Int32)) (kI fun h4 x5 => if x5 = 0 then (some (h4, some (.inl (-2 : Int32)))) else (ck h4 a0 8 (cc (fX6_of c h4 a0 x3 (3 : Int32)) (kI fun h6 x7 => if x7 = 0 then (ck h6 a0 8 (cc (fX6_records c h6 a0) (kV fun h8 => ck h8 a0 8 (cc (fX6_of c h8 a0 x3 (2 : Int32)) (kI fun h9 x10 => ck h9 a0 8 (cc (fX6_lay c h9 a0 x3 (2 : Int32) a2) (kV fun h11 => some (h11, some (.inl x10))))))))) else (some (h6, some (.inl (-5 : Int32))))))))))))
set_option maxHeartbeats 4000000 in
set_option maxRecDepth 100000 in
theorem soX6_hurry (X : Cx) (h : Hp) (a0 : Option Nat) (a1 : Int32) (a2 : Int32) : SO X mX6_hurry [.inr (.inr a0), .inl a1, .inl a2] h (fX6_hurry X.2.2.2 h a0 a1 a2) := by
  refine so_of (by decide +kernel) (Nat.le_of_ble_eq_true rfl) ?_
  show Gd X mX6_hurry h (fX6_hurry X.2.2.2 h a0 a1 a2) h 0 [some (.inr (.inr a0)), some (.inl a1), some (.inl a2), none, none] []
  unfold fX6_hurry
  refine q_run tkX6_hurry 0 2 (pc' := 2) (L' := [some (.inr (.inr a0)), some (.inl a1), some (.inl a2), none, none]) (st' := [.inl (0 : Int32), .inr (.inr a0)]) rfl ?_
  refine q_wr RX6 TX6 15 (tbm tkX6_hurry (i := 2) rfl) rfl (Nat.le_of_ble_eq_true rfl) (Or.inl rfl) wd_935 (fun h1 => ?_)
  refine q_run tkX6_hurry 3 2 (pc' := 7) (L' := [some (.inr (.inr a0)), some (.inl a1), some (.inl a2), none, none]) (st' := [.inl a1, .inr (.inr a0)]) rfl ?_
  refine q_cv (r := a0) (ci := 8) (n := 1) (as := [.inl a1]) (st := []) TX6 15 (soX6_recordOf X h1 a0 a1) (tbm tkX6_hurry (i := 5) rfl) rfl rfl ceX6_recordOf wd_1081 wd_34 wd_1079 rfl (Nat.le_of_ble_eq_true rfl) (kI_gd (fun h2 x3 => ?_))
  refine q_run tkX6_hurry 6 3 (pc' := 14) (L' := [some (.inr (.inr a0)), some (.inl a1), some (.inl a2), some (.inl x3), none]) (st' := [.inl (-6 : Int32), .inl x3]) rfl ?_
  refine q_icmp_ne (tbm tkX6_hurry (i := 9) rfl) ?_ ?_
  · refine q_run tkX6_hurry 10 1 (pc' := 18) (L' := [some (.inr (.inr a0)), some (.inl a1), some (.inl a2), some (.inl x3), none]) (st' := [.inl (-1 : Int32)]) rfl ?_
    exact q_iret (tbm tkX6_hurry (i := 11) rfl) rfl
  · refine q_run tkX6_hurry 12 3 (pc' := 22) (L' := [some (.inr (.inr a0)), some (.inl a1), some (.inl a2), some (.inl x3), none]) (st' := [.inl (3 : Int32), .inl (0 : Int32), .inl a2]) rfl ?_
    refine q_cs (n := 3) (as := [.inl a2, .inl (0 : Int32), .inl (3 : Int32)]) (st := []) (soX6_in X h2 a2 (0 : Int32) (3 : Int32)) (tbm tkX6_hurry (i := 15) rfl) rfl ceX6_in wd_987 wd_986 rfl (Nat.le_of_ble_eq_true rfl) (kI_gd (fun h4 x5 => ?_))
    refine q_if_ne (tbm tkX6_hurry (i := 16) rfl) ?_ ?_
    · refine q_run tkX6_hurry 17 1 (pc' := 30) (L' := [some (.inr (.inr a0)), some (.inl a1), some (.inl a2), some (.inl x3), none]) (st' := [.inl (-2 : Int32)]) rfl ?_
      exact q_iret (tbm tkX6_hurry (i := 18) rfl) rfl
    · refine q_run tkX6_hurry 19 3 (pc' := 34) (L' := [some (.inr (.inr a0)), some (.inl a1), some (.inl a2), some (.inl x3), none]) (st' := [.inl (3 : Int32), .inl x3, .inr (.inr a0)]) rfl ?_
      refine q_cv (r := a0) (ci := 8) (n := 2) (as := [.inl x3, .inl (3 : Int32)]) (st := []) TX6 15 (soX6_of X h4 a0 x3 (3 : Int32)) (tbm tkX6_hurry (i := 22) rfl) rfl rfl ceX6_of wd_1016 wd_21 wd_1014 rfl (Nat.le_of_ble_eq_true rfl) (kI_gd (fun h6 x7 => ?_))
      refine q_if_eq (tbm tkX6_hurry (i := 23) rfl) ?_ ?_
      · refine q_run tkX6_hurry 26 1 (pc' := 44) (L' := [some (.inr (.inr a0)), some (.inl a1), some (.inl a2), some (.inl x3), none]) (st' := [.inr (.inr a0)]) rfl ?_
        refine q_cv (r := a0) (ci := 8) (n := 0) (as := []) (st := []) TX6 15 (soX6_records X h6 a0) (tbm tkX6_hurry (i := 27) rfl) rfl rfl ceX6_records wd_997 wd_18 wd_995 rfl (Nat.le_of_ble_eq_true rfl) (kV_gd (fun h8 => ?_))
        refine q_run tkX6_hurry 28 3 (pc' := 50) (L' := [some (.inr (.inr a0)), some (.inl a1), some (.inl a2), some (.inl x3), none]) (st' := [.inl (2 : Int32), .inl x3, .inr (.inr a0)]) rfl ?_
        refine q_cv (r := a0) (ci := 8) (n := 2) (as := [.inl x3, .inl (2 : Int32)]) (st := []) TX6 15 (soX6_of X h8 a0 x3 (2 : Int32)) (tbm tkX6_hurry (i := 31) rfl) rfl rfl ceX6_of wd_1016 wd_21 wd_1014 rfl (Nat.le_of_ble_eq_true rfl) (kI_gd (fun h9 x10 => ?_))
        refine q_run tkX6_hurry 32 5 (pc' := 59) (L' := [some (.inr (.inr a0)), some (.inl a1), some (.inl a2), some (.inl x3), some (.inl x10)]) (st' := [.inl a2, .inl (2 : Int32), .inl x3, .inr (.inr a0)]) rfl ?_
        refine q_cv (r := a0) (ci := 8) (n := 3) (as := [.inl x3, .inl (2 : Int32), .inl a2]) (st := []) TX6 15 (soX6_lay X h9 a0 x3 (2 : Int32) a2) (tbm tkX6_hurry (i := 37) rfl) rfl rfl ceX6_lay wd_933 wd_17 wd_931 rfl (Nat.le_of_ble_eq_true rfl) (kV_gd (fun h11 => ?_))
        refine q_run tkX6_hurry 38 1 (pc' := 64) (L' := [some (.inr (.inr a0)), some (.inl a1), some (.inl a2), some (.inl x3), some (.inl x10)]) (st' := [.inl x10]) rfl ?_
        exact q_iret (tbm tkX6_hurry (i := 39) rfl) rfl
      · refine q_run tkX6_hurry 24 1 (pc' := 42) (L' := [some (.inr (.inr a0)), some (.inl a1), some (.inl a2), some (.inl x3), none]) (st' := [.inl (-5 : Int32)]) rfl ?_
        exact q_iret (tbm tkX6_hurry (i := 25) rfl) rfl
theorem ceX6_hurry : Ce mX6_hurry 2 := ⟨wd_81, wd_1078, by decide +kernel, by decide +kernel, by decide +kernel⟩
/-- ReceiptRollsModel.newRoll -/
abbrev mX6_newRoll : MI := (yX6_newRoll, cX6_newRoll, 2, some .int, 1)
def tbX6_newRoll : List TE := [(0, .aload_n 0, 1, 0, 0), (1, .iconst 0, 1, 0, 0), (2, .putfield 32, 3, 0, 0), (5, .aload_n 0, 1, 0, 0), (6, .invokevirtual 190, 3, 0, 0), (9, .aload_n 0, 1, 0, 0), (10, .getfield 7, 3, 0, 0), (13, .bipush 7, 2, 7, 0), (15, .iaload, 1, 0, 0), (16, .istore_n 1, 1, 0, 0), (17, .aload_n 0, 1, 0, 0), (18, .getfield 7, 3, 0, 0), (21, .bipush 11, 2, 11, 0), (23, .dup2, 1, 0, 0), (24, .iaload, 1, 0, 0), (25, .iload_n 1, 1, 0, 0), (26, .iadd, 1, 0, 0), (27, .iastore, 1, 0, 0), (28, .aload_n 0, 1, 0, 0), (29, .getfield 7, 3, 0, 0), (32, .bipush 10, 2, 10, 0), (34, .dup2, 1, 0, 0), (35, .iaload, 1, 0, 0), (36, .iconst 1, 1, 1, 0), (37, .iadd, 1, 0, 0), (38, .iastore, 1, 0, 0), (39, .aload_n 0, 1, 0, 0), (40, .getfield 7, 3, 0, 0), (43, .bipush 7, 2, 7, 0), (45, .aload_n 0, 1, 0, 0), (46, .getfield 7, 3, 0, 0), (49, .iconst 1, 1, 1, 0), (50, .iaload, 1, 0, 0), (51, .iastore, 1, 0, 0), (52, .iload_n 1, 1, 0, 0), (53, .ireturn, 1, 0, 0)]
theorem tkX6_newRoll : ∀ x ∈ tbX6_newRoll, tbB cX6_newRoll x = true := tb_all (by decide +kernel)
def fX6_newRoll (c : Nat → Option Nat) (h : Hp) (a0 : Option Nat) : Rs := wr h a0 8 0 (.inl (0 : Int32)) (fun h1 => ck h1 a0 8 (cc (fX6_records c h1 a0) (kV fun h2 => rdR h2 a0 8 1 (fun r3 => aldI h2 r3 [0, 10] (7 : Int32) (fun x4 => rdR h2 a0 8 1 (fun r5 => aldI h2 r5 [0, 10] (11 : Int32) (fun x6 => astI h2 r5 [0] (11 : Int32) (x6 + x4) (fun h7 => rdR h7 a0 8 1 (fun r8 => aldI h7 r8 [0, 10] (10 : Int32) (fun x9 => astI h7 r8 [0] (10 : Int32) (x9 + (1 : Int32)) (fun h10 => rdR h10 a0 8 1 (fun r11 => rdR h10 a0 8 1 (fun r12 => aldI h10 r12 [0, 10] (1 : Int32) (fun x13 => astI h10 r11 [0] (7 : Int32) x13 (fun h14 => some (h14, some (.inl x4)))))))))))))))))
set_option maxHeartbeats 4000000 in
set_option maxRecDepth 100000 in
theorem soX6_newRoll (X : Cx) (h : Hp) (a0 : Option Nat) : SO X mX6_newRoll [.inr (.inr a0)] h (fX6_newRoll X.2.2.2 h a0) := by
  refine so_of (by decide +kernel) (Nat.le_of_ble_eq_true rfl) ?_
  show Gd X mX6_newRoll h (fX6_newRoll X.2.2.2 h a0) h 0 [some (.inr (.inr a0)), none] []
  unfold fX6_newRoll
  refine q_run tkX6_newRoll 0 2 (pc' := 2) (L' := [some (.inr (.inr a0)), none]) (st' := [.inl (0 : Int32), .inr (.inr a0)]) rfl ?_
  refine q_wr RX6 TX6 15 (tbm tkX6_newRoll (i := 2) rfl) rfl (Nat.le_of_ble_eq_true rfl) (Or.inl rfl) wd_935 (fun h1 => ?_)
  refine q_run tkX6_newRoll 3 1 (pc' := 6) (L' := [some (.inr (.inr a0)), none]) (st' := [.inr (.inr a0)]) rfl ?_
  refine q_cv (r := a0) (ci := 8) (n := 0) (as := []) (st := []) TX6 15 (soX6_records X h1 a0) (tbm tkX6_newRoll (i := 4) rfl) rfl rfl ceX6_records wd_997 wd_18 wd_995 rfl (Nat.le_of_ble_eq_true rfl) (kV_gd (fun h2 => ?_))
  refine q_run tkX6_newRoll 5 1 (pc' := 10) (L' := [some (.inr (.inr a0)), none]) (st' := [.inr (.inr a0)]) rfl ?_
  refine q_rdR RX6 TX6 15 (tbm tkX6_newRoll (i := 6) rfl) rfl (Nat.le_of_ble_eq_true rfl) wd_936 (fun r3 => ?_)
  refine q_run tkX6_newRoll 7 1 (pc' := 15) (L' := [some (.inr (.inr a0)), none]) (st' := [.inl (7 : Int32), .inr (.inr r3)]) rfl ?_
  refine q_iaload (tbm tkX6_newRoll (i := 8) rfl) (fun x4 => ?_)
  refine q_run tkX6_newRoll 9 2 (pc' := 18) (L' := [some (.inr (.inr a0)), some (.inl x4)]) (st' := [.inr (.inr a0)]) rfl ?_
  refine q_rdR RX6 TX6 15 (tbm tkX6_newRoll (i := 11) rfl) rfl (Nat.le_of_ble_eq_true rfl) wd_936 (fun r5 => ?_)
  refine q_run tkX6_newRoll 12 2 (pc' := 24) (L' := [some (.inr (.inr a0)), some (.inl x4)]) (st' := [.inl (11 : Int32), .inr (.inr r5), .inl (11 : Int32), .inr (.inr r5)]) rfl ?_
  refine q_iaload (tbm tkX6_newRoll (i := 14) rfl) (fun x6 => ?_)
  refine q_run tkX6_newRoll 15 2 (pc' := 27) (L' := [some (.inr (.inr a0)), some (.inl x4)]) (st' := [.inl (x6 + x4), .inl (11 : Int32), .inr (.inr r5)]) rfl ?_
  refine q_iastore (tbm tkX6_newRoll (i := 17) rfl) (fun h7 => ?_)
  refine q_run tkX6_newRoll 18 1 (pc' := 29) (L' := [some (.inr (.inr a0)), some (.inl x4)]) (st' := [.inr (.inr a0)]) rfl ?_
  refine q_rdR RX6 TX6 15 (tbm tkX6_newRoll (i := 19) rfl) rfl (Nat.le_of_ble_eq_true rfl) wd_936 (fun r8 => ?_)
  refine q_run tkX6_newRoll 20 2 (pc' := 35) (L' := [some (.inr (.inr a0)), some (.inl x4)]) (st' := [.inl (10 : Int32), .inr (.inr r8), .inl (10 : Int32), .inr (.inr r8)]) rfl ?_
  refine q_iaload (tbm tkX6_newRoll (i := 22) rfl) (fun x9 => ?_)
  refine q_run tkX6_newRoll 23 2 (pc' := 38) (L' := [some (.inr (.inr a0)), some (.inl x4)]) (st' := [.inl (x9 + (1 : Int32)), .inl (10 : Int32), .inr (.inr r8)]) rfl ?_
  refine q_iastore (tbm tkX6_newRoll (i := 25) rfl) (fun h10 => ?_)
  refine q_run tkX6_newRoll 26 1 (pc' := 40) (L' := [some (.inr (.inr a0)), some (.inl x4)]) (st' := [.inr (.inr a0)]) rfl ?_
  refine q_rdR RX6 TX6 15 (tbm tkX6_newRoll (i := 27) rfl) rfl (Nat.le_of_ble_eq_true rfl) wd_936 (fun r11 => ?_)
  refine q_run tkX6_newRoll 28 2 (pc' := 46) (L' := [some (.inr (.inr a0)), some (.inl x4)]) (st' := [.inr (.inr a0), .inl (7 : Int32), .inr (.inr r11)]) rfl ?_
  refine q_rdR RX6 TX6 15 (tbm tkX6_newRoll (i := 30) rfl) rfl (Nat.le_of_ble_eq_true rfl) wd_936 (fun r12 => ?_)
  refine q_run tkX6_newRoll 31 1 (pc' := 50) (L' := [some (.inr (.inr a0)), some (.inl x4)]) (st' := [.inl (1 : Int32), .inr (.inr r12), .inl (7 : Int32), .inr (.inr r11)]) rfl ?_
  refine q_iaload (tbm tkX6_newRoll (i := 32) rfl) (fun x13 => ?_)
  refine q_iastore (tbm tkX6_newRoll (i := 33) rfl) (fun h14 => ?_)
  refine q_run tkX6_newRoll 34 1 (pc' := 53) (L' := [some (.inr (.inr a0)), some (.inl x4)]) (st' := [.inl x4]) rfl ?_
  exact q_iret (tbm tkX6_newRoll (i := 35) rfl) rfl
theorem ceX6_newRoll : Ce mX6_newRoll 0 := ⟨wd_81, wd_1086, by decide +kernel, by decide +kernel, by decide +kernel⟩
/-- ReceiptRollsModel.printedNow -/
abbrev mX6_printedNow : MI := (yX6_printedNow, cX6_printedNow, 2, some .int, 2)
def tbX6_printedNow : List TE := [(0, .iconst 3, 1, 3, 0), (1, .istore_n 1, 1, 0, 0), (2, .iload_n 1, 1, 0, 0), (3, .bipush 21, 2, 21, 0), (5, .if_icmp .ge 20, 3, 0, 25), (8, .aload_n 0, 1, 0, 0), (9, .iload_n 1, 1, 0, 0), (10, .iconst 1, 1, 1, 0), (11, .invokevirtual 149, 3, 0, 0), (14, .ifCond .eq 5, 3, 0, 19), (17, .iload_n 1, 1, 0, 0), (18, .ireturn, 1, 0, 0), (19, .iinc 1 1, 3, 1, 0), (22, .goto (-20), 3, 0, 2), (25, .bipush (-6), 2, -6, 0), (27, .ireturn, 1, 0, 0)]
theorem tkX6_printedNow : ∀ x ∈ tbX6_printedNow, tbB cX6_printedNow x = true := tb_all (by decide +kernel)
def fX6_printedNow_2 (c : Nat → Option Nat) : Nat → Hp → Option Nat → Int32 → Rs
  | 0, _, _, _ => none
  | n + 1, h, l0, l1 => if l1 < (21 : Int32) then (ck h l0 8 (cc (fX6_isHow c h l0 l1 (1 : Int32)) (kI fun h1 x2 => if x2 = 0 then (fX6_printedNow_2 c n h1 l0 (l1 + (1 : Int32))) else (some (h1, some (.inl l1)))))) else (some (h, some (.inl (-6 : Int32))))
set_option maxHeartbeats 4000000 in
set_option maxRecDepth 100000 in
theorem sX6_printedNow_2 (X : Cx) {h0 : Hp} : ∀ (n : Nat) (h : Hp) (l0 : Option Nat) (l1 : Int32), Gd X mX6_printedNow h0 (fX6_printedNow_2 X.2.2.2 n h l0 l1) h 2 [some (.inr (.inr l0)), some (.inl l1)] [] := by
  intro n
  induction n with
  | zero => intros; exact gd_none
  | succ n ih =>
    intro h l0 l1
    unfold fX6_printedNow_2
    refine q_run tkX6_printedNow 2 2 (pc' := 5) (L' := [some (.inr (.inr l0)), some (.inl l1)]) (st' := [.inl (21 : Int32), .inl l1]) rfl ?_
    refine q_icmp_ge (tbm tkX6_printedNow (i := 4) rfl) ?_ ?_
    · refine q_run tkX6_printedNow 5 3 (pc' := 11) (L' := [some (.inr (.inr l0)), some (.inl l1)]) (st' := [.inl (1 : Int32), .inl l1, .inr (.inr l0)]) rfl ?_
      refine q_cv (r := l0) (ci := 8) (n := 2) (as := [.inl l1, .inl (1 : Int32)]) (st := []) TX6 15 (soX6_isHow X h l0 l1 (1 : Int32)) (tbm tkX6_printedNow (i := 8) rfl) rfl rfl ceX6_isHow wd_1065 wd_31 wd_1063 rfl (Nat.le_of_ble_eq_true rfl) (kI_gd (fun h1 x2 => ?_))
      refine q_if_eq (tbm tkX6_printedNow (i := 9) rfl) ?_ ?_
      · refine q_run tkX6_printedNow 12 2 (pc' := 2) (L' := [some (.inr (.inr l0)), some (.inl (l1 + (1 : Int32)))]) (st' := []) rfl ?_
        exact ih h1 l0 (l1 + (1 : Int32))
      · refine q_run tkX6_printedNow 10 1 (pc' := 18) (L' := [some (.inr (.inr l0)), some (.inl l1)]) (st' := [.inl l1]) rfl ?_
        exact q_iret (tbm tkX6_printedNow (i := 11) rfl) rfl
    · refine q_run tkX6_printedNow 14 1 (pc' := 27) (L' := [some (.inr (.inr l0)), some (.inl l1)]) (st' := [.inl (-6 : Int32)]) rfl ?_
      exact q_iret (tbm tkX6_printedNow (i := 15) rfl) rfl
def fX6_printedNow (c : Nat → Option Nat) (h : Hp) (a0 : Option Nat) : Rs := fX6_printedNow_2 c FU h a0 (3 : Int32)
set_option maxHeartbeats 4000000 in
set_option maxRecDepth 100000 in
theorem soX6_printedNow (X : Cx) (h : Hp) (a0 : Option Nat) : SO X mX6_printedNow [.inr (.inr a0)] h (fX6_printedNow X.2.2.2 h a0) := by
  refine so_of (by decide +kernel) (Nat.le_of_ble_eq_true rfl) ?_
  show Gd X mX6_printedNow h (fX6_printedNow X.2.2.2 h a0) h 0 [some (.inr (.inr a0)), none] []
  unfold fX6_printedNow
  refine q_run tkX6_printedNow 0 2 (pc' := 2) (L' := [some (.inr (.inr a0)), some (.inl (3 : Int32))]) (st' := []) rfl ?_
  exact sX6_printedNow_2 X FU h a0 (3 : Int32)
theorem ceX6_printedNow : Ce mX6_printedNow 0 := ⟨wd_81, wd_1094, by decide +kernel, by decide +kernel, by decide +kernel⟩
/-- ReceiptRollsModel.widthOf -/
abbrev mX6_widthOf : MI := (yX6_widthOf, cX6_widthOf, 2, some .int, 1)
def tbX6_widthOf : List TE := [(0, .iload_n 1, 1, 0, 0), (1, .iconst 3, 1, 3, 0), (2, .if_icmp .ge 12, 3, 0, 14), (5, .aload_n 0, 1, 0, 0), (6, .getfield 7, 3, 0, 0), (9, .iconst 0, 1, 0, 0), (10, .iaload, 1, 0, 0), (11, .goto 9, 3, 0, 20), (14, .aload_n 0, 1, 0, 0), (15, .iload_n 1, 1, 0, 0), (16, .iconst 4, 1, 4, 0), (17, .invokevirtual 47, 3, 0, 0), (20, .ireturn, 1, 0, 0)]
theorem tkX6_widthOf : ∀ x ∈ tbX6_widthOf, tbB cX6_widthOf x = true := tb_all (by decide +kernel)
def fX6_widthOf_20 (c : Nat → Option Nat) (h : Hp) (s0 : Int32) : Rs := some (h, some (.inl s0))
set_option maxHeartbeats 4000000 in
set_option maxRecDepth 100000 in
theorem sX6_widthOf_20 (X : Cx) {h0 : Hp} (h : Hp) (s0 : Int32) : Gd X mX6_widthOf h0 (fX6_widthOf_20 X.2.2.2 h s0) h 20 [none, none] [.inl s0] := by
  unfold fX6_widthOf_20
  exact q_iret (tbm tkX6_widthOf (i := 12) rfl) rfl
def fX6_widthOf (c : Nat → Option Nat) (h : Hp) (a0 : Option Nat) (a1 : Int32) : Rs := if a1 < (3 : Int32) then (rdR h a0 8 1 (fun r1 => aldI h r1 [0, 10] (0 : Int32) (fun x2 => fX6_widthOf_20 c h x2))) else (ck h a0 8 (cc (fX6_of c h a0 a1 (4 : Int32)) (kI fun h3 x4 => fX6_widthOf_20 c h3 x4)))
set_option maxHeartbeats 4000000 in
set_option maxRecDepth 100000 in
theorem soX6_widthOf (X : Cx) (h : Hp) (a0 : Option Nat) (a1 : Int32) : SO X mX6_widthOf [.inr (.inr a0), .inl a1] h (fX6_widthOf X.2.2.2 h a0 a1) := by
  refine so_of (by decide +kernel) (Nat.le_of_ble_eq_true rfl) ?_
  show Gd X mX6_widthOf h (fX6_widthOf X.2.2.2 h a0 a1) h 0 [some (.inr (.inr a0)), some (.inl a1)] []
  unfold fX6_widthOf
  refine q_run tkX6_widthOf 0 2 (pc' := 2) (L' := [some (.inr (.inr a0)), some (.inl a1)]) (st' := [.inl (3 : Int32), .inl a1]) rfl ?_
  refine q_icmp_ge (tbm tkX6_widthOf (i := 2) rfl) ?_ ?_
  · refine q_run tkX6_widthOf 3 1 (pc' := 6) (L' := [some (.inr (.inr a0)), some (.inl a1)]) (st' := [.inr (.inr a0)]) rfl ?_
    refine q_rdR RX6 TX6 15 (tbm tkX6_widthOf (i := 4) rfl) rfl (Nat.le_of_ble_eq_true rfl) wd_936 (fun r1 => ?_)
    refine q_run tkX6_widthOf 5 1 (pc' := 10) (L' := [some (.inr (.inr a0)), some (.inl a1)]) (st' := [.inl (0 : Int32), .inr (.inr r1)]) rfl ?_
    refine q_iaload (tbm tkX6_widthOf (i := 6) rfl) (fun x2 => ?_)
    refine q_run tkX6_widthOf 7 1 (pc' := 20) (L' := [some (.inr (.inr a0)), some (.inl a1)]) (st' := [.inl x2]) rfl ?_
    refine q_le (L' := [none, none]) (lvLe_n (lvLe_n lvLe_0)) ?_
    exact sX6_widthOf_20 X h x2
  · refine q_run tkX6_widthOf 8 3 (pc' := 17) (L' := [some (.inr (.inr a0)), some (.inl a1)]) (st' := [.inl (4 : Int32), .inl a1, .inr (.inr a0)]) rfl ?_
    refine q_cv (r := a0) (ci := 8) (n := 2) (as := [.inl a1, .inl (4 : Int32)]) (st := []) TX6 15 (soX6_of X h a0 a1 (4 : Int32)) (tbm tkX6_widthOf (i := 11) rfl) rfl rfl ceX6_of wd_1016 wd_21 wd_1014 rfl (Nat.le_of_ble_eq_true rfl) (kI_gd (fun h3 x4 => ?_))
    refine q_le (L' := [none, none]) (lvLe_n (lvLe_n lvLe_0)) ?_
    exact sX6_widthOf_20 X h3 x4
theorem ceX6_widthOf : Ce mX6_widthOf 1 := ⟨wd_81, wd_1098, by decide +kernel, by decide +kernel, by decide +kernel⟩
/-- ReceiptRollsModel.puts -/
abbrev mX6_puts : MI := (yX6_puts, cX6_puts, 3, none, 0)
def tbX6_puts : List TE := [(0, .aload_n 0, 1, 0, 0), (1, .getfield 74, 3, 0, 0), (4, .aload_n 0, 1, 0, 0), (5, .getfield 77, 3, 0, 0), (8, .if_icmp .ne 10, 3, 0, 18), (11, .aload_n 0, 1, 0, 0), (12, .getfield 26, 3, 0, 0), (15, .iload_n 1, 1, 0, 0), (16, .iload_n 2, 1, 0, 0), (17, .iastore, 1, 0, 0), (18, .return_, 1, 0, 0)]
theorem tkX6_puts : ∀ x ∈ tbX6_puts, tbB cX6_puts x = true := tb_all (by decide +kernel)
def fX6_puts_18 (c : Nat → Option Nat) (h : Hp) : Rs := some (h, none)
set_option maxHeartbeats 4000000 in
set_option maxRecDepth 100000 in
theorem sX6_puts_18 (X : Cx) {h0 : Hp} (h : Hp) : Gd X mX6_puts h0 (fX6_puts_18 X.2.2.2 h) h 18 [none, none, none] [] := by
  unfold fX6_puts_18
  exact q_vret (tbm tkX6_puts (i := 10) rfl) rfl
def fX6_puts (c : Nat → Option Nat) (h : Hp) (a0 : Option Nat) (a1 : Int32) (a2 : Int32) : Rs := rdI h a0 8 10 (fun x1 => rdI h a0 8 9 (fun x2 => if x1 = x2 then (rdR h a0 8 8 (fun r3 => astI h r3 [0] a1 a2 (fun h4 => fX6_puts_18 c h4))) else (fX6_puts_18 c h)))
set_option maxHeartbeats 4000000 in
set_option maxRecDepth 100000 in
theorem soX6_puts (X : Cx) (h : Hp) (a0 : Option Nat) (a1 : Int32) (a2 : Int32) : SO X mX6_puts [.inr (.inr a0), .inl a1, .inl a2] h (fX6_puts X.2.2.2 h a0 a1 a2) := by
  refine so_of (by decide +kernel) (Nat.le_of_ble_eq_true rfl) ?_
  show Gd X mX6_puts h (fX6_puts X.2.2.2 h a0 a1 a2) h 0 [some (.inr (.inr a0)), some (.inl a1), some (.inl a2)] []
  unfold fX6_puts
  refine q_run tkX6_puts 0 1 (pc' := 1) (L' := [some (.inr (.inr a0)), some (.inl a1), some (.inl a2)]) (st' := [.inr (.inr a0)]) rfl ?_
  refine q_rdI RX6 TX6 15 (tbm tkX6_puts (i := 1) rfl) rfl (Nat.le_of_ble_eq_true rfl) wd_945 (fun x1 => ?_)
  refine q_run tkX6_puts 2 1 (pc' := 5) (L' := [some (.inr (.inr a0)), some (.inl a1), some (.inl a2)]) (st' := [.inr (.inr a0), .inl x1]) rfl ?_
  refine q_rdI RX6 TX6 15 (tbm tkX6_puts (i := 3) rfl) rfl (Nat.le_of_ble_eq_true rfl) wd_944 (fun x2 => ?_)
  refine q_icmp_ne (tbm tkX6_puts (i := 4) rfl) ?_ ?_
  · refine q_run tkX6_puts 5 1 (pc' := 12) (L' := [some (.inr (.inr a0)), some (.inl a1), some (.inl a2)]) (st' := [.inr (.inr a0)]) rfl ?_
    refine q_rdR RX6 TX6 15 (tbm tkX6_puts (i := 6) rfl) rfl (Nat.le_of_ble_eq_true rfl) wd_943 (fun r3 => ?_)
    refine q_run tkX6_puts 7 2 (pc' := 17) (L' := [some (.inr (.inr a0)), some (.inl a1), some (.inl a2)]) (st' := [.inl a2, .inl a1, .inr (.inr r3)]) rfl ?_
    refine q_iastore (tbm tkX6_puts (i := 9) rfl) (fun h4 => ?_)
    refine q_le (L' := [none, none, none]) (lvLe_n (lvLe_n (lvLe_n lvLe_0))) ?_
    exact sX6_puts_18 X h4
  · refine q_le (L' := [none, none, none]) (lvLe_n (lvLe_n (lvLe_n lvLe_0))) ?_
    exact sX6_puts_18 X h
theorem ceX6_puts : Ce mX6_puts 2 := ⟨wd_81, wd_1110, by decide +kernel, by decide +kernel, by decide +kernel⟩
/-- ReceiptRollsModel.lays -/
abbrev mX6_lays : MI := (yX6_lays, cX6_lays, 2, none, 1)
def tbX6_lays : List TE := [(0, .aload_n 0, 1, 0, 0), (1, .aload_n 0, 1, 0, 0), (2, .getfield 80, 3, 0, 0), (5, .iload_n 1, 1, 0, 0), (6, .invokevirtual 83, 3, 0, 0), (9, .aload_n 0, 1, 0, 0), (10, .dup, 1, 0, 0), (11, .getfield 80, 3, 0, 0), (14, .iconst 1, 1, 1, 0), (15, .iadd, 1, 0, 0), (16, .putfield 80, 3, 0, 0), (19, .return_, 1, 0, 0)]
theorem tkX6_lays : ∀ x ∈ tbX6_lays, tbB cX6_lays x = true := tb_all (by decide +kernel)
def fX6_lays (c : Nat → Option Nat) (h : Hp) (a0 : Option Nat) (a1 : Int32) : Rs := rdI h a0 8 11 (fun x1 => ck h a0 8 (cc (fX6_puts c h a0 x1 a1) (kV fun h2 => rdI h2 a0 8 11 (fun x3 => wr h2 a0 8 11 (.inl (x3 + (1 : Int32))) (fun h4 => some (h4, none))))))
set_option maxHeartbeats 4000000 in
set_option maxRecDepth 100000 in
theorem soX6_lays (X : Cx) (h : Hp) (a0 : Option Nat) (a1 : Int32) : SO X mX6_lays [.inr (.inr a0), .inl a1] h (fX6_lays X.2.2.2 h a0 a1) := by
  refine so_of (by decide +kernel) (Nat.le_of_ble_eq_true rfl) ?_
  show Gd X mX6_lays h (fX6_lays X.2.2.2 h a0 a1) h 0 [some (.inr (.inr a0)), some (.inl a1)] []
  unfold fX6_lays
  refine q_run tkX6_lays 0 2 (pc' := 2) (L' := [some (.inr (.inr a0)), some (.inl a1)]) (st' := [.inr (.inr a0), .inr (.inr a0)]) rfl ?_
  refine q_rdI RX6 TX6 15 (tbm tkX6_lays (i := 2) rfl) rfl (Nat.le_of_ble_eq_true rfl) wd_946 (fun x1 => ?_)
  refine q_run tkX6_lays 3 1 (pc' := 6) (L' := [some (.inr (.inr a0)), some (.inl a1)]) (st' := [.inl a1, .inl x1, .inr (.inr a0)]) rfl ?_
  refine q_cv (r := a0) (ci := 8) (n := 2) (as := [.inl x1, .inl a1]) (st := []) TX6 15 (soX6_puts X h a0 x1 a1) (tbm tkX6_lays (i := 4) rfl) rfl rfl ceX6_puts wd_1109 wd_39 wd_1107 rfl (Nat.le_of_ble_eq_true rfl) (kV_gd (fun h2 => ?_))
  refine q_run tkX6_lays 5 2 (pc' := 11) (L' := [some (.inr (.inr a0)), some (.inl a1)]) (st' := [.inr (.inr a0), .inr (.inr a0)]) rfl ?_
  refine q_rdI RX6 TX6 15 (tbm tkX6_lays (i := 7) rfl) rfl (Nat.le_of_ble_eq_true rfl) wd_946 (fun x3 => ?_)
  refine q_run tkX6_lays 8 2 (pc' := 16) (L' := [some (.inr (.inr a0)), some (.inl a1)]) (st' := [.inl (x3 + (1 : Int32)), .inr (.inr a0)]) rfl ?_
  refine q_wr RX6 TX6 15 (tbm tkX6_lays (i := 10) rfl) rfl (Nat.le_of_ble_eq_true rfl) (Or.inl rfl) wd_946 (fun h4 => ?_)
  exact q_vret (tbm tkX6_lays (i := 11) rfl) rfl
theorem ceX6_lays : Ce mX6_lays 1 := ⟨wd_81, wd_1106, by decide +kernel, by decide +kernel, by decide +kernel⟩
/-- ReceiptRollsModel.numberOf -/
abbrev mX6_numberOf : MI := (yX6_numberOf, cX6_numberOf, 2, some .int, 1)
def tbX6_numberOf : List TE := [(0, .iload_n 1, 1, 0, 0), (1, .iconst 3, 1, 3, 0), (2, .if_icmp .ge 14, 3, 0, 16), (5, .aload_n 0, 1, 0, 0), (6, .getfield 7, 3, 0, 0), (9, .iconst 4, 1, 4, 0), (10, .iaload, 1, 0, 0), (11, .iconst 1, 1, 1, 0), (12, .iadd, 1, 0, 0), (13, .goto 9, 3, 0, 22), (16, .aload_n 0, 1, 0, 0), (17, .iload_n 1, 1, 0, 0), (18, .iconst 0, 1, 0, 0), (19, .invokevirtual 47, 3, 0, 0), (22, .ireturn, 1, 0, 0)]
theorem tkX6_numberOf : ∀ x ∈ tbX6_numberOf, tbB cX6_numberOf x = true := tb_all (by decide +kernel)
def fX6_numberOf_22 (c : Nat → Option Nat) (h : Hp) (s0 : Int32) : Rs := some (h, some (.inl s0))
set_option maxHeartbeats 4000000 in
set_option maxRecDepth 100000 in
theorem sX6_numberOf_22 (X : Cx) {h0 : Hp} (h : Hp) (s0 : Int32) : Gd X mX6_numberOf h0 (fX6_numberOf_22 X.2.2.2 h s0) h 22 [none, none] [.inl s0] := by
  unfold fX6_numberOf_22
  exact q_iret (tbm tkX6_numberOf (i := 14) rfl) rfl
def fX6_numberOf (c : Nat → Option Nat) (h : Hp) (a0 : Option Nat) (a1 : Int32) : Rs := if a1 < (3 : Int32) then (rdR h a0 8 1 (fun r1 => aldI h r1 [0, 10] (4 : Int32) (fun x2 => fX6_numberOf_22 c h (x2 + (1 : Int32))))) else (ck h a0 8 (cc (fX6_of c h a0 a1 (0 : Int32)) (kI fun h3 x4 => fX6_numberOf_22 c h3 x4)))
set_option maxHeartbeats 4000000 in
set_option maxRecDepth 100000 in
theorem soX6_numberOf (X : Cx) (h : Hp) (a0 : Option Nat) (a1 : Int32) : SO X mX6_numberOf [.inr (.inr a0), .inl a1] h (fX6_numberOf X.2.2.2 h a0 a1) := by
  refine so_of (by decide +kernel) (Nat.le_of_ble_eq_true rfl) ?_
  show Gd X mX6_numberOf h (fX6_numberOf X.2.2.2 h a0 a1) h 0 [some (.inr (.inr a0)), some (.inl a1)] []
  unfold fX6_numberOf
  refine q_run tkX6_numberOf 0 2 (pc' := 2) (L' := [some (.inr (.inr a0)), some (.inl a1)]) (st' := [.inl (3 : Int32), .inl a1]) rfl ?_
  refine q_icmp_ge (tbm tkX6_numberOf (i := 2) rfl) ?_ ?_
  · refine q_run tkX6_numberOf 3 1 (pc' := 6) (L' := [some (.inr (.inr a0)), some (.inl a1)]) (st' := [.inr (.inr a0)]) rfl ?_
    refine q_rdR RX6 TX6 15 (tbm tkX6_numberOf (i := 4) rfl) rfl (Nat.le_of_ble_eq_true rfl) wd_936 (fun r1 => ?_)
    refine q_run tkX6_numberOf 5 1 (pc' := 10) (L' := [some (.inr (.inr a0)), some (.inl a1)]) (st' := [.inl (4 : Int32), .inr (.inr r1)]) rfl ?_
    refine q_iaload (tbm tkX6_numberOf (i := 6) rfl) (fun x2 => ?_)
    refine q_run tkX6_numberOf 7 3 (pc' := 22) (L' := [some (.inr (.inr a0)), some (.inl a1)]) (st' := [.inl (x2 + (1 : Int32))]) rfl ?_
    refine q_le (L' := [none, none]) (lvLe_n (lvLe_n lvLe_0)) ?_
    exact sX6_numberOf_22 X h (x2 + (1 : Int32))
  · refine q_run tkX6_numberOf 10 3 (pc' := 19) (L' := [some (.inr (.inr a0)), some (.inl a1)]) (st' := [.inl (0 : Int32), .inl a1, .inr (.inr a0)]) rfl ?_
    refine q_cv (r := a0) (ci := 8) (n := 2) (as := [.inl a1, .inl (0 : Int32)]) (st := []) TX6 15 (soX6_of X h a0 a1 (0 : Int32)) (tbm tkX6_numberOf (i := 13) rfl) rfl rfl ceX6_of wd_1016 wd_21 wd_1014 rfl (Nat.le_of_ble_eq_true rfl) (kI_gd (fun h3 x4 => ?_))
    refine q_le (L' := [none, none]) (lvLe_n (lvLe_n lvLe_0)) ?_
    exact sX6_numberOf_22 X h3 x4
theorem ceX6_numberOf : Ce mX6_numberOf 1 := ⟨wd_81, wd_1114, by decide +kernel, by decide +kernel, by decide +kernel⟩
/-- ReceiptRollsModel.number -/
abbrev mX6_number : MI := (yX6_number, cX6_number, 3, none, 2)
def tbX6_number : List TE := [(0, .iconst 1, 1, 1, 0), (1, .istore_n 2, 1, 0, 0), (2, .iload_n 1, 1, 0, 0), (3, .iload_n 2, 1, 0, 0), (4, .idiv, 1, 0, 0), (5, .bipush 9, 2, 9, 0), (7, .if_icmp .le 11, 3, 0, 18), (10, .iload_n 2, 1, 0, 0), (11, .bipush 10, 2, 10, 0), (13, .imul, 1, 0, 0), (14, .istore_n 2, 1, 0, 0), (15, .goto (-13), 3, 0, 2), (18, .iload_n 2, 1, 0, 0), (19, .ifCond .le 24, 3, 0, 43), (22, .aload_n 0, 1, 0, 0), (23, .bipush 48, 2, 48, 0), (25, .iload_n 1, 1, 0, 0), (26, .iload_n 2, 1, 0, 0), (27, .idiv, 1, 0, 0), (28, .bipush 10, 2, 10, 0), (30, .irem, 1, 0, 0), (31, .iadd, 1, 0, 0), (32, .invokevirtual 87, 3, 0, 0), (35, .iload_n 2, 1, 0, 0), (36, .bipush 10, 2, 10, 0), (38, .idiv, 1, 0, 0), (39, .istore_n 2, 1, 0, 0), (40, .goto (-22), 3, 0, 18), (43, .return_, 1, 0, 0)]
theorem tkX6_number : ∀ x ∈ tbX6_number, tbB cX6_number x = true := tb_all (by decide +kernel)
def fX6_number_18 (c : Nat → Option Nat) : Nat → Hp → Option Nat → Int32 → Int32 → Rs
  | 0, _, _, _, _ => none
  | n + 1, h, l0, l1, l2 => if 0 < l2 then (dv l2 (dv (10 : Int32) (ck h l0 8 (cc (fX6_lays c h l0 ((48 : Int32) + ((l1 / l2) - (l1 / l2) / (10 : Int32) * (10 : Int32)))) (kV fun h1 => dv (10 : Int32) (fX6_number_18 c n h1 l0 l1 (l2 / (10 : Int32)))))))) else (some (h, none))
set_option maxHeartbeats 4000000 in
set_option maxRecDepth 100000 in
theorem sX6_number_18 (X : Cx) {h0 : Hp} : ∀ (n : Nat) (h : Hp) (l0 : Option Nat) (l1 : Int32) (l2 : Int32), Gd X mX6_number h0 (fX6_number_18 X.2.2.2 n h l0 l1 l2) h 18 [some (.inr (.inr l0)), some (.inl l1), some (.inl l2)] [] := by
  intro n
  induction n with
  | zero => intros; exact gd_none
  | succ n ih =>
    intro h l0 l1 l2
    unfold fX6_number_18
    refine q_run tkX6_number 12 1 (pc' := 19) (L' := [some (.inr (.inr l0)), some (.inl l1), some (.inl l2)]) (st' := [.inl l2]) rfl ?_
    refine q_if_le (tbm tkX6_number (i := 13) rfl) ?_ ?_
    · refine q_run tkX6_number 14 4 (pc' := 27) (L' := [some (.inr (.inr l0)), some (.inl l1), some (.inl l2)]) (st' := [.inl l2, .inl l1, .inl (48 : Int32), .inr (.inr l0)]) rfl ?_
      refine q_div (tbm tkX6_number (i := 18) rfl) ?_
      refine q_run tkX6_number 19 1 (pc' := 30) (L' := [some (.inr (.inr l0)), some (.inl l1), some (.inl l2)]) (st' := [.inl (10 : Int32), .inl (l1 / l2), .inl (48 : Int32), .inr (.inr l0)]) rfl ?_
      refine q_rem (tbm tkX6_number (i := 20) rfl) ?_
      refine q_run tkX6_number 21 1 (pc' := 32) (L' := [some (.inr (.inr l0)), some (.inl l1), some (.inl l2)]) (st' := [.inl ((48 : Int32) + ((l1 / l2) - (l1 / l2) / (10 : Int32) * (10 : Int32))), .inr (.inr l0)]) rfl ?_
      refine q_cv (r := l0) (ci := 8) (n := 1) (as := [.inl ((48 : Int32) + ((l1 / l2) - (l1 / l2) / (10 : Int32) * (10 : Int32)))]) (st := []) TX6 15 (soX6_lays X h l0 ((48 : Int32) + ((l1 / l2) - (l1 / l2) / (10 : Int32) * (10 : Int32)))) (tbm tkX6_number (i := 22) rfl) rfl rfl ceX6_lays wd_1105 wd_38 wd_1103 rfl (Nat.le_of_ble_eq_true rfl) (kV_gd (fun h1 => ?_))
      refine q_run tkX6_number 23 2 (pc' := 38) (L' := [some (.inr (.inr l0)), some (.inl l1), some (.inl l2)]) (st' := [.inl (10 : Int32), .inl l2]) rfl ?_
      refine q_div (tbm tkX6_number (i := 25) rfl) ?_
      refine q_run tkX6_number 26 2 (pc' := 18) (L' := [some (.inr (.inr l0)), some (.inl l1), some (.inl (l2 / (10 : Int32)))]) (st' := []) rfl ?_
      exact ih h1 l0 l1 (l2 / (10 : Int32))
    · exact q_vret (tbm tkX6_number (i := 28) rfl) rfl
def fX6_number_2 (c : Nat → Option Nat) : Nat → Hp → Option Nat → Int32 → Int32 → Rs
  | 0, _, _, _, _ => none
  | n + 1, h, l0, l1, l2 => dv l2 (if (9 : Int32) < (l1 / l2) then (fX6_number_2 c n h l0 l1 (l2 * (10 : Int32))) else (fX6_number_18 c FU h l0 l1 l2))
set_option maxHeartbeats 4000000 in
set_option maxRecDepth 100000 in
theorem sX6_number_2 (X : Cx) {h0 : Hp} : ∀ (n : Nat) (h : Hp) (l0 : Option Nat) (l1 : Int32) (l2 : Int32), Gd X mX6_number h0 (fX6_number_2 X.2.2.2 n h l0 l1 l2) h 2 [some (.inr (.inr l0)), some (.inl l1), some (.inl l2)] [] := by
  intro n
  induction n with
  | zero => intros; exact gd_none
  | succ n ih =>
    intro h l0 l1 l2
    unfold fX6_number_2
    refine q_run tkX6_number 2 2 (pc' := 4) (L' := [some (.inr (.inr l0)), some (.inl l1), some (.inl l2)]) (st' := [.inl l2, .inl l1]) rfl ?_
    refine q_div (tbm tkX6_number (i := 4) rfl) ?_
    refine q_run tkX6_number 5 1 (pc' := 7) (L' := [some (.inr (.inr l0)), some (.inl l1), some (.inl l2)]) (st' := [.inl (9 : Int32), .inl (l1 / l2)]) rfl ?_
    refine q_icmp_le (tbm tkX6_number (i := 6) rfl) ?_ ?_
    · refine q_run tkX6_number 7 5 (pc' := 2) (L' := [some (.inr (.inr l0)), some (.inl l1), some (.inl (l2 * (10 : Int32)))]) (st' := []) rfl ?_
      exact ih h l0 l1 (l2 * (10 : Int32))
    · exact sX6_number_18 X FU h l0 l1 l2
def fX6_number (c : Nat → Option Nat) (h : Hp) (a0 : Option Nat) (a1 : Int32) : Rs := fX6_number_2 c FU h a0 a1 (1 : Int32)
set_option maxHeartbeats 4000000 in
set_option maxRecDepth 100000 in
theorem soX6_number (X : Cx) (h : Hp) (a0 : Option Nat) (a1 : Int32) : SO X mX6_number [.inr (.inr a0), .inl a1] h (fX6_number X.2.2.2 h a0 a1) := by
  refine so_of (by decide +kernel) (Nat.le_of_ble_eq_true rfl) ?_
  show Gd X mX6_number h (fX6_number X.2.2.2 h a0 a1) h 0 [some (.inr (.inr a0)), some (.inl a1), none] []
  unfold fX6_number
  refine q_run tkX6_number 0 2 (pc' := 2) (L' := [some (.inr (.inr a0)), some (.inl a1), some (.inl (1 : Int32))]) (st' := []) rfl ?_
  exact sX6_number_2 X FU h a0 a1 (1 : Int32)
theorem ceX6_number : Ce mX6_number 1 := ⟨wd_81, wd_1118, by decide +kernel, by decide +kernel, by decide +kernel⟩
/-- ReceiptRollsModel.nextLine -/
abbrev mX6_nextLine : MI := (yX6_nextLine, cX6_nextLine, 1, none, 0)
def tbX6_nextLine : List TE := [(0, .aload_n 0, 1, 0, 0), (1, .dup, 1, 0, 0), (2, .getfield 74, 3, 0, 0), (5, .iconst 1, 1, 1, 0), (6, .iadd, 1, 0, 0), (7, .putfield 74, 3, 0, 0), (10, .aload_n 0, 1, 0, 0), (11, .iconst 0, 1, 0, 0), (12, .putfield 80, 3, 0, 0), (15, .return_, 1, 0, 0)]
theorem tkX6_nextLine : ∀ x ∈ tbX6_nextLine, tbB cX6_nextLine x = true := tb_all (by decide +kernel)
def fX6_nextLine (c : Nat → Option Nat) (h : Hp) (a0 : Option Nat) : Rs := rdI h a0 8 10 (fun x1 => wr h a0 8 10 (.inl (x1 + (1 : Int32))) (fun h2 => wr h2 a0 8 11 (.inl (0 : Int32)) (fun h3 => some (h3, none))))
set_option maxHeartbeats 4000000 in
set_option maxRecDepth 100000 in
theorem soX6_nextLine (X : Cx) (h : Hp) (a0 : Option Nat) : SO X mX6_nextLine [.inr (.inr a0)] h (fX6_nextLine X.2.2.2 h a0) := by
  refine so_of (by decide +kernel) (Nat.le_of_ble_eq_true rfl) ?_
  show Gd X mX6_nextLine h (fX6_nextLine X.2.2.2 h a0) h 0 [some (.inr (.inr a0))] []
  unfold fX6_nextLine
  refine q_run tkX6_nextLine 0 2 (pc' := 2) (L' := [some (.inr (.inr a0))]) (st' := [.inr (.inr a0), .inr (.inr a0)]) rfl ?_
  refine q_rdI RX6 TX6 15 (tbm tkX6_nextLine (i := 2) rfl) rfl (Nat.le_of_ble_eq_true rfl) wd_945 (fun x1 => ?_)
  refine q_run tkX6_nextLine 3 2 (pc' := 7) (L' := [some (.inr (.inr a0))]) (st' := [.inl (x1 + (1 : Int32)), .inr (.inr a0)]) rfl ?_
  refine q_wr RX6 TX6 15 (tbm tkX6_nextLine (i := 5) rfl) rfl (Nat.le_of_ble_eq_true rfl) (Or.inl rfl) wd_945 (fun h2 => ?_)
  refine q_run tkX6_nextLine 6 2 (pc' := 12) (L' := [some (.inr (.inr a0))]) (st' := [.inl (0 : Int32), .inr (.inr a0)]) rfl ?_
  refine q_wr RX6 TX6 15 (tbm tkX6_nextLine (i := 8) rfl) rfl (Nat.le_of_ble_eq_true rfl) (Or.inl rfl) wd_946 (fun h3 => ?_)
  exact q_vret (tbm tkX6_nextLine (i := 9) rfl) rfl
theorem ceX6_nextLine : Ce mX6_nextLine 0 := ⟨wd_81, wd_1122, by decide +kernel, by decide +kernel, by decide +kernel⟩
/-- ReceiptRollsModel.event -/
abbrev mX6_event : MI := (yX6_event, cX6_event, 3, some .int, 1)
def tbX6_event : List TE := [(0, .aload_n 0, 1, 0, 0), (1, .iload_n 1, 1, 0, 0), (2, .bipush 10, 2, 10, 0), (4, .iload_n 2, 1, 0, 0), (5, .bipush 6, 2, 6, 0), (7, .idiv, 1, 0, 0), (8, .iadd, 1, 0, 0), (9, .invokevirtual 47, 3, 0, 0), (12, .iconst 5, 1, 5, 0), (13, .iload_n 2, 1, 0, 0), (14, .bipush 6, 2, 6, 0), (16, .irem, 1, 0, 0), (17, .imul, 1, 0, 0), (18, .ishr, 1, 0, 0), (19, .bipush 31, 2, 31, 0), (21, .iand, 1, 0, 0), (22, .ireturn, 1, 0, 0)]
theorem tkX6_event : ∀ x ∈ tbX6_event, tbB cX6_event x = true := tb_all (by decide +kernel)
def fX6_event (c : Nat → Option Nat) (h : Hp) (a0 : Option Nat) (a1 : Int32) (a2 : Int32) : Rs := dv (6 : Int32) (ck h a0 8 (cc (fX6_of c h a0 a1 ((10 : Int32) + (a2 / (6 : Int32)))) (kI fun h1 x2 => dv (6 : Int32) (some (h1, some (.inl ((shrI x2 ((5 : Int32) * (a2 - a2 / (6 : Int32) * (6 : Int32)))) &&& (31 : Int32))))))))
set_option maxHeartbeats 4000000 in
set_option maxRecDepth 100000 in
theorem soX6_event (X : Cx) (h : Hp) (a0 : Option Nat) (a1 : Int32) (a2 : Int32) : SO X mX6_event [.inr (.inr a0), .inl a1, .inl a2] h (fX6_event X.2.2.2 h a0 a1 a2) := by
  refine so_of (by decide +kernel) (Nat.le_of_ble_eq_true rfl) ?_
  show Gd X mX6_event h (fX6_event X.2.2.2 h a0 a1 a2) h 0 [some (.inr (.inr a0)), some (.inl a1), some (.inl a2)] []
  unfold fX6_event
  refine q_run tkX6_event 0 5 (pc' := 7) (L' := [some (.inr (.inr a0)), some (.inl a1), some (.inl a2)]) (st' := [.inl (6 : Int32), .inl a2, .inl (10 : Int32), .inl a1, .inr (.inr a0)]) rfl ?_
  refine q_div (tbm tkX6_event (i := 5) rfl) ?_
  refine q_run tkX6_event 6 1 (pc' := 9) (L' := [some (.inr (.inr a0)), some (.inl a1), some (.inl a2)]) (st' := [.inl ((10 : Int32) + (a2 / (6 : Int32))), .inl a1, .inr (.inr a0)]) rfl ?_
  refine q_cv (r := a0) (ci := 8) (n := 2) (as := [.inl a1, .inl ((10 : Int32) + (a2 / (6 : Int32)))]) (st := []) TX6 15 (soX6_of X h a0 a1 ((10 : Int32) + (a2 / (6 : Int32)))) (tbm tkX6_event (i := 7) rfl) rfl rfl ceX6_of wd_1016 wd_21 wd_1014 rfl (Nat.le_of_ble_eq_true rfl) (kI_gd (fun h1 x2 => ?_))
  refine q_run tkX6_event 8 3 (pc' := 16) (L' := [some (.inr (.inr a0)), some (.inl a1), some (.inl a2)]) (st' := [.inl (6 : Int32), .inl a2, .inl (5 : Int32), .inl x2]) rfl ?_
  refine q_rem (tbm tkX6_event (i := 11) rfl) ?_
  refine q_run tkX6_event 12 4 (pc' := 22) (L' := [some (.inr (.inr a0)), some (.inl a1), some (.inl a2)]) (st' := [.inl ((shrI x2 ((5 : Int32) * (a2 - a2 / (6 : Int32) * (6 : Int32)))) &&& (31 : Int32))]) rfl ?_
  exact q_iret (tbm tkX6_event (i := 16) rfl) rfl
theorem ceX6_event : Ce mX6_event 2 := ⟨wd_81, wd_1126, by decide +kernel, by decide +kernel, by decide +kernel⟩
/-- ReceiptRollsModel.addsToWord -/
abbrev mX6_addsToWord : MI := (yX6_addsToWord, cX6_addsToWord, 2, none, 0)
def tbX6_addsToWord : List TE := [(0, .aload_n 0, 1, 0, 0), (1, .getfield 29, 3, 0, 0), (4, .aload_n 0, 1, 0, 0), (5, .getfield 91, 3, 0, 0), (8, .iload_n 1, 1, 0, 0), (9, .iastore, 1, 0, 0), (10, .aload_n 0, 1, 0, 0), (11, .dup, 1, 0, 0), (12, .getfield 91, 3, 0, 0), (15, .iconst 1, 1, 1, 0), (16, .iadd, 1, 0, 0), (17, .putfield 91, 3, 0, 0), (20, .return_, 1, 0, 0)]
theorem tkX6_addsToWord : ∀ x ∈ tbX6_addsToWord, tbB cX6_addsToWord x = true := tb_all (by decide +kernel)
def fX6_addsToWord (c : Nat → Option Nat) (h : Hp) (a0 : Option Nat) (a1 : Int32) : Rs := rdR h a0 8 13 (fun r1 => rdI h a0 8 14 (fun x2 => astI h r1 [0] x2 a1 (fun h3 => rdI h3 a0 8 14 (fun x4 => wr h3 a0 8 14 (.inl (x4 + (1 : Int32))) (fun h5 => some (h5, none))))))
set_option maxHeartbeats 4000000 in
set_option maxRecDepth 100000 in
theorem soX6_addsToWord (X : Cx) (h : Hp) (a0 : Option Nat) (a1 : Int32) : SO X mX6_addsToWord [.inr (.inr a0), .inl a1] h (fX6_addsToWord X.2.2.2 h a0 a1) := by
  refine so_of (by decide +kernel) (Nat.le_of_ble_eq_true rfl) ?_
  show Gd X mX6_addsToWord h (fX6_addsToWord X.2.2.2 h a0 a1) h 0 [some (.inr (.inr a0)), some (.inl a1)] []
  unfold fX6_addsToWord
  refine q_run tkX6_addsToWord 0 1 (pc' := 1) (L' := [some (.inr (.inr a0)), some (.inl a1)]) (st' := [.inr (.inr a0)]) rfl ?_
  refine q_rdR RX6 TX6 15 (tbm tkX6_addsToWord (i := 1) rfl) rfl (Nat.le_of_ble_eq_true rfl) wd_948 (fun r1 => ?_)
  refine q_run tkX6_addsToWord 2 1 (pc' := 5) (L' := [some (.inr (.inr a0)), some (.inl a1)]) (st' := [.inr (.inr a0), .inr (.inr r1)]) rfl ?_
  refine q_rdI RX6 TX6 15 (tbm tkX6_addsToWord (i := 3) rfl) rfl (Nat.le_of_ble_eq_true rfl) wd_949 (fun x2 => ?_)
  refine q_run tkX6_addsToWord 4 1 (pc' := 9) (L' := [some (.inr (.inr a0)), some (.inl a1)]) (st' := [.inl a1, .inl x2, .inr (.inr r1)]) rfl ?_
  refine q_iastore (tbm tkX6_addsToWord (i := 5) rfl) (fun h3 => ?_)
  refine q_run tkX6_addsToWord 6 2 (pc' := 12) (L' := [some (.inr (.inr a0)), some (.inl a1)]) (st' := [.inr (.inr a0), .inr (.inr a0)]) rfl ?_
  refine q_rdI RX6 TX6 15 (tbm tkX6_addsToWord (i := 8) rfl) rfl (Nat.le_of_ble_eq_true rfl) wd_949 (fun x4 => ?_)
  refine q_run tkX6_addsToWord 9 2 (pc' := 17) (L' := [some (.inr (.inr a0)), some (.inl a1)]) (st' := [.inl (x4 + (1 : Int32)), .inr (.inr a0)]) rfl ?_
  refine q_wr RX6 TX6 15 (tbm tkX6_addsToWord (i := 11) rfl) rfl (Nat.le_of_ble_eq_true rfl) (Or.inl rfl) wd_949 (fun h5 => ?_)
  exact q_vret (tbm tkX6_addsToWord (i := 12) rfl) rfl
theorem ceX6_addsToWord : Ce mX6_addsToWord 1 := ⟨wd_81, wd_1134, by decide +kernel, by decide +kernel, by decide +kernel⟩
/-- ReceiptRollsModel.layWord -/
abbrev mX6_layWord : MI := (yX6_layWord, cX6_layWord, 3, none, 2)
def tbX6_layWord : List TE := [(0, .aload_n 0, 1, 0, 0), (1, .getfield 91, 3, 0, 0), (4, .iload_n 1, 1, 0, 0), (5, .if_icmp .le 17, 3, 0, 22), (8, .aload_n 0, 1, 0, 0), (9, .getfield 80, 3, 0, 0), (12, .ifCond .le 52, 3, 0, 64), (15, .aload_n 0, 1, 0, 0), (16, .invokevirtual 94, 3, 0, 0), (19, .goto 45, 3, 0, 64), (22, .aload_n 0, 1, 0, 0), (23, .getfield 80, 3, 0, 0), (26, .ifCond .le 25, 3, 0, 51), (29, .aload_n 0, 1, 0, 0), (30, .getfield 80, 3, 0, 0), (33, .iconst 1, 1, 1, 0), (34, .iadd, 1, 0, 0), (35, .aload_n 0, 1, 0, 0), (36, .getfield 91, 3, 0, 0), (39, .iadd, 1, 0, 0), (40, .iload_n 1, 1, 0, 0), (41, .if_icmp .le 10, 3, 0, 51), (44, .aload_n 0, 1, 0, 0), (45, .invokevirtual 94, 3, 0, 0), (48, .goto 16, 3, 0, 64), (51, .aload_n 0, 1, 0, 0), (52, .getfield 80, 3, 0, 0), (55, .ifCond .le 9, 3, 0, 64), (58, .aload_n 0, 1, 0, 0), (59, .bipush 32, 2, 32, 0), (61, .invokevirtual 87, 3, 0, 0), (64, .iconst 0, 1, 0, 0), (65, .istore_n 2, 1, 0, 0), (66, .iload_n 2, 1, 0, 0), (67, .aload_n 0, 1, 0, 0), (68, .getfield 91, 3, 0, 0), (71, .if_icmp .ge 31, 3, 0, 102), (74, .aload_n 0, 1, 0, 0), (75, .getfield 80, 3, 0, 0), (78, .iload_n 1, 1, 0, 0), (79, .if_icmp .ne 7, 3, 0, 86), (82, .aload_n 0, 1, 0, 0), (83, .invokevirtual 94, 3, 0, 0), (86, .aload_n 0, 1, 0, 0), (87, .aload_n 0, 1, 0, 0), (88, .getfield 29, 3, 0, 0), (91, .iload_n 2, 1, 0, 0), (92, .iaload, 1, 0, 0), (93, .invokevirtual 87, 3, 0, 0), (96, .iinc 2 1, 3, 1, 0), (99, .goto (-33), 3, 0, 66), (102, .aload_n 0, 1, 0, 0), (103, .iconst 0, 1, 0, 0), (104, .putfield 91, 3, 0, 0), (107, .return_, 1, 0, 0)]
theorem tkX6_layWord : ∀ x ∈ tbX6_layWord, tbB cX6_layWord x = true := tb_all (by decide +kernel)
def fX6_layWord_86 (c : Nat → Option Nat) (k66 : Hp → Option Nat → Int32 → Int32 → Rs) (h : Hp) (l0 : Option Nat) (l1 : Int32) (l2 : Int32) : Rs := rdR h l0 8 13 (fun r1 => aldI h r1 [0, 10] l2 (fun x2 => ck h l0 8 (cc (fX6_lays c h l0 x2) (kV fun h3 => k66 h3 l0 l1 (l2 + (1 : Int32))))))
set_option maxHeartbeats 4000000 in
set_option maxRecDepth 100000 in
theorem sX6_layWord_86 (X : Cx) {h0 : Hp} (k66 : Hp → Option Nat → Int32 → Int32 → Rs) (hk66 : ∀ (h : Hp) (l0 : Option Nat) (l1 : Int32) (l2 : Int32), Gd X mX6_layWord h0 (k66 h l0 l1 l2) h 66 [some (.inr (.inr l0)), some (.inl l1), some (.inl l2)] []) (h : Hp) (l0 : Option Nat) (l1 : Int32) (l2 : Int32) : Gd X mX6_layWord h0 (fX6_layWord_86 X.2.2.2 k66 h l0 l1 l2) h 86 [some (.inr (.inr l0)), some (.inl l1), some (.inl l2)] [] := by
  unfold fX6_layWord_86
  refine q_run tkX6_layWord 43 2 (pc' := 88) (L' := [some (.inr (.inr l0)), some (.inl l1), some (.inl l2)]) (st' := [.inr (.inr l0), .inr (.inr l0)]) rfl ?_
  refine q_rdR RX6 TX6 15 (tbm tkX6_layWord (i := 45) rfl) rfl (Nat.le_of_ble_eq_true rfl) wd_948 (fun r1 => ?_)
  refine q_run tkX6_layWord 46 1 (pc' := 92) (L' := [some (.inr (.inr l0)), some (.inl l1), some (.inl l2)]) (st' := [.inl l2, .inr (.inr r1), .inr (.inr l0)]) rfl ?_
  refine q_iaload (tbm tkX6_layWord (i := 47) rfl) (fun x2 => ?_)
  refine q_cv (r := l0) (ci := 8) (n := 1) (as := [.inl x2]) (st := []) TX6 15 (soX6_lays X h l0 x2) (tbm tkX6_layWord (i := 48) rfl) rfl rfl ceX6_lays wd_1105 wd_38 wd_1103 rfl (Nat.le_of_ble_eq_true rfl) (kV_gd (fun h3 => ?_))
  refine q_run tkX6_layWord 49 2 (pc' := 66) (L' := [some (.inr (.inr l0)), some (.inl l1), some (.inl (l2 + (1 : Int32)))]) (st' := []) rfl ?_
  exact hk66 h3 l0 l1 (l2 + (1 : Int32))
def fX6_layWord_66 (c : Nat → Option Nat) : Nat → Hp → Option Nat → Int32 → Int32 → Rs
  | 0, _, _, _, _ => none
  | n + 1, h, l0, l1, l2 => rdI h l0 8 14 (fun x4 => if l2 < x4 then (rdI h l0 8 11 (fun x5 => if x5 = l1 then (ck h l0 8 (cc (fX6_nextLine c h l0) (kV fun h6 => fX6_layWord_86 c (fX6_layWord_66 c n) h6 l0 l1 l2))) else (fX6_layWord_86 c (fX6_layWord_66 c n) h l0 l1 l2))) else (wr h l0 8 14 (.inl (0 : Int32)) (fun h7 => some (h7, none))))
set_option maxHeartbeats 4000000 in
set_option maxRecDepth 100000 in
theorem sX6_layWord_66 (X : Cx) {h0 : Hp} : ∀ (n : Nat) (h : Hp) (l0 : Option Nat) (l1 : Int32) (l2 : Int32), Gd X mX6_layWord h0 (fX6_layWord_66 X.2.2.2 n h l0 l1 l2) h 66 [some (.inr (.inr l0)), some (.inl l1), some (.inl l2)] [] := by
  intro n
  induction n with
  | zero => intros; exact gd_none
  | succ n ih =>
    intro h l0 l1 l2
    unfold fX6_layWord_66
    refine q_run tkX6_layWord 33 2 (pc' := 68) (L' := [some (.inr (.inr l0)), some (.inl l1), some (.inl l2)]) (st' := [.inr (.inr l0), .inl l2]) rfl ?_
    refine q_rdI RX6 TX6 15 (tbm tkX6_layWord (i := 35) rfl) rfl (Nat.le_of_ble_eq_true rfl) wd_949 (fun x4 => ?_)
    refine q_icmp_ge (tbm tkX6_layWord (i := 36) rfl) ?_ ?_
    · refine q_run tkX6_layWord 37 1 (pc' := 75) (L' := [some (.inr (.inr l0)), some (.inl l1), some (.inl l2)]) (st' := [.inr (.inr l0)]) rfl ?_
      refine q_rdI RX6 TX6 15 (tbm tkX6_layWord (i := 38) rfl) rfl (Nat.le_of_ble_eq_true rfl) wd_946 (fun x5 => ?_)
      refine q_run tkX6_layWord 39 1 (pc' := 79) (L' := [some (.inr (.inr l0)), some (.inl l1), some (.inl l2)]) (st' := [.inl l1, .inl x5]) rfl ?_
      refine q_icmp_ne (tbm tkX6_layWord (i := 40) rfl) ?_ ?_
      · refine q_run tkX6_layWord 41 1 (pc' := 83) (L' := [some (.inr (.inr l0)), some (.inl l1), some (.inl l2)]) (st' := [.inr (.inr l0)]) rfl ?_
        refine q_cv (r := l0) (ci := 8) (n := 0) (as := []) (st := []) TX6 15 (soX6_nextLine X h l0) (tbm tkX6_layWord (i := 42) rfl) rfl rfl ceX6_nextLine wd_1121 wd_42 wd_1119 rfl (Nat.le_of_ble_eq_true rfl) (kV_gd (fun h6 => ?_))
        exact sX6_layWord_86 X (fX6_layWord_66 X.2.2.2 n) ih h6 l0 l1 l2
      · exact sX6_layWord_86 X (fX6_layWord_66 X.2.2.2 n) ih h l0 l1 l2
    · refine q_run tkX6_layWord 51 2 (pc' := 104) (L' := [some (.inr (.inr l0)), some (.inl l1), some (.inl l2)]) (st' := [.inl (0 : Int32), .inr (.inr l0)]) rfl ?_
      refine q_wr RX6 TX6 15 (tbm tkX6_layWord (i := 53) rfl) rfl (Nat.le_of_ble_eq_true rfl) (Or.inl rfl) wd_949 (fun h7 => ?_)
      exact q_vret (tbm tkX6_layWord (i := 54) rfl) rfl
def fX6_layWord_64 (c : Nat → Option Nat) (h : Hp) (l0 : Option Nat) (l1 : Int32) : Rs := fX6_layWord_66 c FU h l0 l1 (0 : Int32)
set_option maxHeartbeats 4000000 in
set_option maxRecDepth 100000 in
theorem sX6_layWord_64 (X : Cx) {h0 : Hp} (h : Hp) (l0 : Option Nat) (l1 : Int32) : Gd X mX6_layWord h0 (fX6_layWord_64 X.2.2.2 h l0 l1) h 64 [some (.inr (.inr l0)), some (.inl l1), none] [] := by
  unfold fX6_layWord_64
  refine q_run tkX6_layWord 31 2 (pc' := 66) (L' := [some (.inr (.inr l0)), some (.inl l1), some (.inl (0 : Int32))]) (st' := []) rfl ?_
  exact sX6_layWord_66 X FU h l0 l1 (0 : Int32)
def fX6_layWord_51 (c : Nat → Option Nat) (h : Hp) (l0 : Option Nat) (l1 : Int32) : Rs := rdI h l0 8 11 (fun x8 => if 0 < x8 then (ck h l0 8 (cc (fX6_lays c h l0 (32 : Int32)) (kV fun h9 => fX6_layWord_64 c h9 l0 l1))) else (fX6_layWord_64 c h l0 l1))
set_option maxHeartbeats 4000000 in
set_option maxRecDepth 100000 in
theorem sX6_layWord_51 (X : Cx) {h0 : Hp} (h : Hp) (l0 : Option Nat) (l1 : Int32) : Gd X mX6_layWord h0 (fX6_layWord_51 X.2.2.2 h l0 l1) h 51 [some (.inr (.inr l0)), some (.inl l1), none] [] := by
  unfold fX6_layWord_51
  refine q_run tkX6_layWord 25 1 (pc' := 52) (L' := [some (.inr (.inr l0)), some (.inl l1), none]) (st' := [.inr (.inr l0)]) rfl ?_
  refine q_rdI RX6 TX6 15 (tbm tkX6_layWord (i := 26) rfl) rfl (Nat.le_of_ble_eq_true rfl) wd_946 (fun x8 => ?_)
  refine q_if_le (tbm tkX6_layWord (i := 27) rfl) ?_ ?_
  · refine q_run tkX6_layWord 28 2 (pc' := 61) (L' := [some (.inr (.inr l0)), some (.inl l1), none]) (st' := [.inl (32 : Int32), .inr (.inr l0)]) rfl ?_
    refine q_cv (r := l0) (ci := 8) (n := 1) (as := [.inl (32 : Int32)]) (st := []) TX6 15 (soX6_lays X h l0 (32 : Int32)) (tbm tkX6_layWord (i := 30) rfl) rfl rfl ceX6_lays wd_1105 wd_38 wd_1103 rfl (Nat.le_of_ble_eq_true rfl) (kV_gd (fun h9 => ?_))
    exact sX6_layWord_64 X h9 l0 l1
  · exact sX6_layWord_64 X h l0 l1
def fX6_layWord (c : Nat → Option Nat) (h : Hp) (a0 : Option Nat) (a1 : Int32) : Rs := rdI h a0 8 14 (fun x10 => if a1 < x10 then (rdI h a0 8 11 (fun x11 => if 0 < x11 then (ck h a0 8 (cc (fX6_nextLine c h a0) (kV fun h12 => fX6_layWord_64 c h12 a0 a1))) else (fX6_layWord_64 c h a0 a1))) else (rdI h a0 8 11 (fun x13 => if 0 < x13 then (rdI h a0 8 11 (fun x14 => rdI h a0 8 14 (fun x15 => if a1 < ((x14 + (1 : Int32)) + x15) then (ck h a0 8 (cc (fX6_nextLine c h a0) (kV fun h16 => fX6_layWord_64 c h16 a0 a1))) else (fX6_layWord_51 c h a0 a1)))) else (fX6_layWord_51 c h a0 a1))))
set_option maxHeartbeats 4000000 in
set_option maxRecDepth 100000 in
theorem soX6_layWord (X : Cx) (h : Hp) (a0 : Option Nat) (a1 : Int32) : SO X mX6_layWord [.inr (.inr a0), .inl a1] h (fX6_layWord X.2.2.2 h a0 a1) := by
  refine so_of (by decide +kernel) (Nat.le_of_ble_eq_true rfl) ?_
  show Gd X mX6_layWord h (fX6_layWord X.2.2.2 h a0 a1) h 0 [some (.inr (.inr a0)), some (.inl a1), none] []
  unfold fX6_layWord
  refine q_run tkX6_layWord 0 1 (pc' := 1) (L' := [some (.inr (.inr a0)), some (.inl a1), none]) (st' := [.inr (.inr a0)]) rfl ?_
  refine q_rdI RX6 TX6 15 (tbm tkX6_layWord (i := 1) rfl) rfl (Nat.le_of_ble_eq_true rfl) wd_949 (fun x10 => ?_)
  refine q_run tkX6_layWord 2 1 (pc' := 5) (L' := [some (.inr (.inr a0)), some (.inl a1), none]) (st' := [.inl a1, .inl x10]) rfl ?_
  refine q_icmp_le (tbm tkX6_layWord (i := 3) rfl) ?_ ?_
  · refine q_run tkX6_layWord 4 1 (pc' := 9) (L' := [some (.inr (.inr a0)), some (.inl a1), none]) (st' := [.inr (.inr a0)]) rfl ?_
    refine q_rdI RX6 TX6 15 (tbm tkX6_layWord (i := 5) rfl) rfl (Nat.le_of_ble_eq_true rfl) wd_946 (fun x11 => ?_)
    refine q_if_le (tbm tkX6_layWord (i := 6) rfl) ?_ ?_
    · refine q_run tkX6_layWord 7 1 (pc' := 16) (L' := [some (.inr (.inr a0)), some (.inl a1), none]) (st' := [.inr (.inr a0)]) rfl ?_
      refine q_cv (r := a0) (ci := 8) (n := 0) (as := []) (st := []) TX6 15 (soX6_nextLine X h a0) (tbm tkX6_layWord (i := 8) rfl) rfl rfl ceX6_nextLine wd_1121 wd_42 wd_1119 rfl (Nat.le_of_ble_eq_true rfl) (kV_gd (fun h12 => ?_))
      refine q_run tkX6_layWord 9 1 (pc' := 64) (L' := [some (.inr (.inr a0)), some (.inl a1), none]) (st' := []) rfl ?_
      exact sX6_layWord_64 X h12 a0 a1
    · exact sX6_layWord_64 X h a0 a1
  · refine q_run tkX6_layWord 10 1 (pc' := 23) (L' := [some (.inr (.inr a0)), some (.inl a1), none]) (st' := [.inr (.inr a0)]) rfl ?_
    refine q_rdI RX6 TX6 15 (tbm tkX6_layWord (i := 11) rfl) rfl (Nat.le_of_ble_eq_true rfl) wd_946 (fun x13 => ?_)
    refine q_if_le (tbm tkX6_layWord (i := 12) rfl) ?_ ?_
    · refine q_run tkX6_layWord 13 1 (pc' := 30) (L' := [some (.inr (.inr a0)), some (.inl a1), none]) (st' := [.inr (.inr a0)]) rfl ?_
      refine q_rdI RX6 TX6 15 (tbm tkX6_layWord (i := 14) rfl) rfl (Nat.le_of_ble_eq_true rfl) wd_946 (fun x14 => ?_)
      refine q_run tkX6_layWord 15 3 (pc' := 36) (L' := [some (.inr (.inr a0)), some (.inl a1), none]) (st' := [.inr (.inr a0), .inl (x14 + (1 : Int32))]) rfl ?_
      refine q_rdI RX6 TX6 15 (tbm tkX6_layWord (i := 18) rfl) rfl (Nat.le_of_ble_eq_true rfl) wd_949 (fun x15 => ?_)
      refine q_run tkX6_layWord 19 2 (pc' := 41) (L' := [some (.inr (.inr a0)), some (.inl a1), none]) (st' := [.inl a1, .inl ((x14 + (1 : Int32)) + x15)]) rfl ?_
      refine q_icmp_le (tbm tkX6_layWord (i := 21) rfl) ?_ ?_
      · refine q_run tkX6_layWord 22 1 (pc' := 45) (L' := [some (.inr (.inr a0)), some (.inl a1), none]) (st' := [.inr (.inr a0)]) rfl ?_
        refine q_cv (r := a0) (ci := 8) (n := 0) (as := []) (st := []) TX6 15 (soX6_nextLine X h a0) (tbm tkX6_layWord (i := 23) rfl) rfl rfl ceX6_nextLine wd_1121 wd_42 wd_1119 rfl (Nat.le_of_ble_eq_true rfl) (kV_gd (fun h16 => ?_))
        refine q_run tkX6_layWord 24 1 (pc' := 64) (L' := [some (.inr (.inr a0)), some (.inl a1), none]) (st' := []) rfl ?_
        exact sX6_layWord_64 X h16 a0 a1
      · exact sX6_layWord_51 X h a0 a1
    · exact sX6_layWord_51 X h a0 a1
theorem ceX6_layWord : Ce mX6_layWord 1 := ⟨wd_81, wd_1138, by decide +kernel, by decide +kernel, by decide +kernel⟩
/-- ReceiptRollsModel.nameLength -/
abbrev mX6_nameLength : MI := (yX6_nameLength, cX6_nameLength, 3, some .int, 2)
def tbX6_nameLength : List TE := [(0, .aload_n 0, 1, 0, 0), (1, .iload_n 1, 1, 0, 0), (2, .iload_n 2, 1, 0, 0), (3, .invokevirtual 51, 3, 0, 0), (6, .bipush 24, 2, 24, 0), (8, .ishr, 1, 0, 0), (9, .bipush 31, 2, 31, 0), (11, .iand, 1, 0, 0), (12, .ireturn, 1, 0, 0)]
theorem tkX6_nameLength : ∀ x ∈ tbX6_nameLength, tbB cX6_nameLength x = true := tb_all (by decide +kernel)
def fX6_nameLength (c : Nat → Option Nat) (h : Hp) (a0 : Option Nat) (a1 : Int32) (a2 : Int32) : Rs := ck h a0 8 (cc (fX6_packed c h a0 a1 a2) (kI fun h1 x2 => some (h1, some (.inl ((shrI x2 (24 : Int32)) &&& (31 : Int32))))))
set_option maxHeartbeats 4000000 in
set_option maxRecDepth 100000 in
theorem soX6_nameLength (X : Cx) (h : Hp) (a0 : Option Nat) (a1 : Int32) (a2 : Int32) : SO X mX6_nameLength [.inr (.inr a0), .inl a1, .inl a2] h (fX6_nameLength X.2.2.2 h a0 a1 a2) := by
  refine so_of (by decide +kernel) (Nat.le_of_ble_eq_true rfl) ?_
  show Gd X mX6_nameLength h (fX6_nameLength X.2.2.2 h a0 a1 a2) h 0 [some (.inr (.inr a0)), some (.inl a1), some (.inl a2)] []
  unfold fX6_nameLength
  refine q_run tkX6_nameLength 0 3 (pc' := 3) (L' := [some (.inr (.inr a0)), some (.inl a1), some (.inl a2)]) (st' := [.inl a2, .inl a1, .inr (.inr a0)]) rfl ?_
  refine q_cv (r := a0) (ci := 8) (n := 2) (as := [.inl a1, .inl a2]) (st := []) TX6 15 (soX6_packed X h a0 a1 a2) (tbm tkX6_nameLength (i := 3) rfl) rfl rfl ceX6_packed wd_1040 wd_26 wd_1038 rfl (Nat.le_of_ble_eq_true rfl) (kI_gd (fun h1 x2 => ?_))
  refine q_run tkX6_nameLength 4 4 (pc' := 12) (L' := [some (.inr (.inr a0)), some (.inl a1), some (.inl a2)]) (st' := [.inl ((shrI x2 (24 : Int32)) &&& (31 : Int32))]) rfl ?_
  exact q_iret (tbm tkX6_nameLength (i := 8) rfl) rfl
theorem ceX6_nameLength : Ce mX6_nameLength 2 := ⟨wd_81, wd_1142, by decide +kernel, by decide +kernel, by decide +kernel⟩
/-- ReceiptRollsModel.nameSign -/
abbrev mX6_nameSign : MI := (yX6_nameSign, cX6_nameSign, 4, some .int, 1)
def tbX6_nameSign : List TE := [(0, .aload_n 0, 1, 0, 0), (1, .iload_n 1, 1, 0, 0), (2, .bipush 14, 2, 14, 0), (4, .bipush 6, 2, 6, 0), (6, .iload_n 2, 1, 0, 0), (7, .imul, 1, 0, 0), (8, .iadd, 1, 0, 0), (9, .iconst 1, 1, 1, 0), (10, .iadd, 1, 0, 0), (11, .iload_n 3, 1, 0, 0), (12, .bipush 6, 2, 6, 0), (14, .idiv, 1, 0, 0), (15, .iadd, 1, 0, 0), (16, .invokevirtual 47, 3, 0, 0), (19, .iconst 5, 1, 5, 0), (20, .iload_n 3, 1, 0, 0), (21, .bipush 6, 2, 6, 0), (23, .irem, 1, 0, 0), (24, .imul, 1, 0, 0), (25, .ishr, 1, 0, 0), (26, .bipush 31, 2, 31, 0), (28, .iand, 1, 0, 0), (29, .ireturn, 1, 0, 0)]
theorem tkX6_nameSign : ∀ x ∈ tbX6_nameSign, tbB cX6_nameSign x = true := tb_all (by decide +kernel)
def fX6_nameSign (c : Nat → Option Nat) (h : Hp) (a0 : Option Nat) (a1 : Int32) (a2 : Int32) (a3 : Int32) : Rs := dv (6 : Int32) (ck h a0 8 (cc (fX6_of c h a0 a1 ((((14 : Int32) + ((6 : Int32) * a2)) + (1 : Int32)) + (a3 / (6 : Int32)))) (kI fun h1 x2 => dv (6 : Int32) (some (h1, some (.inl ((shrI x2 ((5 : Int32) * (a3 - a3 / (6 : Int32) * (6 : Int32)))) &&& (31 : Int32))))))))
set_option maxHeartbeats 4000000 in
set_option maxRecDepth 100000 in
theorem soX6_nameSign (X : Cx) (h : Hp) (a0 : Option Nat) (a1 : Int32) (a2 : Int32) (a3 : Int32) : SO X mX6_nameSign [.inr (.inr a0), .inl a1, .inl a2, .inl a3] h (fX6_nameSign X.2.2.2 h a0 a1 a2 a3) := by
  refine so_of (by decide +kernel) (Nat.le_of_ble_eq_true rfl) ?_
  show Gd X mX6_nameSign h (fX6_nameSign X.2.2.2 h a0 a1 a2 a3) h 0 [some (.inr (.inr a0)), some (.inl a1), some (.inl a2), some (.inl a3)] []
  unfold fX6_nameSign
  refine q_run tkX6_nameSign 0 11 (pc' := 14) (L' := [some (.inr (.inr a0)), some (.inl a1), some (.inl a2), some (.inl a3)]) (st' := [.inl (6 : Int32), .inl a3, .inl (((14 : Int32) + ((6 : Int32) * a2)) + (1 : Int32)), .inl a1, .inr (.inr a0)]) rfl ?_
  refine q_div (tbm tkX6_nameSign (i := 11) rfl) ?_
  refine q_run tkX6_nameSign 12 1 (pc' := 16) (L' := [some (.inr (.inr a0)), some (.inl a1), some (.inl a2), some (.inl a3)]) (st' := [.inl ((((14 : Int32) + ((6 : Int32) * a2)) + (1 : Int32)) + (a3 / (6 : Int32))), .inl a1, .inr (.inr a0)]) rfl ?_
  refine q_cv (r := a0) (ci := 8) (n := 2) (as := [.inl a1, .inl ((((14 : Int32) + ((6 : Int32) * a2)) + (1 : Int32)) + (a3 / (6 : Int32)))]) (st := []) TX6 15 (soX6_of X h a0 a1 ((((14 : Int32) + ((6 : Int32) * a2)) + (1 : Int32)) + (a3 / (6 : Int32)))) (tbm tkX6_nameSign (i := 13) rfl) rfl rfl ceX6_of wd_1016 wd_21 wd_1014 rfl (Nat.le_of_ble_eq_true rfl) (kI_gd (fun h1 x2 => ?_))
  refine q_run tkX6_nameSign 14 3 (pc' := 23) (L' := [some (.inr (.inr a0)), some (.inl a1), some (.inl a2), some (.inl a3)]) (st' := [.inl (6 : Int32), .inl a3, .inl (5 : Int32), .inl x2]) rfl ?_
  refine q_rem (tbm tkX6_nameSign (i := 17) rfl) ?_
  refine q_run tkX6_nameSign 18 4 (pc' := 29) (L' := [some (.inr (.inr a0)), some (.inl a1), some (.inl a2), some (.inl a3)]) (st' := [.inl ((shrI x2 ((5 : Int32) * (a3 - a3 / (6 : Int32) * (6 : Int32)))) &&& (31 : Int32))]) rfl ?_
  exact q_iret (tbm tkX6_nameSign (i := 22) rfl) rfl
theorem ceX6_nameSign : Ce mX6_nameSign 3 := ⟨wd_81, wd_1146, by decide +kernel, by decide +kernel, by decide +kernel⟩
/-- ReceiptRollsModel.money -/
abbrev mX6_money : MI := (yX6_money, cX6_money, 6, none, 1)
def tbX6_money : List TE := [(0, .iload_n 1, 1, 0, 0), (1, .ifCond .ge 8, 3, 0, 9), (4, .iload_n 1, 1, 0, 0), (5, .ineg, 1, 0, 0), (6, .goto 4, 3, 0, 10), (9, .iload_n 1, 1, 0, 0), (10, .istore_n 3, 1, 0, 0), (11, .iload_n 2, 1, 0, 0), (12, .iconst 1, 1, 1, 0), (13, .isub, 1, 0, 0), (14, .istore 4, 2, 0, 0), (16, .iconst 0, 1, 0, 0), (17, .istore 5, 2, 0, 0), (19, .iload 5, 2, 0, 0), (21, .iconst 3, 1, 3, 0), (22, .if_icmp .lt 7, 3, 0, 29), (25, .iload_n 3, 1, 0, 0), (26, .ifCond .le 47, 3, 0, 73), (29, .iload 5, 2, 0, 0), (31, .iconst 2, 1, 2, 0), (32, .if_icmp .ne 14, 3, 0, 46), (35, .aload_n 0, 1, 0, 0), (36, .iload 4, 2, 0, 0), (38, .bipush 46, 2, 46, 0), (40, .invokevirtual 83, 3, 0, 0), (43, .iinc 4 (-1), 3, -1, 0), (46, .aload_n 0, 1, 0, 0), (47, .iload 4, 2, 0, 0), (49, .bipush 48, 2, 48, 0), (51, .iload_n 3, 1, 0, 0), (52, .bipush 10, 2, 10, 0), (54, .irem, 1, 0, 0), (55, .iadd, 1, 0, 0), (56, .invokevirtual 83, 3, 0, 0), (59, .iinc 4 (-1), 3, -1, 0), (62, .iload_n 3, 1, 0, 0), (63, .bipush 10, 2, 10, 0), (65, .idiv, 1, 0, 0), (66, .istore_n 3, 1, 0, 0), (67, .iinc 5 1, 3, 1, 0), (70, .goto (-51), 3, 0, 19), (73, .iload_n 1, 1, 0, 0), (74, .ifCond .ge 11, 3, 0, 85), (77, .aload_n 0, 1, 0, 0), (78, .iload 4, 2, 0, 0), (80, .bipush 45, 2, 45, 0), (82, .invokevirtual 83, 3, 0, 0), (85, .return_, 1, 0, 0)]
theorem tkX6_money : ∀ x ∈ tbX6_money, tbB cX6_money x = true := tb_all (by decide +kernel)
def fX6_money_46 (c : Nat → Option Nat) (k19 : Hp → Option Nat → Int32 → Int32 → Int32 → Int32 → Rs) (h : Hp) (l0 : Option Nat) (l1 : Int32) (l3 : Int32) (l4 : Int32) (l5 : Int32) : Rs := dv (10 : Int32) (ck h l0 8 (cc (fX6_puts c h l0 l4 ((48 : Int32) + (l3 - l3 / (10 : Int32) * (10 : Int32)))) (kV fun h1 => dv (10 : Int32) (k19 h1 l0 l1 (l3 / (10 : Int32)) (l4 + (-1 : Int32)) (l5 + (1 : Int32))))))
set_option maxHeartbeats 4000000 in
set_option maxRecDepth 100000 in
theorem sX6_money_46 (X : Cx) {h0 : Hp} (k19 : Hp → Option Nat → Int32 → Int32 → Int32 → Int32 → Rs) (hk19 : ∀ (h : Hp) (l0 : Option Nat) (l1 : Int32) (l3 : Int32) (l4 : Int32) (l5 : Int32), Gd X mX6_money h0 (k19 h l0 l1 l3 l4 l5) h 19 [some (.inr (.inr l0)), some (.inl l1), none, some (.inl l3), some (.inl l4), some (.inl l5)] []) (h : Hp) (l0 : Option Nat) (l1 : Int32) (l3 : Int32) (l4 : Int32) (l5 : Int32) : Gd X mX6_money h0 (fX6_money_46 X.2.2.2 k19 h l0 l1 l3 l4 l5) h 46 [some (.inr (.inr l0)), some (.inl l1), none, some (.inl l3), some (.inl l4), some (.inl l5)] [] := by
  unfold fX6_money_46
  refine q_run tkX6_money 26 5 (pc' := 54) (L' := [some (.inr (.inr l0)), some (.inl l1), none, some (.inl l3), some (.inl l4), some (.inl l5)]) (st' := [.inl (10 : Int32), .inl l3, .inl (48 : Int32), .inl l4, .inr (.inr l0)]) rfl ?_
  refine q_rem (tbm tkX6_money (i := 31) rfl) ?_
  refine q_run tkX6_money 32 1 (pc' := 56) (L' := [some (.inr (.inr l0)), some (.inl l1), none, some (.inl l3), some (.inl l4), some (.inl l5)]) (st' := [.inl ((48 : Int32) + (l3 - l3 / (10 : Int32) * (10 : Int32))), .inl l4, .inr (.inr l0)]) rfl ?_
  refine q_cv (r := l0) (ci := 8) (n := 2) (as := [.inl l4, .inl ((48 : Int32) + (l3 - l3 / (10 : Int32) * (10 : Int32)))]) (st := []) TX6 15 (soX6_puts X h l0 l4 ((48 : Int32) + (l3 - l3 / (10 : Int32) * (10 : Int32)))) (tbm tkX6_money (i := 33) rfl) rfl rfl ceX6_puts wd_1109 wd_39 wd_1107 rfl (Nat.le_of_ble_eq_true rfl) (kV_gd (fun h1 => ?_))
  refine q_run tkX6_money 34 3 (pc' := 65) (L' := [some (.inr (.inr l0)), some (.inl l1), none, some (.inl l3), some (.inl (l4 + (-1 : Int32))), some (.inl l5)]) (st' := [.inl (10 : Int32), .inl l3]) rfl ?_
  refine q_div (tbm tkX6_money (i := 37) rfl) ?_
  refine q_run tkX6_money 38 3 (pc' := 19) (L' := [some (.inr (.inr l0)), some (.inl l1), none, some (.inl (l3 / (10 : Int32))), some (.inl (l4 + (-1 : Int32))), some (.inl (l5 + (1 : Int32)))]) (st' := []) rfl ?_
  exact hk19 h1 l0 l1 (l3 / (10 : Int32)) (l4 + (-1 : Int32)) (l5 + (1 : Int32))
def fX6_money_29 (c : Nat → Option Nat) (k19 : Hp → Option Nat → Int32 → Int32 → Int32 → Int32 → Rs) (h : Hp) (l0 : Option Nat) (l1 : Int32) (l3 : Int32) (l4 : Int32) (l5 : Int32) : Rs := if l5 = (2 : Int32) then (ck h l0 8 (cc (fX6_puts c h l0 l4 (46 : Int32)) (kV fun h2 => fX6_money_46 c k19 h2 l0 l1 l3 (l4 + (-1 : Int32)) l5))) else (fX6_money_46 c k19 h l0 l1 l3 l4 l5)
set_option maxHeartbeats 4000000 in
set_option maxRecDepth 100000 in
theorem sX6_money_29 (X : Cx) {h0 : Hp} (k19 : Hp → Option Nat → Int32 → Int32 → Int32 → Int32 → Rs) (hk19 : ∀ (h : Hp) (l0 : Option Nat) (l1 : Int32) (l3 : Int32) (l4 : Int32) (l5 : Int32), Gd X mX6_money h0 (k19 h l0 l1 l3 l4 l5) h 19 [some (.inr (.inr l0)), some (.inl l1), none, some (.inl l3), some (.inl l4), some (.inl l5)] []) (h : Hp) (l0 : Option Nat) (l1 : Int32) (l3 : Int32) (l4 : Int32) (l5 : Int32) : Gd X mX6_money h0 (fX6_money_29 X.2.2.2 k19 h l0 l1 l3 l4 l5) h 29 [some (.inr (.inr l0)), some (.inl l1), none, some (.inl l3), some (.inl l4), some (.inl l5)] [] := by
  unfold fX6_money_29
  refine q_run tkX6_money 18 2 (pc' := 32) (L' := [some (.inr (.inr l0)), some (.inl l1), none, some (.inl l3), some (.inl l4), some (.inl l5)]) (st' := [.inl (2 : Int32), .inl l5]) rfl ?_
  refine q_icmp_ne (tbm tkX6_money (i := 20) rfl) ?_ ?_
  · refine q_run tkX6_money 21 3 (pc' := 40) (L' := [some (.inr (.inr l0)), some (.inl l1), none, some (.inl l3), some (.inl l4), some (.inl l5)]) (st' := [.inl (46 : Int32), .inl l4, .inr (.inr l0)]) rfl ?_
    refine q_cv (r := l0) (ci := 8) (n := 2) (as := [.inl l4, .inl (46 : Int32)]) (st := []) TX6 15 (soX6_puts X h l0 l4 (46 : Int32)) (tbm tkX6_money (i := 24) rfl) rfl rfl ceX6_puts wd_1109 wd_39 wd_1107 rfl (Nat.le_of_ble_eq_true rfl) (kV_gd (fun h2 => ?_))
    refine q_run tkX6_money 25 1 (pc' := 46) (L' := [some (.inr (.inr l0)), some (.inl l1), none, some (.inl l3), some (.inl (l4 + (-1 : Int32))), some (.inl l5)]) (st' := []) rfl ?_
    exact sX6_money_46 X k19 hk19 h2 l0 l1 l3 (l4 + (-1 : Int32)) l5
  · exact sX6_money_46 X k19 hk19 h l0 l1 l3 l4 l5
def fX6_money_85 (c : Nat → Option Nat) (h : Hp) : Rs := some (h, none)
set_option maxHeartbeats 4000000 in
set_option maxRecDepth 100000 in
theorem sX6_money_85 (X : Cx) {h0 : Hp} (h : Hp) : Gd X mX6_money h0 (fX6_money_85 X.2.2.2 h) h 85 [none, none, none, none, none, none] [] := by
  unfold fX6_money_85
  exact q_vret (tbm tkX6_money (i := 47) rfl) rfl
def fX6_money_19 (c : Nat → Option Nat) : Nat → Hp → Option Nat → Int32 → Int32 → Int32 → Int32 → Rs
  | 0, _, _, _, _, _, _ => none
  | n + 1, h, l0, l1, l3, l4, l5 => if l5 < (3 : Int32) then (fX6_money_29 c (fX6_money_19 c n) h l0 l1 l3 l4 l5) else (if 0 < l3 then (fX6_money_29 c (fX6_money_19 c n) h l0 l1 l3 l4 l5) else (if l1 < 0 then (ck h l0 8 (cc (fX6_puts c h l0 l4 (45 : Int32)) (kV fun h3 => fX6_money_85 c h3))) else (fX6_money_85 c h)))
set_option maxHeartbeats 4000000 in
set_option maxRecDepth 100000 in
theorem sX6_money_19 (X : Cx) {h0 : Hp} : ∀ (n : Nat) (h : Hp) (l0 : Option Nat) (l1 : Int32) (l3 : Int32) (l4 : Int32) (l5 : Int32), Gd X mX6_money h0 (fX6_money_19 X.2.2.2 n h l0 l1 l3 l4 l5) h 19 [some (.inr (.inr l0)), some (.inl l1), none, some (.inl l3), some (.inl l4), some (.inl l5)] [] := by
  intro n
  induction n with
  | zero => intros; exact gd_none
  | succ n ih =>
    intro h l0 l1 l3 l4 l5
    unfold fX6_money_19
    refine q_run tkX6_money 13 2 (pc' := 22) (L' := [some (.inr (.inr l0)), some (.inl l1), none, some (.inl l3), some (.inl l4), some (.inl l5)]) (st' := [.inl (3 : Int32), .inl l5]) rfl ?_
    refine q_icmp_lt (tbm tkX6_money (i := 15) rfl) ?_ ?_
    · exact sX6_money_29 X (fX6_money_19 X.2.2.2 n) ih h l0 l1 l3 l4 l5
    · refine q_run tkX6_money 16 1 (pc' := 26) (L' := [some (.inr (.inr l0)), some (.inl l1), none, some (.inl l3), some (.inl l4), some (.inl l5)]) (st' := [.inl l3]) rfl ?_
      refine q_if_le (tbm tkX6_money (i := 17) rfl) ?_ ?_
      · exact sX6_money_29 X (fX6_money_19 X.2.2.2 n) ih h l0 l1 l3 l4 l5
      · refine q_run tkX6_money 41 1 (pc' := 74) (L' := [some (.inr (.inr l0)), some (.inl l1), none, some (.inl l3), some (.inl l4), some (.inl l5)]) (st' := [.inl l1]) rfl ?_
        refine q_if_ge (tbm tkX6_money (i := 42) rfl) ?_ ?_
        · refine q_run tkX6_money 43 3 (pc' := 82) (L' := [some (.inr (.inr l0)), some (.inl l1), none, some (.inl l3), some (.inl l4), some (.inl l5)]) (st' := [.inl (45 : Int32), .inl l4, .inr (.inr l0)]) rfl ?_
          refine q_cv (r := l0) (ci := 8) (n := 2) (as := [.inl l4, .inl (45 : Int32)]) (st := []) TX6 15 (soX6_puts X h l0 l4 (45 : Int32)) (tbm tkX6_money (i := 46) rfl) rfl rfl ceX6_puts wd_1109 wd_39 wd_1107 rfl (Nat.le_of_ble_eq_true rfl) (kV_gd (fun h3 => ?_))
          refine q_le (L' := [none, none, none, none, none, none]) (lvLe_n (lvLe_n (lvLe_n (lvLe_n (lvLe_n (lvLe_n lvLe_0)))))) ?_
          exact sX6_money_85 X h3
        · refine q_le (L' := [none, none, none, none, none, none]) (lvLe_n (lvLe_n (lvLe_n (lvLe_n (lvLe_n (lvLe_n lvLe_0)))))) ?_
          exact sX6_money_85 X h
def fX6_money_10 (c : Nat → Option Nat) (h : Hp) (l0 : Option Nat) (l1 : Int32) (l2 : Int32) (s0 : Int32) : Rs := fX6_money_19 c FU h l0 l1 s0 (l2 - (1 : Int32)) (0 : Int32)
set_option maxHeartbeats 4000000 in
set_option maxRecDepth 100000 in
theorem sX6_money_10 (X : Cx) {h0 : Hp} (h : Hp) (l0 : Option Nat) (l1 : Int32) (l2 : Int32) (s0 : Int32) : Gd X mX6_money h0 (fX6_money_10 X.2.2.2 h l0 l1 l2 s0) h 10 [some (.inr (.inr l0)), some (.inl l1), some (.inl l2), none, none, none] [.inl s0] := by
  unfold fX6_money_10
  refine q_run tkX6_money 6 7 (pc' := 19) (L' := [some (.inr (.inr l0)), some (.inl l1), some (.inl l2), some (.inl s0), some (.inl (l2 - (1 : Int32))), some (.inl (0 : Int32))]) (st' := []) rfl ?_
  refine q_le (L' := [some (.inr (.inr l0)), some (.inl l1), none, some (.inl s0), some (.inl (l2 - (1 : Int32))), some (.inl (0 : Int32))]) (lvLe_s (lvLe_s (lvLe_n (lvLe_s (lvLe_s (lvLe_s lvLe_0)))))) ?_
  exact sX6_money_19 X FU h l0 l1 s0 (l2 - (1 : Int32)) (0 : Int32)
def fX6_money (c : Nat → Option Nat) (h : Hp) (a0 : Option Nat) (a1 : Int32) (a2 : Int32) : Rs := if a1 < 0 then (fX6_money_10 c h a0 a1 a2 (-a1)) else (fX6_money_10 c h a0 a1 a2 a1)
set_option maxHeartbeats 4000000 in
set_option maxRecDepth 100000 in
theorem soX6_money (X : Cx) (h : Hp) (a0 : Option Nat) (a1 : Int32) (a2 : Int32) : SO X mX6_money [.inr (.inr a0), .inl a1, .inl a2] h (fX6_money X.2.2.2 h a0 a1 a2) := by
  refine so_of (by decide +kernel) (Nat.le_of_ble_eq_true rfl) ?_
  show Gd X mX6_money h (fX6_money X.2.2.2 h a0 a1 a2) h 0 [some (.inr (.inr a0)), some (.inl a1), some (.inl a2), none, none, none] []
  unfold fX6_money
  refine q_run tkX6_money 0 1 (pc' := 1) (L' := [some (.inr (.inr a0)), some (.inl a1), some (.inl a2), none, none, none]) (st' := [.inl a1]) rfl ?_
  refine q_if_ge (tbm tkX6_money (i := 1) rfl) ?_ ?_
  · refine q_run tkX6_money 2 3 (pc' := 10) (L' := [some (.inr (.inr a0)), some (.inl a1), some (.inl a2), none, none, none]) (st' := [.inl (-a1)]) rfl ?_
    exact sX6_money_10 X h a0 a1 a2 (-a1)
  · refine q_run tkX6_money 5 1 (pc' := 10) (L' := [some (.inr (.inr a0)), some (.inl a1), some (.inl a2), none, none, none]) (st' := [.inl a1]) rfl ?_
    exact sX6_money_10 X h a0 a1 a2 a1
theorem ceX6_money : Ce mX6_money 2 := ⟨wd_81, wd_1150, by decide +kernel, by decide +kernel, by decide +kernel⟩
/-- ReceiptRollsModel.layItem -/
abbrev mX6_layItem : MI := (yX6_layItem, cX6_layItem, 8, none, 4)
def tbX6_layItem : List TE := [(0, .aload_n 0, 1, 0, 0), (1, .getfield 74, 3, 0, 0), (4, .istore 4, 2, 0, 0), (6, .aload_n 0, 1, 0, 0), (7, .iload_n 1, 1, 0, 0), (8, .iload_n 2, 1, 0, 0), (9, .invokevirtual 54, 3, 0, 0), (12, .istore 5, 2, 0, 0), (14, .aload_n 0, 1, 0, 0), (15, .iconst 0, 1, 0, 0), (16, .putfield 91, 3, 0, 0), (19, .iload 5, 2, 0, 0), (21, .bipush 9, 2, 9, 0), (23, .if_icmp .le 15, 3, 0, 38), (26, .aload_n 0, 1, 0, 0), (27, .bipush 48, 2, 48, 0), (29, .iload 5, 2, 0, 0), (31, .bipush 10, 2, 10, 0), (33, .idiv, 1, 0, 0), (34, .iadd, 1, 0, 0), (35, .invokevirtual 97, 3, 0, 0), (38, .iload 5, 2, 0, 0), (40, .iconst 1, 1, 1, 0), (41, .if_icmp .le 29, 3, 0, 70), (44, .aload_n 0, 1, 0, 0), (45, .bipush 48, 2, 48, 0), (47, .iload 5, 2, 0, 0), (49, .bipush 10, 2, 10, 0), (51, .irem, 1, 0, 0), (52, .iadd, 1, 0, 0), (53, .invokevirtual 97, 3, 0, 0), (56, .aload_n 0, 1, 0, 0), (57, .bipush 120, 2, 120, 0), (59, .invokevirtual 97, 3, 0, 0), (62, .aload_n 0, 1, 0, 0), (63, .iload_n 3, 1, 0, 0), (64, .bipush 8, 2, 8, 0), (66, .isub, 1, 0, 0), (67, .invokevirtual 100, 3, 0, 0), (70, .iconst 0, 1, 0, 0), (71, .istore 6, 2, 0, 0), (73, .iload 6, 2, 0, 0), (75, .aload_n 0, 1, 0, 0), (76, .iload_n 1, 1, 0, 0), (77, .iload_n 2, 1, 0, 0), (78, .invokevirtual 103, 3, 0, 0), (81, .if_icmp .ge 48, 3, 0, 129), (84, .aload_n 0, 1, 0, 0), (85, .iload_n 1, 1, 0, 0), (86, .iload_n 2, 1, 0, 0), (87, .iload 6, 2, 0, 0), (89, .invokevirtual 106, 3, 0, 0), (92, .istore 7, 2, 0, 0), (94, .iload 7, 2, 0, 0), (96, .bipush 27, 2, 27, 0), (98, .if_icmp .ne 14, 3, 0, 112), (101, .aload_n 0, 1, 0, 0), (102, .iload_n 3, 1, 0, 0), (103, .bipush 8, 2, 8, 0), (105, .isub, 1, 0, 0), (106, .invokevirtual 100, 3, 0, 0), (109, .goto 14, 3, 0, 123), (112, .aload_n 0, 1, 0, 0), (113, .bipush 97, 2, 97, 0), (115, .iload 7, 2, 0, 0), (117, .iadd, 1, 0, 0), (118, .iconst 1, 1, 1, 0), (119, .isub, 1, 0, 0), (120, .invokevirtual 97, 3, 0, 0), (123, .iinc 6 1, 3, 1, 0), (126, .goto (-53), 3, 0, 73), (129, .aload_n 0, 1, 0, 0), (130, .iload_n 3, 1, 0, 0), (131, .bipush 8, 2, 8, 0), (133, .isub, 1, 0, 0), (134, .invokevirtual 100, 3, 0, 0), (137, .aload_n 0, 1, 0, 0), (138, .aload_n 0, 1, 0, 0), (139, .iload_n 1, 1, 0, 0), (140, .iload_n 2, 1, 0, 0), (141, .invokevirtual 64, 3, 0, 0), (144, .iload_n 3, 1, 0, 0), (145, .invokevirtual 110, 3, 0, 0), (148, .aload_n 0, 1, 0, 0), (149, .aload_n 0, 1, 0, 0), (150, .getfield 77, 3, 0, 0), (153, .iload 4, 2, 0, 0), (155, .aload_n 0, 1, 0, 0), (156, .getfield 74, 3, 0, 0), (159, .invokestatic 40, 3, 0, 0), (162, .ifCond .eq 8, 3, 0, 170), (165, .iload 4, 2, 0, 0), (167, .goto 7, 3, 0, 174), (170, .aload_n 0, 1, 0, 0), (171, .getfield 113, 3, 0, 0), (174, .putfield 113, 3, 0, 0), (177, .aload_n 0, 1, 0, 0), (178, .invokevirtual 94, 3, 0, 0), (181, .return_, 1, 0, 0)]
theorem tkX6_layItem : ∀ x ∈ tbX6_layItem, tbB cX6_layItem x = true := tb_all (by decide +kernel)
def fX6_layItem_123 (c : Nat → Option Nat) (k73 : Hp → Option Nat → Int32 → Int32 → Int32 → Int32 → Int32 → Rs) (h : Hp) (l0 : Option Nat) (l1 : Int32) (l2 : Int32) (l3 : Int32) (l4 : Int32) (l6 : Int32) : Rs := k73 h l0 l1 l2 l3 l4 (l6 + (1 : Int32))
set_option maxHeartbeats 4000000 in
set_option maxRecDepth 100000 in
theorem sX6_layItem_123 (X : Cx) {h0 : Hp} (k73 : Hp → Option Nat → Int32 → Int32 → Int32 → Int32 → Int32 → Rs) (hk73 : ∀ (h : Hp) (l0 : Option Nat) (l1 : Int32) (l2 : Int32) (l3 : Int32) (l4 : Int32) (l6 : Int32), Gd X mX6_layItem h0 (k73 h l0 l1 l2 l3 l4 l6) h 73 [some (.inr (.inr l0)), some (.inl l1), some (.inl l2), some (.inl l3), some (.inl l4), none, some (.inl l6), none] []) (h : Hp) (l0 : Option Nat) (l1 : Int32) (l2 : Int32) (l3 : Int32) (l4 : Int32) (l6 : Int32) : Gd X mX6_layItem h0 (fX6_layItem_123 X.2.2.2 k73 h l0 l1 l2 l3 l4 l6) h 123 [some (.inr (.inr l0)), some (.inl l1), some (.inl l2), some (.inl l3), some (.inl l4), none, some (.inl l6), none] [] := by
  unfold fX6_layItem_123
  refine q_run tkX6_layItem 69 2 (pc' := 73) (L' := [some (.inr (.inr l0)), some (.inl l1), some (.inl l2), some (.inl l3), some (.inl l4), none, some (.inl (l6 + (1 : Int32))), none]) (st' := []) rfl ?_
  exact hk73 h l0 l1 l2 l3 l4 (l6 + (1 : Int32))
def fX6_layItem_174 (c : Nat → Option Nat) (h : Hp) (l0 : Option Nat) (s0 : Option Nat) (s1 : Int32) : Rs := wr h s0 8 12 (.inl s1) (fun h1 => ck h1 l0 8 (cc (fX6_nextLine c h1 l0) (kV fun h2 => some (h2, none))))
set_option maxHeartbeats 4000000 in
set_option maxRecDepth 100000 in
theorem sX6_layItem_174 (X : Cx) {h0 : Hp} (h : Hp) (l0 : Option Nat) (s0 : Option Nat) (s1 : Int32) : Gd X mX6_layItem h0 (fX6_layItem_174 X.2.2.2 h l0 s0 s1) h 174 [some (.inr (.inr l0)), none, none, none, none, none, none, none] [.inl s1, .inr (.inr s0)] := by
  unfold fX6_layItem_174
  refine q_wr RX6 TX6 15 (tbm tkX6_layItem (i := 95) rfl) rfl (Nat.le_of_ble_eq_true rfl) (Or.inl rfl) wd_947 (fun h1 => ?_)
  refine q_run tkX6_layItem 96 1 (pc' := 178) (L' := [some (.inr (.inr l0)), none, none, none, none, none, none, none]) (st' := [.inr (.inr l0)]) rfl ?_
  refine q_cv (r := l0) (ci := 8) (n := 0) (as := []) (st := []) TX6 15 (soX6_nextLine X h1 l0) (tbm tkX6_layItem (i := 97) rfl) rfl rfl ceX6_nextLine wd_1121 wd_42 wd_1119 rfl (Nat.le_of_ble_eq_true rfl) (kV_gd (fun h2 => ?_))
  exact q_vret (tbm tkX6_layItem (i := 98) rfl) rfl
def fX6_layItem_73 (c : Nat → Option Nat) : Nat → Hp → Option Nat → Int32 → Int32 → Int32 → Int32 → Int32 → Rs
  | 0, _, _, _, _, _, _, _ => none
  | n + 1, h, l0, l1, l2, l3, l4, l6 => ck h l0 8 (cc (fX6_nameLength c h l0 l1 l2) (kI fun h3 x4 => if l6 < x4 then (ck h3 l0 8 (cc (fX6_nameSign c h3 l0 l1 l2 l6) (kI fun h5 x6 => if x6 = (27 : Int32) then (ck h5 l0 8 (cc (fX6_layWord c h5 l0 (l3 - (8 : Int32))) (kV fun h7 => fX6_layItem_123 c (fX6_layItem_73 c n) h7 l0 l1 l2 l3 l4 l6))) else (ck h5 l0 8 (cc (fX6_addsToWord c h5 l0 (((97 : Int32) + x6) - (1 : Int32))) (kV fun h8 => fX6_layItem_123 c (fX6_layItem_73 c n) h8 l0 l1 l2 l3 l4 l6)))))) else (ck h3 l0 8 (cc (fX6_layWord c h3 l0 (l3 - (8 : Int32))) (kV fun h9 => ck h9 l0 8 (cc (fX6_sum c h9 l0 l1 l2) (kI fun h10 x11 => ck h10 l0 8 (cc (fX6_money c h10 l0 x11 l3) (kV fun h12 => rdI h12 l0 8 9 (fun x13 => rdI h12 l0 8 10 (fun x14 => cc (fX6_in c h12 x13 l4 x14) (kI fun h15 x16 => if x16 = 0 then (rdI h15 l0 8 12 (fun x17 => fX6_layItem_174 c h15 l0 l0 x17)) else (fX6_layItem_174 c h15 l0 l0 l4)))))))))))))
set_option maxHeartbeats 4000000 in
set_option maxRecDepth 100000 in
theorem sX6_layItem_73 (X : Cx) {h0 : Hp} : ∀ (n : Nat) (h : Hp) (l0 : Option Nat) (l1 : Int32) (l2 : Int32) (l3 : Int32) (l4 : Int32) (l6 : Int32), Gd X mX6_layItem h0 (fX6_layItem_73 X.2.2.2 n h l0 l1 l2 l3 l4 l6) h 73 [some (.inr (.inr l0)), some (.inl l1), some (.inl l2), some (.inl l3), some (.inl l4), none, some (.inl l6), none] [] := by
  intro n
  induction n with
  | zero => intros; exact gd_none
  | succ n ih =>
    intro h l0 l1 l2 l3 l4 l6
    unfold fX6_layItem_73
    refine q_run tkX6_layItem 41 4 (pc' := 78) (L' := [some (.inr (.inr l0)), some (.inl l1), some (.inl l2), some (.inl l3), some (.inl l4), none, some (.inl l6), none]) (st' := [.inl l2, .inl l1, .inr (.inr l0), .inl l6]) rfl ?_
    refine q_cv (r := l0) (ci := 8) (n := 2) (as := [.inl l1, .inl l2]) (st := [.inl l6]) TX6 15 (soX6_nameLength X h l0 l1 l2) (tbm tkX6_layItem (i := 45) rfl) rfl rfl ceX6_nameLength wd_1141 wd_47 wd_1139 rfl (Nat.le_of_ble_eq_true rfl) (kI_gd (fun h3 x4 => ?_))
    refine q_icmp_ge (tbm tkX6_layItem (i := 46) rfl) ?_ ?_
    · refine q_run tkX6_layItem 47 4 (pc' := 89) (L' := [some (.inr (.inr l0)), some (.inl l1), some (.inl l2), some (.inl l3), some (.inl l4), none, some (.inl l6), none]) (st' := [.inl l6, .inl l2, .inl l1, .inr (.inr l0)]) rfl ?_
      refine q_cv (r := l0) (ci := 8) (n := 3) (as := [.inl l1, .inl l2, .inl l6]) (st := []) TX6 15 (soX6_nameSign X h3 l0 l1 l2 l6) (tbm tkX6_layItem (i := 51) rfl) rfl rfl ceX6_nameSign wd_1145 wd_48 wd_1143 rfl (Nat.le_of_ble_eq_true rfl) (kI_gd (fun h5 x6 => ?_))
      refine q_run tkX6_layItem 52 3 (pc' := 98) (L' := [some (.inr (.inr l0)), some (.inl l1), some (.inl l2), some (.inl l3), some (.inl l4), none, some (.inl l6), some (.inl x6)]) (st' := [.inl (27 : Int32), .inl x6]) rfl ?_
      refine q_icmp_ne (tbm tkX6_layItem (i := 55) rfl) ?_ ?_
      · refine q_run tkX6_layItem 56 4 (pc' := 106) (L' := [some (.inr (.inr l0)), some (.inl l1), some (.inl l2), some (.inl l3), some (.inl l4), none, some (.inl l6), some (.inl x6)]) (st' := [.inl (l3 - (8 : Int32)), .inr (.inr l0)]) rfl ?_
        refine q_cv (r := l0) (ci := 8) (n := 1) (as := [.inl (l3 - (8 : Int32))]) (st := []) TX6 15 (soX6_layWord X h5 l0 (l3 - (8 : Int32))) (tbm tkX6_layItem (i := 60) rfl) rfl rfl ceX6_layWord wd_1137 wd_46 wd_1135 rfl (Nat.le_of_ble_eq_true rfl) (kV_gd (fun h7 => ?_))
        refine q_run tkX6_layItem 61 1 (pc' := 123) (L' := [some (.inr (.inr l0)), some (.inl l1), some (.inl l2), some (.inl l3), some (.inl l4), none, some (.inl l6), some (.inl x6)]) (st' := []) rfl ?_
        refine q_le (L' := [some (.inr (.inr l0)), some (.inl l1), some (.inl l2), some (.inl l3), some (.inl l4), none, some (.inl l6), none]) (lvLe_s (lvLe_s (lvLe_s (lvLe_s (lvLe_s (lvLe_n (lvLe_s (lvLe_n lvLe_0)))))))) ?_
        exact sX6_layItem_123 X (fX6_layItem_73 X.2.2.2 n) ih h7 l0 l1 l2 l3 l4 l6
      · refine q_run tkX6_layItem 62 6 (pc' := 120) (L' := [some (.inr (.inr l0)), some (.inl l1), some (.inl l2), some (.inl l3), some (.inl l4), none, some (.inl l6), some (.inl x6)]) (st' := [.inl (((97 : Int32) + x6) - (1 : Int32)), .inr (.inr l0)]) rfl ?_
        refine q_cv (r := l0) (ci := 8) (n := 1) (as := [.inl (((97 : Int32) + x6) - (1 : Int32))]) (st := []) TX6 15 (soX6_addsToWord X h5 l0 (((97 : Int32) + x6) - (1 : Int32))) (tbm tkX6_layItem (i := 68) rfl) rfl rfl ceX6_addsToWord wd_1133 wd_45 wd_1131 rfl (Nat.le_of_ble_eq_true rfl) (kV_gd (fun h8 => ?_))
        refine q_le (L' := [some (.inr (.inr l0)), some (.inl l1), some (.inl l2), some (.inl l3), some (.inl l4), none, some (.inl l6), none]) (lvLe_s (lvLe_s (lvLe_s (lvLe_s (lvLe_s (lvLe_n (lvLe_s (lvLe_n lvLe_0)))))))) ?_
        exact sX6_layItem_123 X (fX6_layItem_73 X.2.2.2 n) ih h8 l0 l1 l2 l3 l4 l6
    · refine q_run tkX6_layItem 71 4 (pc' := 134) (L' := [some (.inr (.inr l0)), some (.inl l1), some (.inl l2), some (.inl l3), some (.inl l4), none, some (.inl l6), none]) (st' := [.inl (l3 - (8 : Int32)), .inr (.inr l0)]) rfl ?_
      refine q_cv (r := l0) (ci := 8) (n := 1) (as := [.inl (l3 - (8 : Int32))]) (st := []) TX6 15 (soX6_layWord X h3 l0 (l3 - (8 : Int32))) (tbm tkX6_layItem (i := 75) rfl) rfl rfl ceX6_layWord wd_1137 wd_46 wd_1135 rfl (Nat.le_of_ble_eq_true rfl) (kV_gd (fun h9 => ?_))
      refine q_run tkX6_layItem 76 4 (pc' := 141) (L' := [some (.inr (.inr l0)), some (.inl l1), some (.inl l2), some (.inl l3), some (.inl l4), none, some (.inl l6), none]) (st' := [.inl l2, .inl l1, .inr (.inr l0), .inr (.inr l0)]) rfl ?_
      refine q_cv (r := l0) (ci := 8) (n := 2) (as := [.inl l1, .inl l2]) (st := [.inr (.inr l0)]) TX6 15 (soX6_sum X h9 l0 l1 l2) (tbm tkX6_layItem (i := 80) rfl) rfl rfl ceX6_sum wd_1045 wd_27 wd_1043 rfl (Nat.le_of_ble_eq_true rfl) (kI_gd (fun h10 x11 => ?_))
      refine q_run tkX6_layItem 81 1 (pc' := 145) (L' := [some (.inr (.inr l0)), some (.inl l1), some (.inl l2), some (.inl l3), some (.inl l4), none, some (.inl l6), none]) (st' := [.inl l3, .inl x11, .inr (.inr l0)]) rfl ?_
      refine q_cv (r := l0) (ci := 8) (n := 2) (as := [.inl x11, .inl l3]) (st := []) TX6 15 (soX6_money X h10 l0 x11 l3) (tbm tkX6_layItem (i := 82) rfl) rfl rfl ceX6_money wd_1149 wd_49 wd_1147 rfl (Nat.le_of_ble_eq_true rfl) (kV_gd (fun h12 => ?_))
      refine q_run tkX6_layItem 83 2 (pc' := 150) (L' := [some (.inr (.inr l0)), some (.inl l1), some (.inl l2), some (.inl l3), some (.inl l4), none, some (.inl l6), none]) (st' := [.inr (.inr l0), .inr (.inr l0)]) rfl ?_
      refine q_rdI RX6 TX6 15 (tbm tkX6_layItem (i := 85) rfl) rfl (Nat.le_of_ble_eq_true rfl) wd_944 (fun x13 => ?_)
      refine q_run tkX6_layItem 86 2 (pc' := 156) (L' := [some (.inr (.inr l0)), some (.inl l1), some (.inl l2), some (.inl l3), some (.inl l4), none, some (.inl l6), none]) (st' := [.inr (.inr l0), .inl l4, .inl x13, .inr (.inr l0)]) rfl ?_
      refine q_rdI RX6 TX6 15 (tbm tkX6_layItem (i := 88) rfl) rfl (Nat.le_of_ble_eq_true rfl) wd_945 (fun x14 => ?_)
      refine q_cs (n := 3) (as := [.inl x13, .inl l4, .inl x14]) (st := [.inr (.inr l0)]) (soX6_in X h12 x13 l4 x14) (tbm tkX6_layItem (i := 89) rfl) rfl ceX6_in wd_987 wd_986 rfl (Nat.le_of_ble_eq_true rfl) (kI_gd (fun h15 x16 => ?_))
      refine q_if_eq (tbm tkX6_layItem (i := 90) rfl) ?_ ?_
      · refine q_run tkX6_layItem 93 1 (pc' := 171) (L' := [some (.inr (.inr l0)), some (.inl l1), some (.inl l2), some (.inl l3), some (.inl l4), none, some (.inl l6), none]) (st' := [.inr (.inr l0), .inr (.inr l0)]) rfl ?_
        refine q_rdI RX6 TX6 15 (tbm tkX6_layItem (i := 94) rfl) rfl (Nat.le_of_ble_eq_true rfl) wd_947 (fun x17 => ?_)
        refine q_le (L' := [some (.inr (.inr l0)), none, none, none, none, none, none, none]) (lvLe_s (lvLe_n (lvLe_n (lvLe_n (lvLe_n (lvLe_n (lvLe_n (lvLe_n lvLe_0)))))))) ?_
        exact sX6_layItem_174 X h15 l0 l0 x17
      · refine q_run tkX6_layItem 91 2 (pc' := 174) (L' := [some (.inr (.inr l0)), some (.inl l1), some (.inl l2), some (.inl l3), some (.inl l4), none, some (.inl l6), none]) (st' := [.inl l4, .inr (.inr l0)]) rfl ?_
        refine q_le (L' := [some (.inr (.inr l0)), none, none, none, none, none, none, none]) (lvLe_s (lvLe_n (lvLe_n (lvLe_n (lvLe_n (lvLe_n (lvLe_n (lvLe_n lvLe_0)))))))) ?_
        exact sX6_layItem_174 X h15 l0 l0 l4
def fX6_layItem_70 (c : Nat → Option Nat) (h : Hp) (l0 : Option Nat) (l1 : Int32) (l2 : Int32) (l3 : Int32) (l4 : Int32) : Rs := fX6_layItem_73 c FU h l0 l1 l2 l3 l4 (0 : Int32)
set_option maxHeartbeats 4000000 in
set_option maxRecDepth 100000 in
theorem sX6_layItem_70 (X : Cx) {h0 : Hp} (h : Hp) (l0 : Option Nat) (l1 : Int32) (l2 : Int32) (l3 : Int32) (l4 : Int32) : Gd X mX6_layItem h0 (fX6_layItem_70 X.2.2.2 h l0 l1 l2 l3 l4) h 70 [some (.inr (.inr l0)), some (.inl l1), some (.inl l2), some (.inl l3), some (.inl l4), none, none, none] [] := by
  unfold fX6_layItem_70
  refine q_run tkX6_layItem 39 2 (pc' := 73) (L' := [some (.inr (.inr l0)), some (.inl l1), some (.inl l2), some (.inl l3), some (.inl l4), none, some (.inl (0 : Int32)), none]) (st' := []) rfl ?_
  exact sX6_layItem_73 X FU h l0 l1 l2 l3 l4 (0 : Int32)
def fX6_layItem_38 (c : Nat → Option Nat) (h : Hp) (l0 : Option Nat) (l1 : Int32) (l2 : Int32) (l3 : Int32) (l4 : Int32) (l5 : Int32) : Rs := if (1 : Int32) < l5 then (dv (10 : Int32) (ck h l0 8 (cc (fX6_addsToWord c h l0 ((48 : Int32) + (l5 - l5 / (10 : Int32) * (10 : Int32)))) (kV fun h18 => ck h18 l0 8 (cc (fX6_addsToWord c h18 l0 (120 : Int32)) (kV fun h19 => ck h19 l0 8 (cc (fX6_layWord c h19 l0 (l3 - (8 : Int32))) (kV fun h20 => fX6_layItem_70 c h20 l0 l1 l2 l3 l4)))))))) else (fX6_layItem_70 c h l0 l1 l2 l3 l4)
set_option maxHeartbeats 4000000 in
set_option maxRecDepth 100000 in
theorem sX6_layItem_38 (X : Cx) {h0 : Hp} (h : Hp) (l0 : Option Nat) (l1 : Int32) (l2 : Int32) (l3 : Int32) (l4 : Int32) (l5 : Int32) : Gd X mX6_layItem h0 (fX6_layItem_38 X.2.2.2 h l0 l1 l2 l3 l4 l5) h 38 [some (.inr (.inr l0)), some (.inl l1), some (.inl l2), some (.inl l3), some (.inl l4), some (.inl l5), none, none] [] := by
  unfold fX6_layItem_38
  refine q_run tkX6_layItem 21 2 (pc' := 41) (L' := [some (.inr (.inr l0)), some (.inl l1), some (.inl l2), some (.inl l3), some (.inl l4), some (.inl l5), none, none]) (st' := [.inl (1 : Int32), .inl l5]) rfl ?_
  refine q_icmp_le (tbm tkX6_layItem (i := 23) rfl) ?_ ?_
  · refine q_run tkX6_layItem 24 4 (pc' := 51) (L' := [some (.inr (.inr l0)), some (.inl l1), some (.inl l2), some (.inl l3), some (.inl l4), some (.inl l5), none, none]) (st' := [.inl (10 : Int32), .inl l5, .inl (48 : Int32), .inr (.inr l0)]) rfl ?_
    refine q_rem (tbm tkX6_layItem (i := 28) rfl) ?_
    refine q_run tkX6_layItem 29 1 (pc' := 53) (L' := [some (.inr (.inr l0)), some (.inl l1), some (.inl l2), some (.inl l3), some (.inl l4), some (.inl l5), none, none]) (st' := [.inl ((48 : Int32) + (l5 - l5 / (10 : Int32) * (10 : Int32))), .inr (.inr l0)]) rfl ?_
    refine q_cv (r := l0) (ci := 8) (n := 1) (as := [.inl ((48 : Int32) + (l5 - l5 / (10 : Int32) * (10 : Int32)))]) (st := []) TX6 15 (soX6_addsToWord X h l0 ((48 : Int32) + (l5 - l5 / (10 : Int32) * (10 : Int32)))) (tbm tkX6_layItem (i := 30) rfl) rfl rfl ceX6_addsToWord wd_1133 wd_45 wd_1131 rfl (Nat.le_of_ble_eq_true rfl) (kV_gd (fun h18 => ?_))
    refine q_run tkX6_layItem 31 2 (pc' := 59) (L' := [some (.inr (.inr l0)), some (.inl l1), some (.inl l2), some (.inl l3), some (.inl l4), some (.inl l5), none, none]) (st' := [.inl (120 : Int32), .inr (.inr l0)]) rfl ?_
    refine q_cv (r := l0) (ci := 8) (n := 1) (as := [.inl (120 : Int32)]) (st := []) TX6 15 (soX6_addsToWord X h18 l0 (120 : Int32)) (tbm tkX6_layItem (i := 33) rfl) rfl rfl ceX6_addsToWord wd_1133 wd_45 wd_1131 rfl (Nat.le_of_ble_eq_true rfl) (kV_gd (fun h19 => ?_))
    refine q_run tkX6_layItem 34 4 (pc' := 67) (L' := [some (.inr (.inr l0)), some (.inl l1), some (.inl l2), some (.inl l3), some (.inl l4), some (.inl l5), none, none]) (st' := [.inl (l3 - (8 : Int32)), .inr (.inr l0)]) rfl ?_
    refine q_cv (r := l0) (ci := 8) (n := 1) (as := [.inl (l3 - (8 : Int32))]) (st := []) TX6 15 (soX6_layWord X h19 l0 (l3 - (8 : Int32))) (tbm tkX6_layItem (i := 38) rfl) rfl rfl ceX6_layWord wd_1137 wd_46 wd_1135 rfl (Nat.le_of_ble_eq_true rfl) (kV_gd (fun h20 => ?_))
    refine q_le (L' := [some (.inr (.inr l0)), some (.inl l1), some (.inl l2), some (.inl l3), some (.inl l4), none, none, none]) (lvLe_s (lvLe_s (lvLe_s (lvLe_s (lvLe_s (lvLe_n (lvLe_n (lvLe_n lvLe_0)))))))) ?_
    exact sX6_layItem_70 X h20 l0 l1 l2 l3 l4
  · refine q_le (L' := [some (.inr (.inr l0)), some (.inl l1), some (.inl l2), some (.inl l3), some (.inl l4), none, none, none]) (lvLe_s (lvLe_s (lvLe_s (lvLe_s (lvLe_s (lvLe_n (lvLe_n (lvLe_n lvLe_0)))))))) ?_
    exact sX6_layItem_70 X h l0 l1 l2 l3 l4
def fX6_layItem (c : Nat → Option Nat) (h : Hp) (a0 : Option Nat) (a1 : Int32) (a2 : Int32) (a3 : Int32) : Rs := rdI h a0 8 10 (fun x21 => ck h a0 8 (cc (fX6_howMany c h a0 a1 a2) (kI fun h22 x23 => wr h22 a0 8 14 (.inl (0 : Int32)) (fun h24 => if (9 : Int32) < x23 then (dv (10 : Int32) (ck h24 a0 8 (cc (fX6_addsToWord c h24 a0 ((48 : Int32) + (x23 / (10 : Int32)))) (kV fun h25 => fX6_layItem_38 c h25 a0 a1 a2 a3 x21 x23)))) else (fX6_layItem_38 c h24 a0 a1 a2 a3 x21 x23)))))
set_option maxHeartbeats 4000000 in
set_option maxRecDepth 100000 in
theorem soX6_layItem (X : Cx) (h : Hp) (a0 : Option Nat) (a1 : Int32) (a2 : Int32) (a3 : Int32) : SO X mX6_layItem [.inr (.inr a0), .inl a1, .inl a2, .inl a3] h (fX6_layItem X.2.2.2 h a0 a1 a2 a3) := by
  refine so_of (by decide +kernel) (Nat.le_of_ble_eq_true rfl) ?_
  show Gd X mX6_layItem h (fX6_layItem X.2.2.2 h a0 a1 a2 a3) h 0 [some (.inr (.inr a0)), some (.inl a1), some (.inl a2), some (.inl a3), none, none, none, none] []
  unfold fX6_layItem
  refine q_run tkX6_layItem 0 1 (pc' := 1) (L' := [some (.inr (.inr a0)), some (.inl a1), some (.inl a2), some (.inl a3), none, none, none, none]) (st' := [.inr (.inr a0)]) rfl ?_
  refine q_rdI RX6 TX6 15 (tbm tkX6_layItem (i := 1) rfl) rfl (Nat.le_of_ble_eq_true rfl) wd_945 (fun x21 => ?_)
  refine q_run tkX6_layItem 2 4 (pc' := 9) (L' := [some (.inr (.inr a0)), some (.inl a1), some (.inl a2), some (.inl a3), some (.inl x21), none, none, none]) (st' := [.inl a2, .inl a1, .inr (.inr a0)]) rfl ?_
  refine q_cv (r := a0) (ci := 8) (n := 2) (as := [.inl a1, .inl a2]) (st := []) TX6 15 (soX6_howMany X h a0 a1 a2) (tbm tkX6_layItem (i := 6) rfl) rfl rfl ceX6_howMany wd_1049 wd_28 wd_1047 rfl (Nat.le_of_ble_eq_true rfl) (kI_gd (fun h22 x23 => ?_))
  refine q_run tkX6_layItem 7 3 (pc' := 16) (L' := [some (.inr (.inr a0)), some (.inl a1), some (.inl a2), some (.inl a3), some (.inl x21), some (.inl x23), none, none]) (st' := [.inl (0 : Int32), .inr (.inr a0)]) rfl ?_
  refine q_wr RX6 TX6 15 (tbm tkX6_layItem (i := 10) rfl) rfl (Nat.le_of_ble_eq_true rfl) (Or.inl rfl) wd_949 (fun h24 => ?_)
  refine q_run tkX6_layItem 11 2 (pc' := 23) (L' := [some (.inr (.inr a0)), some (.inl a1), some (.inl a2), some (.inl a3), some (.inl x21), some (.inl x23), none, none]) (st' := [.inl (9 : Int32), .inl x23]) rfl ?_
  refine q_icmp_le (tbm tkX6_layItem (i := 13) rfl) ?_ ?_
  · refine q_run tkX6_layItem 14 4 (pc' := 33) (L' := [some (.inr (.inr a0)), some (.inl a1), some (.inl a2), some (.inl a3), some (.inl x21), some (.inl x23), none, none]) (st' := [.inl (10 : Int32), .inl x23, .inl (48 : Int32), .inr (.inr a0)]) rfl ?_
    refine q_div (tbm tkX6_layItem (i := 18) rfl) ?_
    refine q_run tkX6_layItem 19 1 (pc' := 35) (L' := [some (.inr (.inr a0)), some (.inl a1), some (.inl a2), some (.inl a3), some (.inl x21), some (.inl x23), none, none]) (st' := [.inl ((48 : Int32) + (x23 / (10 : Int32))), .inr (.inr a0)]) rfl ?_
    refine q_cv (r := a0) (ci := 8) (n := 1) (as := [.inl ((48 : Int32) + (x23 / (10 : Int32)))]) (st := []) TX6 15 (soX6_addsToWord X h24 a0 ((48 : Int32) + (x23 / (10 : Int32)))) (tbm tkX6_layItem (i := 20) rfl) rfl rfl ceX6_addsToWord wd_1133 wd_45 wd_1131 rfl (Nat.le_of_ble_eq_true rfl) (kV_gd (fun h25 => ?_))
    exact sX6_layItem_38 X h25 a0 a1 a2 a3 x21 x23
  · exact sX6_layItem_38 X h24 a0 a1 a2 a3 x21 x23
theorem ceX6_layItem : Ce mX6_layItem 3 := ⟨wd_81, wd_1130, by decide +kernel, by decide +kernel, by decide +kernel⟩
/-- ReceiptRollsModel.layVoid -/
abbrev mX6_layVoid : MI := (yX6_layVoid, cX6_layVoid, 4, none, 4)
def tbX6_layVoid : List TE := [(0, .aload_n 0, 1, 0, 0), (1, .bipush 118, 2, 118, 0), (3, .invokevirtual 87, 3, 0, 0), (6, .aload_n 0, 1, 0, 0), (7, .bipush 111, 2, 111, 0), (9, .invokevirtual 87, 3, 0, 0), (12, .aload_n 0, 1, 0, 0), (13, .bipush 105, 2, 105, 0), (15, .invokevirtual 87, 3, 0, 0), (18, .aload_n 0, 1, 0, 0), (19, .bipush 100, 2, 100, 0), (21, .invokevirtual 87, 3, 0, 0), (24, .aload_n 0, 1, 0, 0), (25, .bipush 32, 2, 32, 0), (27, .invokevirtual 87, 3, 0, 0), (30, .aload_n 0, 1, 0, 0), (31, .iload_n 2, 1, 0, 0), (32, .invokevirtual 116, 3, 0, 0), (35, .aload_n 0, 1, 0, 0), (36, .aload_n 0, 1, 0, 0), (37, .iload_n 1, 1, 0, 0), (38, .iload_n 2, 1, 0, 0), (39, .invokevirtual 64, 3, 0, 0), (42, .ineg, 1, 0, 0), (43, .iload_n 3, 1, 0, 0), (44, .invokevirtual 110, 3, 0, 0), (47, .aload_n 0, 1, 0, 0), (48, .invokevirtual 94, 3, 0, 0), (51, .return_, 1, 0, 0)]
theorem tkX6_layVoid : ∀ x ∈ tbX6_layVoid, tbB cX6_layVoid x = true := tb_all (by decide +kernel)
def fX6_layVoid (c : Nat → Option Nat) (h : Hp) (a0 : Option Nat) (a1 : Int32) (a2 : Int32) (a3 : Int32) : Rs := ck h a0 8 (cc (fX6_lays c h a0 (118 : Int32)) (kV fun h1 => ck h1 a0 8 (cc (fX6_lays c h1 a0 (111 : Int32)) (kV fun h2 => ck h2 a0 8 (cc (fX6_lays c h2 a0 (105 : Int32)) (kV fun h3 => ck h3 a0 8 (cc (fX6_lays c h3 a0 (100 : Int32)) (kV fun h4 => ck h4 a0 8 (cc (fX6_lays c h4 a0 (32 : Int32)) (kV fun h5 => ck h5 a0 8 (cc (fX6_number c h5 a0 a2) (kV fun h6 => ck h6 a0 8 (cc (fX6_sum c h6 a0 a1 a2) (kI fun h7 x8 => ck h7 a0 8 (cc (fX6_money c h7 a0 (-x8) a3) (kV fun h9 => ck h9 a0 8 (cc (fX6_nextLine c h9 a0) (kV fun h10 => some (h10, none)))))))))))))))))))
set_option maxHeartbeats 4000000 in
set_option maxRecDepth 100000 in
theorem soX6_layVoid (X : Cx) (h : Hp) (a0 : Option Nat) (a1 : Int32) (a2 : Int32) (a3 : Int32) : SO X mX6_layVoid [.inr (.inr a0), .inl a1, .inl a2, .inl a3] h (fX6_layVoid X.2.2.2 h a0 a1 a2 a3) := by
  refine so_of (by decide +kernel) (Nat.le_of_ble_eq_true rfl) ?_
  show Gd X mX6_layVoid h (fX6_layVoid X.2.2.2 h a0 a1 a2 a3) h 0 [some (.inr (.inr a0)), some (.inl a1), some (.inl a2), some (.inl a3)] []
  unfold fX6_layVoid
  refine q_run tkX6_layVoid 0 2 (pc' := 3) (L' := [some (.inr (.inr a0)), some (.inl a1), some (.inl a2), some (.inl a3)]) (st' := [.inl (118 : Int32), .inr (.inr a0)]) rfl ?_
  refine q_cv (r := a0) (ci := 8) (n := 1) (as := [.inl (118 : Int32)]) (st := []) TX6 15 (soX6_lays X h a0 (118 : Int32)) (tbm tkX6_layVoid (i := 2) rfl) rfl rfl ceX6_lays wd_1105 wd_38 wd_1103 rfl (Nat.le_of_ble_eq_true rfl) (kV_gd (fun h1 => ?_))
  refine q_run tkX6_layVoid 3 2 (pc' := 9) (L' := [some (.inr (.inr a0)), some (.inl a1), some (.inl a2), some (.inl a3)]) (st' := [.inl (111 : Int32), .inr (.inr a0)]) rfl ?_
  refine q_cv (r := a0) (ci := 8) (n := 1) (as := [.inl (111 : Int32)]) (st := []) TX6 15 (soX6_lays X h1 a0 (111 : Int32)) (tbm tkX6_layVoid (i := 5) rfl) rfl rfl ceX6_lays wd_1105 wd_38 wd_1103 rfl (Nat.le_of_ble_eq_true rfl) (kV_gd (fun h2 => ?_))
  refine q_run tkX6_layVoid 6 2 (pc' := 15) (L' := [some (.inr (.inr a0)), some (.inl a1), some (.inl a2), some (.inl a3)]) (st' := [.inl (105 : Int32), .inr (.inr a0)]) rfl ?_
  refine q_cv (r := a0) (ci := 8) (n := 1) (as := [.inl (105 : Int32)]) (st := []) TX6 15 (soX6_lays X h2 a0 (105 : Int32)) (tbm tkX6_layVoid (i := 8) rfl) rfl rfl ceX6_lays wd_1105 wd_38 wd_1103 rfl (Nat.le_of_ble_eq_true rfl) (kV_gd (fun h3 => ?_))
  refine q_run tkX6_layVoid 9 2 (pc' := 21) (L' := [some (.inr (.inr a0)), some (.inl a1), some (.inl a2), some (.inl a3)]) (st' := [.inl (100 : Int32), .inr (.inr a0)]) rfl ?_
  refine q_cv (r := a0) (ci := 8) (n := 1) (as := [.inl (100 : Int32)]) (st := []) TX6 15 (soX6_lays X h3 a0 (100 : Int32)) (tbm tkX6_layVoid (i := 11) rfl) rfl rfl ceX6_lays wd_1105 wd_38 wd_1103 rfl (Nat.le_of_ble_eq_true rfl) (kV_gd (fun h4 => ?_))
  refine q_run tkX6_layVoid 12 2 (pc' := 27) (L' := [some (.inr (.inr a0)), some (.inl a1), some (.inl a2), some (.inl a3)]) (st' := [.inl (32 : Int32), .inr (.inr a0)]) rfl ?_
  refine q_cv (r := a0) (ci := 8) (n := 1) (as := [.inl (32 : Int32)]) (st := []) TX6 15 (soX6_lays X h4 a0 (32 : Int32)) (tbm tkX6_layVoid (i := 14) rfl) rfl rfl ceX6_lays wd_1105 wd_38 wd_1103 rfl (Nat.le_of_ble_eq_true rfl) (kV_gd (fun h5 => ?_))
  refine q_run tkX6_layVoid 15 2 (pc' := 32) (L' := [some (.inr (.inr a0)), some (.inl a1), some (.inl a2), some (.inl a3)]) (st' := [.inl a2, .inr (.inr a0)]) rfl ?_
  refine q_cv (r := a0) (ci := 8) (n := 1) (as := [.inl a2]) (st := []) TX6 15 (soX6_number X h5 a0 a2) (tbm tkX6_layVoid (i := 17) rfl) rfl rfl ceX6_number wd_1117 wd_41 wd_1115 rfl (Nat.le_of_ble_eq_true rfl) (kV_gd (fun h6 => ?_))
  refine q_run tkX6_layVoid 18 4 (pc' := 39) (L' := [some (.inr (.inr a0)), some (.inl a1), some (.inl a2), some (.inl a3)]) (st' := [.inl a2, .inl a1, .inr (.inr a0), .inr (.inr a0)]) rfl ?_
  refine q_cv (r := a0) (ci := 8) (n := 2) (as := [.inl a1, .inl a2]) (st := [.inr (.inr a0)]) TX6 15 (soX6_sum X h6 a0 a1 a2) (tbm tkX6_layVoid (i := 22) rfl) rfl rfl ceX6_sum wd_1045 wd_27 wd_1043 rfl (Nat.le_of_ble_eq_true rfl) (kI_gd (fun h7 x8 => ?_))
  refine q_run tkX6_layVoid 23 2 (pc' := 44) (L' := [some (.inr (.inr a0)), some (.inl a1), some (.inl a2), some (.inl a3)]) (st' := [.inl a3, .inl (-x8), .inr (.inr a0)]) rfl ?_
  refine q_cv (r := a0) (ci := 8) (n := 2) (as := [.inl (-x8), .inl a3]) (st := []) TX6 15 (soX6_money X h7 a0 (-x8) a3) (tbm tkX6_layVoid (i := 25) rfl) rfl rfl ceX6_money wd_1149 wd_49 wd_1147 rfl (Nat.le_of_ble_eq_true rfl) (kV_gd (fun h9 => ?_))
  refine q_run tkX6_layVoid 26 1 (pc' := 48) (L' := [some (.inr (.inr a0)), some (.inl a1), some (.inl a2), some (.inl a3)]) (st' := [.inr (.inr a0)]) rfl ?_
  refine q_cv (r := a0) (ci := 8) (n := 0) (as := []) (st := []) TX6 15 (soX6_nextLine X h9 a0) (tbm tkX6_layVoid (i := 27) rfl) rfl rfl ceX6_nextLine wd_1121 wd_42 wd_1119 rfl (Nat.le_of_ble_eq_true rfl) (kV_gd (fun h10 => ?_))
  exact q_vret (tbm tkX6_layVoid (i := 28) rfl) rfl
theorem ceX6_layVoid : Ce mX6_layVoid 3 := ⟨wd_81, wd_1154, by decide +kernel, by decide +kernel, by decide +kernel⟩
/-- ReceiptRollsModel.total -/
abbrev mX6_total : MI := (yX6_total, cX6_total, 4, some .int, 4)
def tbX6_total : List TE := [(0, .iconst 0, 1, 0, 0), (1, .istore_n 2, 1, 0, 0), (2, .iconst 0, 1, 0, 0), (3, .istore_n 3, 1, 0, 0), (4, .iload_n 3, 1, 0, 0), (5, .aload_n 0, 1, 0, 0), (6, .iload_n 1, 1, 0, 0), (7, .bipush 8, 2, 8, 0), (9, .invokevirtual 47, 3, 0, 0), (12, .if_icmp .ge 31, 3, 0, 43), (15, .iload_n 2, 1, 0, 0), (16, .aload_n 0, 1, 0, 0), (17, .iload_n 1, 1, 0, 0), (18, .iload_n 3, 1, 0, 0), (19, .invokevirtual 60, 3, 0, 0), (22, .ifCond .eq 7, 3, 0, 29), (25, .iconst 0, 1, 0, 0), (26, .goto 9, 3, 0, 35), (29, .aload_n 0, 1, 0, 0), (30, .iload_n 1, 1, 0, 0), (31, .iload_n 3, 1, 0, 0), (32, .invokevirtual 64, 3, 0, 0), (35, .iadd, 1, 0, 0), (36, .istore_n 2, 1, 0, 0), (37, .iinc 3 1, 3, 1, 0), (40, .goto (-36), 3, 0, 4), (43, .iload_n 2, 1, 0, 0), (44, .ireturn, 1, 0, 0)]
theorem tkX6_total : ∀ x ∈ tbX6_total, tbB cX6_total x = true := tb_all (by decide +kernel)
def fX6_total_35 (c : Nat → Option Nat) (k4 : Hp → Option Nat → Int32 → Int32 → Int32 → Rs) (h : Hp) (l0 : Option Nat) (l1 : Int32) (l3 : Int32) (s0 : Int32) (s1 : Int32) : Rs := k4 h l0 l1 (s0 + s1) (l3 + (1 : Int32))
set_option maxHeartbeats 4000000 in
set_option maxRecDepth 100000 in
theorem sX6_total_35 (X : Cx) {h0 : Hp} (k4 : Hp → Option Nat → Int32 → Int32 → Int32 → Rs) (hk4 : ∀ (h : Hp) (l0 : Option Nat) (l1 : Int32) (l2 : Int32) (l3 : Int32), Gd X mX6_total h0 (k4 h l0 l1 l2 l3) h 4 [some (.inr (.inr l0)), some (.inl l1), some (.inl l2), some (.inl l3)] []) (h : Hp) (l0 : Option Nat) (l1 : Int32) (l3 : Int32) (s0 : Int32) (s1 : Int32) : Gd X mX6_total h0 (fX6_total_35 X.2.2.2 k4 h l0 l1 l3 s0 s1) h 35 [some (.inr (.inr l0)), some (.inl l1), none, some (.inl l3)] [.inl s1, .inl s0] := by
  unfold fX6_total_35
  refine q_run tkX6_total 22 4 (pc' := 4) (L' := [some (.inr (.inr l0)), some (.inl l1), some (.inl (s0 + s1)), some (.inl (l3 + (1 : Int32)))]) (st' := []) rfl ?_
  exact hk4 h l0 l1 (s0 + s1) (l3 + (1 : Int32))
def fX6_total_4 (c : Nat → Option Nat) : Nat → Hp → Option Nat → Int32 → Int32 → Int32 → Rs
  | 0, _, _, _, _, _ => none
  | n + 1, h, l0, l1, l2, l3 => ck h l0 8 (cc (fX6_of c h l0 l1 (8 : Int32)) (kI fun h1 x2 => if l3 < x2 then (ck h1 l0 8 (cc (fX6_isStruck c h1 l0 l1 l3) (kI fun h3 x4 => if x4 = 0 then (ck h3 l0 8 (cc (fX6_sum c h3 l0 l1 l3) (kI fun h5 x6 => fX6_total_35 c (fX6_total_4 c n) h5 l0 l1 l3 l2 x6))) else (fX6_total_35 c (fX6_total_4 c n) h3 l0 l1 l3 l2 (0 : Int32))))) else (some (h1, some (.inl l2)))))
set_option maxHeartbeats 4000000 in
set_option maxRecDepth 100000 in
theorem sX6_total_4 (X : Cx) {h0 : Hp} : ∀ (n : Nat) (h : Hp) (l0 : Option Nat) (l1 : Int32) (l2 : Int32) (l3 : Int32), Gd X mX6_total h0 (fX6_total_4 X.2.2.2 n h l0 l1 l2 l3) h 4 [some (.inr (.inr l0)), some (.inl l1), some (.inl l2), some (.inl l3)] [] := by
  intro n
  induction n with
  | zero => intros; exact gd_none
  | succ n ih =>
    intro h l0 l1 l2 l3
    unfold fX6_total_4
    refine q_run tkX6_total 4 4 (pc' := 9) (L' := [some (.inr (.inr l0)), some (.inl l1), some (.inl l2), some (.inl l3)]) (st' := [.inl (8 : Int32), .inl l1, .inr (.inr l0), .inl l3]) rfl ?_
    refine q_cv (r := l0) (ci := 8) (n := 2) (as := [.inl l1, .inl (8 : Int32)]) (st := [.inl l3]) TX6 15 (soX6_of X h l0 l1 (8 : Int32)) (tbm tkX6_total (i := 8) rfl) rfl rfl ceX6_of wd_1016 wd_21 wd_1014 rfl (Nat.le_of_ble_eq_true rfl) (kI_gd (fun h1 x2 => ?_))
    refine q_icmp_ge (tbm tkX6_total (i := 9) rfl) ?_ ?_
    · refine q_run tkX6_total 10 4 (pc' := 19) (L' := [some (.inr (.inr l0)), some (.inl l1), some (.inl l2), some (.inl l3)]) (st' := [.inl l3, .inl l1, .inr (.inr l0), .inl l2]) rfl ?_
      refine q_cv (r := l0) (ci := 8) (n := 2) (as := [.inl l1, .inl l3]) (st := [.inl l2]) TX6 15 (soX6_isStruck X h1 l0 l1 l3) (tbm tkX6_total (i := 14) rfl) rfl rfl ceX6_isStruck wd_1036 wd_25 wd_1034 rfl (Nat.le_of_ble_eq_true rfl) (kI_gd (fun h3 x4 => ?_))
      refine q_if_eq (tbm tkX6_total (i := 15) rfl) ?_ ?_
      · refine q_run tkX6_total 18 3 (pc' := 32) (L' := [some (.inr (.inr l0)), some (.inl l1), some (.inl l2), some (.inl l3)]) (st' := [.inl l3, .inl l1, .inr (.inr l0), .inl l2]) rfl ?_
        refine q_cv (r := l0) (ci := 8) (n := 2) (as := [.inl l1, .inl l3]) (st := [.inl l2]) TX6 15 (soX6_sum X h3 l0 l1 l3) (tbm tkX6_total (i := 21) rfl) rfl rfl ceX6_sum wd_1045 wd_27 wd_1043 rfl (Nat.le_of_ble_eq_true rfl) (kI_gd (fun h5 x6 => ?_))
        refine q_le (L' := [some (.inr (.inr l0)), some (.inl l1), none, some (.inl l3)]) (lvLe_s (lvLe_s (lvLe_n (lvLe_s lvLe_0)))) ?_
        exact sX6_total_35 X (fX6_total_4 X.2.2.2 n) ih h5 l0 l1 l3 l2 x6
      · refine q_run tkX6_total 16 2 (pc' := 35) (L' := [some (.inr (.inr l0)), some (.inl l1), some (.inl l2), some (.inl l3)]) (st' := [.inl (0 : Int32), .inl l2]) rfl ?_
        refine q_le (L' := [some (.inr (.inr l0)), some (.inl l1), none, some (.inl l3)]) (lvLe_s (lvLe_s (lvLe_n (lvLe_s lvLe_0)))) ?_
        exact sX6_total_35 X (fX6_total_4 X.2.2.2 n) ih h3 l0 l1 l3 l2 (0 : Int32)
    · refine q_run tkX6_total 26 1 (pc' := 44) (L' := [some (.inr (.inr l0)), some (.inl l1), some (.inl l2), some (.inl l3)]) (st' := [.inl l2]) rfl ?_
      exact q_iret (tbm tkX6_total (i := 27) rfl) rfl
def fX6_total (c : Nat → Option Nat) (h : Hp) (a0 : Option Nat) (a1 : Int32) : Rs := fX6_total_4 c FU h a0 a1 (0 : Int32) (0 : Int32)
set_option maxHeartbeats 4000000 in
set_option maxRecDepth 100000 in
theorem soX6_total (X : Cx) (h : Hp) (a0 : Option Nat) (a1 : Int32) : SO X mX6_total [.inr (.inr a0), .inl a1] h (fX6_total X.2.2.2 h a0 a1) := by
  refine so_of (by decide +kernel) (Nat.le_of_ble_eq_true rfl) ?_
  show Gd X mX6_total h (fX6_total X.2.2.2 h a0 a1) h 0 [some (.inr (.inr a0)), some (.inl a1), none, none] []
  unfold fX6_total
  refine q_run tkX6_total 0 4 (pc' := 4) (L' := [some (.inr (.inr a0)), some (.inl a1), some (.inl (0 : Int32)), some (.inl (0 : Int32))]) (st' := []) rfl ?_
  exact sX6_total_4 X FU h a0 a1 (0 : Int32) (0 : Int32)
theorem ceX6_total : Ce mX6_total 1 := ⟨wd_81, wd_1158, by decide +kernel, by decide +kernel, by decide +kernel⟩
/-- ReceiptRollsModel.tax -/
abbrev mX6_tax : MI := (yX6_tax, cX6_tax, 3, some .int, 2)
def tbX6_tax : List TE := [(0, .aload_n 0, 1, 0, 0), (1, .iload_n 1, 1, 0, 0), (2, .iload_n 2, 1, 0, 0), (3, .invokevirtual 51, 3, 0, 0), (6, .bipush 21, 2, 21, 0), (8, .ishr, 1, 0, 0), (9, .iconst 3, 1, 3, 0), (10, .iand, 1, 0, 0), (11, .ireturn, 1, 0, 0)]
theorem tkX6_tax : ∀ x ∈ tbX6_tax, tbB cX6_tax x = true := tb_all (by decide +kernel)
def fX6_tax (c : Nat → Option Nat) (h : Hp) (a0 : Option Nat) (a1 : Int32) (a2 : Int32) : Rs := ck h a0 8 (cc (fX6_packed c h a0 a1 a2) (kI fun h1 x2 => some (h1, some (.inl ((shrI x2 (21 : Int32)) &&& (3 : Int32))))))
set_option maxHeartbeats 4000000 in
set_option maxRecDepth 100000 in
theorem soX6_tax (X : Cx) (h : Hp) (a0 : Option Nat) (a1 : Int32) (a2 : Int32) : SO X mX6_tax [.inr (.inr a0), .inl a1, .inl a2] h (fX6_tax X.2.2.2 h a0 a1 a2) := by
  refine so_of (by decide +kernel) (Nat.le_of_ble_eq_true rfl) ?_
  show Gd X mX6_tax h (fX6_tax X.2.2.2 h a0 a1 a2) h 0 [some (.inr (.inr a0)), some (.inl a1), some (.inl a2)] []
  unfold fX6_tax
  refine q_run tkX6_tax 0 3 (pc' := 3) (L' := [some (.inr (.inr a0)), some (.inl a1), some (.inl a2)]) (st' := [.inl a2, .inl a1, .inr (.inr a0)]) rfl ?_
  refine q_cv (r := a0) (ci := 8) (n := 2) (as := [.inl a1, .inl a2]) (st := []) TX6 15 (soX6_packed X h a0 a1 a2) (tbm tkX6_tax (i := 3) rfl) rfl rfl ceX6_packed wd_1040 wd_26 wd_1038 rfl (Nat.le_of_ble_eq_true rfl) (kI_gd (fun h1 x2 => ?_))
  refine q_run tkX6_tax 4 4 (pc' := 11) (L' := [some (.inr (.inr a0)), some (.inl a1), some (.inl a2)]) (st' := [.inl ((shrI x2 (21 : Int32)) &&& (3 : Int32))]) rfl ?_
  exact q_iret (tbm tkX6_tax (i := 8) rfl) rfl
theorem ceX6_tax : Ce mX6_tax 2 := ⟨wd_81, wd_1166, by decide +kernel, by decide +kernel, by decide +kernel⟩
/-- ReceiptRollsModel.hasTax -/
abbrev mX6_hasTax : MI := (yX6_hasTax, cX6_hasTax, 5, some .boolean, 3)
def tbX6_hasTax : List TE := [(0, .iconst 0, 1, 0, 0), (1, .istore_n 3, 1, 0, 0), (2, .iconst 0, 1, 0, 0), (3, .istore 4, 2, 0, 0), (5, .iload 4, 2, 0, 0), (7, .aload_n 0, 1, 0, 0), (8, .iload_n 1, 1, 0, 0), (9, .bipush 8, 2, 8, 0), (11, .invokevirtual 47, 3, 0, 0), (14, .if_icmp .ge 40, 3, 0, 54), (17, .iload_n 3, 1, 0, 0), (18, .ifCond .ne 24, 3, 0, 42), (21, .aload_n 0, 1, 0, 0), (22, .iload_n 1, 1, 0, 0), (23, .iload 4, 2, 0, 0), (25, .invokevirtual 60, 3, 0, 0), (28, .ifCond .ne 18, 3, 0, 46), (31, .aload_n 0, 1, 0, 0), (32, .iload_n 1, 1, 0, 0), (33, .iload 4, 2, 0, 0), (35, .invokevirtual 67, 3, 0, 0), (38, .iload_n 2, 1, 0, 0), (39, .if_icmp .ne 7, 3, 0, 46), (42, .iconst 1, 1, 1, 0), (43, .goto 4, 3, 0, 47), (46, .iconst 0, 1, 0, 0), (47, .istore_n 3, 1, 0, 0), (48, .iinc 4 1, 3, 1, 0), (51, .goto (-46), 3, 0, 5), (54, .iload_n 3, 1, 0, 0), (55, .ireturn, 1, 0, 0)]
theorem tkX6_hasTax : ∀ x ∈ tbX6_hasTax, tbB cX6_hasTax x = true := tb_all (by decide +kernel)
def fX6_hasTax_47 (c : Nat → Option Nat) (k5 : Hp → Option Nat → Int32 → Int32 → Int32 → Int32 → Rs) (h : Hp) (l0 : Option Nat) (l1 : Int32) (l2 : Int32) (l4 : Int32) (s0 : Int32) : Rs := k5 h l0 l1 l2 s0 (l4 + (1 : Int32))
set_option maxHeartbeats 4000000 in
set_option maxRecDepth 100000 in
theorem sX6_hasTax_47 (X : Cx) {h0 : Hp} (k5 : Hp → Option Nat → Int32 → Int32 → Int32 → Int32 → Rs) (hk5 : ∀ (h : Hp) (l0 : Option Nat) (l1 : Int32) (l2 : Int32) (l3 : Int32) (l4 : Int32), Gd X mX6_hasTax h0 (k5 h l0 l1 l2 l3 l4) h 5 [some (.inr (.inr l0)), some (.inl l1), some (.inl l2), some (.inl l3), some (.inl l4)] []) (h : Hp) (l0 : Option Nat) (l1 : Int32) (l2 : Int32) (l4 : Int32) (s0 : Int32) : Gd X mX6_hasTax h0 (fX6_hasTax_47 X.2.2.2 k5 h l0 l1 l2 l4 s0) h 47 [some (.inr (.inr l0)), some (.inl l1), some (.inl l2), none, some (.inl l4)] [.inl s0] := by
  unfold fX6_hasTax_47
  refine q_run tkX6_hasTax 26 3 (pc' := 5) (L' := [some (.inr (.inr l0)), some (.inl l1), some (.inl l2), some (.inl s0), some (.inl (l4 + (1 : Int32)))]) (st' := []) rfl ?_
  exact hk5 h l0 l1 l2 s0 (l4 + (1 : Int32))
def fX6_hasTax_42 (c : Nat → Option Nat) (k5 : Hp → Option Nat → Int32 → Int32 → Int32 → Int32 → Rs) (h : Hp) (l0 : Option Nat) (l1 : Int32) (l2 : Int32) (l4 : Int32) : Rs := fX6_hasTax_47 c k5 h l0 l1 l2 l4 (1 : Int32)
set_option maxHeartbeats 4000000 in
set_option maxRecDepth 100000 in
theorem sX6_hasTax_42 (X : Cx) {h0 : Hp} (k5 : Hp → Option Nat → Int32 → Int32 → Int32 → Int32 → Rs) (hk5 : ∀ (h : Hp) (l0 : Option Nat) (l1 : Int32) (l2 : Int32) (l3 : Int32) (l4 : Int32), Gd X mX6_hasTax h0 (k5 h l0 l1 l2 l3 l4) h 5 [some (.inr (.inr l0)), some (.inl l1), some (.inl l2), some (.inl l3), some (.inl l4)] []) (h : Hp) (l0 : Option Nat) (l1 : Int32) (l2 : Int32) (l4 : Int32) : Gd X mX6_hasTax h0 (fX6_hasTax_42 X.2.2.2 k5 h l0 l1 l2 l4) h 42 [some (.inr (.inr l0)), some (.inl l1), some (.inl l2), none, some (.inl l4)] [] := by
  unfold fX6_hasTax_42
  refine q_run tkX6_hasTax 23 2 (pc' := 47) (L' := [some (.inr (.inr l0)), some (.inl l1), some (.inl l2), none, some (.inl l4)]) (st' := [.inl (1 : Int32)]) rfl ?_
  exact sX6_hasTax_47 X k5 hk5 h l0 l1 l2 l4 (1 : Int32)
def fX6_hasTax_46 (c : Nat → Option Nat) (k5 : Hp → Option Nat → Int32 → Int32 → Int32 → Int32 → Rs) (h : Hp) (l0 : Option Nat) (l1 : Int32) (l2 : Int32) (l4 : Int32) : Rs := fX6_hasTax_47 c k5 h l0 l1 l2 l4 (0 : Int32)
set_option maxHeartbeats 4000000 in
set_option maxRecDepth 100000 in
theorem sX6_hasTax_46 (X : Cx) {h0 : Hp} (k5 : Hp → Option Nat → Int32 → Int32 → Int32 → Int32 → Rs) (hk5 : ∀ (h : Hp) (l0 : Option Nat) (l1 : Int32) (l2 : Int32) (l3 : Int32) (l4 : Int32), Gd X mX6_hasTax h0 (k5 h l0 l1 l2 l3 l4) h 5 [some (.inr (.inr l0)), some (.inl l1), some (.inl l2), some (.inl l3), some (.inl l4)] []) (h : Hp) (l0 : Option Nat) (l1 : Int32) (l2 : Int32) (l4 : Int32) : Gd X mX6_hasTax h0 (fX6_hasTax_46 X.2.2.2 k5 h l0 l1 l2 l4) h 46 [some (.inr (.inr l0)), some (.inl l1), some (.inl l2), none, some (.inl l4)] [] := by
  unfold fX6_hasTax_46
  refine q_run tkX6_hasTax 25 1 (pc' := 47) (L' := [some (.inr (.inr l0)), some (.inl l1), some (.inl l2), none, some (.inl l4)]) (st' := [.inl (0 : Int32)]) rfl ?_
  exact sX6_hasTax_47 X k5 hk5 h l0 l1 l2 l4 (0 : Int32)
def fX6_hasTax_5 (c : Nat → Option Nat) : Nat → Hp → Option Nat → Int32 → Int32 → Int32 → Int32 → Rs
  | 0, _, _, _, _, _, _ => none
  | n + 1, h, l0, l1, l2, l3, l4 => ck h l0 8 (cc (fX6_of c h l0 l1 (8 : Int32)) (kI fun h1 x2 => if l4 < x2 then (if l3 = 0 then (ck h1 l0 8 (cc (fX6_isStruck c h1 l0 l1 l4) (kI fun h3 x4 => if x4 = 0 then (ck h3 l0 8 (cc (fX6_tax c h3 l0 l1 l4) (kI fun h5 x6 => if x6 = l2 then (fX6_hasTax_42 c (fX6_hasTax_5 c n) h5 l0 l1 l2 l4) else (fX6_hasTax_46 c (fX6_hasTax_5 c n) h5 l0 l1 l2 l4)))) else (fX6_hasTax_46 c (fX6_hasTax_5 c n) h3 l0 l1 l2 l4)))) else (fX6_hasTax_42 c (fX6_hasTax_5 c n) h1 l0 l1 l2 l4)) else (rtI .boolean h1 l3)))
set_option maxHeartbeats 4000000 in
set_option maxRecDepth 100000 in
theorem sX6_hasTax_5 (X : Cx) {h0 : Hp} : ∀ (n : Nat) (h : Hp) (l0 : Option Nat) (l1 : Int32) (l2 : Int32) (l3 : Int32) (l4 : Int32), Gd X mX6_hasTax h0 (fX6_hasTax_5 X.2.2.2 n h l0 l1 l2 l3 l4) h 5 [some (.inr (.inr l0)), some (.inl l1), some (.inl l2), some (.inl l3), some (.inl l4)] [] := by
  intro n
  induction n with
  | zero => intros; exact gd_none
  | succ n ih =>
    intro h l0 l1 l2 l3 l4
    unfold fX6_hasTax_5
    refine q_run tkX6_hasTax 4 4 (pc' := 11) (L' := [some (.inr (.inr l0)), some (.inl l1), some (.inl l2), some (.inl l3), some (.inl l4)]) (st' := [.inl (8 : Int32), .inl l1, .inr (.inr l0), .inl l4]) rfl ?_
    refine q_cv (r := l0) (ci := 8) (n := 2) (as := [.inl l1, .inl (8 : Int32)]) (st := [.inl l4]) TX6 15 (soX6_of X h l0 l1 (8 : Int32)) (tbm tkX6_hasTax (i := 8) rfl) rfl rfl ceX6_of wd_1016 wd_21 wd_1014 rfl (Nat.le_of_ble_eq_true rfl) (kI_gd (fun h1 x2 => ?_))
    refine q_icmp_ge (tbm tkX6_hasTax (i := 9) rfl) ?_ ?_
    · refine q_run tkX6_hasTax 10 1 (pc' := 18) (L' := [some (.inr (.inr l0)), some (.inl l1), some (.inl l2), some (.inl l3), some (.inl l4)]) (st' := [.inl l3]) rfl ?_
      refine q_if_ne (tbm tkX6_hasTax (i := 11) rfl) ?_ ?_
      · refine q_run tkX6_hasTax 12 3 (pc' := 25) (L' := [some (.inr (.inr l0)), some (.inl l1), some (.inl l2), some (.inl l3), some (.inl l4)]) (st' := [.inl l4, .inl l1, .inr (.inr l0)]) rfl ?_
        refine q_cv (r := l0) (ci := 8) (n := 2) (as := [.inl l1, .inl l4]) (st := []) TX6 15 (soX6_isStruck X h1 l0 l1 l4) (tbm tkX6_hasTax (i := 15) rfl) rfl rfl ceX6_isStruck wd_1036 wd_25 wd_1034 rfl (Nat.le_of_ble_eq_true rfl) (kI_gd (fun h3 x4 => ?_))
        refine q_if_ne (tbm tkX6_hasTax (i := 16) rfl) ?_ ?_
        · refine q_run tkX6_hasTax 17 3 (pc' := 35) (L' := [some (.inr (.inr l0)), some (.inl l1), some (.inl l2), some (.inl l3), some (.inl l4)]) (st' := [.inl l4, .inl l1, .inr (.inr l0)]) rfl ?_
          refine q_cv (r := l0) (ci := 8) (n := 2) (as := [.inl l1, .inl l4]) (st := []) TX6 15 (soX6_tax X h3 l0 l1 l4) (tbm tkX6_hasTax (i := 20) rfl) rfl rfl ceX6_tax wd_1165 wd_53 wd_1163 rfl (Nat.le_of_ble_eq_true rfl) (kI_gd (fun h5 x6 => ?_))
          refine q_run tkX6_hasTax 21 1 (pc' := 39) (L' := [some (.inr (.inr l0)), some (.inl l1), some (.inl l2), some (.inl l3), some (.inl l4)]) (st' := [.inl l2, .inl x6]) rfl ?_
          refine q_icmp_ne (tbm tkX6_hasTax (i := 22) rfl) ?_ ?_
          · refine q_le (L' := [some (.inr (.inr l0)), some (.inl l1), some (.inl l2), none, some (.inl l4)]) (lvLe_s (lvLe_s (lvLe_s (lvLe_n (lvLe_s lvLe_0))))) ?_
            exact sX6_hasTax_42 X (fX6_hasTax_5 X.2.2.2 n) ih h5 l0 l1 l2 l4
          · refine q_le (L' := [some (.inr (.inr l0)), some (.inl l1), some (.inl l2), none, some (.inl l4)]) (lvLe_s (lvLe_s (lvLe_s (lvLe_n (lvLe_s lvLe_0))))) ?_
            exact sX6_hasTax_46 X (fX6_hasTax_5 X.2.2.2 n) ih h5 l0 l1 l2 l4
        · refine q_le (L' := [some (.inr (.inr l0)), some (.inl l1), some (.inl l2), none, some (.inl l4)]) (lvLe_s (lvLe_s (lvLe_s (lvLe_n (lvLe_s lvLe_0))))) ?_
          exact sX6_hasTax_46 X (fX6_hasTax_5 X.2.2.2 n) ih h3 l0 l1 l2 l4
      · refine q_le (L' := [some (.inr (.inr l0)), some (.inl l1), some (.inl l2), none, some (.inl l4)]) (lvLe_s (lvLe_s (lvLe_s (lvLe_n (lvLe_s lvLe_0))))) ?_
        exact sX6_hasTax_42 X (fX6_hasTax_5 X.2.2.2 n) ih h1 l0 l1 l2 l4
    · refine q_run tkX6_hasTax 29 1 (pc' := 55) (L' := [some (.inr (.inr l0)), some (.inl l1), some (.inl l2), some (.inl l3), some (.inl l4)]) (st' := [.inl l3]) rfl ?_
      exact q_zret (tbm tkX6_hasTax (i := 30) rfl) rfl
def fX6_hasTax (c : Nat → Option Nat) (h : Hp) (a0 : Option Nat) (a1 : Int32) (a2 : Int32) : Rs := fX6_hasTax_5 c FU h a0 a1 a2 (0 : Int32) (0 : Int32)
set_option maxHeartbeats 4000000 in
set_option maxRecDepth 100000 in
theorem soX6_hasTax (X : Cx) (h : Hp) (a0 : Option Nat) (a1 : Int32) (a2 : Int32) : SO X mX6_hasTax [.inr (.inr a0), .inl a1, .inl a2] h (fX6_hasTax X.2.2.2 h a0 a1 a2) := by
  refine so_of (by decide +kernel) (Nat.le_of_ble_eq_true rfl) ?_
  show Gd X mX6_hasTax h (fX6_hasTax X.2.2.2 h a0 a1 a2) h 0 [some (.inr (.inr a0)), some (.inl a1), some (.inl a2), none, none] []
  unfold fX6_hasTax
  refine q_run tkX6_hasTax 0 4 (pc' := 5) (L' := [some (.inr (.inr a0)), some (.inl a1), some (.inl a2), some (.inl (0 : Int32)), some (.inl (0 : Int32))]) (st' := []) rfl ?_
  exact sX6_hasTax_5 X FU h a0 a1 a2 (0 : Int32) (0 : Int32)
theorem ceX6_hasTax : Ce mX6_hasTax 2 := ⟨wd_81, wd_1162, by decide +kernel, by decide +kernel, by decide +kernel⟩
/-- ReceiptRollsModel.rateOf -/
abbrev mX6_rateOf : MI := (yX6_rateOf, cX6_rateOf, 1, some .int, 0)
def tbX6_rateOf : List TE := [(0, .iload_n 0, 1, 0, 0), (1, .ifCond .ne 7, 3, 0, 8), (4, .iconst 0, 1, 0, 0), (5, .goto 15, 3, 0, 20), (8, .iload_n 0, 1, 0, 0), (9, .iconst 1, 1, 1, 0), (10, .if_icmp .ne 8, 3, 0, 18), (13, .bipush 7, 2, 7, 0), (15, .goto 5, 3, 0, 20), (18, .bipush 19, 2, 19, 0), (20, .ireturn, 1, 0, 0)]
theorem tkX6_rateOf : ∀ x ∈ tbX6_rateOf, tbB cX6_rateOf x = true := tb_all (by decide +kernel)
def fX6_rateOf_20 (c : Nat → Option Nat) (h : Hp) (s0 : Int32) : Rs := some (h, some (.inl s0))
set_option maxHeartbeats 4000000 in
set_option maxRecDepth 100000 in
theorem sX6_rateOf_20 (X : Cx) {h0 : Hp} (h : Hp) (s0 : Int32) : Gd X mX6_rateOf h0 (fX6_rateOf_20 X.2.2.2 h s0) h 20 [none] [.inl s0] := by
  unfold fX6_rateOf_20
  exact q_iret (tbm tkX6_rateOf (i := 10) rfl) rfl
def fX6_rateOf (c : Nat → Option Nat) (h : Hp) (a0 : Int32) : Rs := if a0 = 0 then (fX6_rateOf_20 c h (0 : Int32)) else (if a0 = (1 : Int32) then (fX6_rateOf_20 c h (7 : Int32)) else (fX6_rateOf_20 c h (19 : Int32)))
set_option maxHeartbeats 4000000 in
set_option maxRecDepth 100000 in
theorem soX6_rateOf (X : Cx) (h : Hp) (a0 : Int32) : SO X mX6_rateOf [.inl a0] h (fX6_rateOf X.2.2.2 h a0) := by
  refine so_of (by decide +kernel) (Nat.le_of_ble_eq_true rfl) ?_
  show Gd X mX6_rateOf h (fX6_rateOf X.2.2.2 h a0) h 0 [some (.inl a0)] []
  unfold fX6_rateOf
  refine q_run tkX6_rateOf 0 1 (pc' := 1) (L' := [some (.inl a0)]) (st' := [.inl a0]) rfl ?_
  refine q_if_ne (tbm tkX6_rateOf (i := 1) rfl) ?_ ?_
  · refine q_run tkX6_rateOf 2 2 (pc' := 20) (L' := [some (.inl a0)]) (st' := [.inl (0 : Int32)]) rfl ?_
    refine q_le (L' := [none]) (lvLe_n lvLe_0) ?_
    exact sX6_rateOf_20 X h (0 : Int32)
  · refine q_run tkX6_rateOf 4 2 (pc' := 10) (L' := [some (.inl a0)]) (st' := [.inl (1 : Int32), .inl a0]) rfl ?_
    refine q_icmp_ne (tbm tkX6_rateOf (i := 6) rfl) ?_ ?_
    · refine q_run tkX6_rateOf 7 2 (pc' := 20) (L' := [some (.inl a0)]) (st' := [.inl (7 : Int32)]) rfl ?_
      refine q_le (L' := [none]) (lvLe_n lvLe_0) ?_
      exact sX6_rateOf_20 X h (7 : Int32)
    · refine q_run tkX6_rateOf 9 1 (pc' := 20) (L' := [some (.inl a0)]) (st' := [.inl (19 : Int32)]) rfl ?_
      refine q_le (L' := [none]) (lvLe_n lvLe_0) ?_
      exact sX6_rateOf_20 X h (19 : Int32)
theorem ceX6_rateOf : Ce mX6_rateOf 1 := ⟨wd_81, wd_1173, by decide +kernel, by decide +kernel, by decide +kernel⟩
/-- ReceiptRollsModel.taxOf -/
abbrev mX6_taxOf : MI := (yX6_taxOf, cX6_taxOf, 6, some .int, 4)
def tbX6_taxOf : List TE := [(0, .iconst 0, 1, 0, 0), (1, .istore_n 3, 1, 0, 0), (2, .iload_n 2, 1, 0, 0), (3, .invokestatic 70, 3, 0, 0), (6, .istore 4, 2, 0, 0), (8, .iconst 0, 1, 0, 0), (9, .istore 5, 2, 0, 0), (11, .iload 5, 2, 0, 0), (13, .aload_n 0, 1, 0, 0), (14, .iload_n 1, 1, 0, 0), (15, .bipush 8, 2, 8, 0), (17, .invokevirtual 47, 3, 0, 0), (20, .if_icmp .ge 44, 3, 0, 64), (23, .iload_n 3, 1, 0, 0), (24, .aload_n 0, 1, 0, 0), (25, .iload_n 1, 1, 0, 0), (26, .iload 5, 2, 0, 0), (28, .invokevirtual 60, 3, 0, 0), (31, .ifCond .ne 24, 3, 0, 55), (34, .aload_n 0, 1, 0, 0), (35, .iload_n 1, 1, 0, 0), (36, .iload 5, 2, 0, 0), (38, .invokevirtual 67, 3, 0, 0), (41, .iload_n 2, 1, 0, 0), (42, .if_icmp .ne 13, 3, 0, 55), (45, .aload_n 0, 1, 0, 0), (46, .iload_n 1, 1, 0, 0), (47, .iload 5, 2, 0, 0), (49, .invokevirtual 64, 3, 0, 0), (52, .goto 4, 3, 0, 56), (55, .iconst 0, 1, 0, 0), (56, .iadd, 1, 0, 0), (57, .istore_n 3, 1, 0, 0), (58, .iinc 5 1, 3, 1, 0), (61, .goto (-50), 3, 0, 11), (64, .iconst 2, 1, 2, 0), (65, .iload_n 3, 1, 0, 0), (66, .imul, 1, 0, 0), (67, .iload 4, 2, 0, 0), (69, .imul, 1, 0, 0), (70, .bipush 100, 2, 100, 0), (72, .iadd, 1, 0, 0), (73, .iload 4, 2, 0, 0), (75, .iadd, 1, 0, 0), (76, .iconst 2, 1, 2, 0), (77, .bipush 100, 2, 100, 0), (79, .iload 4, 2, 0, 0), (81, .iadd, 1, 0, 0), (82, .imul, 1, 0, 0), (83, .idiv, 1, 0, 0), (84, .ireturn, 1, 0, 0)]
theorem tkX6_taxOf : ∀ x ∈ tbX6_taxOf, tbB cX6_taxOf x = true := tb_all (by decide +kernel)
def fX6_taxOf_56 (c : Nat → Option Nat) (k11 : Hp → Option Nat → Int32 → Int32 → Int32 → Int32 → Int32 → Rs) (h : Hp) (l0 : Option Nat) (l1 : Int32) (l2 : Int32) (l4 : Int32) (l5 : Int32) (s0 : Int32) (s1 : Int32) : Rs := k11 h l0 l1 l2 (s0 + s1) l4 (l5 + (1 : Int32))
set_option maxHeartbeats 4000000 in
set_option maxRecDepth 100000 in
theorem sX6_taxOf_56 (X : Cx) {h0 : Hp} (k11 : Hp → Option Nat → Int32 → Int32 → Int32 → Int32 → Int32 → Rs) (hk11 : ∀ (h : Hp) (l0 : Option Nat) (l1 : Int32) (l2 : Int32) (l3 : Int32) (l4 : Int32) (l5 : Int32), Gd X mX6_taxOf h0 (k11 h l0 l1 l2 l3 l4 l5) h 11 [some (.inr (.inr l0)), some (.inl l1), some (.inl l2), some (.inl l3), some (.inl l4), some (.inl l5)] []) (h : Hp) (l0 : Option Nat) (l1 : Int32) (l2 : Int32) (l4 : Int32) (l5 : Int32) (s0 : Int32) (s1 : Int32) : Gd X mX6_taxOf h0 (fX6_taxOf_56 X.2.2.2 k11 h l0 l1 l2 l4 l5 s0 s1) h 56 [some (.inr (.inr l0)), some (.inl l1), some (.inl l2), none, some (.inl l4), some (.inl l5)] [.inl s1, .inl s0] := by
  unfold fX6_taxOf_56
  refine q_run tkX6_taxOf 31 4 (pc' := 11) (L' := [some (.inr (.inr l0)), some (.inl l1), some (.inl l2), some (.inl (s0 + s1)), some (.inl l4), some (.inl (l5 + (1 : Int32)))]) (st' := []) rfl ?_
  exact hk11 h l0 l1 l2 (s0 + s1) l4 (l5 + (1 : Int32))
def fX6_taxOf_55 (c : Nat → Option Nat) (k11 : Hp → Option Nat → Int32 → Int32 → Int32 → Int32 → Int32 → Rs) (h : Hp) (l0 : Option Nat) (l1 : Int32) (l2 : Int32) (l4 : Int32) (l5 : Int32) (s0 : Int32) : Rs := fX6_taxOf_56 c k11 h l0 l1 l2 l4 l5 s0 (0 : Int32)
set_option maxHeartbeats 4000000 in
set_option maxRecDepth 100000 in
theorem sX6_taxOf_55 (X : Cx) {h0 : Hp} (k11 : Hp → Option Nat → Int32 → Int32 → Int32 → Int32 → Int32 → Rs) (hk11 : ∀ (h : Hp) (l0 : Option Nat) (l1 : Int32) (l2 : Int32) (l3 : Int32) (l4 : Int32) (l5 : Int32), Gd X mX6_taxOf h0 (k11 h l0 l1 l2 l3 l4 l5) h 11 [some (.inr (.inr l0)), some (.inl l1), some (.inl l2), some (.inl l3), some (.inl l4), some (.inl l5)] []) (h : Hp) (l0 : Option Nat) (l1 : Int32) (l2 : Int32) (l4 : Int32) (l5 : Int32) (s0 : Int32) : Gd X mX6_taxOf h0 (fX6_taxOf_55 X.2.2.2 k11 h l0 l1 l2 l4 l5 s0) h 55 [some (.inr (.inr l0)), some (.inl l1), some (.inl l2), none, some (.inl l4), some (.inl l5)] [.inl s0] := by
  unfold fX6_taxOf_55
  refine q_run tkX6_taxOf 30 1 (pc' := 56) (L' := [some (.inr (.inr l0)), some (.inl l1), some (.inl l2), none, some (.inl l4), some (.inl l5)]) (st' := [.inl (0 : Int32), .inl s0]) rfl ?_
  exact sX6_taxOf_56 X k11 hk11 h l0 l1 l2 l4 l5 s0 (0 : Int32)
def fX6_taxOf_11 (c : Nat → Option Nat) : Nat → Hp → Option Nat → Int32 → Int32 → Int32 → Int32 → Int32 → Rs
  | 0, _, _, _, _, _, _, _ => none
  | n + 1, h, l0, l1, l2, l3, l4, l5 => ck h l0 8 (cc (fX6_of c h l0 l1 (8 : Int32)) (kI fun h1 x2 => if l5 < x2 then (ck h1 l0 8 (cc (fX6_isStruck c h1 l0 l1 l5) (kI fun h3 x4 => if x4 = 0 then (ck h3 l0 8 (cc (fX6_tax c h3 l0 l1 l5) (kI fun h5 x6 => if x6 = l2 then (ck h5 l0 8 (cc (fX6_sum c h5 l0 l1 l5) (kI fun h7 x8 => fX6_taxOf_56 c (fX6_taxOf_11 c n) h7 l0 l1 l2 l4 l5 l3 x8))) else (fX6_taxOf_55 c (fX6_taxOf_11 c n) h5 l0 l1 l2 l4 l5 l3)))) else (fX6_taxOf_55 c (fX6_taxOf_11 c n) h3 l0 l1 l2 l4 l5 l3)))) else (dv ((2 : Int32) * ((100 : Int32) + l4)) (some (h1, some (.inl ((((((2 : Int32) * l3) * l4) + (100 : Int32)) + l4) / ((2 : Int32) * ((100 : Int32) + l4)))))))))
set_option maxHeartbeats 4000000 in
set_option maxRecDepth 100000 in
theorem sX6_taxOf_11 (X : Cx) {h0 : Hp} : ∀ (n : Nat) (h : Hp) (l0 : Option Nat) (l1 : Int32) (l2 : Int32) (l3 : Int32) (l4 : Int32) (l5 : Int32), Gd X mX6_taxOf h0 (fX6_taxOf_11 X.2.2.2 n h l0 l1 l2 l3 l4 l5) h 11 [some (.inr (.inr l0)), some (.inl l1), some (.inl l2), some (.inl l3), some (.inl l4), some (.inl l5)] [] := by
  intro n
  induction n with
  | zero => intros; exact gd_none
  | succ n ih =>
    intro h l0 l1 l2 l3 l4 l5
    unfold fX6_taxOf_11
    refine q_run tkX6_taxOf 7 4 (pc' := 17) (L' := [some (.inr (.inr l0)), some (.inl l1), some (.inl l2), some (.inl l3), some (.inl l4), some (.inl l5)]) (st' := [.inl (8 : Int32), .inl l1, .inr (.inr l0), .inl l5]) rfl ?_
    refine q_cv (r := l0) (ci := 8) (n := 2) (as := [.inl l1, .inl (8 : Int32)]) (st := [.inl l5]) TX6 15 (soX6_of X h l0 l1 (8 : Int32)) (tbm tkX6_taxOf (i := 11) rfl) rfl rfl ceX6_of wd_1016 wd_21 wd_1014 rfl (Nat.le_of_ble_eq_true rfl) (kI_gd (fun h1 x2 => ?_))
    refine q_icmp_ge (tbm tkX6_taxOf (i := 12) rfl) ?_ ?_
    · refine q_run tkX6_taxOf 13 4 (pc' := 28) (L' := [some (.inr (.inr l0)), some (.inl l1), some (.inl l2), some (.inl l3), some (.inl l4), some (.inl l5)]) (st' := [.inl l5, .inl l1, .inr (.inr l0), .inl l3]) rfl ?_
      refine q_cv (r := l0) (ci := 8) (n := 2) (as := [.inl l1, .inl l5]) (st := [.inl l3]) TX6 15 (soX6_isStruck X h1 l0 l1 l5) (tbm tkX6_taxOf (i := 17) rfl) rfl rfl ceX6_isStruck wd_1036 wd_25 wd_1034 rfl (Nat.le_of_ble_eq_true rfl) (kI_gd (fun h3 x4 => ?_))
      refine q_if_ne (tbm tkX6_taxOf (i := 18) rfl) ?_ ?_
      · refine q_run tkX6_taxOf 19 3 (pc' := 38) (L' := [some (.inr (.inr l0)), some (.inl l1), some (.inl l2), some (.inl l3), some (.inl l4), some (.inl l5)]) (st' := [.inl l5, .inl l1, .inr (.inr l0), .inl l3]) rfl ?_
        refine q_cv (r := l0) (ci := 8) (n := 2) (as := [.inl l1, .inl l5]) (st := [.inl l3]) TX6 15 (soX6_tax X h3 l0 l1 l5) (tbm tkX6_taxOf (i := 22) rfl) rfl rfl ceX6_tax wd_1165 wd_53 wd_1163 rfl (Nat.le_of_ble_eq_true rfl) (kI_gd (fun h5 x6 => ?_))
        refine q_run tkX6_taxOf 23 1 (pc' := 42) (L' := [some (.inr (.inr l0)), some (.inl l1), some (.inl l2), some (.inl l3), some (.inl l4), some (.inl l5)]) (st' := [.inl l2, .inl x6, .inl l3]) rfl ?_
        refine q_icmp_ne (tbm tkX6_taxOf (i := 24) rfl) ?_ ?_
        · refine q_run tkX6_taxOf 25 3 (pc' := 49) (L' := [some (.inr (.inr l0)), some (.inl l1), some (.inl l2), some (.inl l3), some (.inl l4), some (.inl l5)]) (st' := [.inl l5, .inl l1, .inr (.inr l0), .inl l3]) rfl ?_
          refine q_cv (r := l0) (ci := 8) (n := 2) (as := [.inl l1, .inl l5]) (st := [.inl l3]) TX6 15 (soX6_sum X h5 l0 l1 l5) (tbm tkX6_taxOf (i := 28) rfl) rfl rfl ceX6_sum wd_1045 wd_27 wd_1043 rfl (Nat.le_of_ble_eq_true rfl) (kI_gd (fun h7 x8 => ?_))
          refine q_run tkX6_taxOf 29 1 (pc' := 56) (L' := [some (.inr (.inr l0)), some (.inl l1), some (.inl l2), some (.inl l3), some (.inl l4), some (.inl l5)]) (st' := [.inl x8, .inl l3]) rfl ?_
          refine q_le (L' := [some (.inr (.inr l0)), some (.inl l1), some (.inl l2), none, some (.inl l4), some (.inl l5)]) (lvLe_s (lvLe_s (lvLe_s (lvLe_n (lvLe_s (lvLe_s lvLe_0)))))) ?_
          exact sX6_taxOf_56 X (fX6_taxOf_11 X.2.2.2 n) ih h7 l0 l1 l2 l4 l5 l3 x8
        · refine q_le (L' := [some (.inr (.inr l0)), some (.inl l1), some (.inl l2), none, some (.inl l4), some (.inl l5)]) (lvLe_s (lvLe_s (lvLe_s (lvLe_n (lvLe_s (lvLe_s lvLe_0)))))) ?_
          exact sX6_taxOf_55 X (fX6_taxOf_11 X.2.2.2 n) ih h5 l0 l1 l2 l4 l5 l3
      · refine q_le (L' := [some (.inr (.inr l0)), some (.inl l1), some (.inl l2), none, some (.inl l4), some (.inl l5)]) (lvLe_s (lvLe_s (lvLe_s (lvLe_n (lvLe_s (lvLe_s lvLe_0)))))) ?_
        exact sX6_taxOf_55 X (fX6_taxOf_11 X.2.2.2 n) ih h3 l0 l1 l2 l4 l5 l3
    · refine q_run tkX6_taxOf 35 14 (pc' := 83) (L' := [some (.inr (.inr l0)), some (.inl l1), some (.inl l2), some (.inl l3), some (.inl l4), some (.inl l5)]) (st' := [.inl ((2 : Int32) * ((100 : Int32) + l4)), .inl (((((2 : Int32) * l3) * l4) + (100 : Int32)) + l4)]) rfl ?_
      refine q_div (tbm tkX6_taxOf (i := 49) rfl) ?_
      exact q_iret (tbm tkX6_taxOf (i := 50) rfl) rfl
def fX6_taxOf (c : Nat → Option Nat) (h : Hp) (a0 : Option Nat) (a1 : Int32) (a2 : Int32) : Rs := cc (fX6_rateOf c h a2) (kI fun h9 x10 => fX6_taxOf_11 c FU h9 a0 a1 a2 (0 : Int32) x10 (0 : Int32))
set_option maxHeartbeats 4000000 in
set_option maxRecDepth 100000 in
theorem soX6_taxOf (X : Cx) (h : Hp) (a0 : Option Nat) (a1 : Int32) (a2 : Int32) : SO X mX6_taxOf [.inr (.inr a0), .inl a1, .inl a2] h (fX6_taxOf X.2.2.2 h a0 a1 a2) := by
  refine so_of (by decide +kernel) (Nat.le_of_ble_eq_true rfl) ?_
  show Gd X mX6_taxOf h (fX6_taxOf X.2.2.2 h a0 a1 a2) h 0 [some (.inr (.inr a0)), some (.inl a1), some (.inl a2), none, none, none] []
  unfold fX6_taxOf
  refine q_run tkX6_taxOf 0 3 (pc' := 3) (L' := [some (.inr (.inr a0)), some (.inl a1), some (.inl a2), some (.inl (0 : Int32)), none, none]) (st' := [.inl a2]) rfl ?_
  refine q_cs (n := 1) (as := [.inl a2]) (st := []) (soX6_rateOf X h a2) (tbm tkX6_taxOf (i := 3) rfl) rfl ceX6_rateOf wd_1172 wd_1171 rfl (Nat.le_of_ble_eq_true rfl) (kI_gd (fun h9 x10 => ?_))
  refine q_run tkX6_taxOf 4 3 (pc' := 11) (L' := [some (.inr (.inr a0)), some (.inl a1), some (.inl a2), some (.inl (0 : Int32)), some (.inl x10), some (.inl (0 : Int32))]) (st' := []) rfl ?_
  exact sX6_taxOf_11 X FU h9 a0 a1 a2 (0 : Int32) x10 (0 : Int32)
theorem ceX6_taxOf : Ce mX6_taxOf 2 := ⟨wd_81, wd_1177, by decide +kernel, by decide +kernel, by decide +kernel⟩
/-- ReceiptRollsModel.layTax -/
abbrev mX6_layTax : MI := (yX6_layTax, cX6_layTax, 4, none, 5)
def tbX6_layTax : List TE := [(0, .aload_n 0, 1, 0, 0), (1, .bipush 116, 2, 116, 0), (3, .invokevirtual 87, 3, 0, 0), (6, .aload_n 0, 1, 0, 0), (7, .bipush 97, 2, 97, 0), (9, .invokevirtual 87, 3, 0, 0), (12, .aload_n 0, 1, 0, 0), (13, .bipush 120, 2, 120, 0), (15, .invokevirtual 87, 3, 0, 0), (18, .aload_n 0, 1, 0, 0), (19, .bipush 32, 2, 32, 0), (21, .invokevirtual 87, 3, 0, 0), (24, .aload_n 0, 1, 0, 0), (25, .iload_n 2, 1, 0, 0), (26, .invokestatic 70, 3, 0, 0), (29, .invokevirtual 116, 3, 0, 0), (32, .aload_n 0, 1, 0, 0), (33, .aload_n 0, 1, 0, 0), (34, .iload_n 1, 1, 0, 0), (35, .iload_n 2, 1, 0, 0), (36, .invokevirtual 119, 3, 0, 0), (39, .iload_n 3, 1, 0, 0), (40, .invokevirtual 110, 3, 0, 0), (43, .aload_n 0, 1, 0, 0), (44, .invokevirtual 94, 3, 0, 0), (47, .return_, 1, 0, 0)]
theorem tkX6_layTax : ∀ x ∈ tbX6_layTax, tbB cX6_layTax x = true := tb_all (by decide +kernel)
def fX6_layTax (c : Nat → Option Nat) (h : Hp) (a0 : Option Nat) (a1 : Int32) (a2 : Int32) (a3 : Int32) : Rs := ck h a0 8 (cc (fX6_lays c h a0 (116 : Int32)) (kV fun h1 => ck h1 a0 8 (cc (fX6_lays c h1 a0 (97 : Int32)) (kV fun h2 => ck h2 a0 8 (cc (fX6_lays c h2 a0 (120 : Int32)) (kV fun h3 => ck h3 a0 8 (cc (fX6_lays c h3 a0 (32 : Int32)) (kV fun h4 => cc (fX6_rateOf c h4 a2) (kI fun h5 x6 => ck h5 a0 8 (cc (fX6_number c h5 a0 x6) (kV fun h7 => ck h7 a0 8 (cc (fX6_taxOf c h7 a0 a1 a2) (kI fun h8 x9 => ck h8 a0 8 (cc (fX6_money c h8 a0 x9 a3) (kV fun h10 => ck h10 a0 8 (cc (fX6_nextLine c h10 a0) (kV fun h11 => some (h11, none))))))))))))))))))
set_option maxHeartbeats 4000000 in
set_option maxRecDepth 100000 in
theorem soX6_layTax (X : Cx) (h : Hp) (a0 : Option Nat) (a1 : Int32) (a2 : Int32) (a3 : Int32) : SO X mX6_layTax [.inr (.inr a0), .inl a1, .inl a2, .inl a3] h (fX6_layTax X.2.2.2 h a0 a1 a2 a3) := by
  refine so_of (by decide +kernel) (Nat.le_of_ble_eq_true rfl) ?_
  show Gd X mX6_layTax h (fX6_layTax X.2.2.2 h a0 a1 a2 a3) h 0 [some (.inr (.inr a0)), some (.inl a1), some (.inl a2), some (.inl a3)] []
  unfold fX6_layTax
  refine q_run tkX6_layTax 0 2 (pc' := 3) (L' := [some (.inr (.inr a0)), some (.inl a1), some (.inl a2), some (.inl a3)]) (st' := [.inl (116 : Int32), .inr (.inr a0)]) rfl ?_
  refine q_cv (r := a0) (ci := 8) (n := 1) (as := [.inl (116 : Int32)]) (st := []) TX6 15 (soX6_lays X h a0 (116 : Int32)) (tbm tkX6_layTax (i := 2) rfl) rfl rfl ceX6_lays wd_1105 wd_38 wd_1103 rfl (Nat.le_of_ble_eq_true rfl) (kV_gd (fun h1 => ?_))
  refine q_run tkX6_layTax 3 2 (pc' := 9) (L' := [some (.inr (.inr a0)), some (.inl a1), some (.inl a2), some (.inl a3)]) (st' := [.inl (97 : Int32), .inr (.inr a0)]) rfl ?_
  refine q_cv (r := a0) (ci := 8) (n := 1) (as := [.inl (97 : Int32)]) (st := []) TX6 15 (soX6_lays X h1 a0 (97 : Int32)) (tbm tkX6_layTax (i := 5) rfl) rfl rfl ceX6_lays wd_1105 wd_38 wd_1103 rfl (Nat.le_of_ble_eq_true rfl) (kV_gd (fun h2 => ?_))
  refine q_run tkX6_layTax 6 2 (pc' := 15) (L' := [some (.inr (.inr a0)), some (.inl a1), some (.inl a2), some (.inl a3)]) (st' := [.inl (120 : Int32), .inr (.inr a0)]) rfl ?_
  refine q_cv (r := a0) (ci := 8) (n := 1) (as := [.inl (120 : Int32)]) (st := []) TX6 15 (soX6_lays X h2 a0 (120 : Int32)) (tbm tkX6_layTax (i := 8) rfl) rfl rfl ceX6_lays wd_1105 wd_38 wd_1103 rfl (Nat.le_of_ble_eq_true rfl) (kV_gd (fun h3 => ?_))
  refine q_run tkX6_layTax 9 2 (pc' := 21) (L' := [some (.inr (.inr a0)), some (.inl a1), some (.inl a2), some (.inl a3)]) (st' := [.inl (32 : Int32), .inr (.inr a0)]) rfl ?_
  refine q_cv (r := a0) (ci := 8) (n := 1) (as := [.inl (32 : Int32)]) (st := []) TX6 15 (soX6_lays X h3 a0 (32 : Int32)) (tbm tkX6_layTax (i := 11) rfl) rfl rfl ceX6_lays wd_1105 wd_38 wd_1103 rfl (Nat.le_of_ble_eq_true rfl) (kV_gd (fun h4 => ?_))
  refine q_run tkX6_layTax 12 2 (pc' := 26) (L' := [some (.inr (.inr a0)), some (.inl a1), some (.inl a2), some (.inl a3)]) (st' := [.inl a2, .inr (.inr a0)]) rfl ?_
  refine q_cs (n := 1) (as := [.inl a2]) (st := [.inr (.inr a0)]) (soX6_rateOf X h4 a2) (tbm tkX6_layTax (i := 14) rfl) rfl ceX6_rateOf wd_1172 wd_1171 rfl (Nat.le_of_ble_eq_true rfl) (kI_gd (fun h5 x6 => ?_))
  refine q_cv (r := a0) (ci := 8) (n := 1) (as := [.inl x6]) (st := []) TX6 15 (soX6_number X h5 a0 x6) (tbm tkX6_layTax (i := 15) rfl) rfl rfl ceX6_number wd_1117 wd_41 wd_1115 rfl (Nat.le_of_ble_eq_true rfl) (kV_gd (fun h7 => ?_))
  refine q_run tkX6_layTax 16 4 (pc' := 36) (L' := [some (.inr (.inr a0)), some (.inl a1), some (.inl a2), some (.inl a3)]) (st' := [.inl a2, .inl a1, .inr (.inr a0), .inr (.inr a0)]) rfl ?_
  refine q_cv (r := a0) (ci := 8) (n := 2) (as := [.inl a1, .inl a2]) (st := [.inr (.inr a0)]) TX6 15 (soX6_taxOf X h7 a0 a1 a2) (tbm tkX6_layTax (i := 20) rfl) rfl rfl ceX6_taxOf wd_1176 wd_55 wd_1174 rfl (Nat.le_of_ble_eq_true rfl) (kI_gd (fun h8 x9 => ?_))
  refine q_run tkX6_layTax 21 1 (pc' := 40) (L' := [some (.inr (.inr a0)), some (.inl a1), some (.inl a2), some (.inl a3)]) (st' := [.inl a3, .inl x9, .inr (.inr a0)]) rfl ?_
  refine q_cv (r := a0) (ci := 8) (n := 2) (as := [.inl x9, .inl a3]) (st := []) TX6 15 (soX6_money X h8 a0 x9 a3) (tbm tkX6_layTax (i := 22) rfl) rfl rfl ceX6_money wd_1149 wd_49 wd_1147 rfl (Nat.le_of_ble_eq_true rfl) (kV_gd (fun h10 => ?_))
  refine q_run tkX6_layTax 23 1 (pc' := 44) (L' := [some (.inr (.inr a0)), some (.inl a1), some (.inl a2), some (.inl a3)]) (st' := [.inr (.inr a0)]) rfl ?_
  refine q_cv (r := a0) (ci := 8) (n := 0) (as := []) (st := []) TX6 15 (soX6_nextLine X h10 a0) (tbm tkX6_layTax (i := 24) rfl) rfl rfl ceX6_nextLine wd_1121 wd_42 wd_1119 rfl (Nat.le_of_ble_eq_true rfl) (kV_gd (fun h11 => ?_))
  exact q_vret (tbm tkX6_layTax (i := 25) rfl) rfl
theorem ceX6_layTax : Ce mX6_layTax 3 := ⟨wd_81, wd_1170, by decide +kernel, by decide +kernel, by decide +kernel⟩
/-- ReceiptRollsModel.laysAll -/
abbrev mX6_laysAll : MI := (yX6_laysAll, cX6_laysAll, 6, some .int, 6)
def tbX6_laysAll : List TE := [(0, .iconst 0, 1, 0, 0), (1, .istore 4, 2, 0, 0), (3, .iload 4, 2, 0, 0), (5, .bipush 40, 2, 40, 0), (7, .if_icmp .ge 18, 3, 0, 25), (10, .aload_n 0, 1, 0, 0), (11, .getfield 26, 3, 0, 0), (14, .iload 4, 2, 0, 0), (16, .bipush 32, 2, 32, 0), (18, .iastore, 1, 0, 0), (19, .iinc 4 1, 3, 1, 0), (22, .goto (-19), 3, 0, 3), (25, .aload_n 0, 1, 0, 0), (26, .iload_n 3, 1, 0, 0), (27, .putfield 77, 3, 0, 0), (30, .aload_n 0, 1, 0, 0), (31, .iload_n 3, 1, 0, 0), (32, .putfield 113, 3, 0, 0), (35, .aload_n 0, 1, 0, 0), (36, .iconst 0, 1, 0, 0), (37, .putfield 74, 3, 0, 0), (40, .aload_n 0, 1, 0, 0), (41, .iconst 0, 1, 0, 0), (42, .putfield 80, 3, 0, 0), (45, .aload_n 0, 1, 0, 0), (46, .bipush 35, 2, 35, 0), (48, .invokevirtual 87, 3, 0, 0), (51, .aload_n 0, 1, 0, 0), (52, .aload_n 0, 1, 0, 0), (53, .iload_n 1, 1, 0, 0), (54, .invokevirtual 122, 3, 0, 0), (57, .invokevirtual 116, 3, 0, 0), (60, .aload_n 0, 1, 0, 0), (61, .invokevirtual 94, 3, 0, 0), (64, .iconst 0, 1, 0, 0), (65, .istore 4, 2, 0, 0), (67, .iload 4, 2, 0, 0), (69, .aload_n 0, 1, 0, 0), (70, .iload_n 1, 1, 0, 0), (71, .bipush 9, 2, 9, 0), (73, .invokevirtual 47, 3, 0, 0), (76, .if_icmp .ge 47, 3, 0, 123), (79, .aload_n 0, 1, 0, 0), (80, .iload_n 1, 1, 0, 0), (81, .iload 4, 2, 0, 0), (83, .invokevirtual 125, 3, 0, 0), (86, .istore 5, 2, 0, 0), (88, .iload 5, 2, 0, 0), (90, .bipush 16, 2, 16, 0), (92, .if_icmp .ge 14, 3, 0, 106), (95, .aload_n 0, 1, 0, 0), (96, .iload_n 1, 1, 0, 0), (97, .iload 5, 2, 0, 0), (99, .iload_n 2, 1, 0, 0), (100, .invokevirtual 128, 3, 0, 0), (103, .goto 14, 3, 0, 117), (106, .aload_n 0, 1, 0, 0), (107, .iload_n 1, 1, 0, 0), (108, .iload 5, 2, 0, 0), (110, .bipush 16, 2, 16, 0), (112, .isub, 1, 0, 0), (113, .iload_n 2, 1, 0, 0), (114, .invokevirtual 131, 3, 0, 0), (117, .iinc 4 1, 3, 1, 0), (120, .goto (-53), 3, 0, 67), (123, .aload_n 0, 1, 0, 0), (124, .bipush 115, 2, 115, 0), (126, .invokevirtual 87, 3, 0, 0), (129, .aload_n 0, 1, 0, 0), (130, .bipush 117, 2, 117, 0), (132, .invokevirtual 87, 3, 0, 0), (135, .aload_n 0, 1, 0, 0), (136, .bipush 109, 2, 109, 0), (138, .invokevirtual 87, 3, 0, 0), (141, .aload_n 0, 1, 0, 0), (142, .aload_n 0, 1, 0, 0), (143, .iload_n 1, 1, 0, 0), (144, .invokevirtual 134, 3, 0, 0), (147, .iload_n 2, 1, 0, 0), (148, .invokevirtual 110, 3, 0, 0), (151, .aload_n 0, 1, 0, 0), (152, .invokevirtual 94, 3, 0, 0), (155, .iconst 1, 1, 1, 0), (156, .istore 4, 2, 0, 0), (158, .iload 4, 2, 0, 0), (160, .iconst 3, 1, 3, 0), (161, .if_icmp .ge 27, 3, 0, 188), (164, .aload_n 0, 1, 0, 0), (165, .iload_n 1, 1, 0, 0), (166, .iload 4, 2, 0, 0), (168, .invokevirtual 137, 3, 0, 0), (171, .ifCond .eq 11, 3, 0, 182), (174, .aload_n 0, 1, 0, 0), (175, .iload_n 1, 1, 0, 0), (176, .iload 4, 2, 0, 0), (178, .iload_n 2, 1, 0, 0), (179, .invokevirtual 140, 3, 0, 0), (182, .iinc 4 1, 3, 1, 0), (185, .goto (-27), 3, 0, 158), (188, .aload_n 0, 1, 0, 0), (189, .getfield 74, 3, 0, 0), (192, .ireturn, 1, 0, 0)]
theorem tkX6_laysAll : ∀ x ∈ tbX6_laysAll, tbB cX6_laysAll x = true := tb_all (by decide +kernel)
def fX6_laysAll_117 (c : Nat → Option Nat) (k67 : Hp → Option Nat → Int32 → Int32 → Int32 → Rs) (h : Hp) (l0 : Option Nat) (l1 : Int32) (l2 : Int32) (l4 : Int32) : Rs := k67 h l0 l1 l2 (l4 + (1 : Int32))
set_option maxHeartbeats 4000000 in
set_option maxRecDepth 100000 in
theorem sX6_laysAll_117 (X : Cx) {h0 : Hp} (k67 : Hp → Option Nat → Int32 → Int32 → Int32 → Rs) (hk67 : ∀ (h : Hp) (l0 : Option Nat) (l1 : Int32) (l2 : Int32) (l4 : Int32), Gd X mX6_laysAll h0 (k67 h l0 l1 l2 l4) h 67 [some (.inr (.inr l0)), some (.inl l1), some (.inl l2), none, some (.inl l4), none] []) (h : Hp) (l0 : Option Nat) (l1 : Int32) (l2 : Int32) (l4 : Int32) : Gd X mX6_laysAll h0 (fX6_laysAll_117 X.2.2.2 k67 h l0 l1 l2 l4) h 117 [some (.inr (.inr l0)), some (.inl l1), some (.inl l2), none, some (.inl l4), none] [] := by
  unfold fX6_laysAll_117
  refine q_run tkX6_laysAll 63 2 (pc' := 67) (L' := [some (.inr (.inr l0)), some (.inl l1), some (.inl l2), none, some (.inl (l4 + (1 : Int32))), none]) (st' := []) rfl ?_
  exact hk67 h l0 l1 l2 (l4 + (1 : Int32))
def fX6_laysAll_182 (c : Nat → Option Nat) (k158 : Hp → Option Nat → Int32 → Int32 → Int32 → Rs) (h : Hp) (l0 : Option Nat) (l1 : Int32) (l2 : Int32) (l4 : Int32) : Rs := k158 h l0 l1 l2 (l4 + (1 : Int32))
set_option maxHeartbeats 4000000 in
set_option maxRecDepth 100000 in
theorem sX6_laysAll_182 (X : Cx) {h0 : Hp} (k158 : Hp → Option Nat → Int32 → Int32 → Int32 → Rs) (hk158 : ∀ (h : Hp) (l0 : Option Nat) (l1 : Int32) (l2 : Int32) (l4 : Int32), Gd X mX6_laysAll h0 (k158 h l0 l1 l2 l4) h 158 [some (.inr (.inr l0)), some (.inl l1), some (.inl l2), none, some (.inl l4), none] []) (h : Hp) (l0 : Option Nat) (l1 : Int32) (l2 : Int32) (l4 : Int32) : Gd X mX6_laysAll h0 (fX6_laysAll_182 X.2.2.2 k158 h l0 l1 l2 l4) h 182 [some (.inr (.inr l0)), some (.inl l1), some (.inl l2), none, some (.inl l4), none] [] := by
  unfold fX6_laysAll_182
  refine q_run tkX6_laysAll 97 2 (pc' := 158) (L' := [some (.inr (.inr l0)), some (.inl l1), some (.inl l2), none, some (.inl (l4 + (1 : Int32))), none]) (st' := []) rfl ?_
  exact hk158 h l0 l1 l2 (l4 + (1 : Int32))
def fX6_laysAll_158 (c : Nat → Option Nat) : Nat → Hp → Option Nat → Int32 → Int32 → Int32 → Rs
  | 0, _, _, _, _, _ => none
  | n + 1, h, l0, l1, l2, l4 => if l4 < (3 : Int32) then (ck h l0 8 (cc (fX6_hasTax c h l0 l1 l4) (kI fun h1 x2 => if x2 = 0 then (fX6_laysAll_182 c (fX6_laysAll_158 c n) h1 l0 l1 l2 l4) else (ck h1 l0 8 (cc (fX6_layTax c h1 l0 l1 l4 l2) (kV fun h3 => fX6_laysAll_182 c (fX6_laysAll_158 c n) h3 l0 l1 l2 l4)))))) else (rdI h l0 8 10 (fun x4 => some (h, some (.inl x4))))
set_option maxHeartbeats 4000000 in
set_option maxRecDepth 100000 in
theorem sX6_laysAll_158 (X : Cx) {h0 : Hp} : ∀ (n : Nat) (h : Hp) (l0 : Option Nat) (l1 : Int32) (l2 : Int32) (l4 : Int32), Gd X mX6_laysAll h0 (fX6_laysAll_158 X.2.2.2 n h l0 l1 l2 l4) h 158 [some (.inr (.inr l0)), some (.inl l1), some (.inl l2), none, some (.inl l4), none] [] := by
  intro n
  induction n with
  | zero => intros; exact gd_none
  | succ n ih =>
    intro h l0 l1 l2 l4
    unfold fX6_laysAll_158
    refine q_run tkX6_laysAll 84 2 (pc' := 161) (L' := [some (.inr (.inr l0)), some (.inl l1), some (.inl l2), none, some (.inl l4), none]) (st' := [.inl (3 : Int32), .inl l4]) rfl ?_
    refine q_icmp_ge (tbm tkX6_laysAll (i := 86) rfl) ?_ ?_
    · refine q_run tkX6_laysAll 87 3 (pc' := 168) (L' := [some (.inr (.inr l0)), some (.inl l1), some (.inl l2), none, some (.inl l4), none]) (st' := [.inl l4, .inl l1, .inr (.inr l0)]) rfl ?_
      refine q_cv (r := l0) (ci := 8) (n := 2) (as := [.inl l1, .inl l4]) (st := []) TX6 15 (soX6_hasTax X h l0 l1 l4) (tbm tkX6_laysAll (i := 90) rfl) rfl rfl ceX6_hasTax wd_1161 wd_52 wd_1159 rfl (Nat.le_of_ble_eq_true rfl) (kI_gd (fun h1 x2 => ?_))
      refine q_if_eq (tbm tkX6_laysAll (i := 91) rfl) ?_ ?_
      · exact sX6_laysAll_182 X (fX6_laysAll_158 X.2.2.2 n) ih h1 l0 l1 l2 l4
      · refine q_run tkX6_laysAll 92 4 (pc' := 179) (L' := [some (.inr (.inr l0)), some (.inl l1), some (.inl l2), none, some (.inl l4), none]) (st' := [.inl l2, .inl l4, .inl l1, .inr (.inr l0)]) rfl ?_
        refine q_cv (r := l0) (ci := 8) (n := 3) (as := [.inl l1, .inl l4, .inl l2]) (st := []) TX6 15 (soX6_layTax X h1 l0 l1 l4 l2) (tbm tkX6_laysAll (i := 96) rfl) rfl rfl ceX6_layTax wd_1169 wd_54 wd_1167 rfl (Nat.le_of_ble_eq_true rfl) (kV_gd (fun h3 => ?_))
        exact sX6_laysAll_182 X (fX6_laysAll_158 X.2.2.2 n) ih h3 l0 l1 l2 l4
    · refine q_run tkX6_laysAll 99 1 (pc' := 189) (L' := [some (.inr (.inr l0)), some (.inl l1), some (.inl l2), none, some (.inl l4), none]) (st' := [.inr (.inr l0)]) rfl ?_
      refine q_rdI RX6 TX6 15 (tbm tkX6_laysAll (i := 100) rfl) rfl (Nat.le_of_ble_eq_true rfl) wd_945 (fun x4 => ?_)
      exact q_iret (tbm tkX6_laysAll (i := 101) rfl) rfl
def fX6_laysAll_67 (c : Nat → Option Nat) : Nat → Hp → Option Nat → Int32 → Int32 → Int32 → Rs
  | 0, _, _, _, _, _ => none
  | n + 1, h, l0, l1, l2, l4 => ck h l0 8 (cc (fX6_of c h l0 l1 (9 : Int32)) (kI fun h5 x6 => if l4 < x6 then (ck h5 l0 8 (cc (fX6_event c h5 l0 l1 l4) (kI fun h7 x8 => if x8 < (16 : Int32) then (ck h7 l0 8 (cc (fX6_layItem c h7 l0 l1 x8 l2) (kV fun h9 => fX6_laysAll_117 c (fX6_laysAll_67 c n) h9 l0 l1 l2 l4))) else (ck h7 l0 8 (cc (fX6_layVoid c h7 l0 l1 (x8 - (16 : Int32)) l2) (kV fun h10 => fX6_laysAll_117 c (fX6_laysAll_67 c n) h10 l0 l1 l2 l4)))))) else (ck h5 l0 8 (cc (fX6_lays c h5 l0 (115 : Int32)) (kV fun h11 => ck h11 l0 8 (cc (fX6_lays c h11 l0 (117 : Int32)) (kV fun h12 => ck h12 l0 8 (cc (fX6_lays c h12 l0 (109 : Int32)) (kV fun h13 => ck h13 l0 8 (cc (fX6_total c h13 l0 l1) (kI fun h14 x15 => ck h14 l0 8 (cc (fX6_money c h14 l0 x15 l2) (kV fun h16 => ck h16 l0 8 (cc (fX6_nextLine c h16 l0) (kV fun h17 => fX6_laysAll_158 c FU h17 l0 l1 l2 (1 : Int32))))))))))))))))
set_option maxHeartbeats 4000000 in
set_option maxRecDepth 100000 in
theorem sX6_laysAll_67 (X : Cx) {h0 : Hp} : ∀ (n : Nat) (h : Hp) (l0 : Option Nat) (l1 : Int32) (l2 : Int32) (l4 : Int32), Gd X mX6_laysAll h0 (fX6_laysAll_67 X.2.2.2 n h l0 l1 l2 l4) h 67 [some (.inr (.inr l0)), some (.inl l1), some (.inl l2), none, some (.inl l4), none] [] := by
  intro n
  induction n with
  | zero => intros; exact gd_none
  | succ n ih =>
    intro h l0 l1 l2 l4
    unfold fX6_laysAll_67
    refine q_run tkX6_laysAll 36 4 (pc' := 73) (L' := [some (.inr (.inr l0)), some (.inl l1), some (.inl l2), none, some (.inl l4), none]) (st' := [.inl (9 : Int32), .inl l1, .inr (.inr l0), .inl l4]) rfl ?_
    refine q_cv (r := l0) (ci := 8) (n := 2) (as := [.inl l1, .inl (9 : Int32)]) (st := [.inl l4]) TX6 15 (soX6_of X h l0 l1 (9 : Int32)) (tbm tkX6_laysAll (i := 40) rfl) rfl rfl ceX6_of wd_1016 wd_21 wd_1014 rfl (Nat.le_of_ble_eq_true rfl) (kI_gd (fun h5 x6 => ?_))
    refine q_icmp_ge (tbm tkX6_laysAll (i := 41) rfl) ?_ ?_
    · refine q_run tkX6_laysAll 42 3 (pc' := 83) (L' := [some (.inr (.inr l0)), some (.inl l1), some (.inl l2), none, some (.inl l4), none]) (st' := [.inl l4, .inl l1, .inr (.inr l0)]) rfl ?_
      refine q_cv (r := l0) (ci := 8) (n := 2) (as := [.inl l1, .inl l4]) (st := []) TX6 15 (soX6_event X h5 l0 l1 l4) (tbm tkX6_laysAll (i := 45) rfl) rfl rfl ceX6_event wd_1125 wd_43 wd_1123 rfl (Nat.le_of_ble_eq_true rfl) (kI_gd (fun h7 x8 => ?_))
      refine q_run tkX6_laysAll 46 3 (pc' := 92) (L' := [some (.inr (.inr l0)), some (.inl l1), some (.inl l2), none, some (.inl l4), some (.inl x8)]) (st' := [.inl (16 : Int32), .inl x8]) rfl ?_
      refine q_icmp_ge (tbm tkX6_laysAll (i := 49) rfl) ?_ ?_
      · refine q_run tkX6_laysAll 50 4 (pc' := 100) (L' := [some (.inr (.inr l0)), some (.inl l1), some (.inl l2), none, some (.inl l4), some (.inl x8)]) (st' := [.inl l2, .inl x8, .inl l1, .inr (.inr l0)]) rfl ?_
        refine q_cv (r := l0) (ci := 8) (n := 3) (as := [.inl l1, .inl x8, .inl l2]) (st := []) TX6 15 (soX6_layItem X h7 l0 l1 x8 l2) (tbm tkX6_laysAll (i := 54) rfl) rfl rfl ceX6_layItem wd_1129 wd_44 wd_1127 rfl (Nat.le_of_ble_eq_true rfl) (kV_gd (fun h9 => ?_))
        refine q_run tkX6_laysAll 55 1 (pc' := 117) (L' := [some (.inr (.inr l0)), some (.inl l1), some (.inl l2), none, some (.inl l4), some (.inl x8)]) (st' := []) rfl ?_
        refine q_le (L' := [some (.inr (.inr l0)), some (.inl l1), some (.inl l2), none, some (.inl l4), none]) (lvLe_s (lvLe_s (lvLe_s (lvLe_n (lvLe_s (lvLe_n lvLe_0)))))) ?_
        exact sX6_laysAll_117 X (fX6_laysAll_67 X.2.2.2 n) ih h9 l0 l1 l2 l4
      · refine q_run tkX6_laysAll 56 6 (pc' := 114) (L' := [some (.inr (.inr l0)), some (.inl l1), some (.inl l2), none, some (.inl l4), some (.inl x8)]) (st' := [.inl l2, .inl (x8 - (16 : Int32)), .inl l1, .inr (.inr l0)]) rfl ?_
        refine q_cv (r := l0) (ci := 8) (n := 3) (as := [.inl l1, .inl (x8 - (16 : Int32)), .inl l2]) (st := []) TX6 15 (soX6_layVoid X h7 l0 l1 (x8 - (16 : Int32)) l2) (tbm tkX6_laysAll (i := 62) rfl) rfl rfl ceX6_layVoid wd_1153 wd_50 wd_1151 rfl (Nat.le_of_ble_eq_true rfl) (kV_gd (fun h10 => ?_))
        refine q_le (L' := [some (.inr (.inr l0)), some (.inl l1), some (.inl l2), none, some (.inl l4), none]) (lvLe_s (lvLe_s (lvLe_s (lvLe_n (lvLe_s (lvLe_n lvLe_0)))))) ?_
        exact sX6_laysAll_117 X (fX6_laysAll_67 X.2.2.2 n) ih h10 l0 l1 l2 l4
    · refine q_run tkX6_laysAll 65 2 (pc' := 126) (L' := [some (.inr (.inr l0)), some (.inl l1), some (.inl l2), none, some (.inl l4), none]) (st' := [.inl (115 : Int32), .inr (.inr l0)]) rfl ?_
      refine q_cv (r := l0) (ci := 8) (n := 1) (as := [.inl (115 : Int32)]) (st := []) TX6 15 (soX6_lays X h5 l0 (115 : Int32)) (tbm tkX6_laysAll (i := 67) rfl) rfl rfl ceX6_lays wd_1105 wd_38 wd_1103 rfl (Nat.le_of_ble_eq_true rfl) (kV_gd (fun h11 => ?_))
      refine q_run tkX6_laysAll 68 2 (pc' := 132) (L' := [some (.inr (.inr l0)), some (.inl l1), some (.inl l2), none, some (.inl l4), none]) (st' := [.inl (117 : Int32), .inr (.inr l0)]) rfl ?_
      refine q_cv (r := l0) (ci := 8) (n := 1) (as := [.inl (117 : Int32)]) (st := []) TX6 15 (soX6_lays X h11 l0 (117 : Int32)) (tbm tkX6_laysAll (i := 70) rfl) rfl rfl ceX6_lays wd_1105 wd_38 wd_1103 rfl (Nat.le_of_ble_eq_true rfl) (kV_gd (fun h12 => ?_))
      refine q_run tkX6_laysAll 71 2 (pc' := 138) (L' := [some (.inr (.inr l0)), some (.inl l1), some (.inl l2), none, some (.inl l4), none]) (st' := [.inl (109 : Int32), .inr (.inr l0)]) rfl ?_
      refine q_cv (r := l0) (ci := 8) (n := 1) (as := [.inl (109 : Int32)]) (st := []) TX6 15 (soX6_lays X h12 l0 (109 : Int32)) (tbm tkX6_laysAll (i := 73) rfl) rfl rfl ceX6_lays wd_1105 wd_38 wd_1103 rfl (Nat.le_of_ble_eq_true rfl) (kV_gd (fun h13 => ?_))
      refine q_run tkX6_laysAll 74 3 (pc' := 144) (L' := [some (.inr (.inr l0)), some (.inl l1), some (.inl l2), none, some (.inl l4), none]) (st' := [.inl l1, .inr (.inr l0), .inr (.inr l0)]) rfl ?_
      refine q_cv (r := l0) (ci := 8) (n := 1) (as := [.inl l1]) (st := [.inr (.inr l0)]) TX6 15 (soX6_total X h13 l0 l1) (tbm tkX6_laysAll (i := 77) rfl) rfl rfl ceX6_total wd_1157 wd_51 wd_1155 rfl (Nat.le_of_ble_eq_true rfl) (kI_gd (fun h14 x15 => ?_))
      refine q_run tkX6_laysAll 78 1 (pc' := 148) (L' := [some (.inr (.inr l0)), some (.inl l1), some (.inl l2), none, some (.inl l4), none]) (st' := [.inl l2, .inl x15, .inr (.inr l0)]) rfl ?_
      refine q_cv (r := l0) (ci := 8) (n := 2) (as := [.inl x15, .inl l2]) (st := []) TX6 15 (soX6_money X h14 l0 x15 l2) (tbm tkX6_laysAll (i := 79) rfl) rfl rfl ceX6_money wd_1149 wd_49 wd_1147 rfl (Nat.le_of_ble_eq_true rfl) (kV_gd (fun h16 => ?_))
      refine q_run tkX6_laysAll 80 1 (pc' := 152) (L' := [some (.inr (.inr l0)), some (.inl l1), some (.inl l2), none, some (.inl l4), none]) (st' := [.inr (.inr l0)]) rfl ?_
      refine q_cv (r := l0) (ci := 8) (n := 0) (as := []) (st := []) TX6 15 (soX6_nextLine X h16 l0) (tbm tkX6_laysAll (i := 81) rfl) rfl rfl ceX6_nextLine wd_1121 wd_42 wd_1119 rfl (Nat.le_of_ble_eq_true rfl) (kV_gd (fun h17 => ?_))
      refine q_run tkX6_laysAll 82 2 (pc' := 158) (L' := [some (.inr (.inr l0)), some (.inl l1), some (.inl l2), none, some (.inl (1 : Int32)), none]) (st' := []) rfl ?_
      exact sX6_laysAll_158 X FU h17 l0 l1 l2 (1 : Int32)
def fX6_laysAll_3 (c : Nat → Option Nat) : Nat → Hp → Option Nat → Int32 → Int32 → Int32 → Int32 → Rs
  | 0, _, _, _, _, _, _ => none
  | n + 1, h, l0, l1, l2, l3, l4 => if l4 < (40 : Int32) then (rdR h l0 8 8 (fun r18 => astI h r18 [0] l4 (32 : Int32) (fun h19 => fX6_laysAll_3 c n h19 l0 l1 l2 l3 (l4 + (1 : Int32))))) else (wr h l0 8 9 (.inl l3) (fun h20 => wr h20 l0 8 12 (.inl l3) (fun h21 => wr h21 l0 8 10 (.inl (0 : Int32)) (fun h22 => wr h22 l0 8 11 (.inl (0 : Int32)) (fun h23 => ck h23 l0 8 (cc (fX6_lays c h23 l0 (35 : Int32)) (kV fun h24 => ck h24 l0 8 (cc (fX6_numberOf c h24 l0 l1) (kI fun h25 x26 => ck h25 l0 8 (cc (fX6_number c h25 l0 x26) (kV fun h27 => ck h27 l0 8 (cc (fX6_nextLine c h27 l0) (kV fun h28 => fX6_laysAll_67 c FU h28 l0 l1 l2 (0 : Int32))))))))))))))
set_option maxHeartbeats 4000000 in
set_option maxRecDepth 100000 in
theorem sX6_laysAll_3 (X : Cx) {h0 : Hp} : ∀ (n : Nat) (h : Hp) (l0 : Option Nat) (l1 : Int32) (l2 : Int32) (l3 : Int32) (l4 : Int32), Gd X mX6_laysAll h0 (fX6_laysAll_3 X.2.2.2 n h l0 l1 l2 l3 l4) h 3 [some (.inr (.inr l0)), some (.inl l1), some (.inl l2), some (.inl l3), some (.inl l4), none] [] := by
  intro n
  induction n with
  | zero => intros; exact gd_none
  | succ n ih =>
    intro h l0 l1 l2 l3 l4
    unfold fX6_laysAll_3
    refine q_run tkX6_laysAll 2 2 (pc' := 7) (L' := [some (.inr (.inr l0)), some (.inl l1), some (.inl l2), some (.inl l3), some (.inl l4), none]) (st' := [.inl (40 : Int32), .inl l4]) rfl ?_
    refine q_icmp_ge (tbm tkX6_laysAll (i := 4) rfl) ?_ ?_
    · refine q_run tkX6_laysAll 5 1 (pc' := 11) (L' := [some (.inr (.inr l0)), some (.inl l1), some (.inl l2), some (.inl l3), some (.inl l4), none]) (st' := [.inr (.inr l0)]) rfl ?_
      refine q_rdR RX6 TX6 15 (tbm tkX6_laysAll (i := 6) rfl) rfl (Nat.le_of_ble_eq_true rfl) wd_943 (fun r18 => ?_)
      refine q_run tkX6_laysAll 7 2 (pc' := 18) (L' := [some (.inr (.inr l0)), some (.inl l1), some (.inl l2), some (.inl l3), some (.inl l4), none]) (st' := [.inl (32 : Int32), .inl l4, .inr (.inr r18)]) rfl ?_
      refine q_iastore (tbm tkX6_laysAll (i := 9) rfl) (fun h19 => ?_)
      refine q_run tkX6_laysAll 10 2 (pc' := 3) (L' := [some (.inr (.inr l0)), some (.inl l1), some (.inl l2), some (.inl l3), some (.inl (l4 + (1 : Int32))), none]) (st' := []) rfl ?_
      exact ih h19 l0 l1 l2 l3 (l4 + (1 : Int32))
    · refine q_run tkX6_laysAll 12 2 (pc' := 27) (L' := [some (.inr (.inr l0)), some (.inl l1), some (.inl l2), some (.inl l3), some (.inl l4), none]) (st' := [.inl l3, .inr (.inr l0)]) rfl ?_
      refine q_wr RX6 TX6 15 (tbm tkX6_laysAll (i := 14) rfl) rfl (Nat.le_of_ble_eq_true rfl) (Or.inl rfl) wd_944 (fun h20 => ?_)
      refine q_run tkX6_laysAll 15 2 (pc' := 32) (L' := [some (.inr (.inr l0)), some (.inl l1), some (.inl l2), some (.inl l3), some (.inl l4), none]) (st' := [.inl l3, .inr (.inr l0)]) rfl ?_
      refine q_wr RX6 TX6 15 (tbm tkX6_laysAll (i := 17) rfl) rfl (Nat.le_of_ble_eq_true rfl) (Or.inl rfl) wd_947 (fun h21 => ?_)
      refine q_run tkX6_laysAll 18 2 (pc' := 37) (L' := [some (.inr (.inr l0)), some (.inl l1), some (.inl l2), some (.inl l3), some (.inl l4), none]) (st' := [.inl (0 : Int32), .inr (.inr l0)]) rfl ?_
      refine q_wr RX6 TX6 15 (tbm tkX6_laysAll (i := 20) rfl) rfl (Nat.le_of_ble_eq_true rfl) (Or.inl rfl) wd_945 (fun h22 => ?_)
      refine q_run tkX6_laysAll 21 2 (pc' := 42) (L' := [some (.inr (.inr l0)), some (.inl l1), some (.inl l2), some (.inl l3), some (.inl l4), none]) (st' := [.inl (0 : Int32), .inr (.inr l0)]) rfl ?_
      refine q_wr RX6 TX6 15 (tbm tkX6_laysAll (i := 23) rfl) rfl (Nat.le_of_ble_eq_true rfl) (Or.inl rfl) wd_946 (fun h23 => ?_)
      refine q_run tkX6_laysAll 24 2 (pc' := 48) (L' := [some (.inr (.inr l0)), some (.inl l1), some (.inl l2), some (.inl l3), some (.inl l4), none]) (st' := [.inl (35 : Int32), .inr (.inr l0)]) rfl ?_
      refine q_cv (r := l0) (ci := 8) (n := 1) (as := [.inl (35 : Int32)]) (st := []) TX6 15 (soX6_lays X h23 l0 (35 : Int32)) (tbm tkX6_laysAll (i := 26) rfl) rfl rfl ceX6_lays wd_1105 wd_38 wd_1103 rfl (Nat.le_of_ble_eq_true rfl) (kV_gd (fun h24 => ?_))
      refine q_run tkX6_laysAll 27 3 (pc' := 54) (L' := [some (.inr (.inr l0)), some (.inl l1), some (.inl l2), some (.inl l3), some (.inl l4), none]) (st' := [.inl l1, .inr (.inr l0), .inr (.inr l0)]) rfl ?_
      refine q_cv (r := l0) (ci := 8) (n := 1) (as := [.inl l1]) (st := [.inr (.inr l0)]) TX6 15 (soX6_numberOf X h24 l0 l1) (tbm tkX6_laysAll (i := 30) rfl) rfl rfl ceX6_numberOf wd_1113 wd_40 wd_1111 rfl (Nat.le_of_ble_eq_true rfl) (kI_gd (fun h25 x26 => ?_))
      refine q_cv (r := l0) (ci := 8) (n := 1) (as := [.inl x26]) (st := []) TX6 15 (soX6_number X h25 l0 x26) (tbm tkX6_laysAll (i := 31) rfl) rfl rfl ceX6_number wd_1117 wd_41 wd_1115 rfl (Nat.le_of_ble_eq_true rfl) (kV_gd (fun h27 => ?_))
      refine q_run tkX6_laysAll 32 1 (pc' := 61) (L' := [some (.inr (.inr l0)), some (.inl l1), some (.inl l2), some (.inl l3), some (.inl l4), none]) (st' := [.inr (.inr l0)]) rfl ?_
      refine q_cv (r := l0) (ci := 8) (n := 0) (as := []) (st := []) TX6 15 (soX6_nextLine X h27 l0) (tbm tkX6_laysAll (i := 33) rfl) rfl rfl ceX6_nextLine wd_1121 wd_42 wd_1119 rfl (Nat.le_of_ble_eq_true rfl) (kV_gd (fun h28 => ?_))
      refine q_run tkX6_laysAll 34 2 (pc' := 67) (L' := [some (.inr (.inr l0)), some (.inl l1), some (.inl l2), some (.inl l3), some (.inl (0 : Int32)), none]) (st' := []) rfl ?_
      refine q_le (L' := [some (.inr (.inr l0)), some (.inl l1), some (.inl l2), none, some (.inl (0 : Int32)), none]) (lvLe_s (lvLe_s (lvLe_s (lvLe_n (lvLe_s (lvLe_n lvLe_0)))))) ?_
      exact sX6_laysAll_67 X FU h28 l0 l1 l2 (0 : Int32)
def fX6_laysAll (c : Nat → Option Nat) (h : Hp) (a0 : Option Nat) (a1 : Int32) (a2 : Int32) (a3 : Int32) : Rs := fX6_laysAll_3 c FU h a0 a1 a2 a3 (0 : Int32)
set_option maxHeartbeats 4000000 in
set_option maxRecDepth 100000 in
theorem soX6_laysAll (X : Cx) (h : Hp) (a0 : Option Nat) (a1 : Int32) (a2 : Int32) (a3 : Int32) : SO X mX6_laysAll [.inr (.inr a0), .inl a1, .inl a2, .inl a3] h (fX6_laysAll X.2.2.2 h a0 a1 a2 a3) := by
  refine so_of (by decide +kernel) (Nat.le_of_ble_eq_true rfl) ?_
  show Gd X mX6_laysAll h (fX6_laysAll X.2.2.2 h a0 a1 a2 a3) h 0 [some (.inr (.inr a0)), some (.inl a1), some (.inl a2), some (.inl a3), none, none] []
  unfold fX6_laysAll
  refine q_run tkX6_laysAll 0 2 (pc' := 3) (L' := [some (.inr (.inr a0)), some (.inl a1), some (.inl a2), some (.inl a3), some (.inl (0 : Int32)), none]) (st' := []) rfl ?_
  exact sX6_laysAll_3 X FU h a0 a1 a2 a3 (0 : Int32)
theorem ceX6_laysAll : Ce mX6_laysAll 3 := ⟨wd_81, wd_1102, by decide +kernel, by decide +kernel, by decide +kernel⟩
/-- ReceiptRollsModel.tear -/
abbrev mX6_tear : MI := (yX6_tear, cX6_tear, 4, some .int, 7)
def tbX6_tear : List TE := [(0, .aload_n 0, 1, 0, 0), (1, .iconst 0, 1, 0, 0), (2, .putfield 32, 3, 0, 0), (5, .iload_n 1, 1, 0, 0), (6, .iconst 1, 1, 1, 0), (7, .bipush 99, 2, 99, 0), (9, .invokestatic 40, 3, 0, 0), (12, .ifCond .ne 6, 3, 0, 18), (15, .bipush (-2), 2, -2, 0), (17, .ireturn, 1, 0, 0), (18, .aload_n 0, 1, 0, 0), (19, .invokevirtual 167, 3, 0, 0), (22, .istore_n 2, 1, 0, 0), (23, .iload_n 2, 1, 0, 0), (24, .bipush (-6), 2, -6, 0), (26, .if_icmp .eq 13, 3, 0, 39), (29, .aload_n 0, 1, 0, 0), (30, .iload_n 2, 1, 0, 0), (31, .iconst 5, 1, 5, 0), (32, .invokevirtual 47, 3, 0, 0), (35, .iload_n 1, 1, 0, 0), (36, .if_icmp .ge 6, 3, 0, 42), (39, .bipush (-5), 2, -5, 0), (41, .ireturn, 1, 0, 0), (42, .aload_n 0, 1, 0, 0), (43, .invokevirtual 190, 3, 0, 0), (46, .aload_n 0, 1, 0, 0), (47, .iload_n 2, 1, 0, 0), (48, .aload_n 0, 1, 0, 0), (49, .iload_n 2, 1, 0, 0), (50, .invokevirtual 143, 3, 0, 0), (53, .aload_n 0, 1, 0, 0), (54, .iload_n 2, 1, 0, 0), (55, .iconst 5, 1, 5, 0), (56, .invokevirtual 47, 3, 0, 0), (59, .iload_n 1, 1, 0, 0), (60, .isub, 1, 0, 0), (61, .invokevirtual 146, 3, 0, 0), (64, .pop, 1, 0, 0), (65, .aload_n 0, 1, 0, 0), (66, .iload_n 2, 1, 0, 0), (67, .iconst 5, 1, 5, 0), (68, .invokevirtual 47, 3, 0, 0), (71, .aload_n 0, 1, 0, 0), (72, .getfield 113, 3, 0, 0), (75, .isub, 1, 0, 0), (76, .istore_n 3, 1, 0, 0), (77, .aload_n 0, 1, 0, 0), (78, .iload_n 2, 1, 0, 0), (79, .iconst 5, 1, 5, 0), (80, .aload_n 0, 1, 0, 0), (81, .getfield 113, 3, 0, 0), (84, .invokevirtual 36, 3, 0, 0), (87, .aload_n 0, 1, 0, 0), (88, .getfield 7, 3, 0, 0), (91, .bipush 9, 2, 9, 0), (93, .dup2, 1, 0, 0), (94, .iaload, 1, 0, 0), (95, .iload_n 3, 1, 0, 0), (96, .iadd, 1, 0, 0), (97, .iastore, 1, 0, 0), (98, .iload_n 3, 1, 0, 0), (99, .ireturn, 1, 0, 0)]
theorem tkX6_tear : ∀ x ∈ tbX6_tear, tbB cX6_tear x = true := tb_all (by decide +kernel)
def fX6_tear_39 (c : Nat → Option Nat) (h : Hp) : Rs := some (h, some (.inl (-5 : Int32)))
set_option maxHeartbeats 4000000 in
set_option maxRecDepth 100000 in
theorem sX6_tear_39 (X : Cx) {h0 : Hp} (h : Hp) : Gd X mX6_tear h0 (fX6_tear_39 X.2.2.2 h) h 39 [none, none, none, none] [] := by
  unfold fX6_tear_39
  refine q_run tkX6_tear 22 1 (pc' := 41) (L' := [none, none, none, none]) (st' := [.inl (-5 : Int32)]) rfl ?_
  exact q_iret (tbm tkX6_tear (i := 23) rfl) rfl
def fX6_tear (c : Nat → Option Nat) (h : Hp) (a0 : Option Nat) (a1 : Int32) : Rs := wr h a0 8 0 (.inl (0 : Int32)) (fun h1 => cc (fX6_in c h1 a1 (1 : Int32) (99 : Int32)) (kI fun h2 x3 => if x3 = 0 then (some (h2, some (.inl (-2 : Int32)))) else (ck h2 a0 8 (cc (fX6_printedNow c h2 a0) (kI fun h4 x5 => if x5 = (-6 : Int32) then (fX6_tear_39 c h4) else (ck h4 a0 8 (cc (fX6_of c h4 a0 x5 (5 : Int32)) (kI fun h6 x7 => if x7 < a1 then (fX6_tear_39 c h6) else (ck h6 a0 8 (cc (fX6_records c h6 a0) (kV fun h8 => ck h8 a0 8 (cc (fX6_widthOf c h8 a0 x5) (kI fun h9 x10 => ck h9 a0 8 (cc (fX6_of c h9 a0 x5 (5 : Int32)) (kI fun h11 x12 => ck h11 a0 8 (cc (fX6_laysAll c h11 a0 x5 x10 (x12 - a1)) (kI fun h13 x14 => ck h13 a0 8 (cc (fX6_of c h13 a0 x5 (5 : Int32)) (kI fun h15 x16 => rdI h15 a0 8 12 (fun x17 => rdI h15 a0 8 12 (fun x18 => ck h15 a0 8 (cc (fX6_lay c h15 a0 x5 (5 : Int32) x18) (kV fun h19 => rdR h19 a0 8 1 (fun r20 => aldI h19 r20 [0, 10] (9 : Int32) (fun x21 => astI h19 r20 [0] (9 : Int32) (x21 + (x16 - x17)) (fun h22 => some (h22, some (.inl (x16 - x17)))))))))))))))))))))))))))))
set_option maxHeartbeats 4000000 in
set_option maxRecDepth 100000 in
theorem soX6_tear (X : Cx) (h : Hp) (a0 : Option Nat) (a1 : Int32) : SO X mX6_tear [.inr (.inr a0), .inl a1] h (fX6_tear X.2.2.2 h a0 a1) := by
  refine so_of (by decide +kernel) (Nat.le_of_ble_eq_true rfl) ?_
  show Gd X mX6_tear h (fX6_tear X.2.2.2 h a0 a1) h 0 [some (.inr (.inr a0)), some (.inl a1), none, none] []
  unfold fX6_tear
  refine q_run tkX6_tear 0 2 (pc' := 2) (L' := [some (.inr (.inr a0)), some (.inl a1), none, none]) (st' := [.inl (0 : Int32), .inr (.inr a0)]) rfl ?_
  refine q_wr RX6 TX6 15 (tbm tkX6_tear (i := 2) rfl) rfl (Nat.le_of_ble_eq_true rfl) (Or.inl rfl) wd_935 (fun h1 => ?_)
  refine q_run tkX6_tear 3 3 (pc' := 9) (L' := [some (.inr (.inr a0)), some (.inl a1), none, none]) (st' := [.inl (99 : Int32), .inl (1 : Int32), .inl a1]) rfl ?_
  refine q_cs (n := 3) (as := [.inl a1, .inl (1 : Int32), .inl (99 : Int32)]) (st := []) (soX6_in X h1 a1 (1 : Int32) (99 : Int32)) (tbm tkX6_tear (i := 6) rfl) rfl ceX6_in wd_987 wd_986 rfl (Nat.le_of_ble_eq_true rfl) (kI_gd (fun h2 x3 => ?_))
  refine q_if_ne (tbm tkX6_tear (i := 7) rfl) ?_ ?_
  · refine q_run tkX6_tear 8 1 (pc' := 17) (L' := [some (.inr (.inr a0)), some (.inl a1), none, none]) (st' := [.inl (-2 : Int32)]) rfl ?_
    exact q_iret (tbm tkX6_tear (i := 9) rfl) rfl
  · refine q_run tkX6_tear 10 1 (pc' := 19) (L' := [some (.inr (.inr a0)), some (.inl a1), none, none]) (st' := [.inr (.inr a0)]) rfl ?_
    refine q_cv (r := a0) (ci := 8) (n := 0) (as := []) (st := []) TX6 15 (soX6_printedNow X h2 a0) (tbm tkX6_tear (i := 11) rfl) rfl rfl ceX6_printedNow wd_1093 wd_35 wd_1091 rfl (Nat.le_of_ble_eq_true rfl) (kI_gd (fun h4 x5 => ?_))
    refine q_run tkX6_tear 12 3 (pc' := 26) (L' := [some (.inr (.inr a0)), some (.inl a1), some (.inl x5), none]) (st' := [.inl (-6 : Int32), .inl x5]) rfl ?_
    refine q_icmp_eq (tbm tkX6_tear (i := 15) rfl) ?_ ?_
    · refine q_le (L' := [none, none, none, none]) (lvLe_n (lvLe_n (lvLe_n (lvLe_n lvLe_0)))) ?_
      exact sX6_tear_39 X h4
    · refine q_run tkX6_tear 16 3 (pc' := 32) (L' := [some (.inr (.inr a0)), some (.inl a1), some (.inl x5), none]) (st' := [.inl (5 : Int32), .inl x5, .inr (.inr a0)]) rfl ?_
      refine q_cv (r := a0) (ci := 8) (n := 2) (as := [.inl x5, .inl (5 : Int32)]) (st := []) TX6 15 (soX6_of X h4 a0 x5 (5 : Int32)) (tbm tkX6_tear (i := 19) rfl) rfl rfl ceX6_of wd_1016 wd_21 wd_1014 rfl (Nat.le_of_ble_eq_true rfl) (kI_gd (fun h6 x7 => ?_))
      refine q_run tkX6_tear 20 1 (pc' := 36) (L' := [some (.inr (.inr a0)), some (.inl a1), some (.inl x5), none]) (st' := [.inl a1, .inl x7]) rfl ?_
      refine q_icmp_ge (tbm tkX6_tear (i := 21) rfl) ?_ ?_
      · refine q_le (L' := [none, none, none, none]) (lvLe_n (lvLe_n (lvLe_n (lvLe_n lvLe_0)))) ?_
        exact sX6_tear_39 X h6
      · refine q_run tkX6_tear 24 1 (pc' := 43) (L' := [some (.inr (.inr a0)), some (.inl a1), some (.inl x5), none]) (st' := [.inr (.inr a0)]) rfl ?_
        refine q_cv (r := a0) (ci := 8) (n := 0) (as := []) (st := []) TX6 15 (soX6_records X h6 a0) (tbm tkX6_tear (i := 25) rfl) rfl rfl ceX6_records wd_997 wd_18 wd_995 rfl (Nat.le_of_ble_eq_true rfl) (kV_gd (fun h8 => ?_))
        refine q_run tkX6_tear 26 4 (pc' := 50) (L' := [some (.inr (.inr a0)), some (.inl a1), some (.inl x5), none]) (st' := [.inl x5, .inr (.inr a0), .inl x5, .inr (.inr a0)]) rfl ?_
        refine q_cv (r := a0) (ci := 8) (n := 1) (as := [.inl x5]) (st := [.inl x5, .inr (.inr a0)]) TX6 15 (soX6_widthOf X h8 a0 x5) (tbm tkX6_tear (i := 30) rfl) rfl rfl ceX6_widthOf wd_1097 wd_36 wd_1095 rfl (Nat.le_of_ble_eq_true rfl) (kI_gd (fun h9 x10 => ?_))
        refine q_run tkX6_tear 31 3 (pc' := 56) (L' := [some (.inr (.inr a0)), some (.inl a1), some (.inl x5), none]) (st' := [.inl (5 : Int32), .inl x5, .inr (.inr a0), .inl x10, .inl x5, .inr (.inr a0)]) rfl ?_
        refine q_cv (r := a0) (ci := 8) (n := 2) (as := [.inl x5, .inl (5 : Int32)]) (st := [.inl x10, .inl x5, .inr (.inr a0)]) TX6 15 (soX6_of X h9 a0 x5 (5 : Int32)) (tbm tkX6_tear (i := 34) rfl) rfl rfl ceX6_of wd_1016 wd_21 wd_1014 rfl (Nat.le_of_ble_eq_true rfl) (kI_gd (fun h11 x12 => ?_))
        refine q_run tkX6_tear 35 2 (pc' := 61) (L' := [some (.inr (.inr a0)), some (.inl a1), some (.inl x5), none]) (st' := [.inl (x12 - a1), .inl x10, .inl x5, .inr (.inr a0)]) rfl ?_
        refine q_cv (r := a0) (ci := 8) (n := 3) (as := [.inl x5, .inl x10, .inl (x12 - a1)]) (st := []) TX6 15 (soX6_laysAll X h11 a0 x5 x10 (x12 - a1)) (tbm tkX6_tear (i := 37) rfl) rfl rfl ceX6_laysAll wd_1101 wd_37 wd_1099 rfl (Nat.le_of_ble_eq_true rfl) (kI_gd (fun h13 x14 => ?_))
        refine q_run tkX6_tear 38 4 (pc' := 68) (L' := [some (.inr (.inr a0)), some (.inl a1), some (.inl x5), none]) (st' := [.inl (5 : Int32), .inl x5, .inr (.inr a0)]) rfl ?_
        refine q_cv (r := a0) (ci := 8) (n := 2) (as := [.inl x5, .inl (5 : Int32)]) (st := []) TX6 15 (soX6_of X h13 a0 x5 (5 : Int32)) (tbm tkX6_tear (i := 42) rfl) rfl rfl ceX6_of wd_1016 wd_21 wd_1014 rfl (Nat.le_of_ble_eq_true rfl) (kI_gd (fun h15 x16 => ?_))
        refine q_run tkX6_tear 43 1 (pc' := 72) (L' := [some (.inr (.inr a0)), some (.inl a1), some (.inl x5), none]) (st' := [.inr (.inr a0), .inl x16]) rfl ?_
        refine q_rdI RX6 TX6 15 (tbm tkX6_tear (i := 44) rfl) rfl (Nat.le_of_ble_eq_true rfl) wd_947 (fun x17 => ?_)
        refine q_run tkX6_tear 45 6 (pc' := 81) (L' := [some (.inr (.inr a0)), some (.inl a1), some (.inl x5), some (.inl (x16 - x17))]) (st' := [.inr (.inr a0), .inl (5 : Int32), .inl x5, .inr (.inr a0)]) rfl ?_
        refine q_rdI RX6 TX6 15 (tbm tkX6_tear (i := 51) rfl) rfl (Nat.le_of_ble_eq_true rfl) wd_947 (fun x18 => ?_)
        refine q_cv (r := a0) (ci := 8) (n := 3) (as := [.inl x5, .inl (5 : Int32), .inl x18]) (st := []) TX6 15 (soX6_lay X h15 a0 x5 (5 : Int32) x18) (tbm tkX6_tear (i := 52) rfl) rfl rfl ceX6_lay wd_933 wd_17 wd_931 rfl (Nat.le_of_ble_eq_true rfl) (kV_gd (fun h19 => ?_))
        refine q_run tkX6_tear 53 1 (pc' := 88) (L' := [some (.inr (.inr a0)), some (.inl a1), some (.inl x5), some (.inl (x16 - x17))]) (st' := [.inr (.inr a0)]) rfl ?_
        refine q_rdR RX6 TX6 15 (tbm tkX6_tear (i := 54) rfl) rfl (Nat.le_of_ble_eq_true rfl) wd_936 (fun r20 => ?_)
        refine q_run tkX6_tear 55 2 (pc' := 94) (L' := [some (.inr (.inr a0)), some (.inl a1), some (.inl x5), some (.inl (x16 - x17))]) (st' := [.inl (9 : Int32), .inr (.inr r20), .inl (9 : Int32), .inr (.inr r20)]) rfl ?_
        refine q_iaload (tbm tkX6_tear (i := 57) rfl) (fun x21 => ?_)
        refine q_run tkX6_tear 58 2 (pc' := 97) (L' := [some (.inr (.inr a0)), some (.inl a1), some (.inl x5), some (.inl (x16 - x17))]) (st' := [.inl (x21 + (x16 - x17)), .inl (9 : Int32), .inr (.inr r20)]) rfl ?_
        refine q_iastore (tbm tkX6_tear (i := 60) rfl) (fun h22 => ?_)
        refine q_run tkX6_tear 61 1 (pc' := 99) (L' := [some (.inr (.inr a0)), some (.inl a1), some (.inl x5), some (.inl (x16 - x17))]) (st' := [.inl (x16 - x17)]) rfl ?_
        exact q_iret (tbm tkX6_tear (i := 62) rfl) rfl
theorem ceX6_tear : Ce mX6_tear 1 := ⟨wd_81, wd_1090, by decide +kernel, by decide +kernel, by decide +kernel⟩
/-- ReceiptRollsModel.isAhead -/
abbrev mX6_isAhead : MI := (yX6_isAhead, cX6_isAhead, 4, some .boolean, 1)
def tbX6_isAhead : List TE := [(0, .aload_n 0, 1, 0, 0), (1, .iload_n 1, 1, 0, 0), (2, .iconst 2, 1, 2, 0), (3, .invokevirtual 47, 3, 0, 0), (6, .aload_n 0, 1, 0, 0), (7, .iload_n 2, 1, 0, 0), (8, .iconst 2, 1, 2, 0), (9, .invokevirtual 47, 3, 0, 0), (12, .isub, 1, 0, 0), (13, .istore_n 3, 1, 0, 0), (14, .iload_n 3, 1, 0, 0), (15, .ifCond .eq 15, 3, 0, 30), (18, .iload_n 3, 1, 0, 0), (19, .ifCond .le 7, 3, 0, 26), (22, .iconst 1, 1, 1, 0), (23, .goto 27, 3, 0, 50), (26, .iconst 0, 1, 0, 0), (27, .goto 23, 3, 0, 50), (30, .aload_n 0, 1, 0, 0), (31, .iload_n 1, 1, 0, 0), (32, .iconst 0, 1, 0, 0), (33, .invokevirtual 47, 3, 0, 0), (36, .aload_n 0, 1, 0, 0), (37, .iload_n 2, 1, 0, 0), (38, .iconst 0, 1, 0, 0), (39, .invokevirtual 47, 3, 0, 0), (42, .if_icmp .ge 7, 3, 0, 49), (45, .iconst 1, 1, 1, 0), (46, .goto 4, 3, 0, 50), (49, .iconst 0, 1, 0, 0), (50, .ireturn, 1, 0, 0)]
theorem tkX6_isAhead : ∀ x ∈ tbX6_isAhead, tbB cX6_isAhead x = true := tb_all (by decide +kernel)
def fX6_isAhead_50 (c : Nat → Option Nat) (h : Hp) (s0 : Int32) : Rs := rtI .boolean h s0
set_option maxHeartbeats 4000000 in
set_option maxRecDepth 100000 in
theorem sX6_isAhead_50 (X : Cx) {h0 : Hp} (h : Hp) (s0 : Int32) : Gd X mX6_isAhead h0 (fX6_isAhead_50 X.2.2.2 h s0) h 50 [none, none, none, none] [.inl s0] := by
  unfold fX6_isAhead_50
  exact q_zret (tbm tkX6_isAhead (i := 30) rfl) rfl
def fX6_isAhead (c : Nat → Option Nat) (h : Hp) (a0 : Option Nat) (a1 : Int32) (a2 : Int32) : Rs := ck h a0 8 (cc (fX6_of c h a0 a1 (2 : Int32)) (kI fun h1 x2 => ck h1 a0 8 (cc (fX6_of c h1 a0 a2 (2 : Int32)) (kI fun h3 x4 => if (x2 - x4) = 0 then (ck h3 a0 8 (cc (fX6_of c h3 a0 a1 (0 : Int32)) (kI fun h5 x6 => ck h5 a0 8 (cc (fX6_of c h5 a0 a2 (0 : Int32)) (kI fun h7 x8 => if x6 < x8 then (fX6_isAhead_50 c h7 (1 : Int32)) else (fX6_isAhead_50 c h7 (0 : Int32))))))) else (if 0 < (x2 - x4) then (fX6_isAhead_50 c h3 (1 : Int32)) else (fX6_isAhead_50 c h3 (0 : Int32)))))))
set_option maxHeartbeats 4000000 in
set_option maxRecDepth 100000 in
theorem soX6_isAhead (X : Cx) (h : Hp) (a0 : Option Nat) (a1 : Int32) (a2 : Int32) : SO X mX6_isAhead [.inr (.inr a0), .inl a1, .inl a2] h (fX6_isAhead X.2.2.2 h a0 a1 a2) := by
  refine so_of (by decide +kernel) (Nat.le_of_ble_eq_true rfl) ?_
  show Gd X mX6_isAhead h (fX6_isAhead X.2.2.2 h a0 a1 a2) h 0 [some (.inr (.inr a0)), some (.inl a1), some (.inl a2), none] []
  unfold fX6_isAhead
  refine q_run tkX6_isAhead 0 3 (pc' := 3) (L' := [some (.inr (.inr a0)), some (.inl a1), some (.inl a2), none]) (st' := [.inl (2 : Int32), .inl a1, .inr (.inr a0)]) rfl ?_
  refine q_cv (r := a0) (ci := 8) (n := 2) (as := [.inl a1, .inl (2 : Int32)]) (st := []) TX6 15 (soX6_of X h a0 a1 (2 : Int32)) (tbm tkX6_isAhead (i := 3) rfl) rfl rfl ceX6_of wd_1016 wd_21 wd_1014 rfl (Nat.le_of_ble_eq_true rfl) (kI_gd (fun h1 x2 => ?_))
  refine q_run tkX6_isAhead 4 3 (pc' := 9) (L' := [some (.inr (.inr a0)), some (.inl a1), some (.inl a2), none]) (st' := [.inl (2 : Int32), .inl a2, .inr (.inr a0), .inl x2]) rfl ?_
  refine q_cv (r := a0) (ci := 8) (n := 2) (as := [.inl a2, .inl (2 : Int32)]) (st := [.inl x2]) TX6 15 (soX6_of X h1 a0 a2 (2 : Int32)) (tbm tkX6_isAhead (i := 7) rfl) rfl rfl ceX6_of wd_1016 wd_21 wd_1014 rfl (Nat.le_of_ble_eq_true rfl) (kI_gd (fun h3 x4 => ?_))
  refine q_run tkX6_isAhead 8 3 (pc' := 15) (L' := [some (.inr (.inr a0)), some (.inl a1), some (.inl a2), some (.inl (x2 - x4))]) (st' := [.inl (x2 - x4)]) rfl ?_
  refine q_if_eq (tbm tkX6_isAhead (i := 11) rfl) ?_ ?_
  · refine q_run tkX6_isAhead 18 3 (pc' := 33) (L' := [some (.inr (.inr a0)), some (.inl a1), some (.inl a2), some (.inl (x2 - x4))]) (st' := [.inl (0 : Int32), .inl a1, .inr (.inr a0)]) rfl ?_
    refine q_cv (r := a0) (ci := 8) (n := 2) (as := [.inl a1, .inl (0 : Int32)]) (st := []) TX6 15 (soX6_of X h3 a0 a1 (0 : Int32)) (tbm tkX6_isAhead (i := 21) rfl) rfl rfl ceX6_of wd_1016 wd_21 wd_1014 rfl (Nat.le_of_ble_eq_true rfl) (kI_gd (fun h5 x6 => ?_))
    refine q_run tkX6_isAhead 22 3 (pc' := 39) (L' := [some (.inr (.inr a0)), some (.inl a1), some (.inl a2), some (.inl (x2 - x4))]) (st' := [.inl (0 : Int32), .inl a2, .inr (.inr a0), .inl x6]) rfl ?_
    refine q_cv (r := a0) (ci := 8) (n := 2) (as := [.inl a2, .inl (0 : Int32)]) (st := [.inl x6]) TX6 15 (soX6_of X h5 a0 a2 (0 : Int32)) (tbm tkX6_isAhead (i := 25) rfl) rfl rfl ceX6_of wd_1016 wd_21 wd_1014 rfl (Nat.le_of_ble_eq_true rfl) (kI_gd (fun h7 x8 => ?_))
    refine q_icmp_ge (tbm tkX6_isAhead (i := 26) rfl) ?_ ?_
    · refine q_run tkX6_isAhead 27 2 (pc' := 50) (L' := [some (.inr (.inr a0)), some (.inl a1), some (.inl a2), some (.inl (x2 - x4))]) (st' := [.inl (1 : Int32)]) rfl ?_
      refine q_le (L' := [none, none, none, none]) (lvLe_n (lvLe_n (lvLe_n (lvLe_n lvLe_0)))) ?_
      exact sX6_isAhead_50 X h7 (1 : Int32)
    · refine q_run tkX6_isAhead 29 1 (pc' := 50) (L' := [some (.inr (.inr a0)), some (.inl a1), some (.inl a2), some (.inl (x2 - x4))]) (st' := [.inl (0 : Int32)]) rfl ?_
      refine q_le (L' := [none, none, none, none]) (lvLe_n (lvLe_n (lvLe_n (lvLe_n lvLe_0)))) ?_
      exact sX6_isAhead_50 X h7 (0 : Int32)
  · refine q_run tkX6_isAhead 12 1 (pc' := 19) (L' := [some (.inr (.inr a0)), some (.inl a1), some (.inl a2), some (.inl (x2 - x4))]) (st' := [.inl (x2 - x4)]) rfl ?_
    refine q_if_le (tbm tkX6_isAhead (i := 13) rfl) ?_ ?_
    · refine q_run tkX6_isAhead 14 2 (pc' := 50) (L' := [some (.inr (.inr a0)), some (.inl a1), some (.inl a2), some (.inl (x2 - x4))]) (st' := [.inl (1 : Int32)]) rfl ?_
      refine q_le (L' := [none, none, none, none]) (lvLe_n (lvLe_n (lvLe_n (lvLe_n lvLe_0)))) ?_
      exact sX6_isAhead_50 X h3 (1 : Int32)
    · refine q_run tkX6_isAhead 16 2 (pc' := 50) (L' := [some (.inr (.inr a0)), some (.inl a1), some (.inl a2), some (.inl (x2 - x4))]) (st' := [.inl (0 : Int32)]) rfl ?_
      refine q_le (L' := [none, none, none, none]) (lvLe_n (lvLe_n (lvLe_n (lvLe_n lvLe_0)))) ?_
      exact sX6_isAhead_50 X h3 (0 : Int32)
theorem ceX6_isAhead : Ce mX6_isAhead 2 := ⟨wd_81, wd_1201, by decide +kernel, by decide +kernel, by decide +kernel⟩
/-- ReceiptRollsModel.rank -/
abbrev mX6_rank : MI := (yX6_rank, cX6_rank, 4, some .int, 2)
def tbX6_rank : List TE := [(0, .iconst 0, 1, 0, 0), (1, .istore_n 2, 1, 0, 0), (2, .iconst 3, 1, 3, 0), (3, .istore_n 3, 1, 0, 0), (4, .iload_n 3, 1, 0, 0), (5, .bipush 21, 2, 21, 0), (7, .if_icmp .ge 40, 3, 0, 47), (10, .iload_n 2, 1, 0, 0), (11, .aload_n 0, 1, 0, 0), (12, .iload_n 3, 1, 0, 0), (13, .iconst 0, 1, 0, 0), (14, .invokevirtual 149, 3, 0, 0), (17, .ifCond .eq 21, 3, 0, 38), (20, .iload_n 3, 1, 0, 0), (21, .iload_n 1, 1, 0, 0), (22, .if_icmp .eq 16, 3, 0, 38), (25, .aload_n 0, 1, 0, 0), (26, .iload_n 3, 1, 0, 0), (27, .iload_n 1, 1, 0, 0), (28, .invokevirtual 152, 3, 0, 0), (31, .ifCond .eq 7, 3, 0, 38), (34, .iconst 1, 1, 1, 0), (35, .goto 4, 3, 0, 39), (38, .iconst 0, 1, 0, 0), (39, .iadd, 1, 0, 0), (40, .istore_n 2, 1, 0, 0), (41, .iinc 3 1, 3, 1, 0), (44, .goto (-40), 3, 0, 4), (47, .iload_n 2, 1, 0, 0), (48, .ireturn, 1, 0, 0)]
theorem tkX6_rank : ∀ x ∈ tbX6_rank, tbB cX6_rank x = true := tb_all (by decide +kernel)
def fX6_rank_39 (c : Nat → Option Nat) (k4 : Hp → Option Nat → Int32 → Int32 → Int32 → Rs) (h : Hp) (l0 : Option Nat) (l1 : Int32) (l3 : Int32) (s0 : Int32) (s1 : Int32) : Rs := k4 h l0 l1 (s0 + s1) (l3 + (1 : Int32))
set_option maxHeartbeats 4000000 in
set_option maxRecDepth 100000 in
theorem sX6_rank_39 (X : Cx) {h0 : Hp} (k4 : Hp → Option Nat → Int32 → Int32 → Int32 → Rs) (hk4 : ∀ (h : Hp) (l0 : Option Nat) (l1 : Int32) (l2 : Int32) (l3 : Int32), Gd X mX6_rank h0 (k4 h l0 l1 l2 l3) h 4 [some (.inr (.inr l0)), some (.inl l1), some (.inl l2), some (.inl l3)] []) (h : Hp) (l0 : Option Nat) (l1 : Int32) (l3 : Int32) (s0 : Int32) (s1 : Int32) : Gd X mX6_rank h0 (fX6_rank_39 X.2.2.2 k4 h l0 l1 l3 s0 s1) h 39 [some (.inr (.inr l0)), some (.inl l1), none, some (.inl l3)] [.inl s1, .inl s0] := by
  unfold fX6_rank_39
  refine q_run tkX6_rank 24 4 (pc' := 4) (L' := [some (.inr (.inr l0)), some (.inl l1), some (.inl (s0 + s1)), some (.inl (l3 + (1 : Int32)))]) (st' := []) rfl ?_
  exact hk4 h l0 l1 (s0 + s1) (l3 + (1 : Int32))
def fX6_rank_38 (c : Nat → Option Nat) (k4 : Hp → Option Nat → Int32 → Int32 → Int32 → Rs) (h : Hp) (l0 : Option Nat) (l1 : Int32) (l3 : Int32) (s0 : Int32) : Rs := fX6_rank_39 c k4 h l0 l1 l3 s0 (0 : Int32)
set_option maxHeartbeats 4000000 in
set_option maxRecDepth 100000 in
theorem sX6_rank_38 (X : Cx) {h0 : Hp} (k4 : Hp → Option Nat → Int32 → Int32 → Int32 → Rs) (hk4 : ∀ (h : Hp) (l0 : Option Nat) (l1 : Int32) (l2 : Int32) (l3 : Int32), Gd X mX6_rank h0 (k4 h l0 l1 l2 l3) h 4 [some (.inr (.inr l0)), some (.inl l1), some (.inl l2), some (.inl l3)] []) (h : Hp) (l0 : Option Nat) (l1 : Int32) (l3 : Int32) (s0 : Int32) : Gd X mX6_rank h0 (fX6_rank_38 X.2.2.2 k4 h l0 l1 l3 s0) h 38 [some (.inr (.inr l0)), some (.inl l1), none, some (.inl l3)] [.inl s0] := by
  unfold fX6_rank_38
  refine q_run tkX6_rank 23 1 (pc' := 39) (L' := [some (.inr (.inr l0)), some (.inl l1), none, some (.inl l3)]) (st' := [.inl (0 : Int32), .inl s0]) rfl ?_
  exact sX6_rank_39 X k4 hk4 h l0 l1 l3 s0 (0 : Int32)
def fX6_rank_4 (c : Nat → Option Nat) : Nat → Hp → Option Nat → Int32 → Int32 → Int32 → Rs
  | 0, _, _, _, _, _ => none
  | n + 1, h, l0, l1, l2, l3 => if l3 < (21 : Int32) then (ck h l0 8 (cc (fX6_isHow c h l0 l3 (0 : Int32)) (kI fun h1 x2 => if x2 = 0 then (fX6_rank_38 c (fX6_rank_4 c n) h1 l0 l1 l3 l2) else (if l3 = l1 then (fX6_rank_38 c (fX6_rank_4 c n) h1 l0 l1 l3 l2) else (ck h1 l0 8 (cc (fX6_isAhead c h1 l0 l3 l1) (kI fun h3 x4 => if x4 = 0 then (fX6_rank_38 c (fX6_rank_4 c n) h3 l0 l1 l3 l2) else (fX6_rank_39 c (fX6_rank_4 c n) h3 l0 l1 l3 l2 (1 : Int32))))))))) else (some (h, some (.inl l2)))
set_option maxHeartbeats 4000000 in
set_option maxRecDepth 100000 in
theorem sX6_rank_4 (X : Cx) {h0 : Hp} : ∀ (n : Nat) (h : Hp) (l0 : Option Nat) (l1 : Int32) (l2 : Int32) (l3 : Int32), Gd X mX6_rank h0 (fX6_rank_4 X.2.2.2 n h l0 l1 l2 l3) h 4 [some (.inr (.inr l0)), some (.inl l1), some (.inl l2), some (.inl l3)] [] := by
  intro n
  induction n with
  | zero => intros; exact gd_none
  | succ n ih =>
    intro h l0 l1 l2 l3
    unfold fX6_rank_4
    refine q_run tkX6_rank 4 2 (pc' := 7) (L' := [some (.inr (.inr l0)), some (.inl l1), some (.inl l2), some (.inl l3)]) (st' := [.inl (21 : Int32), .inl l3]) rfl ?_
    refine q_icmp_ge (tbm tkX6_rank (i := 6) rfl) ?_ ?_
    · refine q_run tkX6_rank 7 4 (pc' := 14) (L' := [some (.inr (.inr l0)), some (.inl l1), some (.inl l2), some (.inl l3)]) (st' := [.inl (0 : Int32), .inl l3, .inr (.inr l0), .inl l2]) rfl ?_
      refine q_cv (r := l0) (ci := 8) (n := 2) (as := [.inl l3, .inl (0 : Int32)]) (st := [.inl l2]) TX6 15 (soX6_isHow X h l0 l3 (0 : Int32)) (tbm tkX6_rank (i := 11) rfl) rfl rfl ceX6_isHow wd_1065 wd_31 wd_1063 rfl (Nat.le_of_ble_eq_true rfl) (kI_gd (fun h1 x2 => ?_))
      refine q_if_eq (tbm tkX6_rank (i := 12) rfl) ?_ ?_
      · refine q_le (L' := [some (.inr (.inr l0)), some (.inl l1), none, some (.inl l3)]) (lvLe_s (lvLe_s (lvLe_n (lvLe_s lvLe_0)))) ?_
        exact sX6_rank_38 X (fX6_rank_4 X.2.2.2 n) ih h1 l0 l1 l3 l2
      · refine q_run tkX6_rank 13 2 (pc' := 22) (L' := [some (.inr (.inr l0)), some (.inl l1), some (.inl l2), some (.inl l3)]) (st' := [.inl l1, .inl l3, .inl l2]) rfl ?_
        refine q_icmp_eq (tbm tkX6_rank (i := 15) rfl) ?_ ?_
        · refine q_le (L' := [some (.inr (.inr l0)), some (.inl l1), none, some (.inl l3)]) (lvLe_s (lvLe_s (lvLe_n (lvLe_s lvLe_0)))) ?_
          exact sX6_rank_38 X (fX6_rank_4 X.2.2.2 n) ih h1 l0 l1 l3 l2
        · refine q_run tkX6_rank 16 3 (pc' := 28) (L' := [some (.inr (.inr l0)), some (.inl l1), some (.inl l2), some (.inl l3)]) (st' := [.inl l1, .inl l3, .inr (.inr l0), .inl l2]) rfl ?_
          refine q_cv (r := l0) (ci := 8) (n := 2) (as := [.inl l3, .inl l1]) (st := [.inl l2]) TX6 15 (soX6_isAhead X h1 l0 l3 l1) (tbm tkX6_rank (i := 19) rfl) rfl rfl ceX6_isAhead wd_1200 wd_60 wd_1198 rfl (Nat.le_of_ble_eq_true rfl) (kI_gd (fun h3 x4 => ?_))
          refine q_if_eq (tbm tkX6_rank (i := 20) rfl) ?_ ?_
          · refine q_le (L' := [some (.inr (.inr l0)), some (.inl l1), none, some (.inl l3)]) (lvLe_s (lvLe_s (lvLe_n (lvLe_s lvLe_0)))) ?_
            exact sX6_rank_38 X (fX6_rank_4 X.2.2.2 n) ih h3 l0 l1 l3 l2
          · refine q_run tkX6_rank 21 2 (pc' := 39) (L' := [some (.inr (.inr l0)), some (.inl l1), some (.inl l2), some (.inl l3)]) (st' := [.inl (1 : Int32), .inl l2]) rfl ?_
            refine q_le (L' := [some (.inr (.inr l0)), some (.inl l1), none, some (.inl l3)]) (lvLe_s (lvLe_s (lvLe_n (lvLe_s lvLe_0)))) ?_
            exact sX6_rank_39 X (fX6_rank_4 X.2.2.2 n) ih h3 l0 l1 l3 l2 (1 : Int32)
    · refine q_run tkX6_rank 28 1 (pc' := 48) (L' := [some (.inr (.inr l0)), some (.inl l1), some (.inl l2), some (.inl l3)]) (st' := [.inl l2]) rfl ?_
      exact q_iret (tbm tkX6_rank (i := 29) rfl) rfl
def fX6_rank (c : Nat → Option Nat) (h : Hp) (a0 : Option Nat) (a1 : Int32) : Rs := fX6_rank_4 c FU h a0 a1 (0 : Int32) (3 : Int32)
set_option maxHeartbeats 4000000 in
set_option maxRecDepth 100000 in
theorem soX6_rank (X : Cx) (h : Hp) (a0 : Option Nat) (a1 : Int32) : SO X mX6_rank [.inr (.inr a0), .inl a1] h (fX6_rank X.2.2.2 h a0 a1) := by
  refine so_of (by decide +kernel) (Nat.le_of_ble_eq_true rfl) ?_
  show Gd X mX6_rank h (fX6_rank X.2.2.2 h a0 a1) h 0 [some (.inr (.inr a0)), some (.inl a1), none, none] []
  unfold fX6_rank
  refine q_run tkX6_rank 0 4 (pc' := 4) (L' := [some (.inr (.inr a0)), some (.inl a1), some (.inl (0 : Int32)), some (.inl (3 : Int32))]) (st' := []) rfl ?_
  exact sX6_rank_4 X FU h a0 a1 (0 : Int32) (3 : Int32)
theorem ceX6_rank : Ce mX6_rank 1 := ⟨wd_81, wd_1197, by decide +kernel, by decide +kernel, by decide +kernel⟩
/-- ReceiptRollsModel.recordAt -/
abbrev mX6_recordAt : MI := (yX6_recordAt, cX6_recordAt, 3, some .int, 3)
def tbX6_recordAt : List TE := [(0, .iconst 3, 1, 3, 0), (1, .istore_n 2, 1, 0, 0), (2, .iload_n 2, 1, 0, 0), (3, .bipush 21, 2, 21, 0), (5, .if_icmp .ge 29, 3, 0, 34), (8, .aload_n 0, 1, 0, 0), (9, .iload_n 2, 1, 0, 0), (10, .iconst 0, 1, 0, 0), (11, .invokevirtual 149, 3, 0, 0), (14, .ifCond .eq 14, 3, 0, 28), (17, .aload_n 0, 1, 0, 0), (18, .iload_n 2, 1, 0, 0), (19, .invokevirtual 155, 3, 0, 0), (22, .iload_n 1, 1, 0, 0), (23, .if_icmp .ne 5, 3, 0, 28), (26, .iload_n 2, 1, 0, 0), (27, .ireturn, 1, 0, 0), (28, .iinc 2 1, 3, 1, 0), (31, .goto (-29), 3, 0, 2), (34, .bipush (-6), 2, -6, 0), (36, .ireturn, 1, 0, 0)]
theorem tkX6_recordAt : ∀ x ∈ tbX6_recordAt, tbB cX6_recordAt x = true := tb_all (by decide +kernel)
def fX6_recordAt_28 (c : Nat → Option Nat) (k2 : Hp → Option Nat → Int32 → Int32 → Rs) (h : Hp) (l0 : Option Nat) (l1 : Int32) (l2 : Int32) : Rs := k2 h l0 l1 (l2 + (1 : Int32))
set_option maxHeartbeats 4000000 in
set_option maxRecDepth 100000 in
theorem sX6_recordAt_28 (X : Cx) {h0 : Hp} (k2 : Hp → Option Nat → Int32 → Int32 → Rs) (hk2 : ∀ (h : Hp) (l0 : Option Nat) (l1 : Int32) (l2 : Int32), Gd X mX6_recordAt h0 (k2 h l0 l1 l2) h 2 [some (.inr (.inr l0)), some (.inl l1), some (.inl l2)] []) (h : Hp) (l0 : Option Nat) (l1 : Int32) (l2 : Int32) : Gd X mX6_recordAt h0 (fX6_recordAt_28 X.2.2.2 k2 h l0 l1 l2) h 28 [some (.inr (.inr l0)), some (.inl l1), some (.inl l2)] [] := by
  unfold fX6_recordAt_28
  refine q_run tkX6_recordAt 17 2 (pc' := 2) (L' := [some (.inr (.inr l0)), some (.inl l1), some (.inl (l2 + (1 : Int32)))]) (st' := []) rfl ?_
  exact hk2 h l0 l1 (l2 + (1 : Int32))
def fX6_recordAt_2 (c : Nat → Option Nat) : Nat → Hp → Option Nat → Int32 → Int32 → Rs
  | 0, _, _, _, _ => none
  | n + 1, h, l0, l1, l2 => if l2 < (21 : Int32) then (ck h l0 8 (cc (fX6_isHow c h l0 l2 (0 : Int32)) (kI fun h1 x2 => if x2 = 0 then (fX6_recordAt_28 c (fX6_recordAt_2 c n) h1 l0 l1 l2) else (ck h1 l0 8 (cc (fX6_rank c h1 l0 l2) (kI fun h3 x4 => if x4 = l1 then (some (h3, some (.inl l2))) else (fX6_recordAt_28 c (fX6_recordAt_2 c n) h3 l0 l1 l2))))))) else (some (h, some (.inl (-6 : Int32))))
set_option maxHeartbeats 4000000 in
set_option maxRecDepth 100000 in
theorem sX6_recordAt_2 (X : Cx) {h0 : Hp} : ∀ (n : Nat) (h : Hp) (l0 : Option Nat) (l1 : Int32) (l2 : Int32), Gd X mX6_recordAt h0 (fX6_recordAt_2 X.2.2.2 n h l0 l1 l2) h 2 [some (.inr (.inr l0)), some (.inl l1), some (.inl l2)] [] := by
  intro n
  induction n with
  | zero => intros; exact gd_none
  | succ n ih =>
    intro h l0 l1 l2
    unfold fX6_recordAt_2
    refine q_run tkX6_recordAt 2 2 (pc' := 5) (L' := [some (.inr (.inr l0)), some (.inl l1), some (.inl l2)]) (st' := [.inl (21 : Int32), .inl l2]) rfl ?_
    refine q_icmp_ge (tbm tkX6_recordAt (i := 4) rfl) ?_ ?_
    · refine q_run tkX6_recordAt 5 3 (pc' := 11) (L' := [some (.inr (.inr l0)), some (.inl l1), some (.inl l2)]) (st' := [.inl (0 : Int32), .inl l2, .inr (.inr l0)]) rfl ?_
      refine q_cv (r := l0) (ci := 8) (n := 2) (as := [.inl l2, .inl (0 : Int32)]) (st := []) TX6 15 (soX6_isHow X h l0 l2 (0 : Int32)) (tbm tkX6_recordAt (i := 8) rfl) rfl rfl ceX6_isHow wd_1065 wd_31 wd_1063 rfl (Nat.le_of_ble_eq_true rfl) (kI_gd (fun h1 x2 => ?_))
      refine q_if_eq (tbm tkX6_recordAt (i := 9) rfl) ?_ ?_
      · exact sX6_recordAt_28 X (fX6_recordAt_2 X.2.2.2 n) ih h1 l0 l1 l2
      · refine q_run tkX6_recordAt 10 2 (pc' := 19) (L' := [some (.inr (.inr l0)), some (.inl l1), some (.inl l2)]) (st' := [.inl l2, .inr (.inr l0)]) rfl ?_
        refine q_cv (r := l0) (ci := 8) (n := 1) (as := [.inl l2]) (st := []) TX6 15 (soX6_rank X h1 l0 l2) (tbm tkX6_recordAt (i := 12) rfl) rfl rfl ceX6_rank wd_1196 wd_59 wd_1194 rfl (Nat.le_of_ble_eq_true rfl) (kI_gd (fun h3 x4 => ?_))
        refine q_run tkX6_recordAt 13 1 (pc' := 23) (L' := [some (.inr (.inr l0)), some (.inl l1), some (.inl l2)]) (st' := [.inl l1, .inl x4]) rfl ?_
        refine q_icmp_ne (tbm tkX6_recordAt (i := 14) rfl) ?_ ?_
        · refine q_run tkX6_recordAt 15 1 (pc' := 27) (L' := [some (.inr (.inr l0)), some (.inl l1), some (.inl l2)]) (st' := [.inl l2]) rfl ?_
          exact q_iret (tbm tkX6_recordAt (i := 16) rfl) rfl
        · exact sX6_recordAt_28 X (fX6_recordAt_2 X.2.2.2 n) ih h3 l0 l1 l2
    · refine q_run tkX6_recordAt 19 1 (pc' := 36) (L' := [some (.inr (.inr l0)), some (.inl l1), some (.inl l2)]) (st' := [.inl (-6 : Int32)]) rfl ?_
      exact q_iret (tbm tkX6_recordAt (i := 20) rfl) rfl
def fX6_recordAt (c : Nat → Option Nat) (h : Hp) (a0 : Option Nat) (a1 : Int32) : Rs := fX6_recordAt_2 c FU h a0 a1 (3 : Int32)
set_option maxHeartbeats 4000000 in
set_option maxRecDepth 100000 in
theorem soX6_recordAt (X : Cx) (h : Hp) (a0 : Option Nat) (a1 : Int32) : SO X mX6_recordAt [.inr (.inr a0), .inl a1] h (fX6_recordAt X.2.2.2 h a0 a1) := by
  refine so_of (by decide +kernel) (Nat.le_of_ble_eq_true rfl) ?_
  show Gd X mX6_recordAt h (fX6_recordAt X.2.2.2 h a0 a1) h 0 [some (.inr (.inr a0)), some (.inl a1), none] []
  unfold fX6_recordAt
  refine q_run tkX6_recordAt 0 2 (pc' := 2) (L' := [some (.inr (.inr a0)), some (.inl a1), some (.inl (3 : Int32))]) (st' := []) rfl ?_
  exact sX6_recordAt_2 X FU h a0 a1 (3 : Int32)
theorem ceX6_recordAt : Ce mX6_recordAt 1 := ⟨wd_81, wd_1193, by decide +kernel, by decide +kernel, by decide +kernel⟩
/-- ReceiptRollsModel.linesOf -/
abbrev mX6_linesOf : MI := (yX6_linesOf, cX6_linesOf, 2, some .int, 7)
def tbX6_linesOf : List TE := [(0, .aload_n 0, 1, 0, 0), (1, .iload_n 1, 1, 0, 0), (2, .aload_n 0, 1, 0, 0), (3, .iload_n 1, 1, 0, 0), (4, .invokevirtual 143, 3, 0, 0), (7, .bipush (-6), 2, -6, 0), (9, .invokevirtual 146, 3, 0, 0), (12, .ireturn, 1, 0, 0)]
theorem tkX6_linesOf : ∀ x ∈ tbX6_linesOf, tbB cX6_linesOf x = true := tb_all (by decide +kernel)
def fX6_linesOf (c : Nat → Option Nat) (h : Hp) (a0 : Option Nat) (a1 : Int32) : Rs := ck h a0 8 (cc (fX6_widthOf c h a0 a1) (kI fun h1 x2 => ck h1 a0 8 (cc (fX6_laysAll c h1 a0 a1 x2 (-6 : Int32)) (kI fun h3 x4 => some (h3, some (.inl x4))))))
set_option maxHeartbeats 4000000 in
set_option maxRecDepth 100000 in
theorem soX6_linesOf (X : Cx) (h : Hp) (a0 : Option Nat) (a1 : Int32) : SO X mX6_linesOf [.inr (.inr a0), .inl a1] h (fX6_linesOf X.2.2.2 h a0 a1) := by
  refine so_of (by decide +kernel) (Nat.le_of_ble_eq_true rfl) ?_
  show Gd X mX6_linesOf h (fX6_linesOf X.2.2.2 h a0 a1) h 0 [some (.inr (.inr a0)), some (.inl a1)] []
  unfold fX6_linesOf
  refine q_run tkX6_linesOf 0 4 (pc' := 4) (L' := [some (.inr (.inr a0)), some (.inl a1)]) (st' := [.inl a1, .inr (.inr a0), .inl a1, .inr (.inr a0)]) rfl ?_
  refine q_cv (r := a0) (ci := 8) (n := 1) (as := [.inl a1]) (st := [.inl a1, .inr (.inr a0)]) TX6 15 (soX6_widthOf X h a0 a1) (tbm tkX6_linesOf (i := 4) rfl) rfl rfl ceX6_widthOf wd_1097 wd_36 wd_1095 rfl (Nat.le_of_ble_eq_true rfl) (kI_gd (fun h1 x2 => ?_))
  refine q_run tkX6_linesOf 5 1 (pc' := 9) (L' := [some (.inr (.inr a0)), some (.inl a1)]) (st' := [.inl (-6 : Int32), .inl x2, .inl a1, .inr (.inr a0)]) rfl ?_
  refine q_cv (r := a0) (ci := 8) (n := 3) (as := [.inl a1, .inl x2, .inl (-6 : Int32)]) (st := []) TX6 15 (soX6_laysAll X h1 a0 a1 x2 (-6 : Int32)) (tbm tkX6_linesOf (i := 6) rfl) rfl rfl ceX6_laysAll wd_1101 wd_37 wd_1099 rfl (Nat.le_of_ble_eq_true rfl) (kI_gd (fun h3 x4 => ?_))
  exact q_iret (tbm tkX6_linesOf (i := 7) rfl) rfl
theorem ceX6_linesOf : Ce mX6_linesOf 1 := ⟨wd_81, wd_1205, by decide +kernel, by decide +kernel, by decide +kernel⟩
/-- ReceiptRollsModel.forgets -/
abbrev mX6_forgets : MI := (yX6_forgets, cX6_forgets, 4, none, 3)
def tbX6_forgets : List TE := [(0, .bipush (-6), 2, -6, 0), (2, .istore_n 1, 1, 0, 0), (3, .iconst 3, 1, 3, 0), (4, .istore_n 2, 1, 0, 0), (5, .iload_n 2, 1, 0, 0), (6, .bipush 21, 2, 21, 0), (8, .if_icmp .ge 57, 3, 0, 65), (11, .aload_n 0, 1, 0, 0), (12, .iload_n 2, 1, 0, 0), (13, .iconst 2, 1, 2, 0), (14, .invokevirtual 149, 3, 0, 0), (17, .ifCond .eq 30, 3, 0, 47), (20, .iload_n 1, 1, 0, 0), (21, .bipush (-6), 2, -6, 0), (23, .if_icmp .eq 20, 3, 0, 43), (26, .aload_n 0, 1, 0, 0), (27, .iload_n 2, 1, 0, 0), (28, .bipush 7, 2, 7, 0), (30, .invokevirtual 47, 3, 0, 0), (33, .aload_n 0, 1, 0, 0), (34, .iload_n 1, 1, 0, 0), (35, .bipush 7, 2, 7, 0), (37, .invokevirtual 47, 3, 0, 0), (40, .if_icmp .ge 7, 3, 0, 47), (43, .iconst 1, 1, 1, 0), (44, .goto 4, 3, 0, 48), (47, .iconst 0, 1, 0, 0), (48, .istore_n 3, 1, 0, 0), (49, .iload_n 3, 1, 0, 0), (50, .ifCond .eq 7, 3, 0, 57), (53, .iload_n 2, 1, 0, 0), (54, .goto 4, 3, 0, 58), (57, .iload_n 1, 1, 0, 0), (58, .istore_n 1, 1, 0, 0), (59, .iinc 2 1, 3, 1, 0), (62, .goto (-57), 3, 0, 5), (65, .aload_n 0, 1, 0, 0), (66, .iconst 2, 1, 2, 0), (67, .invokevirtual 158, 3, 0, 0), (70, .bipush 8, 2, 8, 0), (72, .if_icmp .le 8, 3, 0, 80), (75, .aload_n 0, 1, 0, 0), (76, .iload_n 1, 1, 0, 0), (77, .invokevirtual 161, 3, 0, 0), (80, .return_, 1, 0, 0)]
theorem tkX6_forgets : ∀ x ∈ tbX6_forgets, tbB cX6_forgets x = true := tb_all (by decide +kernel)
def fX6_forgets_58 (c : Nat → Option Nat) (k5 : Hp → Option Nat → Int32 → Int32 → Rs) (h : Hp) (l0 : Option Nat) (l2 : Int32) (s0 : Int32) : Rs := k5 h l0 s0 (l2 + (1 : Int32))
set_option maxHeartbeats 4000000 in
set_option maxRecDepth 100000 in
theorem sX6_forgets_58 (X : Cx) {h0 : Hp} (k5 : Hp → Option Nat → Int32 → Int32 → Rs) (hk5 : ∀ (h : Hp) (l0 : Option Nat) (l1 : Int32) (l2 : Int32), Gd X mX6_forgets h0 (k5 h l0 l1 l2) h 5 [some (.inr (.inr l0)), some (.inl l1), some (.inl l2), none] []) (h : Hp) (l0 : Option Nat) (l2 : Int32) (s0 : Int32) : Gd X mX6_forgets h0 (fX6_forgets_58 X.2.2.2 k5 h l0 l2 s0) h 58 [some (.inr (.inr l0)), none, some (.inl l2), none] [.inl s0] := by
  unfold fX6_forgets_58
  refine q_run tkX6_forgets 33 3 (pc' := 5) (L' := [some (.inr (.inr l0)), some (.inl s0), some (.inl (l2 + (1 : Int32))), none]) (st' := []) rfl ?_
  exact hk5 h l0 s0 (l2 + (1 : Int32))
def fX6_forgets_48 (c : Nat → Option Nat) (k5 : Hp → Option Nat → Int32 → Int32 → Rs) (h : Hp) (l0 : Option Nat) (l1 : Int32) (l2 : Int32) (s0 : Int32) : Rs := if s0 = 0 then (fX6_forgets_58 c k5 h l0 l2 l1) else (fX6_forgets_58 c k5 h l0 l2 l2)
set_option maxHeartbeats 4000000 in
set_option maxRecDepth 100000 in
theorem sX6_forgets_48 (X : Cx) {h0 : Hp} (k5 : Hp → Option Nat → Int32 → Int32 → Rs) (hk5 : ∀ (h : Hp) (l0 : Option Nat) (l1 : Int32) (l2 : Int32), Gd X mX6_forgets h0 (k5 h l0 l1 l2) h 5 [some (.inr (.inr l0)), some (.inl l1), some (.inl l2), none] []) (h : Hp) (l0 : Option Nat) (l1 : Int32) (l2 : Int32) (s0 : Int32) : Gd X mX6_forgets h0 (fX6_forgets_48 X.2.2.2 k5 h l0 l1 l2 s0) h 48 [some (.inr (.inr l0)), some (.inl l1), some (.inl l2), none] [.inl s0] := by
  unfold fX6_forgets_48
  refine q_run tkX6_forgets 27 2 (pc' := 50) (L' := [some (.inr (.inr l0)), some (.inl l1), some (.inl l2), some (.inl s0)]) (st' := [.inl s0]) rfl ?_
  refine q_if_eq (tbm tkX6_forgets (i := 29) rfl) ?_ ?_
  · refine q_run tkX6_forgets 32 1 (pc' := 58) (L' := [some (.inr (.inr l0)), some (.inl l1), some (.inl l2), some (.inl s0)]) (st' := [.inl l1]) rfl ?_
    refine q_le (L' := [some (.inr (.inr l0)), none, some (.inl l2), none]) (lvLe_s (lvLe_n (lvLe_s (lvLe_n lvLe_0)))) ?_
    exact sX6_forgets_58 X k5 hk5 h l0 l2 l1
  · refine q_run tkX6_forgets 30 2 (pc' := 58) (L' := [some (.inr (.inr l0)), some (.inl l1), some (.inl l2), some (.inl s0)]) (st' := [.inl l2]) rfl ?_
    refine q_le (L' := [some (.inr (.inr l0)), none, some (.inl l2), none]) (lvLe_s (lvLe_n (lvLe_s (lvLe_n lvLe_0)))) ?_
    exact sX6_forgets_58 X k5 hk5 h l0 l2 l2
def fX6_forgets_43 (c : Nat → Option Nat) (k5 : Hp → Option Nat → Int32 → Int32 → Rs) (h : Hp) (l0 : Option Nat) (l1 : Int32) (l2 : Int32) : Rs := fX6_forgets_48 c k5 h l0 l1 l2 (1 : Int32)
set_option maxHeartbeats 4000000 in
set_option maxRecDepth 100000 in
theorem sX6_forgets_43 (X : Cx) {h0 : Hp} (k5 : Hp → Option Nat → Int32 → Int32 → Rs) (hk5 : ∀ (h : Hp) (l0 : Option Nat) (l1 : Int32) (l2 : Int32), Gd X mX6_forgets h0 (k5 h l0 l1 l2) h 5 [some (.inr (.inr l0)), some (.inl l1), some (.inl l2), none] []) (h : Hp) (l0 : Option Nat) (l1 : Int32) (l2 : Int32) : Gd X mX6_forgets h0 (fX6_forgets_43 X.2.2.2 k5 h l0 l1 l2) h 43 [some (.inr (.inr l0)), some (.inl l1), some (.inl l2), none] [] := by
  unfold fX6_forgets_43
  refine q_run tkX6_forgets 24 2 (pc' := 48) (L' := [some (.inr (.inr l0)), some (.inl l1), some (.inl l2), none]) (st' := [.inl (1 : Int32)]) rfl ?_
  exact sX6_forgets_48 X k5 hk5 h l0 l1 l2 (1 : Int32)
def fX6_forgets_47 (c : Nat → Option Nat) (k5 : Hp → Option Nat → Int32 → Int32 → Rs) (h : Hp) (l0 : Option Nat) (l1 : Int32) (l2 : Int32) : Rs := fX6_forgets_48 c k5 h l0 l1 l2 (0 : Int32)
set_option maxHeartbeats 4000000 in
set_option maxRecDepth 100000 in
theorem sX6_forgets_47 (X : Cx) {h0 : Hp} (k5 : Hp → Option Nat → Int32 → Int32 → Rs) (hk5 : ∀ (h : Hp) (l0 : Option Nat) (l1 : Int32) (l2 : Int32), Gd X mX6_forgets h0 (k5 h l0 l1 l2) h 5 [some (.inr (.inr l0)), some (.inl l1), some (.inl l2), none] []) (h : Hp) (l0 : Option Nat) (l1 : Int32) (l2 : Int32) : Gd X mX6_forgets h0 (fX6_forgets_47 X.2.2.2 k5 h l0 l1 l2) h 47 [some (.inr (.inr l0)), some (.inl l1), some (.inl l2), none] [] := by
  unfold fX6_forgets_47
  refine q_run tkX6_forgets 26 1 (pc' := 48) (L' := [some (.inr (.inr l0)), some (.inl l1), some (.inl l2), none]) (st' := [.inl (0 : Int32)]) rfl ?_
  exact sX6_forgets_48 X k5 hk5 h l0 l1 l2 (0 : Int32)
def fX6_forgets_80 (c : Nat → Option Nat) (h : Hp) : Rs := some (h, none)
set_option maxHeartbeats 4000000 in
set_option maxRecDepth 100000 in
theorem sX6_forgets_80 (X : Cx) {h0 : Hp} (h : Hp) : Gd X mX6_forgets h0 (fX6_forgets_80 X.2.2.2 h) h 80 [none, none, none, none] [] := by
  unfold fX6_forgets_80
  exact q_vret (tbm tkX6_forgets (i := 44) rfl) rfl
def fX6_forgets_5 (c : Nat → Option Nat) : Nat → Hp → Option Nat → Int32 → Int32 → Rs
  | 0, _, _, _, _ => none
  | n + 1, h, l0, l1, l2 => if l2 < (21 : Int32) then (ck h l0 8 (cc (fX6_isHow c h l0 l2 (2 : Int32)) (kI fun h1 x2 => if x2 = 0 then (fX6_forgets_47 c (fX6_forgets_5 c n) h1 l0 l1 l2) else (if l1 = (-6 : Int32) then (fX6_forgets_43 c (fX6_forgets_5 c n) h1 l0 l1 l2) else (ck h1 l0 8 (cc (fX6_of c h1 l0 l2 (7 : Int32)) (kI fun h3 x4 => ck h3 l0 8 (cc (fX6_of c h3 l0 l1 (7 : Int32)) (kI fun h5 x6 => if x4 < x6 then (fX6_forgets_43 c (fX6_forgets_5 c n) h5 l0 l1 l2) else (fX6_forgets_47 c (fX6_forgets_5 c n) h5 l0 l1 l2)))))))))) else (ck h l0 8 (cc (fX6_manyHow c h l0 (2 : Int32)) (kI fun h7 x8 => if (8 : Int32) < x8 then (ck h7 l0 8 (cc (fX6_empties c h7 l0 l1) (kV fun h9 => fX6_forgets_80 c h9))) else (fX6_forgets_80 c h7))))
set_option maxHeartbeats 4000000 in
set_option maxRecDepth 100000 in
theorem sX6_forgets_5 (X : Cx) {h0 : Hp} : ∀ (n : Nat) (h : Hp) (l0 : Option Nat) (l1 : Int32) (l2 : Int32), Gd X mX6_forgets h0 (fX6_forgets_5 X.2.2.2 n h l0 l1 l2) h 5 [some (.inr (.inr l0)), some (.inl l1), some (.inl l2), none] [] := by
  intro n
  induction n with
  | zero => intros; exact gd_none
  | succ n ih =>
    intro h l0 l1 l2
    unfold fX6_forgets_5
    refine q_run tkX6_forgets 4 2 (pc' := 8) (L' := [some (.inr (.inr l0)), some (.inl l1), some (.inl l2), none]) (st' := [.inl (21 : Int32), .inl l2]) rfl ?_
    refine q_icmp_ge (tbm tkX6_forgets (i := 6) rfl) ?_ ?_
    · refine q_run tkX6_forgets 7 3 (pc' := 14) (L' := [some (.inr (.inr l0)), some (.inl l1), some (.inl l2), none]) (st' := [.inl (2 : Int32), .inl l2, .inr (.inr l0)]) rfl ?_
      refine q_cv (r := l0) (ci := 8) (n := 2) (as := [.inl l2, .inl (2 : Int32)]) (st := []) TX6 15 (soX6_isHow X h l0 l2 (2 : Int32)) (tbm tkX6_forgets (i := 10) rfl) rfl rfl ceX6_isHow wd_1065 wd_31 wd_1063 rfl (Nat.le_of_ble_eq_true rfl) (kI_gd (fun h1 x2 => ?_))
      refine q_if_eq (tbm tkX6_forgets (i := 11) rfl) ?_ ?_
      · exact sX6_forgets_47 X (fX6_forgets_5 X.2.2.2 n) ih h1 l0 l1 l2
      · refine q_run tkX6_forgets 12 2 (pc' := 23) (L' := [some (.inr (.inr l0)), some (.inl l1), some (.inl l2), none]) (st' := [.inl (-6 : Int32), .inl l1]) rfl ?_
        refine q_icmp_eq (tbm tkX6_forgets (i := 14) rfl) ?_ ?_
        · exact sX6_forgets_43 X (fX6_forgets_5 X.2.2.2 n) ih h1 l0 l1 l2
        · refine q_run tkX6_forgets 15 3 (pc' := 30) (L' := [some (.inr (.inr l0)), some (.inl l1), some (.inl l2), none]) (st' := [.inl (7 : Int32), .inl l2, .inr (.inr l0)]) rfl ?_
          refine q_cv (r := l0) (ci := 8) (n := 2) (as := [.inl l2, .inl (7 : Int32)]) (st := []) TX6 15 (soX6_of X h1 l0 l2 (7 : Int32)) (tbm tkX6_forgets (i := 18) rfl) rfl rfl ceX6_of wd_1016 wd_21 wd_1014 rfl (Nat.le_of_ble_eq_true rfl) (kI_gd (fun h3 x4 => ?_))
          refine q_run tkX6_forgets 19 3 (pc' := 37) (L' := [some (.inr (.inr l0)), some (.inl l1), some (.inl l2), none]) (st' := [.inl (7 : Int32), .inl l1, .inr (.inr l0), .inl x4]) rfl ?_
          refine q_cv (r := l0) (ci := 8) (n := 2) (as := [.inl l1, .inl (7 : Int32)]) (st := [.inl x4]) TX6 15 (soX6_of X h3 l0 l1 (7 : Int32)) (tbm tkX6_forgets (i := 22) rfl) rfl rfl ceX6_of wd_1016 wd_21 wd_1014 rfl (Nat.le_of_ble_eq_true rfl) (kI_gd (fun h5 x6 => ?_))
          refine q_icmp_ge (tbm tkX6_forgets (i := 23) rfl) ?_ ?_
          · exact sX6_forgets_43 X (fX6_forgets_5 X.2.2.2 n) ih h5 l0 l1 l2
          · exact sX6_forgets_47 X (fX6_forgets_5 X.2.2.2 n) ih h5 l0 l1 l2
    · refine q_run tkX6_forgets 36 2 (pc' := 67) (L' := [some (.inr (.inr l0)), some (.inl l1), some (.inl l2), none]) (st' := [.inl (2 : Int32), .inr (.inr l0)]) rfl ?_
      refine q_cv (r := l0) (ci := 8) (n := 1) (as := [.inl (2 : Int32)]) (st := []) TX6 15 (soX6_manyHow X h l0 (2 : Int32)) (tbm tkX6_forgets (i := 38) rfl) rfl rfl ceX6_manyHow wd_1061 wd_30 wd_1059 rfl (Nat.le_of_ble_eq_true rfl) (kI_gd (fun h7 x8 => ?_))
      refine q_run tkX6_forgets 39 1 (pc' := 72) (L' := [some (.inr (.inr l0)), some (.inl l1), some (.inl l2), none]) (st' := [.inl (8 : Int32), .inl x8]) rfl ?_
      refine q_icmp_le (tbm tkX6_forgets (i := 40) rfl) ?_ ?_
      · refine q_run tkX6_forgets 41 2 (pc' := 77) (L' := [some (.inr (.inr l0)), some (.inl l1), some (.inl l2), none]) (st' := [.inl l1, .inr (.inr l0)]) rfl ?_
        refine q_cv (r := l0) (ci := 8) (n := 1) (as := [.inl l1]) (st := []) TX6 15 (soX6_empties X h7 l0 l1) (tbm tkX6_forgets (i := 43) rfl) rfl rfl ceX6_empties wd_1073 wd_33 wd_1071 rfl (Nat.le_of_ble_eq_true rfl) (kV_gd (fun h9 => ?_))
        refine q_le (L' := [none, none, none, none]) (lvLe_n (lvLe_n (lvLe_n (lvLe_n lvLe_0)))) ?_
        exact sX6_forgets_80 X h9
      · refine q_le (L' := [none, none, none, none]) (lvLe_n (lvLe_n (lvLe_n (lvLe_n lvLe_0)))) ?_
        exact sX6_forgets_80 X h7
def fX6_forgets (c : Nat → Option Nat) (h : Hp) (a0 : Option Nat) : Rs := fX6_forgets_5 c FU h a0 (-6 : Int32) (3 : Int32)
set_option maxHeartbeats 4000000 in
set_option maxRecDepth 100000 in
theorem soX6_forgets (X : Cx) (h : Hp) (a0 : Option Nat) : SO X mX6_forgets [.inr (.inr a0)] h (fX6_forgets X.2.2.2 h a0) := by
  refine so_of (by decide +kernel) (Nat.le_of_ble_eq_true rfl) ?_
  show Gd X mX6_forgets h (fX6_forgets X.2.2.2 h a0) h 0 [some (.inr (.inr a0)), none, none, none] []
  unfold fX6_forgets
  refine q_run tkX6_forgets 0 4 (pc' := 5) (L' := [some (.inr (.inr a0)), some (.inl (-6 : Int32)), some (.inl (3 : Int32)), none]) (st' := []) rfl ?_
  exact sX6_forgets_5 X FU h a0 (-6 : Int32) (3 : Int32)
theorem ceX6_forgets : Ce mX6_forgets 0 := ⟨wd_81, wd_1213, by decide +kernel, by decide +kernel, by decide +kernel⟩
/-- ReceiptRollsModel.ends -/
abbrev mX6_ends : MI := (yX6_ends, cX6_ends, 2, none, 4)
def tbX6_ends : List TE := [(0, .aload_n 0, 1, 0, 0), (1, .getfield 7, 3, 0, 0), (4, .iconst 5, 1, 5, 0), (5, .dup2, 1, 0, 0), (6, .iaload, 1, 0, 0), (7, .iconst 1, 1, 1, 0), (8, .iadd, 1, 0, 0), (9, .iastore, 1, 0, 0), (10, .aload_n 0, 1, 0, 0), (11, .iload_n 1, 1, 0, 0), (12, .iconst 3, 1, 3, 0), (13, .iconst 2, 1, 2, 0), (14, .invokevirtual 36, 3, 0, 0), (17, .aload_n 0, 1, 0, 0), (18, .iload_n 1, 1, 0, 0), (19, .bipush 6, 2, 6, 0), (21, .aload_n 0, 1, 0, 0), (22, .getfield 7, 3, 0, 0), (25, .iconst 3, 1, 3, 0), (26, .iaload, 1, 0, 0), (27, .invokevirtual 36, 3, 0, 0), (30, .aload_n 0, 1, 0, 0), (31, .iload_n 1, 1, 0, 0), (32, .bipush 7, 2, 7, 0), (34, .aload_n 0, 1, 0, 0), (35, .getfield 7, 3, 0, 0), (38, .iconst 5, 1, 5, 0), (39, .iaload, 1, 0, 0), (40, .invokevirtual 36, 3, 0, 0), (43, .aload_n 0, 1, 0, 0), (44, .invokevirtual 164, 3, 0, 0), (47, .return_, 1, 0, 0)]
theorem tkX6_ends : ∀ x ∈ tbX6_ends, tbB cX6_ends x = true := tb_all (by decide +kernel)
def fX6_ends (c : Nat → Option Nat) (h : Hp) (a0 : Option Nat) (a1 : Int32) : Rs := rdR h a0 8 1 (fun r1 => aldI h r1 [0, 10] (5 : Int32) (fun x2 => astI h r1 [0] (5 : Int32) (x2 + (1 : Int32)) (fun h3 => ck h3 a0 8 (cc (fX6_lay c h3 a0 a1 (3 : Int32) (2 : Int32)) (kV fun h4 => rdR h4 a0 8 1 (fun r5 => aldI h4 r5 [0, 10] (3 : Int32) (fun x6 => ck h4 a0 8 (cc (fX6_lay c h4 a0 a1 (6 : Int32) x6) (kV fun h7 => rdR h7 a0 8 1 (fun r8 => aldI h7 r8 [0, 10] (5 : Int32) (fun x9 => ck h7 a0 8 (cc (fX6_lay c h7 a0 a1 (7 : Int32) x9) (kV fun h10 => ck h10 a0 8 (cc (fX6_forgets c h10 a0) (kV fun h11 => some (h11, none))))))))))))))))
set_option maxHeartbeats 4000000 in
set_option maxRecDepth 100000 in
theorem soX6_ends (X : Cx) (h : Hp) (a0 : Option Nat) (a1 : Int32) : SO X mX6_ends [.inr (.inr a0), .inl a1] h (fX6_ends X.2.2.2 h a0 a1) := by
  refine so_of (by decide +kernel) (Nat.le_of_ble_eq_true rfl) ?_
  show Gd X mX6_ends h (fX6_ends X.2.2.2 h a0 a1) h 0 [some (.inr (.inr a0)), some (.inl a1)] []
  unfold fX6_ends
  refine q_run tkX6_ends 0 1 (pc' := 1) (L' := [some (.inr (.inr a0)), some (.inl a1)]) (st' := [.inr (.inr a0)]) rfl ?_
  refine q_rdR RX6 TX6 15 (tbm tkX6_ends (i := 1) rfl) rfl (Nat.le_of_ble_eq_true rfl) wd_936 (fun r1 => ?_)
  refine q_run tkX6_ends 2 2 (pc' := 6) (L' := [some (.inr (.inr a0)), some (.inl a1)]) (st' := [.inl (5 : Int32), .inr (.inr r1), .inl (5 : Int32), .inr (.inr r1)]) rfl ?_
  refine q_iaload (tbm tkX6_ends (i := 4) rfl) (fun x2 => ?_)
  refine q_run tkX6_ends 5 2 (pc' := 9) (L' := [some (.inr (.inr a0)), some (.inl a1)]) (st' := [.inl (x2 + (1 : Int32)), .inl (5 : Int32), .inr (.inr r1)]) rfl ?_
  refine q_iastore (tbm tkX6_ends (i := 7) rfl) (fun h3 => ?_)
  refine q_run tkX6_ends 8 4 (pc' := 14) (L' := [some (.inr (.inr a0)), some (.inl a1)]) (st' := [.inl (2 : Int32), .inl (3 : Int32), .inl a1, .inr (.inr a0)]) rfl ?_
  refine q_cv (r := a0) (ci := 8) (n := 3) (as := [.inl a1, .inl (3 : Int32), .inl (2 : Int32)]) (st := []) TX6 15 (soX6_lay X h3 a0 a1 (3 : Int32) (2 : Int32)) (tbm tkX6_ends (i := 12) rfl) rfl rfl ceX6_lay wd_933 wd_17 wd_931 rfl (Nat.le_of_ble_eq_true rfl) (kV_gd (fun h4 => ?_))
  refine q_run tkX6_ends 13 4 (pc' := 22) (L' := [some (.inr (.inr a0)), some (.inl a1)]) (st' := [.inr (.inr a0), .inl (6 : Int32), .inl a1, .inr (.inr a0)]) rfl ?_
  refine q_rdR RX6 TX6 15 (tbm tkX6_ends (i := 17) rfl) rfl (Nat.le_of_ble_eq_true rfl) wd_936 (fun r5 => ?_)
  refine q_run tkX6_ends 18 1 (pc' := 26) (L' := [some (.inr (.inr a0)), some (.inl a1)]) (st' := [.inl (3 : Int32), .inr (.inr r5), .inl (6 : Int32), .inl a1, .inr (.inr a0)]) rfl ?_
  refine q_iaload (tbm tkX6_ends (i := 19) rfl) (fun x6 => ?_)
  refine q_cv (r := a0) (ci := 8) (n := 3) (as := [.inl a1, .inl (6 : Int32), .inl x6]) (st := []) TX6 15 (soX6_lay X h4 a0 a1 (6 : Int32) x6) (tbm tkX6_ends (i := 20) rfl) rfl rfl ceX6_lay wd_933 wd_17 wd_931 rfl (Nat.le_of_ble_eq_true rfl) (kV_gd (fun h7 => ?_))
  refine q_run tkX6_ends 21 4 (pc' := 35) (L' := [some (.inr (.inr a0)), some (.inl a1)]) (st' := [.inr (.inr a0), .inl (7 : Int32), .inl a1, .inr (.inr a0)]) rfl ?_
  refine q_rdR RX6 TX6 15 (tbm tkX6_ends (i := 25) rfl) rfl (Nat.le_of_ble_eq_true rfl) wd_936 (fun r8 => ?_)
  refine q_run tkX6_ends 26 1 (pc' := 39) (L' := [some (.inr (.inr a0)), some (.inl a1)]) (st' := [.inl (5 : Int32), .inr (.inr r8), .inl (7 : Int32), .inl a1, .inr (.inr a0)]) rfl ?_
  refine q_iaload (tbm tkX6_ends (i := 27) rfl) (fun x9 => ?_)
  refine q_cv (r := a0) (ci := 8) (n := 3) (as := [.inl a1, .inl (7 : Int32), .inl x9]) (st := []) TX6 15 (soX6_lay X h7 a0 a1 (7 : Int32) x9) (tbm tkX6_ends (i := 28) rfl) rfl rfl ceX6_lay wd_933 wd_17 wd_931 rfl (Nat.le_of_ble_eq_true rfl) (kV_gd (fun h10 => ?_))
  refine q_run tkX6_ends 29 1 (pc' := 44) (L' := [some (.inr (.inr a0)), some (.inl a1)]) (st' := [.inr (.inr a0)]) rfl ?_
  refine q_cv (r := a0) (ci := 8) (n := 0) (as := []) (st := []) TX6 15 (soX6_forgets X h10 a0) (tbm tkX6_ends (i := 30) rfl) rfl rfl ceX6_forgets wd_1212 wd_63 wd_1210 rfl (Nat.le_of_ble_eq_true rfl) (kV_gd (fun h11 => ?_))
  exact q_vret (tbm tkX6_ends (i := 31) rfl) rfl
theorem ceX6_ends : Ce mX6_ends 1 := ⟨wd_81, wd_1209, by decide +kernel, by decide +kernel, by decide +kernel⟩
/-- ReceiptRollsModel.printsLine -/
abbrev mX6_printsLine : MI := (yX6_printsLine, cX6_printsLine, 2, some .boolean, 8)
def tbX6_printsLine : List TE := [(0, .aload_n 0, 1, 0, 0), (1, .invokevirtual 167, 3, 0, 0), (4, .istore_n 1, 1, 0, 0), (5, .iload_n 1, 1, 0, 0), (6, .bipush (-6), 2, -6, 0), (8, .if_icmp .ne 22, 3, 0, 30), (11, .aload_n 0, 1, 0, 0), (12, .iconst 0, 1, 0, 0), (13, .invokevirtual 171, 3, 0, 0), (16, .istore_n 1, 1, 0, 0), (17, .iload_n 1, 1, 0, 0), (18, .bipush (-6), 2, -6, 0), (20, .if_icmp .eq 10, 3, 0, 30), (23, .aload_n 0, 1, 0, 0), (24, .iload_n 1, 1, 0, 0), (25, .iconst 3, 1, 3, 0), (26, .iconst 1, 1, 1, 0), (27, .invokevirtual 36, 3, 0, 0), (30, .iload_n 1, 1, 0, 0), (31, .bipush (-6), 2, -6, 0), (33, .if_icmp .eq 13, 3, 0, 46), (36, .aload_n 0, 1, 0, 0), (37, .getfield 7, 3, 0, 0), (40, .bipush 7, 2, 7, 0), (42, .iaload, 1, 0, 0), (43, .ifCond .ne 5, 3, 0, 48), (46, .iconst 0, 1, 0, 0), (47, .ireturn, 1, 0, 0), (48, .aload_n 0, 1, 0, 0), (49, .iload_n 1, 1, 0, 0), (50, .iconst 5, 1, 5, 0), (51, .aload_n 0, 1, 0, 0), (52, .iload_n 1, 1, 0, 0), (53, .iconst 5, 1, 5, 0), (54, .invokevirtual 47, 3, 0, 0), (57, .iconst 1, 1, 1, 0), (58, .iadd, 1, 0, 0), (59, .invokevirtual 36, 3, 0, 0), (62, .aload_n 0, 1, 0, 0), (63, .getfield 7, 3, 0, 0), (66, .bipush 7, 2, 7, 0), (68, .dup2, 1, 0, 0), (69, .iaload, 1, 0, 0), (70, .iconst 1, 1, 1, 0), (71, .isub, 1, 0, 0), (72, .iastore, 1, 0, 0), (73, .aload_n 0, 1, 0, 0), (74, .getfield 7, 3, 0, 0), (77, .bipush 8, 2, 8, 0), (79, .dup2, 1, 0, 0), (80, .iaload, 1, 0, 0), (81, .iconst 1, 1, 1, 0), (82, .iadd, 1, 0, 0), (83, .iastore, 1, 0, 0), (84, .aload_n 0, 1, 0, 0), (85, .iload_n 1, 1, 0, 0), (86, .iconst 5, 1, 5, 0), (87, .invokevirtual 47, 3, 0, 0), (90, .aload_n 0, 1, 0, 0), (91, .iload_n 1, 1, 0, 0), (92, .invokevirtual 174, 3, 0, 0), (95, .if_icmp .ne 8, 3, 0, 103), (98, .aload_n 0, 1, 0, 0), (99, .iload_n 1, 1, 0, 0), (100, .invokevirtual 177, 3, 0, 0), (103, .iconst 1, 1, 1, 0), (104, .ireturn, 1, 0, 0)]
theorem tkX6_printsLine : ∀ x ∈ tbX6_printsLine, tbB cX6_printsLine x = true := tb_all (by decide +kernel)
def fX6_printsLine_46 (c : Nat → Option Nat) (h : Hp) : Rs := rtI .boolean h (0 : Int32)
set_option maxHeartbeats 4000000 in
set_option maxRecDepth 100000 in
theorem sX6_printsLine_46 (X : Cx) {h0 : Hp} (h : Hp) : Gd X mX6_printsLine h0 (fX6_printsLine_46 X.2.2.2 h) h 46 [none, none] [] := by
  unfold fX6_printsLine_46
  refine q_run tkX6_printsLine 26 1 (pc' := 47) (L' := [none, none]) (st' := [.inl (0 : Int32)]) rfl ?_
  exact q_zret (tbm tkX6_printsLine (i := 27) rfl) rfl
def fX6_printsLine_103 (c : Nat → Option Nat) (h : Hp) : Rs := rtI .boolean h (1 : Int32)
set_option maxHeartbeats 4000000 in
set_option maxRecDepth 100000 in
theorem sX6_printsLine_103 (X : Cx) {h0 : Hp} (h : Hp) : Gd X mX6_printsLine h0 (fX6_printsLine_103 X.2.2.2 h) h 103 [none, none] [] := by
  unfold fX6_printsLine_103
  refine q_run tkX6_printsLine 65 1 (pc' := 104) (L' := [none, none]) (st' := [.inl (1 : Int32)]) rfl ?_
  exact q_zret (tbm tkX6_printsLine (i := 66) rfl) rfl
def fX6_printsLine_30 (c : Nat → Option Nat) (h : Hp) (l0 : Option Nat) (l1 : Int32) : Rs := if l1 = (-6 : Int32) then (fX6_printsLine_46 c h) else (rdR h l0 8 1 (fun r1 => aldI h r1 [0, 10] (7 : Int32) (fun x2 => if x2 = 0 then (fX6_printsLine_46 c h) else (ck h l0 8 (cc (fX6_of c h l0 l1 (5 : Int32)) (kI fun h3 x4 => ck h3 l0 8 (cc (fX6_lay c h3 l0 l1 (5 : Int32) (x4 + (1 : Int32))) (kV fun h5 => rdR h5 l0 8 1 (fun r6 => aldI h5 r6 [0, 10] (7 : Int32) (fun x7 => astI h5 r6 [0] (7 : Int32) (x7 - (1 : Int32)) (fun h8 => rdR h8 l0 8 1 (fun r9 => aldI h8 r9 [0, 10] (8 : Int32) (fun x10 => astI h8 r9 [0] (8 : Int32) (x10 + (1 : Int32)) (fun h11 => ck h11 l0 8 (cc (fX6_of c h11 l0 l1 (5 : Int32)) (kI fun h12 x13 => ck h12 l0 8 (cc (fX6_linesOf c h12 l0 l1) (kI fun h14 x15 => if x13 = x15 then (ck h14 l0 8 (cc (fX6_ends c h14 l0 l1) (kV fun h16 => fX6_printsLine_103 c h16))) else (fX6_printsLine_103 c h14)))))))))))))))))))
set_option maxHeartbeats 4000000 in
set_option maxRecDepth 100000 in
theorem sX6_printsLine_30 (X : Cx) {h0 : Hp} (h : Hp) (l0 : Option Nat) (l1 : Int32) : Gd X mX6_printsLine h0 (fX6_printsLine_30 X.2.2.2 h l0 l1) h 30 [some (.inr (.inr l0)), some (.inl l1)] [] := by
  unfold fX6_printsLine_30
  refine q_run tkX6_printsLine 18 2 (pc' := 33) (L' := [some (.inr (.inr l0)), some (.inl l1)]) (st' := [.inl (-6 : Int32), .inl l1]) rfl ?_
  refine q_icmp_eq (tbm tkX6_printsLine (i := 20) rfl) ?_ ?_
  · refine q_le (L' := [none, none]) (lvLe_n (lvLe_n lvLe_0)) ?_
    exact sX6_printsLine_46 X h
  · refine q_run tkX6_printsLine 21 1 (pc' := 37) (L' := [some (.inr (.inr l0)), some (.inl l1)]) (st' := [.inr (.inr l0)]) rfl ?_
    refine q_rdR RX6 TX6 15 (tbm tkX6_printsLine (i := 22) rfl) rfl (Nat.le_of_ble_eq_true rfl) wd_936 (fun r1 => ?_)
    refine q_run tkX6_printsLine 23 1 (pc' := 42) (L' := [some (.inr (.inr l0)), some (.inl l1)]) (st' := [.inl (7 : Int32), .inr (.inr r1)]) rfl ?_
    refine q_iaload (tbm tkX6_printsLine (i := 24) rfl) (fun x2 => ?_)
    refine q_if_ne (tbm tkX6_printsLine (i := 25) rfl) ?_ ?_
    · refine q_le (L' := [none, none]) (lvLe_n (lvLe_n lvLe_0)) ?_
      exact sX6_printsLine_46 X h
    · refine q_run tkX6_printsLine 28 6 (pc' := 54) (L' := [some (.inr (.inr l0)), some (.inl l1)]) (st' := [.inl (5 : Int32), .inl l1, .inr (.inr l0), .inl (5 : Int32), .inl l1, .inr (.inr l0)]) rfl ?_
      refine q_cv (r := l0) (ci := 8) (n := 2) (as := [.inl l1, .inl (5 : Int32)]) (st := [.inl (5 : Int32), .inl l1, .inr (.inr l0)]) TX6 15 (soX6_of X h l0 l1 (5 : Int32)) (tbm tkX6_printsLine (i := 34) rfl) rfl rfl ceX6_of wd_1016 wd_21 wd_1014 rfl (Nat.le_of_ble_eq_true rfl) (kI_gd (fun h3 x4 => ?_))
      refine q_run tkX6_printsLine 35 2 (pc' := 59) (L' := [some (.inr (.inr l0)), some (.inl l1)]) (st' := [.inl (x4 + (1 : Int32)), .inl (5 : Int32), .inl l1, .inr (.inr l0)]) rfl ?_
      refine q_cv (r := l0) (ci := 8) (n := 3) (as := [.inl l1, .inl (5 : Int32), .inl (x4 + (1 : Int32))]) (st := []) TX6 15 (soX6_lay X h3 l0 l1 (5 : Int32) (x4 + (1 : Int32))) (tbm tkX6_printsLine (i := 37) rfl) rfl rfl ceX6_lay wd_933 wd_17 wd_931 rfl (Nat.le_of_ble_eq_true rfl) (kV_gd (fun h5 => ?_))
      refine q_run tkX6_printsLine 38 1 (pc' := 63) (L' := [some (.inr (.inr l0)), some (.inl l1)]) (st' := [.inr (.inr l0)]) rfl ?_
      refine q_rdR RX6 TX6 15 (tbm tkX6_printsLine (i := 39) rfl) rfl (Nat.le_of_ble_eq_true rfl) wd_936 (fun r6 => ?_)
      refine q_run tkX6_printsLine 40 2 (pc' := 69) (L' := [some (.inr (.inr l0)), some (.inl l1)]) (st' := [.inl (7 : Int32), .inr (.inr r6), .inl (7 : Int32), .inr (.inr r6)]) rfl ?_
      refine q_iaload (tbm tkX6_printsLine (i := 42) rfl) (fun x7 => ?_)
      refine q_run tkX6_printsLine 43 2 (pc' := 72) (L' := [some (.inr (.inr l0)), some (.inl l1)]) (st' := [.inl (x7 - (1 : Int32)), .inl (7 : Int32), .inr (.inr r6)]) rfl ?_
      refine q_iastore (tbm tkX6_printsLine (i := 45) rfl) (fun h8 => ?_)
      refine q_run tkX6_printsLine 46 1 (pc' := 74) (L' := [some (.inr (.inr l0)), some (.inl l1)]) (st' := [.inr (.inr l0)]) rfl ?_
      refine q_rdR RX6 TX6 15 (tbm tkX6_printsLine (i := 47) rfl) rfl (Nat.le_of_ble_eq_true rfl) wd_936 (fun r9 => ?_)
      refine q_run tkX6_printsLine 48 2 (pc' := 80) (L' := [some (.inr (.inr l0)), some (.inl l1)]) (st' := [.inl (8 : Int32), .inr (.inr r9), .inl (8 : Int32), .inr (.inr r9)]) rfl ?_
      refine q_iaload (tbm tkX6_printsLine (i := 50) rfl) (fun x10 => ?_)
      refine q_run tkX6_printsLine 51 2 (pc' := 83) (L' := [some (.inr (.inr l0)), some (.inl l1)]) (st' := [.inl (x10 + (1 : Int32)), .inl (8 : Int32), .inr (.inr r9)]) rfl ?_
      refine q_iastore (tbm tkX6_printsLine (i := 53) rfl) (fun h11 => ?_)
      refine q_run tkX6_printsLine 54 3 (pc' := 87) (L' := [some (.inr (.inr l0)), some (.inl l1)]) (st' := [.inl (5 : Int32), .inl l1, .inr (.inr l0)]) rfl ?_
      refine q_cv (r := l0) (ci := 8) (n := 2) (as := [.inl l1, .inl (5 : Int32)]) (st := []) TX6 15 (soX6_of X h11 l0 l1 (5 : Int32)) (tbm tkX6_printsLine (i := 57) rfl) rfl rfl ceX6_of wd_1016 wd_21 wd_1014 rfl (Nat.le_of_ble_eq_true rfl) (kI_gd (fun h12 x13 => ?_))
      refine q_run tkX6_printsLine 58 2 (pc' := 92) (L' := [some (.inr (.inr l0)), some (.inl l1)]) (st' := [.inl l1, .inr (.inr l0), .inl x13]) rfl ?_
      refine q_cv (r := l0) (ci := 8) (n := 1) (as := [.inl l1]) (st := [.inl x13]) TX6 15 (soX6_linesOf X h12 l0 l1) (tbm tkX6_printsLine (i := 60) rfl) rfl rfl ceX6_linesOf wd_1204 wd_61 wd_1202 rfl (Nat.le_of_ble_eq_true rfl) (kI_gd (fun h14 x15 => ?_))
      refine q_icmp_ne (tbm tkX6_printsLine (i := 61) rfl) ?_ ?_
      · refine q_run tkX6_printsLine 62 2 (pc' := 100) (L' := [some (.inr (.inr l0)), some (.inl l1)]) (st' := [.inl l1, .inr (.inr l0)]) rfl ?_
        refine q_cv (r := l0) (ci := 8) (n := 1) (as := [.inl l1]) (st := []) TX6 15 (soX6_ends X h14 l0 l1) (tbm tkX6_printsLine (i := 64) rfl) rfl rfl ceX6_ends wd_1208 wd_62 wd_1206 rfl (Nat.le_of_ble_eq_true rfl) (kV_gd (fun h16 => ?_))
        refine q_le (L' := [none, none]) (lvLe_n (lvLe_n lvLe_0)) ?_
        exact sX6_printsLine_103 X h16
      · refine q_le (L' := [none, none]) (lvLe_n (lvLe_n lvLe_0)) ?_
        exact sX6_printsLine_103 X h14
def fX6_printsLine (c : Nat → Option Nat) (h : Hp) (a0 : Option Nat) : Rs := ck h a0 8 (cc (fX6_printedNow c h a0) (kI fun h17 x18 => if x18 = (-6 : Int32) then (ck h17 a0 8 (cc (fX6_recordAt c h17 a0 (0 : Int32)) (kI fun h19 x20 => if x20 = (-6 : Int32) then (fX6_printsLine_30 c h19 a0 x20) else (ck h19 a0 8 (cc (fX6_lay c h19 a0 x20 (3 : Int32) (1 : Int32)) (kV fun h21 => fX6_printsLine_30 c h21 a0 x20)))))) else (fX6_printsLine_30 c h17 a0 x18)))
set_option maxHeartbeats 4000000 in
set_option maxRecDepth 100000 in
theorem soX6_printsLine (X : Cx) (h : Hp) (a0 : Option Nat) : SO X mX6_printsLine [.inr (.inr a0)] h (fX6_printsLine X.2.2.2 h a0) := by
  refine so_of (by decide +kernel) (Nat.le_of_ble_eq_true rfl) ?_
  show Gd X mX6_printsLine h (fX6_printsLine X.2.2.2 h a0) h 0 [some (.inr (.inr a0)), none] []
  unfold fX6_printsLine
  refine q_run tkX6_printsLine 0 1 (pc' := 1) (L' := [some (.inr (.inr a0)), none]) (st' := [.inr (.inr a0)]) rfl ?_
  refine q_cv (r := a0) (ci := 8) (n := 0) (as := []) (st := []) TX6 15 (soX6_printedNow X h a0) (tbm tkX6_printsLine (i := 1) rfl) rfl rfl ceX6_printedNow wd_1093 wd_35 wd_1091 rfl (Nat.le_of_ble_eq_true rfl) (kI_gd (fun h17 x18 => ?_))
  refine q_run tkX6_printsLine 2 3 (pc' := 8) (L' := [some (.inr (.inr a0)), some (.inl x18)]) (st' := [.inl (-6 : Int32), .inl x18]) rfl ?_
  refine q_icmp_ne (tbm tkX6_printsLine (i := 5) rfl) ?_ ?_
  · refine q_run tkX6_printsLine 6 2 (pc' := 13) (L' := [some (.inr (.inr a0)), some (.inl x18)]) (st' := [.inl (0 : Int32), .inr (.inr a0)]) rfl ?_
    refine q_cv (r := a0) (ci := 8) (n := 1) (as := [.inl (0 : Int32)]) (st := []) TX6 15 (soX6_recordAt X h17 a0 (0 : Int32)) (tbm tkX6_printsLine (i := 8) rfl) rfl rfl ceX6_recordAt wd_1192 wd_58 wd_1190 rfl (Nat.le_of_ble_eq_true rfl) (kI_gd (fun h19 x20 => ?_))
    refine q_run tkX6_printsLine 9 3 (pc' := 20) (L' := [some (.inr (.inr a0)), some (.inl x20)]) (st' := [.inl (-6 : Int32), .inl x20]) rfl ?_
    refine q_icmp_eq (tbm tkX6_printsLine (i := 12) rfl) ?_ ?_
    · exact sX6_printsLine_30 X h19 a0 x20
    · refine q_run tkX6_printsLine 13 4 (pc' := 27) (L' := [some (.inr (.inr a0)), some (.inl x20)]) (st' := [.inl (1 : Int32), .inl (3 : Int32), .inl x20, .inr (.inr a0)]) rfl ?_
      refine q_cv (r := a0) (ci := 8) (n := 3) (as := [.inl x20, .inl (3 : Int32), .inl (1 : Int32)]) (st := []) TX6 15 (soX6_lay X h19 a0 x20 (3 : Int32) (1 : Int32)) (tbm tkX6_printsLine (i := 17) rfl) rfl rfl ceX6_lay wd_933 wd_17 wd_931 rfl (Nat.le_of_ble_eq_true rfl) (kV_gd (fun h21 => ?_))
      exact sX6_printsLine_30 X h21 a0 x20
  · exact sX6_printsLine_30 X h17 a0 x18
theorem ceX6_printsLine : Ce mX6_printsLine 0 := ⟨wd_81, wd_1189, by decide +kernel, by decide +kernel, by decide +kernel⟩
/-- ReceiptRollsModel.ticks -/
abbrev mX6_ticks : MI := (yX6_ticks, cX6_ticks, 2, some .int, 9)
def tbX6_ticks : List TE := [(0, .iconst 0, 1, 0, 0), (1, .istore_n 1, 1, 0, 0), (2, .iload_n 1, 1, 0, 0), (3, .aload_n 0, 1, 0, 0), (4, .getfield 7, 3, 0, 0), (7, .iconst 2, 1, 2, 0), (8, .iaload, 1, 0, 0), (9, .if_icmp .ge 16, 3, 0, 25), (12, .aload_n 0, 1, 0, 0), (13, .invokevirtual 180, 3, 0, 0), (16, .ifCond .eq 9, 3, 0, 25), (19, .iinc 1 1, 3, 1, 0), (22, .goto (-20), 3, 0, 2), (25, .aload_n 0, 1, 0, 0), (26, .getfield 7, 3, 0, 0), (29, .iconst 3, 1, 3, 0), (30, .dup2, 1, 0, 0), (31, .iaload, 1, 0, 0), (32, .iconst 1, 1, 1, 0), (33, .iadd, 1, 0, 0), (34, .iastore, 1, 0, 0), (35, .iload_n 1, 1, 0, 0), (36, .ireturn, 1, 0, 0)]
theorem tkX6_ticks : ∀ x ∈ tbX6_ticks, tbB cX6_ticks x = true := tb_all (by decide +kernel)
def fX6_ticks_25 (c : Nat → Option Nat) (h : Hp) (l0 : Option Nat) (l1 : Int32) : Rs := rdR h l0 8 1 (fun r1 => aldI h r1 [0, 10] (3 : Int32) (fun x2 => astI h r1 [0] (3 : Int32) (x2 + (1 : Int32)) (fun h3 => some (h3, some (.inl l1)))))
set_option maxHeartbeats 4000000 in
set_option maxRecDepth 100000 in
theorem sX6_ticks_25 (X : Cx) {h0 : Hp} (h : Hp) (l0 : Option Nat) (l1 : Int32) : Gd X mX6_ticks h0 (fX6_ticks_25 X.2.2.2 h l0 l1) h 25 [some (.inr (.inr l0)), some (.inl l1)] [] := by
  unfold fX6_ticks_25
  refine q_run tkX6_ticks 13 1 (pc' := 26) (L' := [some (.inr (.inr l0)), some (.inl l1)]) (st' := [.inr (.inr l0)]) rfl ?_
  refine q_rdR RX6 TX6 15 (tbm tkX6_ticks (i := 14) rfl) rfl (Nat.le_of_ble_eq_true rfl) wd_936 (fun r1 => ?_)
  refine q_run tkX6_ticks 15 2 (pc' := 31) (L' := [some (.inr (.inr l0)), some (.inl l1)]) (st' := [.inl (3 : Int32), .inr (.inr r1), .inl (3 : Int32), .inr (.inr r1)]) rfl ?_
  refine q_iaload (tbm tkX6_ticks (i := 17) rfl) (fun x2 => ?_)
  refine q_run tkX6_ticks 18 2 (pc' := 34) (L' := [some (.inr (.inr l0)), some (.inl l1)]) (st' := [.inl (x2 + (1 : Int32)), .inl (3 : Int32), .inr (.inr r1)]) rfl ?_
  refine q_iastore (tbm tkX6_ticks (i := 20) rfl) (fun h3 => ?_)
  refine q_run tkX6_ticks 21 1 (pc' := 36) (L' := [some (.inr (.inr l0)), some (.inl l1)]) (st' := [.inl l1]) rfl ?_
  exact q_iret (tbm tkX6_ticks (i := 22) rfl) rfl
def fX6_ticks_2 (c : Nat → Option Nat) : Nat → Hp → Option Nat → Int32 → Rs
  | 0, _, _, _ => none
  | n + 1, h, l0, l1 => rdR h l0 8 1 (fun r4 => aldI h r4 [0, 10] (2 : Int32) (fun x5 => if l1 < x5 then (ck h l0 8 (cc (fX6_printsLine c h l0) (kI fun h6 x7 => if x7 = 0 then (fX6_ticks_25 c h6 l0 l1) else (fX6_ticks_2 c n h6 l0 (l1 + (1 : Int32)))))) else (fX6_ticks_25 c h l0 l1)))
set_option maxHeartbeats 4000000 in
set_option maxRecDepth 100000 in
theorem sX6_ticks_2 (X : Cx) {h0 : Hp} : ∀ (n : Nat) (h : Hp) (l0 : Option Nat) (l1 : Int32), Gd X mX6_ticks h0 (fX6_ticks_2 X.2.2.2 n h l0 l1) h 2 [some (.inr (.inr l0)), some (.inl l1)] [] := by
  intro n
  induction n with
  | zero => intros; exact gd_none
  | succ n ih =>
    intro h l0 l1
    unfold fX6_ticks_2
    refine q_run tkX6_ticks 2 2 (pc' := 4) (L' := [some (.inr (.inr l0)), some (.inl l1)]) (st' := [.inr (.inr l0), .inl l1]) rfl ?_
    refine q_rdR RX6 TX6 15 (tbm tkX6_ticks (i := 4) rfl) rfl (Nat.le_of_ble_eq_true rfl) wd_936 (fun r4 => ?_)
    refine q_run tkX6_ticks 5 1 (pc' := 8) (L' := [some (.inr (.inr l0)), some (.inl l1)]) (st' := [.inl (2 : Int32), .inr (.inr r4), .inl l1]) rfl ?_
    refine q_iaload (tbm tkX6_ticks (i := 6) rfl) (fun x5 => ?_)
    refine q_icmp_ge (tbm tkX6_ticks (i := 7) rfl) ?_ ?_
    · refine q_run tkX6_ticks 8 1 (pc' := 13) (L' := [some (.inr (.inr l0)), some (.inl l1)]) (st' := [.inr (.inr l0)]) rfl ?_
      refine q_cv (r := l0) (ci := 8) (n := 0) (as := []) (st := []) TX6 15 (soX6_printsLine X h l0) (tbm tkX6_ticks (i := 9) rfl) rfl rfl ceX6_printsLine wd_1188 wd_57 wd_1186 rfl (Nat.le_of_ble_eq_true rfl) (kI_gd (fun h6 x7 => ?_))
      refine q_if_eq (tbm tkX6_ticks (i := 10) rfl) ?_ ?_
      · exact sX6_ticks_25 X h6 l0 l1
      · refine q_run tkX6_ticks 11 2 (pc' := 2) (L' := [some (.inr (.inr l0)), some (.inl (l1 + (1 : Int32)))]) (st' := []) rfl ?_
        exact ih h6 l0 (l1 + (1 : Int32))
    · exact sX6_ticks_25 X h l0 l1
def fX6_ticks (c : Nat → Option Nat) (h : Hp) (a0 : Option Nat) : Rs := fX6_ticks_2 c FU h a0 (0 : Int32)
set_option maxHeartbeats 4000000 in
set_option maxRecDepth 100000 in
theorem soX6_ticks (X : Cx) (h : Hp) (a0 : Option Nat) : SO X mX6_ticks [.inr (.inr a0)] h (fX6_ticks X.2.2.2 h a0) := by
  refine so_of (by decide +kernel) (Nat.le_of_ble_eq_true rfl) ?_
  show Gd X mX6_ticks h (fX6_ticks X.2.2.2 h a0) h 0 [some (.inr (.inr a0)), none] []
  unfold fX6_ticks
  refine q_run tkX6_ticks 0 2 (pc' := 2) (L' := [some (.inr (.inr a0)), some (.inl (0 : Int32))]) (st' := []) rfl ?_
  exact sX6_ticks_2 X FU h a0 (0 : Int32)
theorem ceX6_ticks : Ce mX6_ticks 0 := ⟨wd_81, wd_1185, by decide +kernel, by decide +kernel, by decide +kernel⟩
/-- ReceiptRollsModel.pass -/
abbrev mX6_pass : MI := (yX6_pass, cX6_pass, 4, some .int, 10)
def tbX6_pass : List TE := [(0, .aload_n 0, 1, 0, 0), (1, .iconst 0, 1, 0, 0), (2, .putfield 32, 3, 0, 0), (5, .iload_n 1, 1, 0, 0), (6, .iconst 1, 1, 1, 0), (7, .bipush 99, 2, 99, 0), (9, .invokestatic 40, 3, 0, 0), (12, .ifCond .ne 6, 3, 0, 18), (15, .bipush (-2), 2, -2, 0), (17, .ireturn, 1, 0, 0), (18, .aload_n 0, 1, 0, 0), (19, .getfield 7, 3, 0, 0), (22, .iconst 3, 1, 3, 0), (23, .iaload, 1, 0, 0), (24, .iload_n 1, 1, 0, 0), (25, .iadd, 1, 0, 0), (26, .sipush 9999, 3, 9999, 0), (29, .if_icmp .le 6, 3, 0, 35), (32, .bipush (-5), 2, -5, 0), (34, .ireturn, 1, 0, 0), (35, .aload_n 0, 1, 0, 0), (36, .invokevirtual 190, 3, 0, 0), (39, .iconst 0, 1, 0, 0), (40, .istore_n 2, 1, 0, 0), (41, .iconst 0, 1, 0, 0), (42, .istore_n 3, 1, 0, 0), (43, .iload_n 3, 1, 0, 0), (44, .iload_n 1, 1, 0, 0), (45, .if_icmp .ge 16, 3, 0, 61), (48, .iload_n 2, 1, 0, 0), (49, .aload_n 0, 1, 0, 0), (50, .invokevirtual 219, 3, 0, 0), (53, .iadd, 1, 0, 0), (54, .istore_n 2, 1, 0, 0), (55, .iinc 3 1, 3, 1, 0), (58, .goto (-15), 3, 0, 43), (61, .iload_n 2, 1, 0, 0), (62, .ireturn, 1, 0, 0)]
theorem tkX6_pass : ∀ x ∈ tbX6_pass, tbB cX6_pass x = true := tb_all (by decide +kernel)
def fX6_pass_43 (c : Nat → Option Nat) : Nat → Hp → Option Nat → Int32 → Int32 → Int32 → Rs
  | 0, _, _, _, _, _ => none
  | n + 1, h, l0, l1, l2, l3 => if l3 < l1 then (ck h l0 8 (cc (fX6_ticks c h l0) (kI fun h1 x2 => fX6_pass_43 c n h1 l0 l1 (l2 + x2) (l3 + (1 : Int32))))) else (some (h, some (.inl l2)))
set_option maxHeartbeats 4000000 in
set_option maxRecDepth 100000 in
theorem sX6_pass_43 (X : Cx) {h0 : Hp} : ∀ (n : Nat) (h : Hp) (l0 : Option Nat) (l1 : Int32) (l2 : Int32) (l3 : Int32), Gd X mX6_pass h0 (fX6_pass_43 X.2.2.2 n h l0 l1 l2 l3) h 43 [some (.inr (.inr l0)), some (.inl l1), some (.inl l2), some (.inl l3)] [] := by
  intro n
  induction n with
  | zero => intros; exact gd_none
  | succ n ih =>
    intro h l0 l1 l2 l3
    unfold fX6_pass_43
    refine q_run tkX6_pass 26 2 (pc' := 45) (L' := [some (.inr (.inr l0)), some (.inl l1), some (.inl l2), some (.inl l3)]) (st' := [.inl l1, .inl l3]) rfl ?_
    refine q_icmp_ge (tbm tkX6_pass (i := 28) rfl) ?_ ?_
    · refine q_run tkX6_pass 29 2 (pc' := 50) (L' := [some (.inr (.inr l0)), some (.inl l1), some (.inl l2), some (.inl l3)]) (st' := [.inr (.inr l0), .inl l2]) rfl ?_
      refine q_cv (r := l0) (ci := 8) (n := 0) (as := []) (st := [.inl l2]) TX6 15 (soX6_ticks X h l0) (tbm tkX6_pass (i := 31) rfl) rfl rfl ceX6_ticks wd_1184 wd_56 wd_1182 rfl (Nat.le_of_ble_eq_true rfl) (kI_gd (fun h1 x2 => ?_))
      refine q_run tkX6_pass 32 4 (pc' := 43) (L' := [some (.inr (.inr l0)), some (.inl l1), some (.inl (l2 + x2)), some (.inl (l3 + (1 : Int32)))]) (st' := []) rfl ?_
      exact ih h1 l0 l1 (l2 + x2) (l3 + (1 : Int32))
    · refine q_run tkX6_pass 36 1 (pc' := 62) (L' := [some (.inr (.inr l0)), some (.inl l1), some (.inl l2), some (.inl l3)]) (st' := [.inl l2]) rfl ?_
      exact q_iret (tbm tkX6_pass (i := 37) rfl) rfl
def fX6_pass (c : Nat → Option Nat) (h : Hp) (a0 : Option Nat) (a1 : Int32) : Rs := wr h a0 8 0 (.inl (0 : Int32)) (fun h3 => cc (fX6_in c h3 a1 (1 : Int32) (99 : Int32)) (kI fun h4 x5 => if x5 = 0 then (some (h4, some (.inl (-2 : Int32)))) else (rdR h4 a0 8 1 (fun r6 => aldI h4 r6 [0, 10] (3 : Int32) (fun x7 => if (9999 : Int32) < (x7 + a1) then (some (h4, some (.inl (-5 : Int32)))) else (ck h4 a0 8 (cc (fX6_records c h4 a0) (kV fun h8 => fX6_pass_43 c FU h8 a0 a1 (0 : Int32) (0 : Int32)))))))))
set_option maxHeartbeats 4000000 in
set_option maxRecDepth 100000 in
theorem soX6_pass (X : Cx) (h : Hp) (a0 : Option Nat) (a1 : Int32) : SO X mX6_pass [.inr (.inr a0), .inl a1] h (fX6_pass X.2.2.2 h a0 a1) := by
  refine so_of (by decide +kernel) (Nat.le_of_ble_eq_true rfl) ?_
  show Gd X mX6_pass h (fX6_pass X.2.2.2 h a0 a1) h 0 [some (.inr (.inr a0)), some (.inl a1), none, none] []
  unfold fX6_pass
  refine q_run tkX6_pass 0 2 (pc' := 2) (L' := [some (.inr (.inr a0)), some (.inl a1), none, none]) (st' := [.inl (0 : Int32), .inr (.inr a0)]) rfl ?_
  refine q_wr RX6 TX6 15 (tbm tkX6_pass (i := 2) rfl) rfl (Nat.le_of_ble_eq_true rfl) (Or.inl rfl) wd_935 (fun h3 => ?_)
  refine q_run tkX6_pass 3 3 (pc' := 9) (L' := [some (.inr (.inr a0)), some (.inl a1), none, none]) (st' := [.inl (99 : Int32), .inl (1 : Int32), .inl a1]) rfl ?_
  refine q_cs (n := 3) (as := [.inl a1, .inl (1 : Int32), .inl (99 : Int32)]) (st := []) (soX6_in X h3 a1 (1 : Int32) (99 : Int32)) (tbm tkX6_pass (i := 6) rfl) rfl ceX6_in wd_987 wd_986 rfl (Nat.le_of_ble_eq_true rfl) (kI_gd (fun h4 x5 => ?_))
  refine q_if_ne (tbm tkX6_pass (i := 7) rfl) ?_ ?_
  · refine q_run tkX6_pass 8 1 (pc' := 17) (L' := [some (.inr (.inr a0)), some (.inl a1), none, none]) (st' := [.inl (-2 : Int32)]) rfl ?_
    exact q_iret (tbm tkX6_pass (i := 9) rfl) rfl
  · refine q_run tkX6_pass 10 1 (pc' := 19) (L' := [some (.inr (.inr a0)), some (.inl a1), none, none]) (st' := [.inr (.inr a0)]) rfl ?_
    refine q_rdR RX6 TX6 15 (tbm tkX6_pass (i := 11) rfl) rfl (Nat.le_of_ble_eq_true rfl) wd_936 (fun r6 => ?_)
    refine q_run tkX6_pass 12 1 (pc' := 23) (L' := [some (.inr (.inr a0)), some (.inl a1), none, none]) (st' := [.inl (3 : Int32), .inr (.inr r6)]) rfl ?_
    refine q_iaload (tbm tkX6_pass (i := 13) rfl) (fun x7 => ?_)
    refine q_run tkX6_pass 14 3 (pc' := 29) (L' := [some (.inr (.inr a0)), some (.inl a1), none, none]) (st' := [.inl (9999 : Int32), .inl (x7 + a1)]) rfl ?_
    refine q_icmp_le (tbm tkX6_pass (i := 17) rfl) ?_ ?_
    · refine q_run tkX6_pass 18 1 (pc' := 34) (L' := [some (.inr (.inr a0)), some (.inl a1), none, none]) (st' := [.inl (-5 : Int32)]) rfl ?_
      exact q_iret (tbm tkX6_pass (i := 19) rfl) rfl
    · refine q_run tkX6_pass 20 1 (pc' := 36) (L' := [some (.inr (.inr a0)), some (.inl a1), none, none]) (st' := [.inr (.inr a0)]) rfl ?_
      refine q_cv (r := a0) (ci := 8) (n := 0) (as := []) (st := []) TX6 15 (soX6_records X h4 a0) (tbm tkX6_pass (i := 21) rfl) rfl rfl ceX6_records wd_997 wd_18 wd_995 rfl (Nat.le_of_ble_eq_true rfl) (kV_gd (fun h8 => ?_))
      refine q_run tkX6_pass 22 4 (pc' := 43) (L' := [some (.inr (.inr a0)), some (.inl a1), some (.inl (0 : Int32)), some (.inl (0 : Int32))]) (st' := []) rfl ?_
      exact sX6_pass_43 X FU h8 a0 a1 (0 : Int32) (0 : Int32)
theorem ceX6_pass : Ce mX6_pass 1 := ⟨wd_81, wd_1181, by decide +kernel, by decide +kernel, by decide +kernel⟩
/-- ReceiptRollsModel.linesOfItem -/
abbrev mX6_linesOfItem : MI := (yX6_linesOfItem, cX6_linesOfItem, 3, some .int, 5)
def tbX6_linesOfItem : List TE := [(0, .aload_n 0, 1, 0, 0), (1, .bipush (-6), 2, -6, 0), (3, .putfield 77, 3, 0, 0), (6, .aload_n 0, 1, 0, 0), (7, .iconst 0, 1, 0, 0), (8, .putfield 74, 3, 0, 0), (11, .aload_n 0, 1, 0, 0), (12, .iconst 0, 1, 0, 0), (13, .putfield 80, 3, 0, 0), (16, .aload_n 0, 1, 0, 0), (17, .iload_n 1, 1, 0, 0), (18, .iload_n 2, 1, 0, 0), (19, .aload_n 0, 1, 0, 0), (20, .getfield 7, 3, 0, 0), (23, .iconst 0, 1, 0, 0), (24, .iaload, 1, 0, 0), (25, .invokevirtual 128, 3, 0, 0), (28, .aload_n 0, 1, 0, 0), (29, .getfield 74, 3, 0, 0), (32, .ireturn, 1, 0, 0)]
theorem tkX6_linesOfItem : ∀ x ∈ tbX6_linesOfItem, tbB cX6_linesOfItem x = true := tb_all (by decide +kernel)
def fX6_linesOfItem (c : Nat → Option Nat) (h : Hp) (a0 : Option Nat) (a1 : Int32) (a2 : Int32) : Rs := wr h a0 8 9 (.inl (-6 : Int32)) (fun h1 => wr h1 a0 8 10 (.inl (0 : Int32)) (fun h2 => wr h2 a0 8 11 (.inl (0 : Int32)) (fun h3 => rdR h3 a0 8 1 (fun r4 => aldI h3 r4 [0, 10] (0 : Int32) (fun x5 => ck h3 a0 8 (cc (fX6_layItem c h3 a0 a1 a2 x5) (kV fun h6 => rdI h6 a0 8 10 (fun x7 => some (h6, some (.inl x7))))))))))
set_option maxHeartbeats 4000000 in
set_option maxRecDepth 100000 in
theorem soX6_linesOfItem (X : Cx) (h : Hp) (a0 : Option Nat) (a1 : Int32) (a2 : Int32) : SO X mX6_linesOfItem [.inr (.inr a0), .inl a1, .inl a2] h (fX6_linesOfItem X.2.2.2 h a0 a1 a2) := by
  refine so_of (by decide +kernel) (Nat.le_of_ble_eq_true rfl) ?_
  show Gd X mX6_linesOfItem h (fX6_linesOfItem X.2.2.2 h a0 a1 a2) h 0 [some (.inr (.inr a0)), some (.inl a1), some (.inl a2)] []
  unfold fX6_linesOfItem
  refine q_run tkX6_linesOfItem 0 2 (pc' := 3) (L' := [some (.inr (.inr a0)), some (.inl a1), some (.inl a2)]) (st' := [.inl (-6 : Int32), .inr (.inr a0)]) rfl ?_
  refine q_wr RX6 TX6 15 (tbm tkX6_linesOfItem (i := 2) rfl) rfl (Nat.le_of_ble_eq_true rfl) (Or.inl rfl) wd_944 (fun h1 => ?_)
  refine q_run tkX6_linesOfItem 3 2 (pc' := 8) (L' := [some (.inr (.inr a0)), some (.inl a1), some (.inl a2)]) (st' := [.inl (0 : Int32), .inr (.inr a0)]) rfl ?_
  refine q_wr RX6 TX6 15 (tbm tkX6_linesOfItem (i := 5) rfl) rfl (Nat.le_of_ble_eq_true rfl) (Or.inl rfl) wd_945 (fun h2 => ?_)
  refine q_run tkX6_linesOfItem 6 2 (pc' := 13) (L' := [some (.inr (.inr a0)), some (.inl a1), some (.inl a2)]) (st' := [.inl (0 : Int32), .inr (.inr a0)]) rfl ?_
  refine q_wr RX6 TX6 15 (tbm tkX6_linesOfItem (i := 8) rfl) rfl (Nat.le_of_ble_eq_true rfl) (Or.inl rfl) wd_946 (fun h3 => ?_)
  refine q_run tkX6_linesOfItem 9 4 (pc' := 20) (L' := [some (.inr (.inr a0)), some (.inl a1), some (.inl a2)]) (st' := [.inr (.inr a0), .inl a2, .inl a1, .inr (.inr a0)]) rfl ?_
  refine q_rdR RX6 TX6 15 (tbm tkX6_linesOfItem (i := 13) rfl) rfl (Nat.le_of_ble_eq_true rfl) wd_936 (fun r4 => ?_)
  refine q_run tkX6_linesOfItem 14 1 (pc' := 24) (L' := [some (.inr (.inr a0)), some (.inl a1), some (.inl a2)]) (st' := [.inl (0 : Int32), .inr (.inr r4), .inl a2, .inl a1, .inr (.inr a0)]) rfl ?_
  refine q_iaload (tbm tkX6_linesOfItem (i := 15) rfl) (fun x5 => ?_)
  refine q_cv (r := a0) (ci := 8) (n := 3) (as := [.inl a1, .inl a2, .inl x5]) (st := []) TX6 15 (soX6_layItem X h3 a0 a1 a2 x5) (tbm tkX6_linesOfItem (i := 16) rfl) rfl rfl ceX6_layItem wd_1129 wd_44 wd_1127 rfl (Nat.le_of_ble_eq_true rfl) (kV_gd (fun h6 => ?_))
  refine q_run tkX6_linesOfItem 17 1 (pc' := 29) (L' := [some (.inr (.inr a0)), some (.inl a1), some (.inl a2)]) (st' := [.inr (.inr a0)]) rfl ?_
  refine q_rdI RX6 TX6 15 (tbm tkX6_linesOfItem (i := 18) rfl) rfl (Nat.le_of_ble_eq_true rfl) wd_945 (fun x7 => ?_)
  exact q_iret (tbm tkX6_linesOfItem (i := 19) rfl) rfl
theorem ceX6_linesOfItem : Ce mX6_linesOfItem 2 := ⟨wd_81, wd_1221, by decide +kernel, by decide +kernel, by decide +kernel⟩
/-- ReceiptRollsModel.item -/
abbrev mX6_item : MI := (yX6_item, cX6_item, 4, some .int, 6)
def tbX6_item : List TE := [(0, .aload_n 0, 1, 0, 0), (1, .iconst 0, 1, 0, 0), (2, .putfield 32, 3, 0, 0), (5, .aload_n 0, 1, 0, 0), (6, .iload_n 1, 1, 0, 0), (7, .iload_n 2, 1, 0, 0), (8, .invokevirtual 209, 3, 0, 0), (11, .ifCond .ne 5, 3, 0, 16), (14, .iconst (-1), 1, -1, 0), (15, .ireturn, 1, 0, 0), (16, .iload_n 3, 1, 0, 0), (17, .tableswitch 100 0 6 #[43, 50, 57, 64, 71, 86, 93], 43, 0, 0), (60, .aload_n 0, 1, 0, 0), (61, .iload_n 1, 1, 0, 0), (62, .iload_n 2, 1, 0, 0), (63, .invokevirtual 54, 3, 0, 0), (66, .ireturn, 1, 0, 0), (67, .aload_n 0, 1, 0, 0), (68, .iload_n 1, 1, 0, 0), (69, .iload_n 2, 1, 0, 0), (70, .invokevirtual 57, 3, 0, 0), (73, .ireturn, 1, 0, 0), (74, .aload_n 0, 1, 0, 0), (75, .iload_n 1, 1, 0, 0), (76, .iload_n 2, 1, 0, 0), (77, .invokevirtual 67, 3, 0, 0), (80, .ireturn, 1, 0, 0), (81, .aload_n 0, 1, 0, 0), (82, .iload_n 1, 1, 0, 0), (83, .iload_n 2, 1, 0, 0), (84, .invokevirtual 64, 3, 0, 0), (87, .ireturn, 1, 0, 0), (88, .aload_n 0, 1, 0, 0), (89, .iload_n 1, 1, 0, 0), (90, .iload_n 2, 1, 0, 0), (91, .invokevirtual 60, 3, 0, 0), (94, .ifCond .eq 7, 3, 0, 101), (97, .iconst 1, 1, 1, 0), (98, .goto 4, 3, 0, 102), (101, .iconst 0, 1, 0, 0), (102, .ireturn, 1, 0, 0), (103, .aload_n 0, 1, 0, 0), (104, .iload_n 1, 1, 0, 0), (105, .iload_n 2, 1, 0, 0), (106, .invokevirtual 222, 3, 0, 0), (109, .ireturn, 1, 0, 0), (110, .aload_n 0, 1, 0, 0), (111, .iload_n 1, 1, 0, 0), (112, .iload_n 2, 1, 0, 0), (113, .invokevirtual 103, 3, 0, 0), (116, .ireturn, 1, 0, 0), (117, .bipush (-2), 2, -2, 0), (119, .ireturn, 1, 0, 0)]
theorem tkX6_item : ∀ x ∈ tbX6_item, tbB cX6_item x = true := tb_all (by decide +kernel)
def fX6_item_102 (c : Nat → Option Nat) (h : Hp) (s0 : Int32) : Rs := some (h, some (.inl s0))
set_option maxHeartbeats 4000000 in
set_option maxRecDepth 100000 in
theorem sX6_item_102 (X : Cx) {h0 : Hp} (h : Hp) (s0 : Int32) : Gd X mX6_item h0 (fX6_item_102 X.2.2.2 h s0) h 102 [none, none, none, none] [.inl s0] := by
  unfold fX6_item_102
  exact q_iret (tbm tkX6_item (i := 40) rfl) rfl
def fX6_item (c : Nat → Option Nat) (h : Hp) (a0 : Option Nat) (a1 : Int32) (a2 : Int32) (a3 : Int32) : Rs := wr h a0 8 0 (.inl (0 : Int32)) (fun h1 => ck h1 a0 8 (cc (fX6_isItem c h1 a0 a1 a2) (kI fun h2 x3 => if x3 = 0 then (some (h2, some (.inl (-1 : Int32)))) else (swf a3 [((0 : Int32), ck h2 a0 8 (cc (fX6_howMany c h2 a0 a1 a2) (kI fun h4 x5 => some (h4, some (.inl x5))))), ((1 : Int32), ck h2 a0 8 (cc (fX6_price c h2 a0 a1 a2) (kI fun h6 x7 => some (h6, some (.inl x7))))), ((2 : Int32), ck h2 a0 8 (cc (fX6_tax c h2 a0 a1 a2) (kI fun h8 x9 => some (h8, some (.inl x9))))), ((3 : Int32), ck h2 a0 8 (cc (fX6_sum c h2 a0 a1 a2) (kI fun h10 x11 => some (h10, some (.inl x11))))), ((4 : Int32), ck h2 a0 8 (cc (fX6_isStruck c h2 a0 a1 a2) (kI fun h12 x13 => if x13 = 0 then (fX6_item_102 c h12 (0 : Int32)) else (fX6_item_102 c h12 (1 : Int32))))), ((5 : Int32), ck h2 a0 8 (cc (fX6_linesOfItem c h2 a0 a1 a2) (kI fun h14 x15 => some (h14, some (.inl x15))))), ((6 : Int32), ck h2 a0 8 (cc (fX6_nameLength c h2 a0 a1 a2) (kI fun h16 x17 => some (h16, some (.inl x17)))))] (some (h2, some (.inl (-2 : Int32))))))))
set_option maxHeartbeats 4000000 in
set_option maxRecDepth 100000 in
theorem soX6_item (X : Cx) (h : Hp) (a0 : Option Nat) (a1 : Int32) (a2 : Int32) (a3 : Int32) : SO X mX6_item [.inr (.inr a0), .inl a1, .inl a2, .inl a3] h (fX6_item X.2.2.2 h a0 a1 a2 a3) := by
  refine so_of (by decide +kernel) (Nat.le_of_ble_eq_true rfl) ?_
  show Gd X mX6_item h (fX6_item X.2.2.2 h a0 a1 a2 a3) h 0 [some (.inr (.inr a0)), some (.inl a1), some (.inl a2), some (.inl a3)] []
  unfold fX6_item
  refine q_run tkX6_item 0 2 (pc' := 2) (L' := [some (.inr (.inr a0)), some (.inl a1), some (.inl a2), some (.inl a3)]) (st' := [.inl (0 : Int32), .inr (.inr a0)]) rfl ?_
  refine q_wr RX6 TX6 15 (tbm tkX6_item (i := 2) rfl) rfl (Nat.le_of_ble_eq_true rfl) (Or.inl rfl) wd_935 (fun h1 => ?_)
  refine q_run tkX6_item 3 3 (pc' := 8) (L' := [some (.inr (.inr a0)), some (.inl a1), some (.inl a2), some (.inl a3)]) (st' := [.inl a2, .inl a1, .inr (.inr a0)]) rfl ?_
  refine q_cv (r := a0) (ci := 8) (n := 2) (as := [.inl a1, .inl a2]) (st := []) TX6 15 (soX6_isItem X h1 a0 a1 a2) (tbm tkX6_item (i := 6) rfl) rfl rfl ceX6_isItem wd_1032 wd_24 wd_1030 rfl (Nat.le_of_ble_eq_true rfl) (kI_gd (fun h2 x3 => ?_))
  refine q_if_ne (tbm tkX6_item (i := 7) rfl) ?_ ?_
  · refine q_run tkX6_item 8 1 (pc' := 15) (L' := [some (.inr (.inr a0)), some (.inl a1), some (.inl a2), some (.inl a3)]) (st' := [.inl (-1 : Int32)]) rfl ?_
    exact q_iret (tbm tkX6_item (i := 9) rfl) rfl
  · refine q_run tkX6_item 10 1 (pc' := 17) (L' := [some (.inr (.inr a0)), some (.inl a1), some (.inl a2), some (.inl a3)]) (st' := [.inl a3]) rfl ?_
    refine q_sw [((0 : Int32), 60), ((1 : Int32), 67), ((2 : Int32), 74), ((3 : Int32), 81), ((4 : Int32), 88), ((5 : Int32), 103), ((6 : Int32), 110)] 117 (tbm tkX6_item (i := 11) rfl) (by decide +kernel) ?_ ⟨⟨rfl, ?_⟩, ⟨rfl, ?_⟩, ⟨rfl, ?_⟩, ⟨rfl, ?_⟩, ⟨rfl, ?_⟩, ⟨rfl, ?_⟩, ⟨rfl, ?_⟩, trivial⟩
    · refine q_run tkX6_item 51 1 (pc' := 119) (L' := [some (.inr (.inr a0)), some (.inl a1), some (.inl a2), some (.inl a3)]) (st' := [.inl (-2 : Int32)]) rfl ?_
      exact q_iret (tbm tkX6_item (i := 52) rfl) rfl
    · refine q_run tkX6_item 12 3 (pc' := 63) (L' := [some (.inr (.inr a0)), some (.inl a1), some (.inl a2), some (.inl a3)]) (st' := [.inl a2, .inl a1, .inr (.inr a0)]) rfl ?_
      refine q_cv (r := a0) (ci := 8) (n := 2) (as := [.inl a1, .inl a2]) (st := []) TX6 15 (soX6_howMany X h2 a0 a1 a2) (tbm tkX6_item (i := 15) rfl) rfl rfl ceX6_howMany wd_1049 wd_28 wd_1047 rfl (Nat.le_of_ble_eq_true rfl) (kI_gd (fun h4 x5 => ?_))
      exact q_iret (tbm tkX6_item (i := 16) rfl) rfl
    · refine q_run tkX6_item 17 3 (pc' := 70) (L' := [some (.inr (.inr a0)), some (.inl a1), some (.inl a2), some (.inl a3)]) (st' := [.inl a2, .inl a1, .inr (.inr a0)]) rfl ?_
      refine q_cv (r := a0) (ci := 8) (n := 2) (as := [.inl a1, .inl a2]) (st := []) TX6 15 (soX6_price X h2 a0 a1 a2) (tbm tkX6_item (i := 20) rfl) rfl rfl ceX6_price wd_1053 wd_29 wd_1051 rfl (Nat.le_of_ble_eq_true rfl) (kI_gd (fun h6 x7 => ?_))
      exact q_iret (tbm tkX6_item (i := 21) rfl) rfl
    · refine q_run tkX6_item 22 3 (pc' := 77) (L' := [some (.inr (.inr a0)), some (.inl a1), some (.inl a2), some (.inl a3)]) (st' := [.inl a2, .inl a1, .inr (.inr a0)]) rfl ?_
      refine q_cv (r := a0) (ci := 8) (n := 2) (as := [.inl a1, .inl a2]) (st := []) TX6 15 (soX6_tax X h2 a0 a1 a2) (tbm tkX6_item (i := 25) rfl) rfl rfl ceX6_tax wd_1165 wd_53 wd_1163 rfl (Nat.le_of_ble_eq_true rfl) (kI_gd (fun h8 x9 => ?_))
      exact q_iret (tbm tkX6_item (i := 26) rfl) rfl
    · refine q_run tkX6_item 27 3 (pc' := 84) (L' := [some (.inr (.inr a0)), some (.inl a1), some (.inl a2), some (.inl a3)]) (st' := [.inl a2, .inl a1, .inr (.inr a0)]) rfl ?_
      refine q_cv (r := a0) (ci := 8) (n := 2) (as := [.inl a1, .inl a2]) (st := []) TX6 15 (soX6_sum X h2 a0 a1 a2) (tbm tkX6_item (i := 30) rfl) rfl rfl ceX6_sum wd_1045 wd_27 wd_1043 rfl (Nat.le_of_ble_eq_true rfl) (kI_gd (fun h10 x11 => ?_))
      exact q_iret (tbm tkX6_item (i := 31) rfl) rfl
    · refine q_run tkX6_item 32 3 (pc' := 91) (L' := [some (.inr (.inr a0)), some (.inl a1), some (.inl a2), some (.inl a3)]) (st' := [.inl a2, .inl a1, .inr (.inr a0)]) rfl ?_
      refine q_cv (r := a0) (ci := 8) (n := 2) (as := [.inl a1, .inl a2]) (st := []) TX6 15 (soX6_isStruck X h2 a0 a1 a2) (tbm tkX6_item (i := 35) rfl) rfl rfl ceX6_isStruck wd_1036 wd_25 wd_1034 rfl (Nat.le_of_ble_eq_true rfl) (kI_gd (fun h12 x13 => ?_))
      refine q_if_eq (tbm tkX6_item (i := 36) rfl) ?_ ?_
      · refine q_run tkX6_item 39 1 (pc' := 102) (L' := [some (.inr (.inr a0)), some (.inl a1), some (.inl a2), some (.inl a3)]) (st' := [.inl (0 : Int32)]) rfl ?_
        refine q_le (L' := [none, none, none, none]) (lvLe_n (lvLe_n (lvLe_n (lvLe_n lvLe_0)))) ?_
        exact sX6_item_102 X h12 (0 : Int32)
      · refine q_run tkX6_item 37 2 (pc' := 102) (L' := [some (.inr (.inr a0)), some (.inl a1), some (.inl a2), some (.inl a3)]) (st' := [.inl (1 : Int32)]) rfl ?_
        refine q_le (L' := [none, none, none, none]) (lvLe_n (lvLe_n (lvLe_n (lvLe_n lvLe_0)))) ?_
        exact sX6_item_102 X h12 (1 : Int32)
    · refine q_run tkX6_item 41 3 (pc' := 106) (L' := [some (.inr (.inr a0)), some (.inl a1), some (.inl a2), some (.inl a3)]) (st' := [.inl a2, .inl a1, .inr (.inr a0)]) rfl ?_
      refine q_cv (r := a0) (ci := 8) (n := 2) (as := [.inl a1, .inl a2]) (st := []) TX6 15 (soX6_linesOfItem X h2 a0 a1 a2) (tbm tkX6_item (i := 44) rfl) rfl rfl ceX6_linesOfItem wd_1220 wd_64 wd_1218 rfl (Nat.le_of_ble_eq_true rfl) (kI_gd (fun h14 x15 => ?_))
      exact q_iret (tbm tkX6_item (i := 45) rfl) rfl
    · refine q_run tkX6_item 46 3 (pc' := 113) (L' := [some (.inr (.inr a0)), some (.inl a1), some (.inl a2), some (.inl a3)]) (st' := [.inl a2, .inl a1, .inr (.inr a0)]) rfl ?_
      refine q_cv (r := a0) (ci := 8) (n := 2) (as := [.inl a1, .inl a2]) (st := []) TX6 15 (soX6_nameLength X h2 a0 a1 a2) (tbm tkX6_item (i := 49) rfl) rfl rfl ceX6_nameLength wd_1141 wd_47 wd_1139 rfl (Nat.le_of_ble_eq_true rfl) (kI_gd (fun h16 x17 => ?_))
      exact q_iret (tbm tkX6_item (i := 50) rfl) rfl
theorem ceX6_item : Ce mX6_item 3 := ⟨wd_81, wd_1217, by decide +kernel, by decide +kernel, by decide +kernel⟩
/-- ReceiptRollsModel.struckOf -/
abbrev mX6_struckOf : MI := (yX6_struckOf, cX6_struckOf, 4, some .int, 3)
def tbX6_struckOf : List TE := [(0, .iconst 0, 1, 0, 0), (1, .istore_n 2, 1, 0, 0), (2, .iconst 0, 1, 0, 0), (3, .istore_n 3, 1, 0, 0), (4, .iload_n 3, 1, 0, 0), (5, .aload_n 0, 1, 0, 0), (6, .iload_n 1, 1, 0, 0), (7, .bipush 8, 2, 8, 0), (9, .invokevirtual 47, 3, 0, 0), (12, .if_icmp .ge 26, 3, 0, 38), (15, .iload_n 2, 1, 0, 0), (16, .aload_n 0, 1, 0, 0), (17, .iload_n 1, 1, 0, 0), (18, .iload_n 3, 1, 0, 0), (19, .invokevirtual 60, 3, 0, 0), (22, .ifCond .eq 7, 3, 0, 29), (25, .iconst 1, 1, 1, 0), (26, .goto 4, 3, 0, 30), (29, .iconst 0, 1, 0, 0), (30, .iadd, 1, 0, 0), (31, .istore_n 2, 1, 0, 0), (32, .iinc 3 1, 3, 1, 0), (35, .goto (-31), 3, 0, 4), (38, .iload_n 2, 1, 0, 0), (39, .ireturn, 1, 0, 0)]
theorem tkX6_struckOf : ∀ x ∈ tbX6_struckOf, tbB cX6_struckOf x = true := tb_all (by decide +kernel)
def fX6_struckOf_30 (c : Nat → Option Nat) (k4 : Hp → Option Nat → Int32 → Int32 → Int32 → Rs) (h : Hp) (l0 : Option Nat) (l1 : Int32) (l3 : Int32) (s0 : Int32) (s1 : Int32) : Rs := k4 h l0 l1 (s0 + s1) (l3 + (1 : Int32))
set_option maxHeartbeats 4000000 in
set_option maxRecDepth 100000 in
theorem sX6_struckOf_30 (X : Cx) {h0 : Hp} (k4 : Hp → Option Nat → Int32 → Int32 → Int32 → Rs) (hk4 : ∀ (h : Hp) (l0 : Option Nat) (l1 : Int32) (l2 : Int32) (l3 : Int32), Gd X mX6_struckOf h0 (k4 h l0 l1 l2 l3) h 4 [some (.inr (.inr l0)), some (.inl l1), some (.inl l2), some (.inl l3)] []) (h : Hp) (l0 : Option Nat) (l1 : Int32) (l3 : Int32) (s0 : Int32) (s1 : Int32) : Gd X mX6_struckOf h0 (fX6_struckOf_30 X.2.2.2 k4 h l0 l1 l3 s0 s1) h 30 [some (.inr (.inr l0)), some (.inl l1), none, some (.inl l3)] [.inl s1, .inl s0] := by
  unfold fX6_struckOf_30
  refine q_run tkX6_struckOf 19 4 (pc' := 4) (L' := [some (.inr (.inr l0)), some (.inl l1), some (.inl (s0 + s1)), some (.inl (l3 + (1 : Int32)))]) (st' := []) rfl ?_
  exact hk4 h l0 l1 (s0 + s1) (l3 + (1 : Int32))
def fX6_struckOf_4 (c : Nat → Option Nat) : Nat → Hp → Option Nat → Int32 → Int32 → Int32 → Rs
  | 0, _, _, _, _, _ => none
  | n + 1, h, l0, l1, l2, l3 => ck h l0 8 (cc (fX6_of c h l0 l1 (8 : Int32)) (kI fun h1 x2 => if l3 < x2 then (ck h1 l0 8 (cc (fX6_isStruck c h1 l0 l1 l3) (kI fun h3 x4 => if x4 = 0 then (fX6_struckOf_30 c (fX6_struckOf_4 c n) h3 l0 l1 l3 l2 (0 : Int32)) else (fX6_struckOf_30 c (fX6_struckOf_4 c n) h3 l0 l1 l3 l2 (1 : Int32))))) else (some (h1, some (.inl l2)))))
set_option maxHeartbeats 4000000 in
set_option maxRecDepth 100000 in
theorem sX6_struckOf_4 (X : Cx) {h0 : Hp} : ∀ (n : Nat) (h : Hp) (l0 : Option Nat) (l1 : Int32) (l2 : Int32) (l3 : Int32), Gd X mX6_struckOf h0 (fX6_struckOf_4 X.2.2.2 n h l0 l1 l2 l3) h 4 [some (.inr (.inr l0)), some (.inl l1), some (.inl l2), some (.inl l3)] [] := by
  intro n
  induction n with
  | zero => intros; exact gd_none
  | succ n ih =>
    intro h l0 l1 l2 l3
    unfold fX6_struckOf_4
    refine q_run tkX6_struckOf 4 4 (pc' := 9) (L' := [some (.inr (.inr l0)), some (.inl l1), some (.inl l2), some (.inl l3)]) (st' := [.inl (8 : Int32), .inl l1, .inr (.inr l0), .inl l3]) rfl ?_
    refine q_cv (r := l0) (ci := 8) (n := 2) (as := [.inl l1, .inl (8 : Int32)]) (st := [.inl l3]) TX6 15 (soX6_of X h l0 l1 (8 : Int32)) (tbm tkX6_struckOf (i := 8) rfl) rfl rfl ceX6_of wd_1016 wd_21 wd_1014 rfl (Nat.le_of_ble_eq_true rfl) (kI_gd (fun h1 x2 => ?_))
    refine q_icmp_ge (tbm tkX6_struckOf (i := 9) rfl) ?_ ?_
    · refine q_run tkX6_struckOf 10 4 (pc' := 19) (L' := [some (.inr (.inr l0)), some (.inl l1), some (.inl l2), some (.inl l3)]) (st' := [.inl l3, .inl l1, .inr (.inr l0), .inl l2]) rfl ?_
      refine q_cv (r := l0) (ci := 8) (n := 2) (as := [.inl l1, .inl l3]) (st := [.inl l2]) TX6 15 (soX6_isStruck X h1 l0 l1 l3) (tbm tkX6_struckOf (i := 14) rfl) rfl rfl ceX6_isStruck wd_1036 wd_25 wd_1034 rfl (Nat.le_of_ble_eq_true rfl) (kI_gd (fun h3 x4 => ?_))
      refine q_if_eq (tbm tkX6_struckOf (i := 15) rfl) ?_ ?_
      · refine q_run tkX6_struckOf 18 1 (pc' := 30) (L' := [some (.inr (.inr l0)), some (.inl l1), some (.inl l2), some (.inl l3)]) (st' := [.inl (0 : Int32), .inl l2]) rfl ?_
        refine q_le (L' := [some (.inr (.inr l0)), some (.inl l1), none, some (.inl l3)]) (lvLe_s (lvLe_s (lvLe_n (lvLe_s lvLe_0)))) ?_
        exact sX6_struckOf_30 X (fX6_struckOf_4 X.2.2.2 n) ih h3 l0 l1 l3 l2 (0 : Int32)
      · refine q_run tkX6_struckOf 16 2 (pc' := 30) (L' := [some (.inr (.inr l0)), some (.inl l1), some (.inl l2), some (.inl l3)]) (st' := [.inl (1 : Int32), .inl l2]) rfl ?_
        refine q_le (L' := [some (.inr (.inr l0)), some (.inl l1), none, some (.inl l3)]) (lvLe_s (lvLe_s (lvLe_n (lvLe_s lvLe_0)))) ?_
        exact sX6_struckOf_30 X (fX6_struckOf_4 X.2.2.2 n) ih h3 l0 l1 l3 l2 (1 : Int32)
    · refine q_run tkX6_struckOf 23 1 (pc' := 39) (L' := [some (.inr (.inr l0)), some (.inl l1), some (.inl l2), some (.inl l3)]) (st' := [.inl l2]) rfl ?_
      exact q_iret (tbm tkX6_struckOf (i := 24) rfl) rfl
def fX6_struckOf (c : Nat → Option Nat) (h : Hp) (a0 : Option Nat) (a1 : Int32) : Rs := fX6_struckOf_4 c FU h a0 a1 (0 : Int32) (0 : Int32)
set_option maxHeartbeats 4000000 in
set_option maxRecDepth 100000 in
theorem soX6_struckOf (X : Cx) (h : Hp) (a0 : Option Nat) (a1 : Int32) : SO X mX6_struckOf [.inr (.inr a0), .inl a1] h (fX6_struckOf X.2.2.2 h a0 a1) := by
  refine so_of (by decide +kernel) (Nat.le_of_ble_eq_true rfl) ?_
  show Gd X mX6_struckOf h (fX6_struckOf X.2.2.2 h a0 a1) h 0 [some (.inr (.inr a0)), some (.inl a1), none, none] []
  unfold fX6_struckOf
  refine q_run tkX6_struckOf 0 4 (pc' := 4) (L' := [some (.inr (.inr a0)), some (.inl a1), some (.inl (0 : Int32)), some (.inl (0 : Int32))]) (st' := []) rfl ?_
  exact sX6_struckOf_4 X FU h a0 a1 (0 : Int32) (0 : Int32)
theorem ceX6_struckOf : Ce mX6_struckOf 1 := ⟨wd_81, wd_1229, by decide +kernel, by decide +kernel, by decide +kernel⟩
/-- ReceiptRollsModel.ofTill -/
abbrev mX6_ofTill : MI := (yX6_ofTill, cX6_ofTill, 3, some .int, 8)
def tbX6_ofTill : List TE := [(0, .aload_n 0, 1, 0, 0), (1, .iconst 0, 1, 0, 0), (2, .putfield 32, 3, 0, 0), (5, .iload_n 1, 1, 0, 0), (6, .invokestatic 196, 3, 0, 0), (9, .ifCond .ne 5, 3, 0, 14), (12, .iconst (-1), 1, -1, 0), (13, .ireturn, 1, 0, 0), (14, .iload_n 2, 1, 0, 0), (15, .tableswitch 72 0 5 #[37, 45, 51, 57, 63, 63], 37, 0, 0), (52, .aload_n 0, 1, 0, 0), (53, .iload_n 1, 1, 0, 0), (54, .bipush 8, 2, 8, 0), (56, .invokevirtual 47, 3, 0, 0), (59, .ireturn, 1, 0, 0), (60, .aload_n 0, 1, 0, 0), (61, .iload_n 1, 1, 0, 0), (62, .invokevirtual 225, 3, 0, 0), (65, .ireturn, 1, 0, 0), (66, .aload_n 0, 1, 0, 0), (67, .iload_n 1, 1, 0, 0), (68, .invokevirtual 134, 3, 0, 0), (71, .ireturn, 1, 0, 0), (72, .aload_n 0, 1, 0, 0), (73, .iload_n 1, 1, 0, 0), (74, .invokevirtual 174, 3, 0, 0), (77, .ireturn, 1, 0, 0), (78, .aload_n 0, 1, 0, 0), (79, .iload_n 1, 1, 0, 0), (80, .iload_n 2, 1, 0, 0), (81, .iconst 3, 1, 3, 0), (82, .isub, 1, 0, 0), (83, .invokevirtual 119, 3, 0, 0), (86, .ireturn, 1, 0, 0), (87, .bipush (-2), 2, -2, 0), (89, .ireturn, 1, 0, 0)]
theorem tkX6_ofTill : ∀ x ∈ tbX6_ofTill, tbB cX6_ofTill x = true := tb_all (by decide +kernel)
def fX6_ofTill (c : Nat → Option Nat) (h : Hp) (a0 : Option Nat) (a1 : Int32) (a2 : Int32) : Rs := wr h a0 8 0 (.inl (0 : Int32)) (fun h1 => cc (fX6_isTill c h1 a1) (kI fun h2 x3 => if x3 = 0 then (some (h2, some (.inl (-1 : Int32)))) else (swf a2 [((0 : Int32), ck h2 a0 8 (cc (fX6_of c h2 a0 a1 (8 : Int32)) (kI fun h4 x5 => some (h4, some (.inl x5))))), ((1 : Int32), ck h2 a0 8 (cc (fX6_struckOf c h2 a0 a1) (kI fun h6 x7 => some (h6, some (.inl x7))))), ((2 : Int32), ck h2 a0 8 (cc (fX6_total c h2 a0 a1) (kI fun h8 x9 => some (h8, some (.inl x9))))), ((3 : Int32), ck h2 a0 8 (cc (fX6_linesOf c h2 a0 a1) (kI fun h10 x11 => some (h10, some (.inl x11))))), ((4 : Int32), ck h2 a0 8 (cc (fX6_taxOf c h2 a0 a1 (a2 - (3 : Int32))) (kI fun h12 x13 => some (h12, some (.inl x13))))), ((5 : Int32), ck h2 a0 8 (cc (fX6_taxOf c h2 a0 a1 (a2 - (3 : Int32))) (kI fun h14 x15 => some (h14, some (.inl x15)))))] (some (h2, some (.inl (-2 : Int32)))))))
set_option maxHeartbeats 4000000 in
set_option maxRecDepth 100000 in
theorem soX6_ofTill (X : Cx) (h : Hp) (a0 : Option Nat) (a1 : Int32) (a2 : Int32) : SO X mX6_ofTill [.inr (.inr a0), .inl a1, .inl a2] h (fX6_ofTill X.2.2.2 h a0 a1 a2) := by
  refine so_of (by decide +kernel) (Nat.le_of_ble_eq_true rfl) ?_
  show Gd X mX6_ofTill h (fX6_ofTill X.2.2.2 h a0 a1 a2) h 0 [some (.inr (.inr a0)), some (.inl a1), some (.inl a2)] []
  unfold fX6_ofTill
  refine q_run tkX6_ofTill 0 2 (pc' := 2) (L' := [some (.inr (.inr a0)), some (.inl a1), some (.inl a2)]) (st' := [.inl (0 : Int32), .inr (.inr a0)]) rfl ?_
  refine q_wr RX6 TX6 15 (tbm tkX6_ofTill (i := 2) rfl) rfl (Nat.le_of_ble_eq_true rfl) (Or.inl rfl) wd_935 (fun h1 => ?_)
  refine q_run tkX6_ofTill 3 1 (pc' := 6) (L' := [some (.inr (.inr a0)), some (.inl a1), some (.inl a2)]) (st' := [.inl a1]) rfl ?_
  refine q_cs (n := 1) (as := [.inl a1]) (st := []) (soX6_isTill X h1 a1) (tbm tkX6_ofTill (i := 4) rfl) rfl ceX6_isTill wd_1004 wd_1003 rfl (Nat.le_of_ble_eq_true rfl) (kI_gd (fun h2 x3 => ?_))
  refine q_if_ne (tbm tkX6_ofTill (i := 5) rfl) ?_ ?_
  · refine q_run tkX6_ofTill 6 1 (pc' := 13) (L' := [some (.inr (.inr a0)), some (.inl a1), some (.inl a2)]) (st' := [.inl (-1 : Int32)]) rfl ?_
    exact q_iret (tbm tkX6_ofTill (i := 7) rfl) rfl
  · refine q_run tkX6_ofTill 8 1 (pc' := 15) (L' := [some (.inr (.inr a0)), some (.inl a1), some (.inl a2)]) (st' := [.inl a2]) rfl ?_
    refine q_sw [((0 : Int32), 52), ((1 : Int32), 60), ((2 : Int32), 66), ((3 : Int32), 72), ((4 : Int32), 78), ((5 : Int32), 78)] 87 (tbm tkX6_ofTill (i := 9) rfl) (by decide +kernel) ?_ ⟨⟨rfl, ?_⟩, ⟨rfl, ?_⟩, ⟨rfl, ?_⟩, ⟨rfl, ?_⟩, ⟨rfl, ?_⟩, ⟨rfl, ?_⟩, trivial⟩
    · refine q_run tkX6_ofTill 34 1 (pc' := 89) (L' := [some (.inr (.inr a0)), some (.inl a1), some (.inl a2)]) (st' := [.inl (-2 : Int32)]) rfl ?_
      exact q_iret (tbm tkX6_ofTill (i := 35) rfl) rfl
    · refine q_run tkX6_ofTill 10 3 (pc' := 56) (L' := [some (.inr (.inr a0)), some (.inl a1), some (.inl a2)]) (st' := [.inl (8 : Int32), .inl a1, .inr (.inr a0)]) rfl ?_
      refine q_cv (r := a0) (ci := 8) (n := 2) (as := [.inl a1, .inl (8 : Int32)]) (st := []) TX6 15 (soX6_of X h2 a0 a1 (8 : Int32)) (tbm tkX6_ofTill (i := 13) rfl) rfl rfl ceX6_of wd_1016 wd_21 wd_1014 rfl (Nat.le_of_ble_eq_true rfl) (kI_gd (fun h4 x5 => ?_))
      exact q_iret (tbm tkX6_ofTill (i := 14) rfl) rfl
    · refine q_run tkX6_ofTill 15 2 (pc' := 62) (L' := [some (.inr (.inr a0)), some (.inl a1), some (.inl a2)]) (st' := [.inl a1, .inr (.inr a0)]) rfl ?_
      refine q_cv (r := a0) (ci := 8) (n := 1) (as := [.inl a1]) (st := []) TX6 15 (soX6_struckOf X h2 a0 a1) (tbm tkX6_ofTill (i := 17) rfl) rfl rfl ceX6_struckOf wd_1228 wd_65 wd_1226 rfl (Nat.le_of_ble_eq_true rfl) (kI_gd (fun h6 x7 => ?_))
      exact q_iret (tbm tkX6_ofTill (i := 18) rfl) rfl
    · refine q_run tkX6_ofTill 19 2 (pc' := 68) (L' := [some (.inr (.inr a0)), some (.inl a1), some (.inl a2)]) (st' := [.inl a1, .inr (.inr a0)]) rfl ?_
      refine q_cv (r := a0) (ci := 8) (n := 1) (as := [.inl a1]) (st := []) TX6 15 (soX6_total X h2 a0 a1) (tbm tkX6_ofTill (i := 21) rfl) rfl rfl ceX6_total wd_1157 wd_51 wd_1155 rfl (Nat.le_of_ble_eq_true rfl) (kI_gd (fun h8 x9 => ?_))
      exact q_iret (tbm tkX6_ofTill (i := 22) rfl) rfl
    · refine q_run tkX6_ofTill 23 2 (pc' := 74) (L' := [some (.inr (.inr a0)), some (.inl a1), some (.inl a2)]) (st' := [.inl a1, .inr (.inr a0)]) rfl ?_
      refine q_cv (r := a0) (ci := 8) (n := 1) (as := [.inl a1]) (st := []) TX6 15 (soX6_linesOf X h2 a0 a1) (tbm tkX6_ofTill (i := 25) rfl) rfl rfl ceX6_linesOf wd_1204 wd_61 wd_1202 rfl (Nat.le_of_ble_eq_true rfl) (kI_gd (fun h10 x11 => ?_))
      exact q_iret (tbm tkX6_ofTill (i := 26) rfl) rfl
    · refine q_run tkX6_ofTill 27 5 (pc' := 83) (L' := [some (.inr (.inr a0)), some (.inl a1), some (.inl a2)]) (st' := [.inl (a2 - (3 : Int32)), .inl a1, .inr (.inr a0)]) rfl ?_
      refine q_cv (r := a0) (ci := 8) (n := 2) (as := [.inl a1, .inl (a2 - (3 : Int32))]) (st := []) TX6 15 (soX6_taxOf X h2 a0 a1 (a2 - (3 : Int32))) (tbm tkX6_ofTill (i := 32) rfl) rfl rfl ceX6_taxOf wd_1176 wd_55 wd_1174 rfl (Nat.le_of_ble_eq_true rfl) (kI_gd (fun h12 x13 => ?_))
      exact q_iret (tbm tkX6_ofTill (i := 33) rfl) rfl
    · refine q_run tkX6_ofTill 27 5 (pc' := 83) (L' := [some (.inr (.inr a0)), some (.inl a1), some (.inl a2)]) (st' := [.inl (a2 - (3 : Int32)), .inl a1, .inr (.inr a0)]) rfl ?_
      refine q_cv (r := a0) (ci := 8) (n := 2) (as := [.inl a1, .inl (a2 - (3 : Int32))]) (st := []) TX6 15 (soX6_taxOf X h2 a0 a1 (a2 - (3 : Int32))) (tbm tkX6_ofTill (i := 32) rfl) rfl rfl ceX6_taxOf wd_1176 wd_55 wd_1174 rfl (Nat.le_of_ble_eq_true rfl) (kI_gd (fun h14 x15 => ?_))
      exact q_iret (tbm tkX6_ofTill (i := 33) rfl) rfl
theorem ceX6_ofTill : Ce mX6_ofTill 2 := ⟨wd_81, wd_1225, by decide +kernel, by decide +kernel, by decide +kernel⟩
/-- ReceiptRollsModel.ofReceipt -/
abbrev mX6_ofReceipt : MI := (yX6_ofReceipt, cX6_ofReceipt, 4, some .int, 8)
def tbX6_ofReceipt : List TE := [(0, .aload_n 0, 1, 0, 0), (1, .iconst 0, 1, 0, 0), (2, .putfield 32, 3, 0, 0), (5, .aload_n 0, 1, 0, 0), (6, .iload_n 1, 1, 0, 0), (7, .invokevirtual 216, 3, 0, 0), (10, .istore_n 3, 1, 0, 0), (11, .iload_n 3, 1, 0, 0), (12, .bipush (-6), 2, -6, 0), (14, .if_icmp .ne 5, 3, 0, 19), (17, .iconst (-1), 1, -1, 0), (18, .ireturn, 1, 0, 0), (19, .iload_n 2, 1, 0, 0), (20, .tableswitch 140 0 9 #[56, 63, 70, 77, 85, 91, 97, 103, 110, 117], 56, 0, 0), (76, .aload_n 0, 1, 0, 0), (77, .iload_n 3, 1, 0, 0), (78, .iconst 3, 1, 3, 0), (79, .invokevirtual 47, 3, 0, 0), (82, .ireturn, 1, 0, 0), (83, .aload_n 0, 1, 0, 0), (84, .iload_n 3, 1, 0, 0), (85, .iconst 1, 1, 1, 0), (86, .invokevirtual 47, 3, 0, 0), (89, .ireturn, 1, 0, 0), (90, .aload_n 0, 1, 0, 0), (91, .iload_n 3, 1, 0, 0), (92, .iconst 2, 1, 2, 0), (93, .invokevirtual 47, 3, 0, 0), (96, .ireturn, 1, 0, 0), (97, .aload_n 0, 1, 0, 0), (98, .iload_n 3, 1, 0, 0), (99, .bipush 8, 2, 8, 0), (101, .invokevirtual 47, 3, 0, 0), (104, .ireturn, 1, 0, 0), (105, .aload_n 0, 1, 0, 0), (106, .iload_n 3, 1, 0, 0), (107, .invokevirtual 225, 3, 0, 0), (110, .ireturn, 1, 0, 0), (111, .aload_n 0, 1, 0, 0), (112, .iload_n 3, 1, 0, 0), (113, .invokevirtual 134, 3, 0, 0), (116, .ireturn, 1, 0, 0), (117, .aload_n 0, 1, 0, 0), (118, .iload_n 3, 1, 0, 0), (119, .invokevirtual 174, 3, 0, 0), (122, .ireturn, 1, 0, 0), (123, .aload_n 0, 1, 0, 0), (124, .iload_n 3, 1, 0, 0), (125, .iconst 5, 1, 5, 0), (126, .invokevirtual 47, 3, 0, 0), (129, .ireturn, 1, 0, 0), (130, .aload_n 0, 1, 0, 0), (131, .iload_n 3, 1, 0, 0), (132, .iconst 4, 1, 4, 0), (133, .invokevirtual 47, 3, 0, 0), (136, .ireturn, 1, 0, 0), (137, .aload_n 0, 1, 0, 0), (138, .iload_n 3, 1, 0, 0), (139, .iconst 3, 1, 3, 0), (140, .invokevirtual 47, 3, 0, 0), (143, .iconst 2, 1, 2, 0), (144, .if_icmp .ne 13, 3, 0, 157), (147, .aload_n 0, 1, 0, 0), (148, .iload_n 3, 1, 0, 0), (149, .bipush 6, 2, 6, 0), (151, .invokevirtual 47, 3, 0, 0), (154, .goto 5, 3, 0, 159), (157, .bipush (-6), 2, -6, 0), (159, .ireturn, 1, 0, 0), (160, .bipush (-2), 2, -2, 0), (162, .ireturn, 1, 0, 0)]
theorem tkX6_ofReceipt : ∀ x ∈ tbX6_ofReceipt, tbB cX6_ofReceipt x = true := tb_all (by decide +kernel)
def fX6_ofReceipt_159 (c : Nat → Option Nat) (h : Hp) (s0 : Int32) : Rs := some (h, some (.inl s0))
set_option maxHeartbeats 4000000 in
set_option maxRecDepth 100000 in
theorem sX6_ofReceipt_159 (X : Cx) {h0 : Hp} (h : Hp) (s0 : Int32) : Gd X mX6_ofReceipt h0 (fX6_ofReceipt_159 X.2.2.2 h s0) h 159 [none, none, none, none] [.inl s0] := by
  unfold fX6_ofReceipt_159
  exact q_iret (tbm tkX6_ofReceipt (i := 68) rfl) rfl
def fX6_ofReceipt (c : Nat → Option Nat) (h : Hp) (a0 : Option Nat) (a1 : Int32) (a2 : Int32) : Rs := wr h a0 8 0 (.inl (0 : Int32)) (fun h1 => ck h1 a0 8 (cc (fX6_recordOf c h1 a0 a1) (kI fun h2 x3 => if x3 = (-6 : Int32) then (some (h2, some (.inl (-1 : Int32)))) else (swf a2 [((0 : Int32), ck h2 a0 8 (cc (fX6_of c h2 a0 x3 (3 : Int32)) (kI fun h4 x5 => some (h4, some (.inl x5))))), ((1 : Int32), ck h2 a0 8 (cc (fX6_of c h2 a0 x3 (1 : Int32)) (kI fun h6 x7 => some (h6, some (.inl x7))))), ((2 : Int32), ck h2 a0 8 (cc (fX6_of c h2 a0 x3 (2 : Int32)) (kI fun h8 x9 => some (h8, some (.inl x9))))), ((3 : Int32), ck h2 a0 8 (cc (fX6_of c h2 a0 x3 (8 : Int32)) (kI fun h10 x11 => some (h10, some (.inl x11))))), ((4 : Int32), ck h2 a0 8 (cc (fX6_struckOf c h2 a0 x3) (kI fun h12 x13 => some (h12, some (.inl x13))))), ((5 : Int32), ck h2 a0 8 (cc (fX6_total c h2 a0 x3) (kI fun h14 x15 => some (h14, some (.inl x15))))), ((6 : Int32), ck h2 a0 8 (cc (fX6_linesOf c h2 a0 x3) (kI fun h16 x17 => some (h16, some (.inl x17))))), ((7 : Int32), ck h2 a0 8 (cc (fX6_of c h2 a0 x3 (5 : Int32)) (kI fun h18 x19 => some (h18, some (.inl x19))))), ((8 : Int32), ck h2 a0 8 (cc (fX6_of c h2 a0 x3 (4 : Int32)) (kI fun h20 x21 => some (h20, some (.inl x21))))), ((9 : Int32), ck h2 a0 8 (cc (fX6_of c h2 a0 x3 (3 : Int32)) (kI fun h22 x23 => if x23 = (2 : Int32) then (ck h22 a0 8 (cc (fX6_of c h22 a0 x3 (6 : Int32)) (kI fun h24 x25 => fX6_ofReceipt_159 c h24 x25))) else (fX6_ofReceipt_159 c h22 (-6 : Int32)))))] (some (h2, some (.inl (-2 : Int32))))))))
set_option maxHeartbeats 4000000 in
set_option maxRecDepth 100000 in
theorem soX6_ofReceipt (X : Cx) (h : Hp) (a0 : Option Nat) (a1 : Int32) (a2 : Int32) : SO X mX6_ofReceipt [.inr (.inr a0), .inl a1, .inl a2] h (fX6_ofReceipt X.2.2.2 h a0 a1 a2) := by
  refine so_of (by decide +kernel) (Nat.le_of_ble_eq_true rfl) ?_
  show Gd X mX6_ofReceipt h (fX6_ofReceipt X.2.2.2 h a0 a1 a2) h 0 [some (.inr (.inr a0)), some (.inl a1), some (.inl a2), none] []
  unfold fX6_ofReceipt
  refine q_run tkX6_ofReceipt 0 2 (pc' := 2) (L' := [some (.inr (.inr a0)), some (.inl a1), some (.inl a2), none]) (st' := [.inl (0 : Int32), .inr (.inr a0)]) rfl ?_
  refine q_wr RX6 TX6 15 (tbm tkX6_ofReceipt (i := 2) rfl) rfl (Nat.le_of_ble_eq_true rfl) (Or.inl rfl) wd_935 (fun h1 => ?_)
  refine q_run tkX6_ofReceipt 3 2 (pc' := 7) (L' := [some (.inr (.inr a0)), some (.inl a1), some (.inl a2), none]) (st' := [.inl a1, .inr (.inr a0)]) rfl ?_
  refine q_cv (r := a0) (ci := 8) (n := 1) (as := [.inl a1]) (st := []) TX6 15 (soX6_recordOf X h1 a0 a1) (tbm tkX6_ofReceipt (i := 5) rfl) rfl rfl ceX6_recordOf wd_1081 wd_34 wd_1079 rfl (Nat.le_of_ble_eq_true rfl) (kI_gd (fun h2 x3 => ?_))
  refine q_run tkX6_ofReceipt 6 3 (pc' := 14) (L' := [some (.inr (.inr a0)), some (.inl a1), some (.inl a2), some (.inl x3)]) (st' := [.inl (-6 : Int32), .inl x3]) rfl ?_
  refine q_icmp_ne (tbm tkX6_ofReceipt (i := 9) rfl) ?_ ?_
  · refine q_run tkX6_ofReceipt 10 1 (pc' := 18) (L' := [some (.inr (.inr a0)), some (.inl a1), some (.inl a2), some (.inl x3)]) (st' := [.inl (-1 : Int32)]) rfl ?_
    exact q_iret (tbm tkX6_ofReceipt (i := 11) rfl) rfl
  · refine q_run tkX6_ofReceipt 12 1 (pc' := 20) (L' := [some (.inr (.inr a0)), some (.inl a1), some (.inl a2), some (.inl x3)]) (st' := [.inl a2]) rfl ?_
    refine q_sw [((0 : Int32), 76), ((1 : Int32), 83), ((2 : Int32), 90), ((3 : Int32), 97), ((4 : Int32), 105), ((5 : Int32), 111), ((6 : Int32), 117), ((7 : Int32), 123), ((8 : Int32), 130), ((9 : Int32), 137)] 160 (tbm tkX6_ofReceipt (i := 13) rfl) (by decide +kernel) ?_ ⟨⟨rfl, ?_⟩, ⟨rfl, ?_⟩, ⟨rfl, ?_⟩, ⟨rfl, ?_⟩, ⟨rfl, ?_⟩, ⟨rfl, ?_⟩, ⟨rfl, ?_⟩, ⟨rfl, ?_⟩, ⟨rfl, ?_⟩, ⟨rfl, ?_⟩, trivial⟩
    · refine q_run tkX6_ofReceipt 69 1 (pc' := 162) (L' := [some (.inr (.inr a0)), some (.inl a1), some (.inl a2), some (.inl x3)]) (st' := [.inl (-2 : Int32)]) rfl ?_
      exact q_iret (tbm tkX6_ofReceipt (i := 70) rfl) rfl
    · refine q_run tkX6_ofReceipt 14 3 (pc' := 79) (L' := [some (.inr (.inr a0)), some (.inl a1), some (.inl a2), some (.inl x3)]) (st' := [.inl (3 : Int32), .inl x3, .inr (.inr a0)]) rfl ?_
      refine q_cv (r := a0) (ci := 8) (n := 2) (as := [.inl x3, .inl (3 : Int32)]) (st := []) TX6 15 (soX6_of X h2 a0 x3 (3 : Int32)) (tbm tkX6_ofReceipt (i := 17) rfl) rfl rfl ceX6_of wd_1016 wd_21 wd_1014 rfl (Nat.le_of_ble_eq_true rfl) (kI_gd (fun h4 x5 => ?_))
      exact q_iret (tbm tkX6_ofReceipt (i := 18) rfl) rfl
    · refine q_run tkX6_ofReceipt 19 3 (pc' := 86) (L' := [some (.inr (.inr a0)), some (.inl a1), some (.inl a2), some (.inl x3)]) (st' := [.inl (1 : Int32), .inl x3, .inr (.inr a0)]) rfl ?_
      refine q_cv (r := a0) (ci := 8) (n := 2) (as := [.inl x3, .inl (1 : Int32)]) (st := []) TX6 15 (soX6_of X h2 a0 x3 (1 : Int32)) (tbm tkX6_ofReceipt (i := 22) rfl) rfl rfl ceX6_of wd_1016 wd_21 wd_1014 rfl (Nat.le_of_ble_eq_true rfl) (kI_gd (fun h6 x7 => ?_))
      exact q_iret (tbm tkX6_ofReceipt (i := 23) rfl) rfl
    · refine q_run tkX6_ofReceipt 24 3 (pc' := 93) (L' := [some (.inr (.inr a0)), some (.inl a1), some (.inl a2), some (.inl x3)]) (st' := [.inl (2 : Int32), .inl x3, .inr (.inr a0)]) rfl ?_
      refine q_cv (r := a0) (ci := 8) (n := 2) (as := [.inl x3, .inl (2 : Int32)]) (st := []) TX6 15 (soX6_of X h2 a0 x3 (2 : Int32)) (tbm tkX6_ofReceipt (i := 27) rfl) rfl rfl ceX6_of wd_1016 wd_21 wd_1014 rfl (Nat.le_of_ble_eq_true rfl) (kI_gd (fun h8 x9 => ?_))
      exact q_iret (tbm tkX6_ofReceipt (i := 28) rfl) rfl
    · refine q_run tkX6_ofReceipt 29 3 (pc' := 101) (L' := [some (.inr (.inr a0)), some (.inl a1), some (.inl a2), some (.inl x3)]) (st' := [.inl (8 : Int32), .inl x3, .inr (.inr a0)]) rfl ?_
      refine q_cv (r := a0) (ci := 8) (n := 2) (as := [.inl x3, .inl (8 : Int32)]) (st := []) TX6 15 (soX6_of X h2 a0 x3 (8 : Int32)) (tbm tkX6_ofReceipt (i := 32) rfl) rfl rfl ceX6_of wd_1016 wd_21 wd_1014 rfl (Nat.le_of_ble_eq_true rfl) (kI_gd (fun h10 x11 => ?_))
      exact q_iret (tbm tkX6_ofReceipt (i := 33) rfl) rfl
    · refine q_run tkX6_ofReceipt 34 2 (pc' := 107) (L' := [some (.inr (.inr a0)), some (.inl a1), some (.inl a2), some (.inl x3)]) (st' := [.inl x3, .inr (.inr a0)]) rfl ?_
      refine q_cv (r := a0) (ci := 8) (n := 1) (as := [.inl x3]) (st := []) TX6 15 (soX6_struckOf X h2 a0 x3) (tbm tkX6_ofReceipt (i := 36) rfl) rfl rfl ceX6_struckOf wd_1228 wd_65 wd_1226 rfl (Nat.le_of_ble_eq_true rfl) (kI_gd (fun h12 x13 => ?_))
      exact q_iret (tbm tkX6_ofReceipt (i := 37) rfl) rfl
    · refine q_run tkX6_ofReceipt 38 2 (pc' := 113) (L' := [some (.inr (.inr a0)), some (.inl a1), some (.inl a2), some (.inl x3)]) (st' := [.inl x3, .inr (.inr a0)]) rfl ?_
      refine q_cv (r := a0) (ci := 8) (n := 1) (as := [.inl x3]) (st := []) TX6 15 (soX6_total X h2 a0 x3) (tbm tkX6_ofReceipt (i := 40) rfl) rfl rfl ceX6_total wd_1157 wd_51 wd_1155 rfl (Nat.le_of_ble_eq_true rfl) (kI_gd (fun h14 x15 => ?_))
      exact q_iret (tbm tkX6_ofReceipt (i := 41) rfl) rfl
    · refine q_run tkX6_ofReceipt 42 2 (pc' := 119) (L' := [some (.inr (.inr a0)), some (.inl a1), some (.inl a2), some (.inl x3)]) (st' := [.inl x3, .inr (.inr a0)]) rfl ?_
      refine q_cv (r := a0) (ci := 8) (n := 1) (as := [.inl x3]) (st := []) TX6 15 (soX6_linesOf X h2 a0 x3) (tbm tkX6_ofReceipt (i := 44) rfl) rfl rfl ceX6_linesOf wd_1204 wd_61 wd_1202 rfl (Nat.le_of_ble_eq_true rfl) (kI_gd (fun h16 x17 => ?_))
      exact q_iret (tbm tkX6_ofReceipt (i := 45) rfl) rfl
    · refine q_run tkX6_ofReceipt 46 3 (pc' := 126) (L' := [some (.inr (.inr a0)), some (.inl a1), some (.inl a2), some (.inl x3)]) (st' := [.inl (5 : Int32), .inl x3, .inr (.inr a0)]) rfl ?_
      refine q_cv (r := a0) (ci := 8) (n := 2) (as := [.inl x3, .inl (5 : Int32)]) (st := []) TX6 15 (soX6_of X h2 a0 x3 (5 : Int32)) (tbm tkX6_ofReceipt (i := 49) rfl) rfl rfl ceX6_of wd_1016 wd_21 wd_1014 rfl (Nat.le_of_ble_eq_true rfl) (kI_gd (fun h18 x19 => ?_))
      exact q_iret (tbm tkX6_ofReceipt (i := 50) rfl) rfl
    · refine q_run tkX6_ofReceipt 51 3 (pc' := 133) (L' := [some (.inr (.inr a0)), some (.inl a1), some (.inl a2), some (.inl x3)]) (st' := [.inl (4 : Int32), .inl x3, .inr (.inr a0)]) rfl ?_
      refine q_cv (r := a0) (ci := 8) (n := 2) (as := [.inl x3, .inl (4 : Int32)]) (st := []) TX6 15 (soX6_of X h2 a0 x3 (4 : Int32)) (tbm tkX6_ofReceipt (i := 54) rfl) rfl rfl ceX6_of wd_1016 wd_21 wd_1014 rfl (Nat.le_of_ble_eq_true rfl) (kI_gd (fun h20 x21 => ?_))
      exact q_iret (tbm tkX6_ofReceipt (i := 55) rfl) rfl
    · refine q_run tkX6_ofReceipt 56 3 (pc' := 140) (L' := [some (.inr (.inr a0)), some (.inl a1), some (.inl a2), some (.inl x3)]) (st' := [.inl (3 : Int32), .inl x3, .inr (.inr a0)]) rfl ?_
      refine q_cv (r := a0) (ci := 8) (n := 2) (as := [.inl x3, .inl (3 : Int32)]) (st := []) TX6 15 (soX6_of X h2 a0 x3 (3 : Int32)) (tbm tkX6_ofReceipt (i := 59) rfl) rfl rfl ceX6_of wd_1016 wd_21 wd_1014 rfl (Nat.le_of_ble_eq_true rfl) (kI_gd (fun h22 x23 => ?_))
      refine q_run tkX6_ofReceipt 60 1 (pc' := 144) (L' := [some (.inr (.inr a0)), some (.inl a1), some (.inl a2), some (.inl x3)]) (st' := [.inl (2 : Int32), .inl x23]) rfl ?_
      refine q_icmp_ne (tbm tkX6_ofReceipt (i := 61) rfl) ?_ ?_
      · refine q_run tkX6_ofReceipt 62 3 (pc' := 151) (L' := [some (.inr (.inr a0)), some (.inl a1), some (.inl a2), some (.inl x3)]) (st' := [.inl (6 : Int32), .inl x3, .inr (.inr a0)]) rfl ?_
        refine q_cv (r := a0) (ci := 8) (n := 2) (as := [.inl x3, .inl (6 : Int32)]) (st := []) TX6 15 (soX6_of X h22 a0 x3 (6 : Int32)) (tbm tkX6_ofReceipt (i := 65) rfl) rfl rfl ceX6_of wd_1016 wd_21 wd_1014 rfl (Nat.le_of_ble_eq_true rfl) (kI_gd (fun h24 x25 => ?_))
        refine q_run tkX6_ofReceipt 66 1 (pc' := 159) (L' := [some (.inr (.inr a0)), some (.inl a1), some (.inl a2), some (.inl x3)]) (st' := [.inl x25]) rfl ?_
        refine q_le (L' := [none, none, none, none]) (lvLe_n (lvLe_n (lvLe_n (lvLe_n lvLe_0)))) ?_
        exact sX6_ofReceipt_159 X h24 x25
      · refine q_run tkX6_ofReceipt 67 1 (pc' := 159) (L' := [some (.inr (.inr a0)), some (.inl a1), some (.inl a2), some (.inl x3)]) (st' := [.inl (-6 : Int32)]) rfl ?_
        refine q_le (L' := [none, none, none, none]) (lvLe_n (lvLe_n (lvLe_n (lvLe_n lvLe_0)))) ?_
        exact sX6_ofReceipt_159 X h22 (-6 : Int32)
theorem ceX6_ofReceipt : Ce mX6_ofReceipt 2 := ⟨wd_81, wd_1233, by decide +kernel, by decide +kernel, by decide +kernel⟩
/-- ReceiptRollsModel.signAt -/
abbrev mX6_signAt : MI := (yX6_signAt, cX6_signAt, 4, some .int, 7)
def tbX6_signAt : List TE := [(0, .aload_n 0, 1, 0, 0), (1, .iload_n 1, 1, 0, 0), (2, .aload_n 0, 1, 0, 0), (3, .iload_n 1, 1, 0, 0), (4, .invokevirtual 143, 3, 0, 0), (7, .iload_n 2, 1, 0, 0), (8, .invokevirtual 146, 3, 0, 0), (11, .pop, 1, 0, 0), (12, .aload_n 0, 1, 0, 0), (13, .getfield 26, 3, 0, 0), (16, .iload_n 3, 1, 0, 0), (17, .iaload, 1, 0, 0), (18, .ireturn, 1, 0, 0)]
theorem tkX6_signAt : ∀ x ∈ tbX6_signAt, tbB cX6_signAt x = true := tb_all (by decide +kernel)
def fX6_signAt (c : Nat → Option Nat) (h : Hp) (a0 : Option Nat) (a1 : Int32) (a2 : Int32) (a3 : Int32) : Rs := ck h a0 8 (cc (fX6_widthOf c h a0 a1) (kI fun h1 x2 => ck h1 a0 8 (cc (fX6_laysAll c h1 a0 a1 x2 a2) (kI fun h3 x4 => rdR h3 a0 8 8 (fun r5 => aldI h3 r5 [0, 10] a3 (fun x6 => some (h3, some (.inl x6))))))))
set_option maxHeartbeats 4000000 in
set_option maxRecDepth 100000 in
theorem soX6_signAt (X : Cx) (h : Hp) (a0 : Option Nat) (a1 : Int32) (a2 : Int32) (a3 : Int32) : SO X mX6_signAt [.inr (.inr a0), .inl a1, .inl a2, .inl a3] h (fX6_signAt X.2.2.2 h a0 a1 a2 a3) := by
  refine so_of (by decide +kernel) (Nat.le_of_ble_eq_true rfl) ?_
  show Gd X mX6_signAt h (fX6_signAt X.2.2.2 h a0 a1 a2 a3) h 0 [some (.inr (.inr a0)), some (.inl a1), some (.inl a2), some (.inl a3)] []
  unfold fX6_signAt
  refine q_run tkX6_signAt 0 4 (pc' := 4) (L' := [some (.inr (.inr a0)), some (.inl a1), some (.inl a2), some (.inl a3)]) (st' := [.inl a1, .inr (.inr a0), .inl a1, .inr (.inr a0)]) rfl ?_
  refine q_cv (r := a0) (ci := 8) (n := 1) (as := [.inl a1]) (st := [.inl a1, .inr (.inr a0)]) TX6 15 (soX6_widthOf X h a0 a1) (tbm tkX6_signAt (i := 4) rfl) rfl rfl ceX6_widthOf wd_1097 wd_36 wd_1095 rfl (Nat.le_of_ble_eq_true rfl) (kI_gd (fun h1 x2 => ?_))
  refine q_run tkX6_signAt 5 1 (pc' := 8) (L' := [some (.inr (.inr a0)), some (.inl a1), some (.inl a2), some (.inl a3)]) (st' := [.inl a2, .inl x2, .inl a1, .inr (.inr a0)]) rfl ?_
  refine q_cv (r := a0) (ci := 8) (n := 3) (as := [.inl a1, .inl x2, .inl a2]) (st := []) TX6 15 (soX6_laysAll X h1 a0 a1 x2 a2) (tbm tkX6_signAt (i := 6) rfl) rfl rfl ceX6_laysAll wd_1101 wd_37 wd_1099 rfl (Nat.le_of_ble_eq_true rfl) (kI_gd (fun h3 x4 => ?_))
  refine q_run tkX6_signAt 7 2 (pc' := 13) (L' := [some (.inr (.inr a0)), some (.inl a1), some (.inl a2), some (.inl a3)]) (st' := [.inr (.inr a0)]) rfl ?_
  refine q_rdR RX6 TX6 15 (tbm tkX6_signAt (i := 9) rfl) rfl (Nat.le_of_ble_eq_true rfl) wd_943 (fun r5 => ?_)
  refine q_run tkX6_signAt 10 1 (pc' := 17) (L' := [some (.inr (.inr a0)), some (.inl a1), some (.inl a2), some (.inl a3)]) (st' := [.inl a3, .inr (.inr r5)]) rfl ?_
  refine q_iaload (tbm tkX6_signAt (i := 11) rfl) (fun x6 => ?_)
  exact q_iret (tbm tkX6_signAt (i := 12) rfl) rfl
theorem ceX6_signAt : Ce mX6_signAt 3 := ⟨wd_81, wd_1241, by decide +kernel, by decide +kernel, by decide +kernel⟩
/-- ReceiptRollsModel.sign -/
abbrev mX6_sign : MI := (yX6_sign, cX6_sign, 5, some .int, 8)
def tbX6_sign : List TE := [(0, .aload_n 0, 1, 0, 0), (1, .iconst 0, 1, 0, 0), (2, .putfield 32, 3, 0, 0), (5, .iload_n 1, 1, 0, 0), (6, .bipush (-2), 2, -2, 0), (8, .iconst 0, 1, 0, 0), (9, .invokestatic 40, 3, 0, 0), (12, .ifCond .eq 8, 3, 0, 20), (15, .iload_n 1, 1, 0, 0), (16, .ineg, 1, 0, 0), (17, .goto 8, 3, 0, 25), (20, .aload_n 0, 1, 0, 0), (21, .iload_n 1, 1, 0, 0), (22, .invokevirtual 216, 3, 0, 0), (25, .istore 4, 2, 0, 0), (27, .iload 4, 2, 0, 0), (29, .bipush (-6), 2, -6, 0), (31, .if_icmp .eq 17, 3, 0, 48), (34, .iload_n 2, 1, 0, 0), (35, .ifCond .lt 13, 3, 0, 48), (38, .iload_n 2, 1, 0, 0), (39, .aload_n 0, 1, 0, 0), (40, .iload 4, 2, 0, 0), (42, .invokevirtual 174, 3, 0, 0), (45, .if_icmp .lt 5, 3, 0, 50), (48, .iconst (-1), 1, -1, 0), (49, .ireturn, 1, 0, 0), (50, .iload_n 3, 1, 0, 0), (51, .iconst 0, 1, 0, 0), (52, .aload_n 0, 1, 0, 0), (53, .iload 4, 2, 0, 0), (55, .invokevirtual 143, 3, 0, 0), (58, .iconst 1, 1, 1, 0), (59, .isub, 1, 0, 0), (60, .invokestatic 40, 3, 0, 0), (63, .ifCond .ne 6, 3, 0, 69), (66, .bipush (-2), 2, -2, 0), (68, .ireturn, 1, 0, 0), (69, .aload_n 0, 1, 0, 0), (70, .iload 4, 2, 0, 0), (72, .iload_n 2, 1, 0, 0), (73, .iload_n 3, 1, 0, 0), (74, .invokevirtual 228, 3, 0, 0), (77, .ireturn, 1, 0, 0)]
theorem tkX6_sign : ∀ x ∈ tbX6_sign, tbB cX6_sign x = true := tb_all (by decide +kernel)
def fX6_sign_48 (c : Nat → Option Nat) (h : Hp) : Rs := some (h, some (.inl (-1 : Int32)))
set_option maxHeartbeats 4000000 in
set_option maxRecDepth 100000 in
theorem sX6_sign_48 (X : Cx) {h0 : Hp} (h : Hp) : Gd X mX6_sign h0 (fX6_sign_48 X.2.2.2 h) h 48 [none, none, none, none, none] [] := by
  unfold fX6_sign_48
  refine q_run tkX6_sign 25 1 (pc' := 49) (L' := [none, none, none, none, none]) (st' := [.inl (-1 : Int32)]) rfl ?_
  exact q_iret (tbm tkX6_sign (i := 26) rfl) rfl
def fX6_sign_25 (c : Nat → Option Nat) (h : Hp) (l0 : Option Nat) (l2 : Int32) (l3 : Int32) (s0 : Int32) : Rs := if s0 = (-6 : Int32) then (fX6_sign_48 c h) else (if l2 < 0 then (fX6_sign_48 c h) else (ck h l0 8 (cc (fX6_linesOf c h l0 s0) (kI fun h1 x2 => if l2 < x2 then (ck h1 l0 8 (cc (fX6_widthOf c h1 l0 s0) (kI fun h3 x4 => cc (fX6_in c h3 l3 (0 : Int32) (x4 - (1 : Int32))) (kI fun h5 x6 => if x6 = 0 then (some (h5, some (.inl (-2 : Int32)))) else (ck h5 l0 8 (cc (fX6_signAt c h5 l0 s0 l2 l3) (kI fun h7 x8 => some (h7, some (.inl x8))))))))) else (fX6_sign_48 c h1)))))
set_option maxHeartbeats 4000000 in
set_option maxRecDepth 100000 in
theorem sX6_sign_25 (X : Cx) {h0 : Hp} (h : Hp) (l0 : Option Nat) (l2 : Int32) (l3 : Int32) (s0 : Int32) : Gd X mX6_sign h0 (fX6_sign_25 X.2.2.2 h l0 l2 l3 s0) h 25 [some (.inr (.inr l0)), none, some (.inl l2), some (.inl l3), none] [.inl s0] := by
  unfold fX6_sign_25
  refine q_run tkX6_sign 14 3 (pc' := 31) (L' := [some (.inr (.inr l0)), none, some (.inl l2), some (.inl l3), some (.inl s0)]) (st' := [.inl (-6 : Int32), .inl s0]) rfl ?_
  refine q_icmp_eq (tbm tkX6_sign (i := 17) rfl) ?_ ?_
  · refine q_le (L' := [none, none, none, none, none]) (lvLe_n (lvLe_n (lvLe_n (lvLe_n (lvLe_n lvLe_0))))) ?_
    exact sX6_sign_48 X h
  · refine q_run tkX6_sign 18 1 (pc' := 35) (L' := [some (.inr (.inr l0)), none, some (.inl l2), some (.inl l3), some (.inl s0)]) (st' := [.inl l2]) rfl ?_
    refine q_if_lt (tbm tkX6_sign (i := 19) rfl) ?_ ?_
    · refine q_le (L' := [none, none, none, none, none]) (lvLe_n (lvLe_n (lvLe_n (lvLe_n (lvLe_n lvLe_0))))) ?_
      exact sX6_sign_48 X h
    · refine q_run tkX6_sign 20 3 (pc' := 42) (L' := [some (.inr (.inr l0)), none, some (.inl l2), some (.inl l3), some (.inl s0)]) (st' := [.inl s0, .inr (.inr l0), .inl l2]) rfl ?_
      refine q_cv (r := l0) (ci := 8) (n := 1) (as := [.inl s0]) (st := [.inl l2]) TX6 15 (soX6_linesOf X h l0 s0) (tbm tkX6_sign (i := 23) rfl) rfl rfl ceX6_linesOf wd_1204 wd_61 wd_1202 rfl (Nat.le_of_ble_eq_true rfl) (kI_gd (fun h1 x2 => ?_))
      refine q_icmp_lt (tbm tkX6_sign (i := 24) rfl) ?_ ?_
      · refine q_run tkX6_sign 27 4 (pc' := 55) (L' := [some (.inr (.inr l0)), none, some (.inl l2), some (.inl l3), some (.inl s0)]) (st' := [.inl s0, .inr (.inr l0), .inl (0 : Int32), .inl l3]) rfl ?_
        refine q_cv (r := l0) (ci := 8) (n := 1) (as := [.inl s0]) (st := [.inl (0 : Int32), .inl l3]) TX6 15 (soX6_widthOf X h1 l0 s0) (tbm tkX6_sign (i := 31) rfl) rfl rfl ceX6_widthOf wd_1097 wd_36 wd_1095 rfl (Nat.le_of_ble_eq_true rfl) (kI_gd (fun h3 x4 => ?_))
        refine q_run tkX6_sign 32 2 (pc' := 60) (L' := [some (.inr (.inr l0)), none, some (.inl l2), some (.inl l3), some (.inl s0)]) (st' := [.inl (x4 - (1 : Int32)), .inl (0 : Int32), .inl l3]) rfl ?_
        refine q_cs (n := 3) (as := [.inl l3, .inl (0 : Int32), .inl (x4 - (1 : Int32))]) (st := []) (soX6_in X h3 l3 (0 : Int32) (x4 - (1 : Int32))) (tbm tkX6_sign (i := 34) rfl) rfl ceX6_in wd_987 wd_986 rfl (Nat.le_of_ble_eq_true rfl) (kI_gd (fun h5 x6 => ?_))
        refine q_if_ne (tbm tkX6_sign (i := 35) rfl) ?_ ?_
        · refine q_run tkX6_sign 36 1 (pc' := 68) (L' := [some (.inr (.inr l0)), none, some (.inl l2), some (.inl l3), some (.inl s0)]) (st' := [.inl (-2 : Int32)]) rfl ?_
          exact q_iret (tbm tkX6_sign (i := 37) rfl) rfl
        · refine q_run tkX6_sign 38 4 (pc' := 74) (L' := [some (.inr (.inr l0)), none, some (.inl l2), some (.inl l3), some (.inl s0)]) (st' := [.inl l3, .inl l2, .inl s0, .inr (.inr l0)]) rfl ?_
          refine q_cv (r := l0) (ci := 8) (n := 3) (as := [.inl s0, .inl l2, .inl l3]) (st := []) TX6 15 (soX6_signAt X h5 l0 s0 l2 l3) (tbm tkX6_sign (i := 42) rfl) rfl rfl ceX6_signAt wd_1240 wd_66 wd_1238 rfl (Nat.le_of_ble_eq_true rfl) (kI_gd (fun h7 x8 => ?_))
          exact q_iret (tbm tkX6_sign (i := 43) rfl) rfl
      · refine q_le (L' := [none, none, none, none, none]) (lvLe_n (lvLe_n (lvLe_n (lvLe_n (lvLe_n lvLe_0))))) ?_
        exact sX6_sign_48 X h1
def fX6_sign (c : Nat → Option Nat) (h : Hp) (a0 : Option Nat) (a1 : Int32) (a2 : Int32) (a3 : Int32) : Rs := wr h a0 8 0 (.inl (0 : Int32)) (fun h9 => cc (fX6_in c h9 a1 (-2 : Int32) (0 : Int32)) (kI fun h10 x11 => if x11 = 0 then (ck h10 a0 8 (cc (fX6_recordOf c h10 a0 a1) (kI fun h12 x13 => fX6_sign_25 c h12 a0 a2 a3 x13))) else (fX6_sign_25 c h10 a0 a2 a3 (-a1))))
set_option maxHeartbeats 4000000 in
set_option maxRecDepth 100000 in
theorem soX6_sign (X : Cx) (h : Hp) (a0 : Option Nat) (a1 : Int32) (a2 : Int32) (a3 : Int32) : SO X mX6_sign [.inr (.inr a0), .inl a1, .inl a2, .inl a3] h (fX6_sign X.2.2.2 h a0 a1 a2 a3) := by
  refine so_of (by decide +kernel) (Nat.le_of_ble_eq_true rfl) ?_
  show Gd X mX6_sign h (fX6_sign X.2.2.2 h a0 a1 a2 a3) h 0 [some (.inr (.inr a0)), some (.inl a1), some (.inl a2), some (.inl a3), none] []
  unfold fX6_sign
  refine q_run tkX6_sign 0 2 (pc' := 2) (L' := [some (.inr (.inr a0)), some (.inl a1), some (.inl a2), some (.inl a3), none]) (st' := [.inl (0 : Int32), .inr (.inr a0)]) rfl ?_
  refine q_wr RX6 TX6 15 (tbm tkX6_sign (i := 2) rfl) rfl (Nat.le_of_ble_eq_true rfl) (Or.inl rfl) wd_935 (fun h9 => ?_)
  refine q_run tkX6_sign 3 3 (pc' := 9) (L' := [some (.inr (.inr a0)), some (.inl a1), some (.inl a2), some (.inl a3), none]) (st' := [.inl (0 : Int32), .inl (-2 : Int32), .inl a1]) rfl ?_
  refine q_cs (n := 3) (as := [.inl a1, .inl (-2 : Int32), .inl (0 : Int32)]) (st := []) (soX6_in X h9 a1 (-2 : Int32) (0 : Int32)) (tbm tkX6_sign (i := 6) rfl) rfl ceX6_in wd_987 wd_986 rfl (Nat.le_of_ble_eq_true rfl) (kI_gd (fun h10 x11 => ?_))
  refine q_if_eq (tbm tkX6_sign (i := 7) rfl) ?_ ?_
  · refine q_run tkX6_sign 11 2 (pc' := 22) (L' := [some (.inr (.inr a0)), some (.inl a1), some (.inl a2), some (.inl a3), none]) (st' := [.inl a1, .inr (.inr a0)]) rfl ?_
    refine q_cv (r := a0) (ci := 8) (n := 1) (as := [.inl a1]) (st := []) TX6 15 (soX6_recordOf X h10 a0 a1) (tbm tkX6_sign (i := 13) rfl) rfl rfl ceX6_recordOf wd_1081 wd_34 wd_1079 rfl (Nat.le_of_ble_eq_true rfl) (kI_gd (fun h12 x13 => ?_))
    refine q_le (L' := [some (.inr (.inr a0)), none, some (.inl a2), some (.inl a3), none]) (lvLe_s (lvLe_n (lvLe_s (lvLe_s (lvLe_n lvLe_0))))) ?_
    exact sX6_sign_25 X h12 a0 a2 a3 x13
  · refine q_run tkX6_sign 8 3 (pc' := 25) (L' := [some (.inr (.inr a0)), some (.inl a1), some (.inl a2), some (.inl a3), none]) (st' := [.inl (-a1)]) rfl ?_
    refine q_le (L' := [some (.inr (.inr a0)), none, some (.inl a2), some (.inl a3), none]) (lvLe_s (lvLe_n (lvLe_s (lvLe_s (lvLe_n lvLe_0))))) ?_
    exact sX6_sign_25 X h10 a0 a2 a3 (-a1)
theorem ceX6_sign : Ce mX6_sign 3 := ⟨wd_81, wd_1237, by decide +kernel, by decide +kernel, by decide +kernel⟩
/-- ReceiptRollsModel.waiting -/
abbrev mX6_waiting : MI := (yX6_waiting, cX6_waiting, 3, some .int, 4)
def tbX6_waiting : List TE := [(0, .aload_n 0, 1, 0, 0), (1, .iconst 0, 1, 0, 0), (2, .putfield 32, 3, 0, 0), (5, .iload_n 1, 1, 0, 0), (6, .ifCond .ge 8, 3, 0, 14), (9, .bipush (-6), 2, -6, 0), (11, .goto 8, 3, 0, 19), (14, .aload_n 0, 1, 0, 0), (15, .iload_n 1, 1, 0, 0), (16, .invokevirtual 171, 3, 0, 0), (19, .istore_n 2, 1, 0, 0), (20, .iload_n 2, 1, 0, 0), (21, .bipush (-6), 2, -6, 0), (23, .if_icmp .ne 7, 3, 0, 30), (26, .iconst (-1), 1, -1, 0), (27, .goto 9, 3, 0, 36), (30, .aload_n 0, 1, 0, 0), (31, .iload_n 2, 1, 0, 0), (32, .iconst 0, 1, 0, 0), (33, .invokevirtual 47, 3, 0, 0), (36, .ireturn, 1, 0, 0)]
theorem tkX6_waiting : ∀ x ∈ tbX6_waiting, tbB cX6_waiting x = true := tb_all (by decide +kernel)
def fX6_waiting_36 (c : Nat → Option Nat) (h : Hp) (s0 : Int32) : Rs := some (h, some (.inl s0))
set_option maxHeartbeats 4000000 in
set_option maxRecDepth 100000 in
theorem sX6_waiting_36 (X : Cx) {h0 : Hp} (h : Hp) (s0 : Int32) : Gd X mX6_waiting h0 (fX6_waiting_36 X.2.2.2 h s0) h 36 [none, none, none] [.inl s0] := by
  unfold fX6_waiting_36
  exact q_iret (tbm tkX6_waiting (i := 20) rfl) rfl
def fX6_waiting_19 (c : Nat → Option Nat) (h : Hp) (l0 : Option Nat) (s0 : Int32) : Rs := if s0 = (-6 : Int32) then (fX6_waiting_36 c h (-1 : Int32)) else (ck h l0 8 (cc (fX6_of c h l0 s0 (0 : Int32)) (kI fun h1 x2 => fX6_waiting_36 c h1 x2)))
set_option maxHeartbeats 4000000 in
set_option maxRecDepth 100000 in
theorem sX6_waiting_19 (X : Cx) {h0 : Hp} (h : Hp) (l0 : Option Nat) (s0 : Int32) : Gd X mX6_waiting h0 (fX6_waiting_19 X.2.2.2 h l0 s0) h 19 [some (.inr (.inr l0)), none, none] [.inl s0] := by
  unfold fX6_waiting_19
  refine q_run tkX6_waiting 10 3 (pc' := 23) (L' := [some (.inr (.inr l0)), none, some (.inl s0)]) (st' := [.inl (-6 : Int32), .inl s0]) rfl ?_
  refine q_icmp_ne (tbm tkX6_waiting (i := 13) rfl) ?_ ?_
  · refine q_run tkX6_waiting 14 2 (pc' := 36) (L' := [some (.inr (.inr l0)), none, some (.inl s0)]) (st' := [.inl (-1 : Int32)]) rfl ?_
    refine q_le (L' := [none, none, none]) (lvLe_n (lvLe_n (lvLe_n lvLe_0))) ?_
    exact sX6_waiting_36 X h (-1 : Int32)
  · refine q_run tkX6_waiting 16 3 (pc' := 33) (L' := [some (.inr (.inr l0)), none, some (.inl s0)]) (st' := [.inl (0 : Int32), .inl s0, .inr (.inr l0)]) rfl ?_
    refine q_cv (r := l0) (ci := 8) (n := 2) (as := [.inl s0, .inl (0 : Int32)]) (st := []) TX6 15 (soX6_of X h l0 s0 (0 : Int32)) (tbm tkX6_waiting (i := 19) rfl) rfl rfl ceX6_of wd_1016 wd_21 wd_1014 rfl (Nat.le_of_ble_eq_true rfl) (kI_gd (fun h1 x2 => ?_))
    refine q_le (L' := [none, none, none]) (lvLe_n (lvLe_n (lvLe_n lvLe_0))) ?_
    exact sX6_waiting_36 X h1 x2
def fX6_waiting (c : Nat → Option Nat) (h : Hp) (a0 : Option Nat) (a1 : Int32) : Rs := wr h a0 8 0 (.inl (0 : Int32)) (fun h3 => if a1 < 0 then (fX6_waiting_19 c h3 a0 (-6 : Int32)) else (ck h3 a0 8 (cc (fX6_recordAt c h3 a0 a1) (kI fun h4 x5 => fX6_waiting_19 c h4 a0 x5))))
set_option maxHeartbeats 4000000 in
set_option maxRecDepth 100000 in
theorem soX6_waiting (X : Cx) (h : Hp) (a0 : Option Nat) (a1 : Int32) : SO X mX6_waiting [.inr (.inr a0), .inl a1] h (fX6_waiting X.2.2.2 h a0 a1) := by
  refine so_of (by decide +kernel) (Nat.le_of_ble_eq_true rfl) ?_
  show Gd X mX6_waiting h (fX6_waiting X.2.2.2 h a0 a1) h 0 [some (.inr (.inr a0)), some (.inl a1), none] []
  unfold fX6_waiting
  refine q_run tkX6_waiting 0 2 (pc' := 2) (L' := [some (.inr (.inr a0)), some (.inl a1), none]) (st' := [.inl (0 : Int32), .inr (.inr a0)]) rfl ?_
  refine q_wr RX6 TX6 15 (tbm tkX6_waiting (i := 2) rfl) rfl (Nat.le_of_ble_eq_true rfl) (Or.inl rfl) wd_935 (fun h3 => ?_)
  refine q_run tkX6_waiting 3 1 (pc' := 6) (L' := [some (.inr (.inr a0)), some (.inl a1), none]) (st' := [.inl a1]) rfl ?_
  refine q_if_ge (tbm tkX6_waiting (i := 4) rfl) ?_ ?_
  · refine q_run tkX6_waiting 5 2 (pc' := 19) (L' := [some (.inr (.inr a0)), some (.inl a1), none]) (st' := [.inl (-6 : Int32)]) rfl ?_
    refine q_le (L' := [some (.inr (.inr a0)), none, none]) (lvLe_s (lvLe_n (lvLe_n lvLe_0))) ?_
    exact sX6_waiting_19 X h3 a0 (-6 : Int32)
  · refine q_run tkX6_waiting 7 2 (pc' := 16) (L' := [some (.inr (.inr a0)), some (.inl a1), none]) (st' := [.inl a1, .inr (.inr a0)]) rfl ?_
    refine q_cv (r := a0) (ci := 8) (n := 1) (as := [.inl a1]) (st := []) TX6 15 (soX6_recordAt X h3 a0 a1) (tbm tkX6_waiting (i := 9) rfl) rfl rfl ceX6_recordAt wd_1192 wd_58 wd_1190 rfl (Nat.le_of_ble_eq_true rfl) (kI_gd (fun h4 x5 => ?_))
    refine q_le (L' := [some (.inr (.inr a0)), none, none]) (lvLe_s (lvLe_n (lvLe_n lvLe_0))) ?_
    exact sX6_waiting_19 X h4 a0 x5
theorem ceX6_waiting : Ce mX6_waiting 1 := ⟨wd_81, wd_1245, by decide +kernel, by decide +kernel, by decide +kernel⟩
/-- ReceiptRollsModel.printer -/
abbrev mX6_printer : MI := (yX6_printer, cX6_printer, 3, some .int, 3)
def tbX6_printer : List TE := [(0, .aload_n 0, 1, 0, 0), (1, .iconst 0, 1, 0, 0), (2, .putfield 32, 3, 0, 0), (5, .iload_n 1, 1, 0, 0), (6, .ifCond .ne 26, 3, 0, 32), (9, .aload_n 0, 1, 0, 0), (10, .invokevirtual 167, 3, 0, 0), (13, .istore_n 2, 1, 0, 0), (14, .iload_n 2, 1, 0, 0), (15, .bipush (-6), 2, -6, 0), (17, .if_icmp .ne 8, 3, 0, 25), (20, .bipush (-6), 2, -6, 0), (22, .goto 9, 3, 0, 31), (25, .aload_n 0, 1, 0, 0), (26, .iload_n 2, 1, 0, 0), (27, .iconst 0, 1, 0, 0), (28, .invokevirtual 47, 3, 0, 0), (31, .ireturn, 1, 0, 0), (32, .iload_n 1, 1, 0, 0), (33, .iconst 1, 1, 1, 0), (34, .iconst 5, 1, 5, 0), (35, .invokestatic 40, 3, 0, 0), (38, .ifCond .eq 17, 3, 0, 55), (41, .aload_n 0, 1, 0, 0), (42, .getfield 7, 3, 0, 0), (45, .bipush 7, 2, 7, 0), (47, .iload_n 1, 1, 0, 0), (48, .iadd, 1, 0, 0), (49, .iconst 1, 1, 1, 0), (50, .isub, 1, 0, 0), (51, .iaload, 1, 0, 0), (52, .goto 5, 3, 0, 57), (55, .bipush (-2), 2, -2, 0), (57, .ireturn, 1, 0, 0)]
theorem tkX6_printer : ∀ x ∈ tbX6_printer, tbB cX6_printer x = true := tb_all (by decide +kernel)
def fX6_printer_31 (c : Nat → Option Nat) (h : Hp) (s0 : Int32) : Rs := some (h, some (.inl s0))
set_option maxHeartbeats 4000000 in
set_option maxRecDepth 100000 in
theorem sX6_printer_31 (X : Cx) {h0 : Hp} (h : Hp) (s0 : Int32) : Gd X mX6_printer h0 (fX6_printer_31 X.2.2.2 h s0) h 31 [none, none, none] [.inl s0] := by
  unfold fX6_printer_31
  exact q_iret (tbm tkX6_printer (i := 17) rfl) rfl
def fX6_printer_57 (c : Nat → Option Nat) (h : Hp) (s0 : Int32) : Rs := some (h, some (.inl s0))
set_option maxHeartbeats 4000000 in
set_option maxRecDepth 100000 in
theorem sX6_printer_57 (X : Cx) {h0 : Hp} (h : Hp) (s0 : Int32) : Gd X mX6_printer h0 (fX6_printer_57 X.2.2.2 h s0) h 57 [none, none, none] [.inl s0] := by
  unfold fX6_printer_57
  exact q_iret (tbm tkX6_printer (i := 33) rfl) rfl
def fX6_printer (c : Nat → Option Nat) (h : Hp) (a0 : Option Nat) (a1 : Int32) : Rs := wr h a0 8 0 (.inl (0 : Int32)) (fun h1 => if a1 = 0 then (ck h1 a0 8 (cc (fX6_printedNow c h1 a0) (kI fun h2 x3 => if x3 = (-6 : Int32) then (fX6_printer_31 c h2 (-6 : Int32)) else (ck h2 a0 8 (cc (fX6_of c h2 a0 x3 (0 : Int32)) (kI fun h4 x5 => fX6_printer_31 c h4 x5)))))) else (cc (fX6_in c h1 a1 (1 : Int32) (5 : Int32)) (kI fun h6 x7 => if x7 = 0 then (fX6_printer_57 c h6 (-2 : Int32)) else (rdR h6 a0 8 1 (fun r8 => aldI h6 r8 [0, 10] (((7 : Int32) + a1) - (1 : Int32)) (fun x9 => fX6_printer_57 c h6 x9))))))
set_option maxHeartbeats 4000000 in
set_option maxRecDepth 100000 in
theorem soX6_printer (X : Cx) (h : Hp) (a0 : Option Nat) (a1 : Int32) : SO X mX6_printer [.inr (.inr a0), .inl a1] h (fX6_printer X.2.2.2 h a0 a1) := by
  refine so_of (by decide +kernel) (Nat.le_of_ble_eq_true rfl) ?_
  show Gd X mX6_printer h (fX6_printer X.2.2.2 h a0 a1) h 0 [some (.inr (.inr a0)), some (.inl a1), none] []
  unfold fX6_printer
  refine q_run tkX6_printer 0 2 (pc' := 2) (L' := [some (.inr (.inr a0)), some (.inl a1), none]) (st' := [.inl (0 : Int32), .inr (.inr a0)]) rfl ?_
  refine q_wr RX6 TX6 15 (tbm tkX6_printer (i := 2) rfl) rfl (Nat.le_of_ble_eq_true rfl) (Or.inl rfl) wd_935 (fun h1 => ?_)
  refine q_run tkX6_printer 3 1 (pc' := 6) (L' := [some (.inr (.inr a0)), some (.inl a1), none]) (st' := [.inl a1]) rfl ?_
  refine q_if_ne (tbm tkX6_printer (i := 4) rfl) ?_ ?_
  · refine q_run tkX6_printer 5 1 (pc' := 10) (L' := [some (.inr (.inr a0)), some (.inl a1), none]) (st' := [.inr (.inr a0)]) rfl ?_
    refine q_cv (r := a0) (ci := 8) (n := 0) (as := []) (st := []) TX6 15 (soX6_printedNow X h1 a0) (tbm tkX6_printer (i := 6) rfl) rfl rfl ceX6_printedNow wd_1093 wd_35 wd_1091 rfl (Nat.le_of_ble_eq_true rfl) (kI_gd (fun h2 x3 => ?_))
    refine q_run tkX6_printer 7 3 (pc' := 17) (L' := [some (.inr (.inr a0)), some (.inl a1), some (.inl x3)]) (st' := [.inl (-6 : Int32), .inl x3]) rfl ?_
    refine q_icmp_ne (tbm tkX6_printer (i := 10) rfl) ?_ ?_
    · refine q_run tkX6_printer 11 2 (pc' := 31) (L' := [some (.inr (.inr a0)), some (.inl a1), some (.inl x3)]) (st' := [.inl (-6 : Int32)]) rfl ?_
      refine q_le (L' := [none, none, none]) (lvLe_n (lvLe_n (lvLe_n lvLe_0))) ?_
      exact sX6_printer_31 X h2 (-6 : Int32)
    · refine q_run tkX6_printer 13 3 (pc' := 28) (L' := [some (.inr (.inr a0)), some (.inl a1), some (.inl x3)]) (st' := [.inl (0 : Int32), .inl x3, .inr (.inr a0)]) rfl ?_
      refine q_cv (r := a0) (ci := 8) (n := 2) (as := [.inl x3, .inl (0 : Int32)]) (st := []) TX6 15 (soX6_of X h2 a0 x3 (0 : Int32)) (tbm tkX6_printer (i := 16) rfl) rfl rfl ceX6_of wd_1016 wd_21 wd_1014 rfl (Nat.le_of_ble_eq_true rfl) (kI_gd (fun h4 x5 => ?_))
      refine q_le (L' := [none, none, none]) (lvLe_n (lvLe_n (lvLe_n lvLe_0))) ?_
      exact sX6_printer_31 X h4 x5
  · refine q_run tkX6_printer 18 3 (pc' := 35) (L' := [some (.inr (.inr a0)), some (.inl a1), none]) (st' := [.inl (5 : Int32), .inl (1 : Int32), .inl a1]) rfl ?_
    refine q_cs (n := 3) (as := [.inl a1, .inl (1 : Int32), .inl (5 : Int32)]) (st := []) (soX6_in X h1 a1 (1 : Int32) (5 : Int32)) (tbm tkX6_printer (i := 21) rfl) rfl ceX6_in wd_987 wd_986 rfl (Nat.le_of_ble_eq_true rfl) (kI_gd (fun h6 x7 => ?_))
    refine q_if_eq (tbm tkX6_printer (i := 22) rfl) ?_ ?_
    · refine q_run tkX6_printer 32 1 (pc' := 57) (L' := [some (.inr (.inr a0)), some (.inl a1), none]) (st' := [.inl (-2 : Int32)]) rfl ?_
      refine q_le (L' := [none, none, none]) (lvLe_n (lvLe_n (lvLe_n lvLe_0))) ?_
      exact sX6_printer_57 X h6 (-2 : Int32)
    · refine q_run tkX6_printer 23 1 (pc' := 42) (L' := [some (.inr (.inr a0)), some (.inl a1), none]) (st' := [.inr (.inr a0)]) rfl ?_
      refine q_rdR RX6 TX6 15 (tbm tkX6_printer (i := 24) rfl) rfl (Nat.le_of_ble_eq_true rfl) wd_936 (fun r8 => ?_)
      refine q_run tkX6_printer 25 5 (pc' := 51) (L' := [some (.inr (.inr a0)), some (.inl a1), none]) (st' := [.inl (((7 : Int32) + a1) - (1 : Int32)), .inr (.inr r8)]) rfl ?_
      refine q_iaload (tbm tkX6_printer (i := 30) rfl) (fun x9 => ?_)
      refine q_run tkX6_printer 31 1 (pc' := 57) (L' := [some (.inr (.inr a0)), some (.inl a1), none]) (st' := [.inl x9]) rfl ?_
      refine q_le (L' := [none, none, none]) (lvLe_n (lvLe_n (lvLe_n lvLe_0))) ?_
      exact sX6_printer_57 X h6 x9
theorem ceX6_printer : Ce mX6_printer 1 := ⟨wd_81, wd_1249, by decide +kernel, by decide +kernel, by decide +kernel⟩
/-- ReceiptRollsModel.count -/
abbrev mX6_count : MI := (yX6_count, cX6_count, 2, some .int, 3)
def tbX6_count : List TE := [(0, .aload_n 0, 1, 0, 0), (1, .iconst 0, 1, 0, 0), (2, .putfield 32, 3, 0, 0), (5, .iload_n 1, 1, 0, 0), (6, .tableswitch 108 0 9 #[54, 61, 68, 74, 81, 89, 89, 89, 98, 103], 54, 0, 0), (60, .aload_n 0, 1, 0, 0), (61, .getfield 7, 3, 0, 0), (64, .iconst 3, 1, 3, 0), (65, .iaload, 1, 0, 0), (66, .ireturn, 1, 0, 0), (67, .aload_n 0, 1, 0, 0), (68, .getfield 7, 3, 0, 0), (71, .iconst 4, 1, 4, 0), (72, .iaload, 1, 0, 0), (73, .ireturn, 1, 0, 0), (74, .aload_n 0, 1, 0, 0), (75, .iconst 0, 1, 0, 0), (76, .invokevirtual 158, 3, 0, 0), (79, .ireturn, 1, 0, 0), (80, .aload_n 0, 1, 0, 0), (81, .getfield 7, 3, 0, 0), (84, .iconst 5, 1, 5, 0), (85, .iaload, 1, 0, 0), (86, .ireturn, 1, 0, 0), (87, .aload_n 0, 1, 0, 0), (88, .getfield 7, 3, 0, 0), (91, .bipush 6, 2, 6, 0), (93, .iaload, 1, 0, 0), (94, .ireturn, 1, 0, 0), (95, .aload_n 0, 1, 0, 0), (96, .getfield 7, 3, 0, 0), (99, .iload_n 1, 1, 0, 0), (100, .iconst 5, 1, 5, 0), (101, .isub, 1, 0, 0), (102, .iaload, 1, 0, 0), (103, .ireturn, 1, 0, 0), (104, .aload_n 0, 1, 0, 0), (105, .getfield 193, 3, 0, 0), (108, .ireturn, 1, 0, 0), (109, .aload_n 0, 1, 0, 0), (110, .getfield 44, 3, 0, 0), (113, .ireturn, 1, 0, 0), (114, .bipush (-2), 2, -2, 0), (116, .ireturn, 1, 0, 0)]
theorem tkX6_count : ∀ x ∈ tbX6_count, tbB cX6_count x = true := tb_all (by decide +kernel)
def fX6_count (c : Nat → Option Nat) (h : Hp) (a0 : Option Nat) (a1 : Int32) : Rs := wr h a0 8 0 (.inl (0 : Int32)) (fun h1 => swf a1 [((0 : Int32), rdR h1 a0 8 1 (fun r2 => aldI h1 r2 [0, 10] (3 : Int32) (fun x3 => some (h1, some (.inl x3))))), ((1 : Int32), rdR h1 a0 8 1 (fun r4 => aldI h1 r4 [0, 10] (4 : Int32) (fun x5 => some (h1, some (.inl x5))))), ((2 : Int32), ck h1 a0 8 (cc (fX6_manyHow c h1 a0 (0 : Int32)) (kI fun h6 x7 => some (h6, some (.inl x7))))), ((3 : Int32), rdR h1 a0 8 1 (fun r8 => aldI h1 r8 [0, 10] (5 : Int32) (fun x9 => some (h1, some (.inl x9))))), ((4 : Int32), rdR h1 a0 8 1 (fun r10 => aldI h1 r10 [0, 10] (6 : Int32) (fun x11 => some (h1, some (.inl x11))))), ((5 : Int32), rdR h1 a0 8 1 (fun r12 => aldI h1 r12 [0, 10] (a1 - (5 : Int32)) (fun x13 => some (h1, some (.inl x13))))), ((6 : Int32), rdR h1 a0 8 1 (fun r14 => aldI h1 r14 [0, 10] (a1 - (5 : Int32)) (fun x15 => some (h1, some (.inl x15))))), ((7 : Int32), rdR h1 a0 8 1 (fun r16 => aldI h1 r16 [0, 10] (a1 - (5 : Int32)) (fun x17 => some (h1, some (.inl x17))))), ((8 : Int32), rdI h1 a0 8 7 (fun x18 => some (h1, some (.inl x18)))), ((9 : Int32), rdI h1 a0 8 3 (fun x19 => some (h1, some (.inl x19))))] (some (h1, some (.inl (-2 : Int32)))))
set_option maxHeartbeats 4000000 in
set_option maxRecDepth 100000 in
theorem soX6_count (X : Cx) (h : Hp) (a0 : Option Nat) (a1 : Int32) : SO X mX6_count [.inr (.inr a0), .inl a1] h (fX6_count X.2.2.2 h a0 a1) := by
  refine so_of (by decide +kernel) (Nat.le_of_ble_eq_true rfl) ?_
  show Gd X mX6_count h (fX6_count X.2.2.2 h a0 a1) h 0 [some (.inr (.inr a0)), some (.inl a1)] []
  unfold fX6_count
  refine q_run tkX6_count 0 2 (pc' := 2) (L' := [some (.inr (.inr a0)), some (.inl a1)]) (st' := [.inl (0 : Int32), .inr (.inr a0)]) rfl ?_
  refine q_wr RX6 TX6 15 (tbm tkX6_count (i := 2) rfl) rfl (Nat.le_of_ble_eq_true rfl) (Or.inl rfl) wd_935 (fun h1 => ?_)
  refine q_run tkX6_count 3 1 (pc' := 6) (L' := [some (.inr (.inr a0)), some (.inl a1)]) (st' := [.inl a1]) rfl ?_
  refine q_sw [((0 : Int32), 60), ((1 : Int32), 67), ((2 : Int32), 74), ((3 : Int32), 80), ((4 : Int32), 87), ((5 : Int32), 95), ((6 : Int32), 95), ((7 : Int32), 95), ((8 : Int32), 104), ((9 : Int32), 109)] 114 (tbm tkX6_count (i := 4) rfl) (by decide +kernel) ?_ ⟨⟨rfl, ?_⟩, ⟨rfl, ?_⟩, ⟨rfl, ?_⟩, ⟨rfl, ?_⟩, ⟨rfl, ?_⟩, ⟨rfl, ?_⟩, ⟨rfl, ?_⟩, ⟨rfl, ?_⟩, ⟨rfl, ?_⟩, ⟨rfl, ?_⟩, trivial⟩
  · refine q_run tkX6_count 42 1 (pc' := 116) (L' := [some (.inr (.inr a0)), some (.inl a1)]) (st' := [.inl (-2 : Int32)]) rfl ?_
    exact q_iret (tbm tkX6_count (i := 43) rfl) rfl
  · refine q_run tkX6_count 5 1 (pc' := 61) (L' := [some (.inr (.inr a0)), some (.inl a1)]) (st' := [.inr (.inr a0)]) rfl ?_
    refine q_rdR RX6 TX6 15 (tbm tkX6_count (i := 6) rfl) rfl (Nat.le_of_ble_eq_true rfl) wd_936 (fun r2 => ?_)
    refine q_run tkX6_count 7 1 (pc' := 65) (L' := [some (.inr (.inr a0)), some (.inl a1)]) (st' := [.inl (3 : Int32), .inr (.inr r2)]) rfl ?_
    refine q_iaload (tbm tkX6_count (i := 8) rfl) (fun x3 => ?_)
    exact q_iret (tbm tkX6_count (i := 9) rfl) rfl
  · refine q_run tkX6_count 10 1 (pc' := 68) (L' := [some (.inr (.inr a0)), some (.inl a1)]) (st' := [.inr (.inr a0)]) rfl ?_
    refine q_rdR RX6 TX6 15 (tbm tkX6_count (i := 11) rfl) rfl (Nat.le_of_ble_eq_true rfl) wd_936 (fun r4 => ?_)
    refine q_run tkX6_count 12 1 (pc' := 72) (L' := [some (.inr (.inr a0)), some (.inl a1)]) (st' := [.inl (4 : Int32), .inr (.inr r4)]) rfl ?_
    refine q_iaload (tbm tkX6_count (i := 13) rfl) (fun x5 => ?_)
    exact q_iret (tbm tkX6_count (i := 14) rfl) rfl
  · refine q_run tkX6_count 15 2 (pc' := 76) (L' := [some (.inr (.inr a0)), some (.inl a1)]) (st' := [.inl (0 : Int32), .inr (.inr a0)]) rfl ?_
    refine q_cv (r := a0) (ci := 8) (n := 1) (as := [.inl (0 : Int32)]) (st := []) TX6 15 (soX6_manyHow X h1 a0 (0 : Int32)) (tbm tkX6_count (i := 17) rfl) rfl rfl ceX6_manyHow wd_1061 wd_30 wd_1059 rfl (Nat.le_of_ble_eq_true rfl) (kI_gd (fun h6 x7 => ?_))
    exact q_iret (tbm tkX6_count (i := 18) rfl) rfl
  · refine q_run tkX6_count 19 1 (pc' := 81) (L' := [some (.inr (.inr a0)), some (.inl a1)]) (st' := [.inr (.inr a0)]) rfl ?_
    refine q_rdR RX6 TX6 15 (tbm tkX6_count (i := 20) rfl) rfl (Nat.le_of_ble_eq_true rfl) wd_936 (fun r8 => ?_)
    refine q_run tkX6_count 21 1 (pc' := 85) (L' := [some (.inr (.inr a0)), some (.inl a1)]) (st' := [.inl (5 : Int32), .inr (.inr r8)]) rfl ?_
    refine q_iaload (tbm tkX6_count (i := 22) rfl) (fun x9 => ?_)
    exact q_iret (tbm tkX6_count (i := 23) rfl) rfl
  · refine q_run tkX6_count 24 1 (pc' := 88) (L' := [some (.inr (.inr a0)), some (.inl a1)]) (st' := [.inr (.inr a0)]) rfl ?_
    refine q_rdR RX6 TX6 15 (tbm tkX6_count (i := 25) rfl) rfl (Nat.le_of_ble_eq_true rfl) wd_936 (fun r10 => ?_)
    refine q_run tkX6_count 26 1 (pc' := 93) (L' := [some (.inr (.inr a0)), some (.inl a1)]) (st' := [.inl (6 : Int32), .inr (.inr r10)]) rfl ?_
    refine q_iaload (tbm tkX6_count (i := 27) rfl) (fun x11 => ?_)
    exact q_iret (tbm tkX6_count (i := 28) rfl) rfl
  · refine q_run tkX6_count 29 1 (pc' := 96) (L' := [some (.inr (.inr a0)), some (.inl a1)]) (st' := [.inr (.inr a0)]) rfl ?_
    refine q_rdR RX6 TX6 15 (tbm tkX6_count (i := 30) rfl) rfl (Nat.le_of_ble_eq_true rfl) wd_936 (fun r12 => ?_)
    refine q_run tkX6_count 31 3 (pc' := 102) (L' := [some (.inr (.inr a0)), some (.inl a1)]) (st' := [.inl (a1 - (5 : Int32)), .inr (.inr r12)]) rfl ?_
    refine q_iaload (tbm tkX6_count (i := 34) rfl) (fun x13 => ?_)
    exact q_iret (tbm tkX6_count (i := 35) rfl) rfl
  · refine q_run tkX6_count 29 1 (pc' := 96) (L' := [some (.inr (.inr a0)), some (.inl a1)]) (st' := [.inr (.inr a0)]) rfl ?_
    refine q_rdR RX6 TX6 15 (tbm tkX6_count (i := 30) rfl) rfl (Nat.le_of_ble_eq_true rfl) wd_936 (fun r14 => ?_)
    refine q_run tkX6_count 31 3 (pc' := 102) (L' := [some (.inr (.inr a0)), some (.inl a1)]) (st' := [.inl (a1 - (5 : Int32)), .inr (.inr r14)]) rfl ?_
    refine q_iaload (tbm tkX6_count (i := 34) rfl) (fun x15 => ?_)
    exact q_iret (tbm tkX6_count (i := 35) rfl) rfl
  · refine q_run tkX6_count 29 1 (pc' := 96) (L' := [some (.inr (.inr a0)), some (.inl a1)]) (st' := [.inr (.inr a0)]) rfl ?_
    refine q_rdR RX6 TX6 15 (tbm tkX6_count (i := 30) rfl) rfl (Nat.le_of_ble_eq_true rfl) wd_936 (fun r16 => ?_)
    refine q_run tkX6_count 31 3 (pc' := 102) (L' := [some (.inr (.inr a0)), some (.inl a1)]) (st' := [.inl (a1 - (5 : Int32)), .inr (.inr r16)]) rfl ?_
    refine q_iaload (tbm tkX6_count (i := 34) rfl) (fun x17 => ?_)
    exact q_iret (tbm tkX6_count (i := 35) rfl) rfl
  · refine q_run tkX6_count 36 1 (pc' := 105) (L' := [some (.inr (.inr a0)), some (.inl a1)]) (st' := [.inr (.inr a0)]) rfl ?_
    refine q_rdI RX6 TX6 15 (tbm tkX6_count (i := 37) rfl) rfl (Nat.le_of_ble_eq_true rfl) wd_942 (fun x18 => ?_)
    exact q_iret (tbm tkX6_count (i := 38) rfl) rfl
  · refine q_run tkX6_count 39 1 (pc' := 110) (L' := [some (.inr (.inr a0)), some (.inl a1)]) (st' := [.inr (.inr a0)]) rfl ?_
    refine q_rdI RX6 TX6 15 (tbm tkX6_count (i := 40) rfl) rfl (Nat.le_of_ble_eq_true rfl) wd_938 (fun x19 => ?_)
    exact q_iret (tbm tkX6_count (i := 41) rfl) rfl
theorem ceX6_count : Ce mX6_count 1 := ⟨wd_81, wd_1253, by decide +kernel, by decide +kernel, by decide +kernel⟩
/-- ReceiptRollsModel.between -/
abbrev mX6_between : MI := (yX6_between, cX6_between, 9, some .int, 5)
def tbX6_between : List TE := [(0, .aload_n 0, 1, 0, 0), (1, .iconst 0, 1, 0, 0), (2, .putfield 32, 3, 0, 0), (5, .iload_n 2, 1, 0, 0), (6, .iload_n 1, 1, 0, 0), (7, .if_icmp .lt 12, 3, 0, 19), (10, .iload_n 3, 1, 0, 0), (11, .iconst 0, 1, 0, 0), (12, .iconst 2, 1, 2, 0), (13, .invokestatic 40, 3, 0, 0), (16, .ifCond .ne 6, 3, 0, 22), (19, .bipush (-2), 2, -2, 0), (21, .ireturn, 1, 0, 0), (22, .iconst 0, 1, 0, 0), (23, .istore 4, 2, 0, 0), (25, .iconst 0, 1, 0, 0), (26, .istore 5, 2, 0, 0), (28, .bipush (-6), 2, -6, 0), (30, .istore 6, 2, 0, 0), (32, .iconst 3, 1, 3, 0), (33, .istore 7, 2, 0, 0), (35, .iload 7, 2, 0, 0), (37, .bipush 21, 2, 21, 0), (39, .if_icmp .ge 68, 3, 0, 107), (42, .aload_n 0, 1, 0, 0), (43, .iload 7, 2, 0, 0), (45, .iconst 0, 1, 0, 0), (46, .invokevirtual 47, 3, 0, 0), (49, .ifCond .le 52, 3, 0, 101), (52, .aload_n 0, 1, 0, 0), (53, .iload 7, 2, 0, 0), (55, .iconst 0, 1, 0, 0), (56, .invokevirtual 47, 3, 0, 0), (59, .iload_n 1, 1, 0, 0), (60, .iload_n 2, 1, 0, 0), (61, .invokestatic 40, 3, 0, 0), (64, .ifCond .eq 37, 3, 0, 101), (67, .aload_n 0, 1, 0, 0), (68, .iload 7, 2, 0, 0), (70, .invokevirtual 134, 3, 0, 0), (73, .istore 8, 2, 0, 0), (75, .iload 4, 2, 0, 0), (77, .iload 8, 2, 0, 0), (79, .iadd, 1, 0, 0), (80, .istore 4, 2, 0, 0), (82, .iinc 5 1, 3, 1, 0), (85, .iload 8, 2, 0, 0), (87, .iload 6, 2, 0, 0), (89, .if_icmp .le 8, 3, 0, 97), (92, .iload 8, 2, 0, 0), (94, .goto 5, 3, 0, 99), (97, .iload 6, 2, 0, 0), (99, .istore 6, 2, 0, 0), (101, .iinc 7 1, 3, 1, 0), (104, .goto (-69), 3, 0, 35), (107, .iload_n 3, 1, 0, 0), (108, .ifCond .ne 8, 3, 0, 116), (111, .iload 4, 2, 0, 0), (113, .goto 15, 3, 0, 128), (116, .iload_n 3, 1, 0, 0), (117, .iconst 1, 1, 1, 0), (118, .if_icmp .ne 8, 3, 0, 126), (121, .iload 5, 2, 0, 0), (123, .goto 5, 3, 0, 128), (126, .iload 6, 2, 0, 0), (128, .ireturn, 1, 0, 0)]
theorem tkX6_between : ∀ x ∈ tbX6_between, tbB cX6_between x = true := tb_all (by decide +kernel)
def fX6_between_101 (c : Nat → Option Nat) (k35 : Hp → Option Nat → Int32 → Int32 → Int32 → Int32 → Int32 → Int32 → Int32 → Rs) (h : Hp) (l0 : Option Nat) (l1 : Int32) (l2 : Int32) (l3 : Int32) (l4 : Int32) (l5 : Int32) (l6 : Int32) (l7 : Int32) : Rs := k35 h l0 l1 l2 l3 l4 l5 l6 (l7 + (1 : Int32))
set_option maxHeartbeats 4000000 in
set_option maxRecDepth 100000 in
theorem sX6_between_101 (X : Cx) {h0 : Hp} (k35 : Hp → Option Nat → Int32 → Int32 → Int32 → Int32 → Int32 → Int32 → Int32 → Rs) (hk35 : ∀ (h : Hp) (l0 : Option Nat) (l1 : Int32) (l2 : Int32) (l3 : Int32) (l4 : Int32) (l5 : Int32) (l6 : Int32) (l7 : Int32), Gd X mX6_between h0 (k35 h l0 l1 l2 l3 l4 l5 l6 l7) h 35 [some (.inr (.inr l0)), some (.inl l1), some (.inl l2), some (.inl l3), some (.inl l4), some (.inl l5), some (.inl l6), some (.inl l7), none] []) (h : Hp) (l0 : Option Nat) (l1 : Int32) (l2 : Int32) (l3 : Int32) (l4 : Int32) (l5 : Int32) (l6 : Int32) (l7 : Int32) : Gd X mX6_between h0 (fX6_between_101 X.2.2.2 k35 h l0 l1 l2 l3 l4 l5 l6 l7) h 101 [some (.inr (.inr l0)), some (.inl l1), some (.inl l2), some (.inl l3), some (.inl l4), some (.inl l5), some (.inl l6), some (.inl l7), none] [] := by
  unfold fX6_between_101
  refine q_run tkX6_between 53 2 (pc' := 35) (L' := [some (.inr (.inr l0)), some (.inl l1), some (.inl l2), some (.inl l3), some (.inl l4), some (.inl l5), some (.inl l6), some (.inl (l7 + (1 : Int32))), none]) (st' := []) rfl ?_
  exact hk35 h l0 l1 l2 l3 l4 l5 l6 (l7 + (1 : Int32))
def fX6_between_99 (c : Nat → Option Nat) (k35 : Hp → Option Nat → Int32 → Int32 → Int32 → Int32 → Int32 → Int32 → Int32 → Rs) (h : Hp) (l0 : Option Nat) (l1 : Int32) (l2 : Int32) (l3 : Int32) (l4 : Int32) (l5 : Int32) (l7 : Int32) (s0 : Int32) : Rs := fX6_between_101 c k35 h l0 l1 l2 l3 l4 l5 s0 l7
set_option maxHeartbeats 4000000 in
set_option maxRecDepth 100000 in
theorem sX6_between_99 (X : Cx) {h0 : Hp} (k35 : Hp → Option Nat → Int32 → Int32 → Int32 → Int32 → Int32 → Int32 → Int32 → Rs) (hk35 : ∀ (h : Hp) (l0 : Option Nat) (l1 : Int32) (l2 : Int32) (l3 : Int32) (l4 : Int32) (l5 : Int32) (l6 : Int32) (l7 : Int32), Gd X mX6_between h0 (k35 h l0 l1 l2 l3 l4 l5 l6 l7) h 35 [some (.inr (.inr l0)), some (.inl l1), some (.inl l2), some (.inl l3), some (.inl l4), some (.inl l5), some (.inl l6), some (.inl l7), none] []) (h : Hp) (l0 : Option Nat) (l1 : Int32) (l2 : Int32) (l3 : Int32) (l4 : Int32) (l5 : Int32) (l7 : Int32) (s0 : Int32) : Gd X mX6_between h0 (fX6_between_99 X.2.2.2 k35 h l0 l1 l2 l3 l4 l5 l7 s0) h 99 [some (.inr (.inr l0)), some (.inl l1), some (.inl l2), some (.inl l3), some (.inl l4), some (.inl l5), none, some (.inl l7), none] [.inl s0] := by
  unfold fX6_between_99
  refine q_run tkX6_between 52 1 (pc' := 101) (L' := [some (.inr (.inr l0)), some (.inl l1), some (.inl l2), some (.inl l3), some (.inl l4), some (.inl l5), some (.inl s0), some (.inl l7), none]) (st' := []) rfl ?_
  exact sX6_between_101 X k35 hk35 h l0 l1 l2 l3 l4 l5 s0 l7
def fX6_between_128 (c : Nat → Option Nat) (h : Hp) (s0 : Int32) : Rs := some (h, some (.inl s0))
set_option maxHeartbeats 4000000 in
set_option maxRecDepth 100000 in
theorem sX6_between_128 (X : Cx) {h0 : Hp} (h : Hp) (s0 : Int32) : Gd X mX6_between h0 (fX6_between_128 X.2.2.2 h s0) h 128 [none, none, none, none, none, none, none, none, none] [.inl s0] := by
  unfold fX6_between_128
  exact q_iret (tbm tkX6_between (i := 65) rfl) rfl
def fX6_between_35 (c : Nat → Option Nat) : Nat → Hp → Option Nat → Int32 → Int32 → Int32 → Int32 → Int32 → Int32 → Int32 → Rs
  | 0, _, _, _, _, _, _, _, _, _ => none
  | n + 1, h, l0, l1, l2, l3, l4, l5, l6, l7 => if l7 < (21 : Int32) then (ck h l0 8 (cc (fX6_of c h l0 l7 (0 : Int32)) (kI fun h1 x2 => if 0 < x2 then (ck h1 l0 8 (cc (fX6_of c h1 l0 l7 (0 : Int32)) (kI fun h3 x4 => cc (fX6_in c h3 x4 l1 l2) (kI fun h5 x6 => if x6 = 0 then (fX6_between_101 c (fX6_between_35 c n) h5 l0 l1 l2 l3 l4 l5 l6 l7) else (ck h5 l0 8 (cc (fX6_total c h5 l0 l7) (kI fun h7 x8 => if l6 < x8 then (fX6_between_99 c (fX6_between_35 c n) h7 l0 l1 l2 l3 (l4 + x8) (l5 + (1 : Int32)) l7 x8) else (fX6_between_99 c (fX6_between_35 c n) h7 l0 l1 l2 l3 (l4 + x8) (l5 + (1 : Int32)) l7 l6)))))))) else (fX6_between_101 c (fX6_between_35 c n) h1 l0 l1 l2 l3 l4 l5 l6 l7)))) else (if l3 = 0 then (fX6_between_128 c h l4) else (if l3 = (1 : Int32) then (fX6_between_128 c h l5) else (fX6_between_128 c h l6)))
set_option maxHeartbeats 4000000 in
set_option maxRecDepth 100000 in
theorem sX6_between_35 (X : Cx) {h0 : Hp} : ∀ (n : Nat) (h : Hp) (l0 : Option Nat) (l1 : Int32) (l2 : Int32) (l3 : Int32) (l4 : Int32) (l5 : Int32) (l6 : Int32) (l7 : Int32), Gd X mX6_between h0 (fX6_between_35 X.2.2.2 n h l0 l1 l2 l3 l4 l5 l6 l7) h 35 [some (.inr (.inr l0)), some (.inl l1), some (.inl l2), some (.inl l3), some (.inl l4), some (.inl l5), some (.inl l6), some (.inl l7), none] [] := by
  intro n
  induction n with
  | zero => intros; exact gd_none
  | succ n ih =>
    intro h l0 l1 l2 l3 l4 l5 l6 l7
    unfold fX6_between_35
    refine q_run tkX6_between 21 2 (pc' := 39) (L' := [some (.inr (.inr l0)), some (.inl l1), some (.inl l2), some (.inl l3), some (.inl l4), some (.inl l5), some (.inl l6), some (.inl l7), none]) (st' := [.inl (21 : Int32), .inl l7]) rfl ?_
    refine q_icmp_ge (tbm tkX6_between (i := 23) rfl) ?_ ?_
    · refine q_run tkX6_between 24 3 (pc' := 46) (L' := [some (.inr (.inr l0)), some (.inl l1), some (.inl l2), some (.inl l3), some (.inl l4), some (.inl l5), some (.inl l6), some (.inl l7), none]) (st' := [.inl (0 : Int32), .inl l7, .inr (.inr l0)]) rfl ?_
      refine q_cv (r := l0) (ci := 8) (n := 2) (as := [.inl l7, .inl (0 : Int32)]) (st := []) TX6 15 (soX6_of X h l0 l7 (0 : Int32)) (tbm tkX6_between (i := 27) rfl) rfl rfl ceX6_of wd_1016 wd_21 wd_1014 rfl (Nat.le_of_ble_eq_true rfl) (kI_gd (fun h1 x2 => ?_))
      refine q_if_le (tbm tkX6_between (i := 28) rfl) ?_ ?_
      · refine q_run tkX6_between 29 3 (pc' := 56) (L' := [some (.inr (.inr l0)), some (.inl l1), some (.inl l2), some (.inl l3), some (.inl l4), some (.inl l5), some (.inl l6), some (.inl l7), none]) (st' := [.inl (0 : Int32), .inl l7, .inr (.inr l0)]) rfl ?_
        refine q_cv (r := l0) (ci := 8) (n := 2) (as := [.inl l7, .inl (0 : Int32)]) (st := []) TX6 15 (soX6_of X h1 l0 l7 (0 : Int32)) (tbm tkX6_between (i := 32) rfl) rfl rfl ceX6_of wd_1016 wd_21 wd_1014 rfl (Nat.le_of_ble_eq_true rfl) (kI_gd (fun h3 x4 => ?_))
        refine q_run tkX6_between 33 2 (pc' := 61) (L' := [some (.inr (.inr l0)), some (.inl l1), some (.inl l2), some (.inl l3), some (.inl l4), some (.inl l5), some (.inl l6), some (.inl l7), none]) (st' := [.inl l2, .inl l1, .inl x4]) rfl ?_
        refine q_cs (n := 3) (as := [.inl x4, .inl l1, .inl l2]) (st := []) (soX6_in X h3 x4 l1 l2) (tbm tkX6_between (i := 35) rfl) rfl ceX6_in wd_987 wd_986 rfl (Nat.le_of_ble_eq_true rfl) (kI_gd (fun h5 x6 => ?_))
        refine q_if_eq (tbm tkX6_between (i := 36) rfl) ?_ ?_
        · exact sX6_between_101 X (fX6_between_35 X.2.2.2 n) ih h5 l0 l1 l2 l3 l4 l5 l6 l7
        · refine q_run tkX6_between 37 2 (pc' := 70) (L' := [some (.inr (.inr l0)), some (.inl l1), some (.inl l2), some (.inl l3), some (.inl l4), some (.inl l5), some (.inl l6), some (.inl l7), none]) (st' := [.inl l7, .inr (.inr l0)]) rfl ?_
          refine q_cv (r := l0) (ci := 8) (n := 1) (as := [.inl l7]) (st := []) TX6 15 (soX6_total X h5 l0 l7) (tbm tkX6_between (i := 39) rfl) rfl rfl ceX6_total wd_1157 wd_51 wd_1155 rfl (Nat.le_of_ble_eq_true rfl) (kI_gd (fun h7 x8 => ?_))
          refine q_run tkX6_between 40 8 (pc' := 89) (L' := [some (.inr (.inr l0)), some (.inl l1), some (.inl l2), some (.inl l3), some (.inl (l4 + x8)), some (.inl (l5 + (1 : Int32))), some (.inl l6), some (.inl l7), some (.inl x8)]) (st' := [.inl l6, .inl x8]) rfl ?_
          refine q_icmp_le (tbm tkX6_between (i := 48) rfl) ?_ ?_
          · refine q_run tkX6_between 49 2 (pc' := 99) (L' := [some (.inr (.inr l0)), some (.inl l1), some (.inl l2), some (.inl l3), some (.inl (l4 + x8)), some (.inl (l5 + (1 : Int32))), some (.inl l6), some (.inl l7), some (.inl x8)]) (st' := [.inl x8]) rfl ?_
            refine q_le (L' := [some (.inr (.inr l0)), some (.inl l1), some (.inl l2), some (.inl l3), some (.inl (l4 + x8)), some (.inl (l5 + (1 : Int32))), none, some (.inl l7), none]) (lvLe_s (lvLe_s (lvLe_s (lvLe_s (lvLe_s (lvLe_s (lvLe_n (lvLe_s (lvLe_n lvLe_0))))))))) ?_
            exact sX6_between_99 X (fX6_between_35 X.2.2.2 n) ih h7 l0 l1 l2 l3 (l4 + x8) (l5 + (1 : Int32)) l7 x8
          · refine q_run tkX6_between 51 1 (pc' := 99) (L' := [some (.inr (.inr l0)), some (.inl l1), some (.inl l2), some (.inl l3), some (.inl (l4 + x8)), some (.inl (l5 + (1 : Int32))), some (.inl l6), some (.inl l7), some (.inl x8)]) (st' := [.inl l6]) rfl ?_
            refine q_le (L' := [some (.inr (.inr l0)), some (.inl l1), some (.inl l2), some (.inl l3), some (.inl (l4 + x8)), some (.inl (l5 + (1 : Int32))), none, some (.inl l7), none]) (lvLe_s (lvLe_s (lvLe_s (lvLe_s (lvLe_s (lvLe_s (lvLe_n (lvLe_s (lvLe_n lvLe_0))))))))) ?_
            exact sX6_between_99 X (fX6_between_35 X.2.2.2 n) ih h7 l0 l1 l2 l3 (l4 + x8) (l5 + (1 : Int32)) l7 l6
      · exact sX6_between_101 X (fX6_between_35 X.2.2.2 n) ih h1 l0 l1 l2 l3 l4 l5 l6 l7
    · refine q_run tkX6_between 55 1 (pc' := 108) (L' := [some (.inr (.inr l0)), some (.inl l1), some (.inl l2), some (.inl l3), some (.inl l4), some (.inl l5), some (.inl l6), some (.inl l7), none]) (st' := [.inl l3]) rfl ?_
      refine q_if_ne (tbm tkX6_between (i := 56) rfl) ?_ ?_
      · refine q_run tkX6_between 57 2 (pc' := 128) (L' := [some (.inr (.inr l0)), some (.inl l1), some (.inl l2), some (.inl l3), some (.inl l4), some (.inl l5), some (.inl l6), some (.inl l7), none]) (st' := [.inl l4]) rfl ?_
        refine q_le (L' := [none, none, none, none, none, none, none, none, none]) (lvLe_n (lvLe_n (lvLe_n (lvLe_n (lvLe_n (lvLe_n (lvLe_n (lvLe_n (lvLe_n lvLe_0))))))))) ?_
        exact sX6_between_128 X h l4
      · refine q_run tkX6_between 59 2 (pc' := 118) (L' := [some (.inr (.inr l0)), some (.inl l1), some (.inl l2), some (.inl l3), some (.inl l4), some (.inl l5), some (.inl l6), some (.inl l7), none]) (st' := [.inl (1 : Int32), .inl l3]) rfl ?_
        refine q_icmp_ne (tbm tkX6_between (i := 61) rfl) ?_ ?_
        · refine q_run tkX6_between 62 2 (pc' := 128) (L' := [some (.inr (.inr l0)), some (.inl l1), some (.inl l2), some (.inl l3), some (.inl l4), some (.inl l5), some (.inl l6), some (.inl l7), none]) (st' := [.inl l5]) rfl ?_
          refine q_le (L' := [none, none, none, none, none, none, none, none, none]) (lvLe_n (lvLe_n (lvLe_n (lvLe_n (lvLe_n (lvLe_n (lvLe_n (lvLe_n (lvLe_n lvLe_0))))))))) ?_
          exact sX6_between_128 X h l5
        · refine q_run tkX6_between 64 1 (pc' := 128) (L' := [some (.inr (.inr l0)), some (.inl l1), some (.inl l2), some (.inl l3), some (.inl l4), some (.inl l5), some (.inl l6), some (.inl l7), none]) (st' := [.inl l6]) rfl ?_
          refine q_le (L' := [none, none, none, none, none, none, none, none, none]) (lvLe_n (lvLe_n (lvLe_n (lvLe_n (lvLe_n (lvLe_n (lvLe_n (lvLe_n (lvLe_n lvLe_0))))))))) ?_
          exact sX6_between_128 X h l6
def fX6_between_19 (c : Nat → Option Nat) (h : Hp) : Rs := some (h, some (.inl (-2 : Int32)))
set_option maxHeartbeats 4000000 in
set_option maxRecDepth 100000 in
theorem sX6_between_19 (X : Cx) {h0 : Hp} (h : Hp) : Gd X mX6_between h0 (fX6_between_19 X.2.2.2 h) h 19 [none, none, none, none, none, none, none, none, none] [] := by
  unfold fX6_between_19
  refine q_run tkX6_between 11 1 (pc' := 21) (L' := [none, none, none, none, none, none, none, none, none]) (st' := [.inl (-2 : Int32)]) rfl ?_
  exact q_iret (tbm tkX6_between (i := 12) rfl) rfl
def fX6_between (c : Nat → Option Nat) (h : Hp) (a0 : Option Nat) (a1 : Int32) (a2 : Int32) (a3 : Int32) : Rs := wr h a0 8 0 (.inl (0 : Int32)) (fun h9 => if a2 < a1 then (fX6_between_19 c h9) else (cc (fX6_in c h9 a3 (0 : Int32) (2 : Int32)) (kI fun h10 x11 => if x11 = 0 then (fX6_between_19 c h10) else (fX6_between_35 c FU h10 a0 a1 a2 a3 (0 : Int32) (0 : Int32) (-6 : Int32) (3 : Int32)))))
set_option maxHeartbeats 4000000 in
set_option maxRecDepth 100000 in
theorem soX6_between (X : Cx) (h : Hp) (a0 : Option Nat) (a1 : Int32) (a2 : Int32) (a3 : Int32) : SO X mX6_between [.inr (.inr a0), .inl a1, .inl a2, .inl a3] h (fX6_between X.2.2.2 h a0 a1 a2 a3) := by
  refine so_of (by decide +kernel) (Nat.le_of_ble_eq_true rfl) ?_
  show Gd X mX6_between h (fX6_between X.2.2.2 h a0 a1 a2 a3) h 0 [some (.inr (.inr a0)), some (.inl a1), some (.inl a2), some (.inl a3), none, none, none, none, none] []
  unfold fX6_between
  refine q_run tkX6_between 0 2 (pc' := 2) (L' := [some (.inr (.inr a0)), some (.inl a1), some (.inl a2), some (.inl a3), none, none, none, none, none]) (st' := [.inl (0 : Int32), .inr (.inr a0)]) rfl ?_
  refine q_wr RX6 TX6 15 (tbm tkX6_between (i := 2) rfl) rfl (Nat.le_of_ble_eq_true rfl) (Or.inl rfl) wd_935 (fun h9 => ?_)
  refine q_run tkX6_between 3 2 (pc' := 7) (L' := [some (.inr (.inr a0)), some (.inl a1), some (.inl a2), some (.inl a3), none, none, none, none, none]) (st' := [.inl a1, .inl a2]) rfl ?_
  refine q_icmp_lt (tbm tkX6_between (i := 5) rfl) ?_ ?_
  · refine q_le (L' := [none, none, none, none, none, none, none, none, none]) (lvLe_n (lvLe_n (lvLe_n (lvLe_n (lvLe_n (lvLe_n (lvLe_n (lvLe_n (lvLe_n lvLe_0))))))))) ?_
    exact sX6_between_19 X h9
  · refine q_run tkX6_between 6 3 (pc' := 13) (L' := [some (.inr (.inr a0)), some (.inl a1), some (.inl a2), some (.inl a3), none, none, none, none, none]) (st' := [.inl (2 : Int32), .inl (0 : Int32), .inl a3]) rfl ?_
    refine q_cs (n := 3) (as := [.inl a3, .inl (0 : Int32), .inl (2 : Int32)]) (st := []) (soX6_in X h9 a3 (0 : Int32) (2 : Int32)) (tbm tkX6_between (i := 9) rfl) rfl ceX6_in wd_987 wd_986 rfl (Nat.le_of_ble_eq_true rfl) (kI_gd (fun h10 x11 => ?_))
    refine q_if_ne (tbm tkX6_between (i := 10) rfl) ?_ ?_
    · refine q_le (L' := [none, none, none, none, none, none, none, none, none]) (lvLe_n (lvLe_n (lvLe_n (lvLe_n (lvLe_n (lvLe_n (lvLe_n (lvLe_n (lvLe_n lvLe_0))))))))) ?_
      exact sX6_between_19 X h10
    · refine q_run tkX6_between 13 8 (pc' := 35) (L' := [some (.inr (.inr a0)), some (.inl a1), some (.inl a2), some (.inl a3), some (.inl (0 : Int32)), some (.inl (0 : Int32)), some (.inl (-6 : Int32)), some (.inl (3 : Int32)), none]) (st' := []) rfl ?_
      exact sX6_between_35 X FU h10 a0 a1 a2 a3 (0 : Int32) (0 : Int32) (-6 : Int32) (3 : Int32)
theorem ceX6_between : Ce mX6_between 3 := ⟨wd_81, wd_1257, by decide +kernel, by decide +kernel, by decide +kernel⟩
/-- ReceiptRollsModel.leftOf -/
abbrev mX6_leftOf : MI := (yX6_leftOf, cX6_leftOf, 2, some .int, 8)
def tbX6_leftOf : List TE := [(0, .aload_n 0, 1, 0, 0), (1, .iload_n 1, 1, 0, 0), (2, .invokevirtual 174, 3, 0, 0), (5, .aload_n 0, 1, 0, 0), (6, .iload_n 1, 1, 0, 0), (7, .iconst 5, 1, 5, 0), (8, .invokevirtual 47, 3, 0, 0), (11, .isub, 1, 0, 0), (12, .ireturn, 1, 0, 0)]
theorem tkX6_leftOf : ∀ x ∈ tbX6_leftOf, tbB cX6_leftOf x = true := tb_all (by decide +kernel)
def fX6_leftOf (c : Nat → Option Nat) (h : Hp) (a0 : Option Nat) (a1 : Int32) : Rs := ck h a0 8 (cc (fX6_linesOf c h a0 a1) (kI fun h1 x2 => ck h1 a0 8 (cc (fX6_of c h1 a0 a1 (5 : Int32)) (kI fun h3 x4 => some (h3, some (.inl (x2 - x4)))))))
set_option maxHeartbeats 4000000 in
set_option maxRecDepth 100000 in
theorem soX6_leftOf (X : Cx) (h : Hp) (a0 : Option Nat) (a1 : Int32) : SO X mX6_leftOf [.inr (.inr a0), .inl a1] h (fX6_leftOf X.2.2.2 h a0 a1) := by
  refine so_of (by decide +kernel) (Nat.le_of_ble_eq_true rfl) ?_
  show Gd X mX6_leftOf h (fX6_leftOf X.2.2.2 h a0 a1) h 0 [some (.inr (.inr a0)), some (.inl a1)] []
  unfold fX6_leftOf
  refine q_run tkX6_leftOf 0 2 (pc' := 2) (L' := [some (.inr (.inr a0)), some (.inl a1)]) (st' := [.inl a1, .inr (.inr a0)]) rfl ?_
  refine q_cv (r := a0) (ci := 8) (n := 1) (as := [.inl a1]) (st := []) TX6 15 (soX6_linesOf X h a0 a1) (tbm tkX6_leftOf (i := 2) rfl) rfl rfl ceX6_linesOf wd_1204 wd_61 wd_1202 rfl (Nat.le_of_ble_eq_true rfl) (kI_gd (fun h1 x2 => ?_))
  refine q_run tkX6_leftOf 3 3 (pc' := 8) (L' := [some (.inr (.inr a0)), some (.inl a1)]) (st' := [.inl (5 : Int32), .inl a1, .inr (.inr a0), .inl x2]) rfl ?_
  refine q_cv (r := a0) (ci := 8) (n := 2) (as := [.inl a1, .inl (5 : Int32)]) (st := [.inl x2]) TX6 15 (soX6_of X h1 a0 a1 (5 : Int32)) (tbm tkX6_leftOf (i := 6) rfl) rfl rfl ceX6_of wd_1016 wd_21 wd_1014 rfl (Nat.le_of_ble_eq_true rfl) (kI_gd (fun h3 x4 => ?_))
  refine q_run tkX6_leftOf 7 1 (pc' := 12) (L' := [some (.inr (.inr a0)), some (.inl a1)]) (st' := [.inl (x2 - x4)]) rfl ?_
  exact q_iret (tbm tkX6_leftOf (i := 8) rfl) rfl
theorem ceX6_leftOf : Ce mX6_leftOf 1 := ⟨wd_81, wd_1269, by decide +kernel, by decide +kernel, by decide +kernel⟩
/-- ReceiptRollsModel.linesUpTo -/
abbrev mX6_linesUpTo : MI := (yX6_linesUpTo, cX6_linesUpTo, 5, some .int, 9)
def tbX6_linesUpTo : List TE := [(0, .aload_n 0, 1, 0, 0), (1, .iload_n 1, 1, 0, 0), (2, .invokevirtual 231, 3, 0, 0), (5, .istore_n 2, 1, 0, 0), (6, .iconst 3, 1, 3, 0), (7, .istore_n 3, 1, 0, 0), (8, .iload_n 3, 1, 0, 0), (9, .bipush 21, 2, 21, 0), (11, .if_icmp .ge 74, 3, 0, 85), (14, .aload_n 0, 1, 0, 0), (15, .iload_n 1, 1, 0, 0), (16, .iconst 3, 1, 3, 0), (17, .invokevirtual 47, 3, 0, 0), (20, .ifCond .ne 65, 3, 0, 85), (23, .aload_n 0, 1, 0, 0), (24, .iload_n 3, 1, 0, 0), (25, .iconst 1, 1, 1, 0), (26, .invokevirtual 149, 3, 0, 0), (29, .ifCond .ne 26, 3, 0, 55), (32, .aload_n 0, 1, 0, 0), (33, .iload_n 3, 1, 0, 0), (34, .iconst 0, 1, 0, 0), (35, .invokevirtual 149, 3, 0, 0), (38, .ifCond .eq 21, 3, 0, 59), (41, .iload_n 3, 1, 0, 0), (42, .iload_n 1, 1, 0, 0), (43, .if_icmp .eq 16, 3, 0, 59), (46, .aload_n 0, 1, 0, 0), (47, .iload_n 3, 1, 0, 0), (48, .iload_n 1, 1, 0, 0), (49, .invokevirtual 152, 3, 0, 0), (52, .ifCond .eq 7, 3, 0, 59), (55, .iconst 1, 1, 1, 0), (56, .goto 4, 3, 0, 60), (59, .iconst 0, 1, 0, 0), (60, .istore 4, 2, 0, 0), (62, .iload_n 2, 1, 0, 0), (63, .iload 4, 2, 0, 0), (65, .ifCond .eq 11, 3, 0, 76), (68, .aload_n 0, 1, 0, 0), (69, .iload_n 3, 1, 0, 0), (70, .invokevirtual 231, 3, 0, 0), (73, .goto 4, 3, 0, 77), (76, .iconst 0, 1, 0, 0), (77, .iadd, 1, 0, 0), (78, .istore_n 2, 1, 0, 0), (79, .iinc 3 1, 3, 1, 0), (82, .goto (-74), 3, 0, 8), (85, .iload_n 2, 1, 0, 0), (86, .ireturn, 1, 0, 0)]
theorem tkX6_linesUpTo : ∀ x ∈ tbX6_linesUpTo, tbB cX6_linesUpTo x = true := tb_all (by decide +kernel)
def fX6_linesUpTo_77 (c : Nat → Option Nat) (k8 : Hp → Option Nat → Int32 → Int32 → Int32 → Rs) (h : Hp) (l0 : Option Nat) (l1 : Int32) (l3 : Int32) (s0 : Int32) (s1 : Int32) : Rs := k8 h l0 l1 (s0 + s1) (l3 + (1 : Int32))
set_option maxHeartbeats 4000000 in
set_option maxRecDepth 100000 in
theorem sX6_linesUpTo_77 (X : Cx) {h0 : Hp} (k8 : Hp → Option Nat → Int32 → Int32 → Int32 → Rs) (hk8 : ∀ (h : Hp) (l0 : Option Nat) (l1 : Int32) (l2 : Int32) (l3 : Int32), Gd X mX6_linesUpTo h0 (k8 h l0 l1 l2 l3) h 8 [some (.inr (.inr l0)), some (.inl l1), some (.inl l2), some (.inl l3), none] []) (h : Hp) (l0 : Option Nat) (l1 : Int32) (l3 : Int32) (s0 : Int32) (s1 : Int32) : Gd X mX6_linesUpTo h0 (fX6_linesUpTo_77 X.2.2.2 k8 h l0 l1 l3 s0 s1) h 77 [some (.inr (.inr l0)), some (.inl l1), none, some (.inl l3), none] [.inl s1, .inl s0] := by
  unfold fX6_linesUpTo_77
  refine q_run tkX6_linesUpTo 44 4 (pc' := 8) (L' := [some (.inr (.inr l0)), some (.inl l1), some (.inl (s0 + s1)), some (.inl (l3 + (1 : Int32))), none]) (st' := []) rfl ?_
  exact hk8 h l0 l1 (s0 + s1) (l3 + (1 : Int32))
def fX6_linesUpTo_60 (c : Nat → Option Nat) (k8 : Hp → Option Nat → Int32 → Int32 → Int32 → Rs) (h : Hp) (l0 : Option Nat) (l1 : Int32) (l2 : Int32) (l3 : Int32) (s0 : Int32) : Rs := if s0 = 0 then (fX6_linesUpTo_77 c k8 h l0 l1 l3 l2 (0 : Int32)) else (ck h l0 8 (cc (fX6_leftOf c h l0 l3) (kI fun h1 x2 => fX6_linesUpTo_77 c k8 h1 l0 l1 l3 l2 x2)))
set_option maxHeartbeats 4000000 in
set_option maxRecDepth 100000 in
theorem sX6_linesUpTo_60 (X : Cx) {h0 : Hp} (k8 : Hp → Option Nat → Int32 → Int32 → Int32 → Rs) (hk8 : ∀ (h : Hp) (l0 : Option Nat) (l1 : Int32) (l2 : Int32) (l3 : Int32), Gd X mX6_linesUpTo h0 (k8 h l0 l1 l2 l3) h 8 [some (.inr (.inr l0)), some (.inl l1), some (.inl l2), some (.inl l3), none] []) (h : Hp) (l0 : Option Nat) (l1 : Int32) (l2 : Int32) (l3 : Int32) (s0 : Int32) : Gd X mX6_linesUpTo h0 (fX6_linesUpTo_60 X.2.2.2 k8 h l0 l1 l2 l3 s0) h 60 [some (.inr (.inr l0)), some (.inl l1), some (.inl l2), some (.inl l3), none] [.inl s0] := by
  unfold fX6_linesUpTo_60
  refine q_run tkX6_linesUpTo 35 3 (pc' := 65) (L' := [some (.inr (.inr l0)), some (.inl l1), some (.inl l2), some (.inl l3), some (.inl s0)]) (st' := [.inl s0, .inl l2]) rfl ?_
  refine q_if_eq (tbm tkX6_linesUpTo (i := 38) rfl) ?_ ?_
  · refine q_run tkX6_linesUpTo 43 1 (pc' := 77) (L' := [some (.inr (.inr l0)), some (.inl l1), some (.inl l2), some (.inl l3), some (.inl s0)]) (st' := [.inl (0 : Int32), .inl l2]) rfl ?_
    refine q_le (L' := [some (.inr (.inr l0)), some (.inl l1), none, some (.inl l3), none]) (lvLe_s (lvLe_s (lvLe_n (lvLe_s (lvLe_n lvLe_0))))) ?_
    exact sX6_linesUpTo_77 X k8 hk8 h l0 l1 l3 l2 (0 : Int32)
  · refine q_run tkX6_linesUpTo 39 2 (pc' := 70) (L' := [some (.inr (.inr l0)), some (.inl l1), some (.inl l2), some (.inl l3), some (.inl s0)]) (st' := [.inl l3, .inr (.inr l0), .inl l2]) rfl ?_
    refine q_cv (r := l0) (ci := 8) (n := 1) (as := [.inl l3]) (st := [.inl l2]) TX6 15 (soX6_leftOf X h l0 l3) (tbm tkX6_linesUpTo (i := 41) rfl) rfl rfl ceX6_leftOf wd_1268 wd_68 wd_1266 rfl (Nat.le_of_ble_eq_true rfl) (kI_gd (fun h1 x2 => ?_))
    refine q_run tkX6_linesUpTo 42 1 (pc' := 77) (L' := [some (.inr (.inr l0)), some (.inl l1), some (.inl l2), some (.inl l3), some (.inl s0)]) (st' := [.inl x2, .inl l2]) rfl ?_
    refine q_le (L' := [some (.inr (.inr l0)), some (.inl l1), none, some (.inl l3), none]) (lvLe_s (lvLe_s (lvLe_n (lvLe_s (lvLe_n lvLe_0))))) ?_
    exact sX6_linesUpTo_77 X k8 hk8 h1 l0 l1 l3 l2 x2
def fX6_linesUpTo_55 (c : Nat → Option Nat) (k8 : Hp → Option Nat → Int32 → Int32 → Int32 → Rs) (h : Hp) (l0 : Option Nat) (l1 : Int32) (l2 : Int32) (l3 : Int32) : Rs := fX6_linesUpTo_60 c k8 h l0 l1 l2 l3 (1 : Int32)
set_option maxHeartbeats 4000000 in
set_option maxRecDepth 100000 in
theorem sX6_linesUpTo_55 (X : Cx) {h0 : Hp} (k8 : Hp → Option Nat → Int32 → Int32 → Int32 → Rs) (hk8 : ∀ (h : Hp) (l0 : Option Nat) (l1 : Int32) (l2 : Int32) (l3 : Int32), Gd X mX6_linesUpTo h0 (k8 h l0 l1 l2 l3) h 8 [some (.inr (.inr l0)), some (.inl l1), some (.inl l2), some (.inl l3), none] []) (h : Hp) (l0 : Option Nat) (l1 : Int32) (l2 : Int32) (l3 : Int32) : Gd X mX6_linesUpTo h0 (fX6_linesUpTo_55 X.2.2.2 k8 h l0 l1 l2 l3) h 55 [some (.inr (.inr l0)), some (.inl l1), some (.inl l2), some (.inl l3), none] [] := by
  unfold fX6_linesUpTo_55
  refine q_run tkX6_linesUpTo 32 2 (pc' := 60) (L' := [some (.inr (.inr l0)), some (.inl l1), some (.inl l2), some (.inl l3), none]) (st' := [.inl (1 : Int32)]) rfl ?_
  exact sX6_linesUpTo_60 X k8 hk8 h l0 l1 l2 l3 (1 : Int32)
def fX6_linesUpTo_59 (c : Nat → Option Nat) (k8 : Hp → Option Nat → Int32 → Int32 → Int32 → Rs) (h : Hp) (l0 : Option Nat) (l1 : Int32) (l2 : Int32) (l3 : Int32) : Rs := fX6_linesUpTo_60 c k8 h l0 l1 l2 l3 (0 : Int32)
set_option maxHeartbeats 4000000 in
set_option maxRecDepth 100000 in
theorem sX6_linesUpTo_59 (X : Cx) {h0 : Hp} (k8 : Hp → Option Nat → Int32 → Int32 → Int32 → Rs) (hk8 : ∀ (h : Hp) (l0 : Option Nat) (l1 : Int32) (l2 : Int32) (l3 : Int32), Gd X mX6_linesUpTo h0 (k8 h l0 l1 l2 l3) h 8 [some (.inr (.inr l0)), some (.inl l1), some (.inl l2), some (.inl l3), none] []) (h : Hp) (l0 : Option Nat) (l1 : Int32) (l2 : Int32) (l3 : Int32) : Gd X mX6_linesUpTo h0 (fX6_linesUpTo_59 X.2.2.2 k8 h l0 l1 l2 l3) h 59 [some (.inr (.inr l0)), some (.inl l1), some (.inl l2), some (.inl l3), none] [] := by
  unfold fX6_linesUpTo_59
  refine q_run tkX6_linesUpTo 34 1 (pc' := 60) (L' := [some (.inr (.inr l0)), some (.inl l1), some (.inl l2), some (.inl l3), none]) (st' := [.inl (0 : Int32)]) rfl ?_
  exact sX6_linesUpTo_60 X k8 hk8 h l0 l1 l2 l3 (0 : Int32)
def fX6_linesUpTo_85 (c : Nat → Option Nat) (h : Hp) (l2 : Int32) : Rs := some (h, some (.inl l2))
set_option maxHeartbeats 4000000 in
set_option maxRecDepth 100000 in
theorem sX6_linesUpTo_85 (X : Cx) {h0 : Hp} (h : Hp) (l2 : Int32) : Gd X mX6_linesUpTo h0 (fX6_linesUpTo_85 X.2.2.2 h l2) h 85 [none, none, some (.inl l2), none, none] [] := by
  unfold fX6_linesUpTo_85
  refine q_run tkX6_linesUpTo 48 1 (pc' := 86) (L' := [none, none, some (.inl l2), none, none]) (st' := [.inl l2]) rfl ?_
  exact q_iret (tbm tkX6_linesUpTo (i := 49) rfl) rfl
def fX6_linesUpTo_8 (c : Nat → Option Nat) : Nat → Hp → Option Nat → Int32 → Int32 → Int32 → Rs
  | 0, _, _, _, _, _ => none
  | n + 1, h, l0, l1, l2, l3 => if l3 < (21 : Int32) then (ck h l0 8 (cc (fX6_of c h l0 l1 (3 : Int32)) (kI fun h3 x4 => if x4 = 0 then (ck h3 l0 8 (cc (fX6_isHow c h3 l0 l3 (1 : Int32)) (kI fun h5 x6 => if x6 = 0 then (ck h5 l0 8 (cc (fX6_isHow c h5 l0 l3 (0 : Int32)) (kI fun h7 x8 => if x8 = 0 then (fX6_linesUpTo_59 c (fX6_linesUpTo_8 c n) h7 l0 l1 l2 l3) else (if l3 = l1 then (fX6_linesUpTo_59 c (fX6_linesUpTo_8 c n) h7 l0 l1 l2 l3) else (ck h7 l0 8 (cc (fX6_isAhead c h7 l0 l3 l1) (kI fun h9 x10 => if x10 = 0 then (fX6_linesUpTo_59 c (fX6_linesUpTo_8 c n) h9 l0 l1 l2 l3) else (fX6_linesUpTo_55 c (fX6_linesUpTo_8 c n) h9 l0 l1 l2 l3)))))))) else (fX6_linesUpTo_55 c (fX6_linesUpTo_8 c n) h5 l0 l1 l2 l3)))) else (fX6_linesUpTo_85 c h3 l2)))) else (fX6_linesUpTo_85 c h l2)
set_option maxHeartbeats 4000000 in
set_option maxRecDepth 100000 in
theorem sX6_linesUpTo_8 (X : Cx) {h0 : Hp} : ∀ (n : Nat) (h : Hp) (l0 : Option Nat) (l1 : Int32) (l2 : Int32) (l3 : Int32), Gd X mX6_linesUpTo h0 (fX6_linesUpTo_8 X.2.2.2 n h l0 l1 l2 l3) h 8 [some (.inr (.inr l0)), some (.inl l1), some (.inl l2), some (.inl l3), none] [] := by
  intro n
  induction n with
  | zero => intros; exact gd_none
  | succ n ih =>
    intro h l0 l1 l2 l3
    unfold fX6_linesUpTo_8
    refine q_run tkX6_linesUpTo 6 2 (pc' := 11) (L' := [some (.inr (.inr l0)), some (.inl l1), some (.inl l2), some (.inl l3), none]) (st' := [.inl (21 : Int32), .inl l3]) rfl ?_
    refine q_icmp_ge (tbm tkX6_linesUpTo (i := 8) rfl) ?_ ?_
    · refine q_run tkX6_linesUpTo 9 3 (pc' := 17) (L' := [some (.inr (.inr l0)), some (.inl l1), some (.inl l2), some (.inl l3), none]) (st' := [.inl (3 : Int32), .inl l1, .inr (.inr l0)]) rfl ?_
      refine q_cv (r := l0) (ci := 8) (n := 2) (as := [.inl l1, .inl (3 : Int32)]) (st := []) TX6 15 (soX6_of X h l0 l1 (3 : Int32)) (tbm tkX6_linesUpTo (i := 12) rfl) rfl rfl ceX6_of wd_1016 wd_21 wd_1014 rfl (Nat.le_of_ble_eq_true rfl) (kI_gd (fun h3 x4 => ?_))
      refine q_if_ne (tbm tkX6_linesUpTo (i := 13) rfl) ?_ ?_
      · refine q_run tkX6_linesUpTo 14 3 (pc' := 26) (L' := [some (.inr (.inr l0)), some (.inl l1), some (.inl l2), some (.inl l3), none]) (st' := [.inl (1 : Int32), .inl l3, .inr (.inr l0)]) rfl ?_
        refine q_cv (r := l0) (ci := 8) (n := 2) (as := [.inl l3, .inl (1 : Int32)]) (st := []) TX6 15 (soX6_isHow X h3 l0 l3 (1 : Int32)) (tbm tkX6_linesUpTo (i := 17) rfl) rfl rfl ceX6_isHow wd_1065 wd_31 wd_1063 rfl (Nat.le_of_ble_eq_true rfl) (kI_gd (fun h5 x6 => ?_))
        refine q_if_ne (tbm tkX6_linesUpTo (i := 18) rfl) ?_ ?_
        · refine q_run tkX6_linesUpTo 19 3 (pc' := 35) (L' := [some (.inr (.inr l0)), some (.inl l1), some (.inl l2), some (.inl l3), none]) (st' := [.inl (0 : Int32), .inl l3, .inr (.inr l0)]) rfl ?_
          refine q_cv (r := l0) (ci := 8) (n := 2) (as := [.inl l3, .inl (0 : Int32)]) (st := []) TX6 15 (soX6_isHow X h5 l0 l3 (0 : Int32)) (tbm tkX6_linesUpTo (i := 22) rfl) rfl rfl ceX6_isHow wd_1065 wd_31 wd_1063 rfl (Nat.le_of_ble_eq_true rfl) (kI_gd (fun h7 x8 => ?_))
          refine q_if_eq (tbm tkX6_linesUpTo (i := 23) rfl) ?_ ?_
          · exact sX6_linesUpTo_59 X (fX6_linesUpTo_8 X.2.2.2 n) ih h7 l0 l1 l2 l3
          · refine q_run tkX6_linesUpTo 24 2 (pc' := 43) (L' := [some (.inr (.inr l0)), some (.inl l1), some (.inl l2), some (.inl l3), none]) (st' := [.inl l1, .inl l3]) rfl ?_
            refine q_icmp_eq (tbm tkX6_linesUpTo (i := 26) rfl) ?_ ?_
            · exact sX6_linesUpTo_59 X (fX6_linesUpTo_8 X.2.2.2 n) ih h7 l0 l1 l2 l3
            · refine q_run tkX6_linesUpTo 27 3 (pc' := 49) (L' := [some (.inr (.inr l0)), some (.inl l1), some (.inl l2), some (.inl l3), none]) (st' := [.inl l1, .inl l3, .inr (.inr l0)]) rfl ?_
              refine q_cv (r := l0) (ci := 8) (n := 2) (as := [.inl l3, .inl l1]) (st := []) TX6 15 (soX6_isAhead X h7 l0 l3 l1) (tbm tkX6_linesUpTo (i := 30) rfl) rfl rfl ceX6_isAhead wd_1200 wd_60 wd_1198 rfl (Nat.le_of_ble_eq_true rfl) (kI_gd (fun h9 x10 => ?_))
              refine q_if_eq (tbm tkX6_linesUpTo (i := 31) rfl) ?_ ?_
              · exact sX6_linesUpTo_59 X (fX6_linesUpTo_8 X.2.2.2 n) ih h9 l0 l1 l2 l3
              · exact sX6_linesUpTo_55 X (fX6_linesUpTo_8 X.2.2.2 n) ih h9 l0 l1 l2 l3
        · exact sX6_linesUpTo_55 X (fX6_linesUpTo_8 X.2.2.2 n) ih h5 l0 l1 l2 l3
      · refine q_le (L' := [none, none, some (.inl l2), none, none]) (lvLe_n (lvLe_n (lvLe_s (lvLe_n (lvLe_n lvLe_0))))) ?_
        exact sX6_linesUpTo_85 X h3 l2
    · refine q_le (L' := [none, none, some (.inl l2), none, none]) (lvLe_n (lvLe_n (lvLe_s (lvLe_n (lvLe_n lvLe_0))))) ?_
      exact sX6_linesUpTo_85 X h l2
def fX6_linesUpTo (c : Nat → Option Nat) (h : Hp) (a0 : Option Nat) (a1 : Int32) : Rs := ck h a0 8 (cc (fX6_leftOf c h a0 a1) (kI fun h11 x12 => fX6_linesUpTo_8 c FU h11 a0 a1 x12 (3 : Int32)))
set_option maxHeartbeats 4000000 in
set_option maxRecDepth 100000 in
theorem soX6_linesUpTo (X : Cx) (h : Hp) (a0 : Option Nat) (a1 : Int32) : SO X mX6_linesUpTo [.inr (.inr a0), .inl a1] h (fX6_linesUpTo X.2.2.2 h a0 a1) := by
  refine so_of (by decide +kernel) (Nat.le_of_ble_eq_true rfl) ?_
  show Gd X mX6_linesUpTo h (fX6_linesUpTo X.2.2.2 h a0 a1) h 0 [some (.inr (.inr a0)), some (.inl a1), none, none, none] []
  unfold fX6_linesUpTo
  refine q_run tkX6_linesUpTo 0 2 (pc' := 2) (L' := [some (.inr (.inr a0)), some (.inl a1), none, none, none]) (st' := [.inl a1, .inr (.inr a0)]) rfl ?_
  refine q_cv (r := a0) (ci := 8) (n := 1) (as := [.inl a1]) (st := []) TX6 15 (soX6_leftOf X h a0 a1) (tbm tkX6_linesUpTo (i := 2) rfl) rfl rfl ceX6_leftOf wd_1268 wd_68 wd_1266 rfl (Nat.le_of_ble_eq_true rfl) (kI_gd (fun h11 x12 => ?_))
  refine q_run tkX6_linesUpTo 3 3 (pc' := 8) (L' := [some (.inr (.inr a0)), some (.inl a1), some (.inl x12), some (.inl (3 : Int32)), none]) (st' := []) rfl ?_
  exact sX6_linesUpTo_8 X FU h11 a0 a1 x12 (3 : Int32)
theorem ceX6_linesUpTo : Ce mX6_linesUpTo 1 := ⟨wd_81, wd_1265, by decide +kernel, by decide +kernel, by decide +kernel⟩
/-- ReceiptRollsModel.ticksFor -/
abbrev mX6_ticksFor : MI := (yX6_ticksFor, cX6_ticksFor, 2, some .int, 0)
def tbX6_ticksFor : List TE := [(0, .iload_n 1, 1, 0, 0), (1, .aload_n 0, 1, 0, 0), (2, .getfield 7, 3, 0, 0), (5, .iconst 2, 1, 2, 0), (6, .iaload, 1, 0, 0), (7, .iadd, 1, 0, 0), (8, .iconst 1, 1, 1, 0), (9, .isub, 1, 0, 0), (10, .aload_n 0, 1, 0, 0), (11, .getfield 7, 3, 0, 0), (14, .iconst 2, 1, 2, 0), (15, .iaload, 1, 0, 0), (16, .idiv, 1, 0, 0), (17, .ireturn, 1, 0, 0)]
theorem tkX6_ticksFor : ∀ x ∈ tbX6_ticksFor, tbB cX6_ticksFor x = true := tb_all (by decide +kernel)
def fX6_ticksFor (c : Nat → Option Nat) (h : Hp) (a0 : Option Nat) (a1 : Int32) : Rs := rdR h a0 8 1 (fun r1 => aldI h r1 [0, 10] (2 : Int32) (fun x2 => rdR h a0 8 1 (fun r3 => aldI h r3 [0, 10] (2 : Int32) (fun x4 => dv x4 (some (h, some (.inl (((a1 + x2) - (1 : Int32)) / x4))))))))
set_option maxHeartbeats 4000000 in
set_option maxRecDepth 100000 in
theorem soX6_ticksFor (X : Cx) (h : Hp) (a0 : Option Nat) (a1 : Int32) : SO X mX6_ticksFor [.inr (.inr a0), .inl a1] h (fX6_ticksFor X.2.2.2 h a0 a1) := by
  refine so_of (by decide +kernel) (Nat.le_of_ble_eq_true rfl) ?_
  show Gd X mX6_ticksFor h (fX6_ticksFor X.2.2.2 h a0 a1) h 0 [some (.inr (.inr a0)), some (.inl a1)] []
  unfold fX6_ticksFor
  refine q_run tkX6_ticksFor 0 2 (pc' := 2) (L' := [some (.inr (.inr a0)), some (.inl a1)]) (st' := [.inr (.inr a0), .inl a1]) rfl ?_
  refine q_rdR RX6 TX6 15 (tbm tkX6_ticksFor (i := 2) rfl) rfl (Nat.le_of_ble_eq_true rfl) wd_936 (fun r1 => ?_)
  refine q_run tkX6_ticksFor 3 1 (pc' := 6) (L' := [some (.inr (.inr a0)), some (.inl a1)]) (st' := [.inl (2 : Int32), .inr (.inr r1), .inl a1]) rfl ?_
  refine q_iaload (tbm tkX6_ticksFor (i := 4) rfl) (fun x2 => ?_)
  refine q_run tkX6_ticksFor 5 4 (pc' := 11) (L' := [some (.inr (.inr a0)), some (.inl a1)]) (st' := [.inr (.inr a0), .inl ((a1 + x2) - (1 : Int32))]) rfl ?_
  refine q_rdR RX6 TX6 15 (tbm tkX6_ticksFor (i := 9) rfl) rfl (Nat.le_of_ble_eq_true rfl) wd_936 (fun r3 => ?_)
  refine q_run tkX6_ticksFor 10 1 (pc' := 15) (L' := [some (.inr (.inr a0)), some (.inl a1)]) (st' := [.inl (2 : Int32), .inr (.inr r3), .inl ((a1 + x2) - (1 : Int32))]) rfl ?_
  refine q_iaload (tbm tkX6_ticksFor (i := 11) rfl) (fun x4 => ?_)
  refine q_div (tbm tkX6_ticksFor (i := 12) rfl) ?_
  exact q_iret (tbm tkX6_ticksFor (i := 13) rfl) rfl
theorem ceX6_ticksFor : Ce mX6_ticksFor 1 := ⟨wd_81, wd_1273, by decide +kernel, by decide +kernel, by decide +kernel⟩
/-- ReceiptRollsModel.doneIn -/
abbrev mX6_doneIn : MI := (yX6_doneIn, cX6_doneIn, 4, some .int, 10)
def tbX6_doneIn : List TE := [(0, .aload_n 0, 1, 0, 0), (1, .iconst 0, 1, 0, 0), (2, .putfield 32, 3, 0, 0), (5, .aload_n 0, 1, 0, 0), (6, .iload_n 1, 1, 0, 0), (7, .invokevirtual 216, 3, 0, 0), (10, .istore_n 2, 1, 0, 0), (11, .iload_n 2, 1, 0, 0), (12, .bipush (-6), 2, -6, 0), (14, .if_icmp .ne 5, 3, 0, 19), (17, .iconst (-1), 1, -1, 0), (18, .ireturn, 1, 0, 0), (19, .aload_n 0, 1, 0, 0), (20, .iload_n 2, 1, 0, 0), (21, .iconst 3, 1, 3, 0), (22, .invokevirtual 47, 3, 0, 0), (25, .iconst 2, 1, 2, 0), (26, .if_icmp .ne 5, 3, 0, 31), (29, .iconst 0, 1, 0, 0), (30, .ireturn, 1, 0, 0), (31, .aload_n 0, 1, 0, 0), (32, .iload_n 2, 1, 0, 0), (33, .invokevirtual 234, 3, 0, 0), (36, .istore_n 3, 1, 0, 0), (37, .iload_n 3, 1, 0, 0), (38, .aload_n 0, 1, 0, 0), (39, .getfield 7, 3, 0, 0), (42, .bipush 7, 2, 7, 0), (44, .iaload, 1, 0, 0), (45, .if_icmp .le 8, 3, 0, 53), (48, .bipush (-6), 2, -6, 0), (50, .goto 8, 3, 0, 58), (53, .aload_n 0, 1, 0, 0), (54, .iload_n 3, 1, 0, 0), (55, .invokevirtual 237, 3, 0, 0), (58, .ireturn, 1, 0, 0)]
theorem tkX6_doneIn : ∀ x ∈ tbX6_doneIn, tbB cX6_doneIn x = true := tb_all (by decide +kernel)
def fX6_doneIn_58 (c : Nat → Option Nat) (h : Hp) (s0 : Int32) : Rs := some (h, some (.inl s0))
set_option maxHeartbeats 4000000 in
set_option maxRecDepth 100000 in
theorem sX6_doneIn_58 (X : Cx) {h0 : Hp} (h : Hp) (s0 : Int32) : Gd X mX6_doneIn h0 (fX6_doneIn_58 X.2.2.2 h s0) h 58 [none, none, none, none] [.inl s0] := by
  unfold fX6_doneIn_58
  exact q_iret (tbm tkX6_doneIn (i := 35) rfl) rfl
def fX6_doneIn (c : Nat → Option Nat) (h : Hp) (a0 : Option Nat) (a1 : Int32) : Rs := wr h a0 8 0 (.inl (0 : Int32)) (fun h1 => ck h1 a0 8 (cc (fX6_recordOf c h1 a0 a1) (kI fun h2 x3 => if x3 = (-6 : Int32) then (some (h2, some (.inl (-1 : Int32)))) else (ck h2 a0 8 (cc (fX6_of c h2 a0 x3 (3 : Int32)) (kI fun h4 x5 => if x5 = (2 : Int32) then (some (h4, some (.inl (0 : Int32)))) else (ck h4 a0 8 (cc (fX6_linesUpTo c h4 a0 x3) (kI fun h6 x7 => rdR h6 a0 8 1 (fun r8 => aldI h6 r8 [0, 10] (7 : Int32) (fun x9 => if x9 < x7 then (fX6_doneIn_58 c h6 (-6 : Int32)) else (ck h6 a0 8 (cc (fX6_ticksFor c h6 a0 x7) (kI fun h10 x11 => fX6_doneIn_58 c h10 x11))))))))))))))
set_option maxHeartbeats 4000000 in
set_option maxRecDepth 100000 in
theorem soX6_doneIn (X : Cx) (h : Hp) (a0 : Option Nat) (a1 : Int32) : SO X mX6_doneIn [.inr (.inr a0), .inl a1] h (fX6_doneIn X.2.2.2 h a0 a1) := by
  refine so_of (by decide +kernel) (Nat.le_of_ble_eq_true rfl) ?_
  show Gd X mX6_doneIn h (fX6_doneIn X.2.2.2 h a0 a1) h 0 [some (.inr (.inr a0)), some (.inl a1), none, none] []
  unfold fX6_doneIn
  refine q_run tkX6_doneIn 0 2 (pc' := 2) (L' := [some (.inr (.inr a0)), some (.inl a1), none, none]) (st' := [.inl (0 : Int32), .inr (.inr a0)]) rfl ?_
  refine q_wr RX6 TX6 15 (tbm tkX6_doneIn (i := 2) rfl) rfl (Nat.le_of_ble_eq_true rfl) (Or.inl rfl) wd_935 (fun h1 => ?_)
  refine q_run tkX6_doneIn 3 2 (pc' := 7) (L' := [some (.inr (.inr a0)), some (.inl a1), none, none]) (st' := [.inl a1, .inr (.inr a0)]) rfl ?_
  refine q_cv (r := a0) (ci := 8) (n := 1) (as := [.inl a1]) (st := []) TX6 15 (soX6_recordOf X h1 a0 a1) (tbm tkX6_doneIn (i := 5) rfl) rfl rfl ceX6_recordOf wd_1081 wd_34 wd_1079 rfl (Nat.le_of_ble_eq_true rfl) (kI_gd (fun h2 x3 => ?_))
  refine q_run tkX6_doneIn 6 3 (pc' := 14) (L' := [some (.inr (.inr a0)), some (.inl a1), some (.inl x3), none]) (st' := [.inl (-6 : Int32), .inl x3]) rfl ?_
  refine q_icmp_ne (tbm tkX6_doneIn (i := 9) rfl) ?_ ?_
  · refine q_run tkX6_doneIn 10 1 (pc' := 18) (L' := [some (.inr (.inr a0)), some (.inl a1), some (.inl x3), none]) (st' := [.inl (-1 : Int32)]) rfl ?_
    exact q_iret (tbm tkX6_doneIn (i := 11) rfl) rfl
  · refine q_run tkX6_doneIn 12 3 (pc' := 22) (L' := [some (.inr (.inr a0)), some (.inl a1), some (.inl x3), none]) (st' := [.inl (3 : Int32), .inl x3, .inr (.inr a0)]) rfl ?_
    refine q_cv (r := a0) (ci := 8) (n := 2) (as := [.inl x3, .inl (3 : Int32)]) (st := []) TX6 15 (soX6_of X h2 a0 x3 (3 : Int32)) (tbm tkX6_doneIn (i := 15) rfl) rfl rfl ceX6_of wd_1016 wd_21 wd_1014 rfl (Nat.le_of_ble_eq_true rfl) (kI_gd (fun h4 x5 => ?_))
    refine q_run tkX6_doneIn 16 1 (pc' := 26) (L' := [some (.inr (.inr a0)), some (.inl a1), some (.inl x3), none]) (st' := [.inl (2 : Int32), .inl x5]) rfl ?_
    refine q_icmp_ne (tbm tkX6_doneIn (i := 17) rfl) ?_ ?_
    · refine q_run tkX6_doneIn 18 1 (pc' := 30) (L' := [some (.inr (.inr a0)), some (.inl a1), some (.inl x3), none]) (st' := [.inl (0 : Int32)]) rfl ?_
      exact q_iret (tbm tkX6_doneIn (i := 19) rfl) rfl
    · refine q_run tkX6_doneIn 20 2 (pc' := 33) (L' := [some (.inr (.inr a0)), some (.inl a1), some (.inl x3), none]) (st' := [.inl x3, .inr (.inr a0)]) rfl ?_
      refine q_cv (r := a0) (ci := 8) (n := 1) (as := [.inl x3]) (st := []) TX6 15 (soX6_linesUpTo X h4 a0 x3) (tbm tkX6_doneIn (i := 22) rfl) rfl rfl ceX6_linesUpTo wd_1264 wd_67 wd_1262 rfl (Nat.le_of_ble_eq_true rfl) (kI_gd (fun h6 x7 => ?_))
      refine q_run tkX6_doneIn 23 3 (pc' := 39) (L' := [some (.inr (.inr a0)), some (.inl a1), some (.inl x3), some (.inl x7)]) (st' := [.inr (.inr a0), .inl x7]) rfl ?_
      refine q_rdR RX6 TX6 15 (tbm tkX6_doneIn (i := 26) rfl) rfl (Nat.le_of_ble_eq_true rfl) wd_936 (fun r8 => ?_)
      refine q_run tkX6_doneIn 27 1 (pc' := 44) (L' := [some (.inr (.inr a0)), some (.inl a1), some (.inl x3), some (.inl x7)]) (st' := [.inl (7 : Int32), .inr (.inr r8), .inl x7]) rfl ?_
      refine q_iaload (tbm tkX6_doneIn (i := 28) rfl) (fun x9 => ?_)
      refine q_icmp_le (tbm tkX6_doneIn (i := 29) rfl) ?_ ?_
      · refine q_run tkX6_doneIn 30 2 (pc' := 58) (L' := [some (.inr (.inr a0)), some (.inl a1), some (.inl x3), some (.inl x7)]) (st' := [.inl (-6 : Int32)]) rfl ?_
        refine q_le (L' := [none, none, none, none]) (lvLe_n (lvLe_n (lvLe_n (lvLe_n lvLe_0)))) ?_
        exact sX6_doneIn_58 X h6 (-6 : Int32)
      · refine q_run tkX6_doneIn 32 2 (pc' := 55) (L' := [some (.inr (.inr a0)), some (.inl a1), some (.inl x3), some (.inl x7)]) (st' := [.inl x7, .inr (.inr a0)]) rfl ?_
        refine q_cv (r := a0) (ci := 8) (n := 1) (as := [.inl x7]) (st := []) TX6 15 (soX6_ticksFor X h6 a0 x7) (tbm tkX6_doneIn (i := 34) rfl) rfl rfl ceX6_ticksFor wd_1272 wd_69 wd_1270 rfl (Nat.le_of_ble_eq_true rfl) (kI_gd (fun h10 x11 => ?_))
        refine q_le (L' := [none, none, none, none]) (lvLe_n (lvLe_n (lvLe_n (lvLe_n lvLe_0)))) ?_
        exact sX6_doneIn_58 X h10 x11
theorem ceX6_doneIn : Ce mX6_doneIn 1 := ⟨wd_81, wd_1261, by decide +kernel, by decide +kernel, by decide +kernel⟩
/-- ReceiptRollsModel.allLeft -/
abbrev mX6_allLeft : MI := (yX6_allLeft, cX6_allLeft, 3, some .int, 9)
def tbX6_allLeft : List TE := [(0, .iconst 0, 1, 0, 0), (1, .istore_n 1, 1, 0, 0), (2, .iconst 3, 1, 3, 0), (3, .istore_n 2, 1, 0, 0), (4, .iload_n 2, 1, 0, 0), (5, .bipush 21, 2, 21, 0), (7, .if_icmp .ge 39, 3, 0, 46), (10, .iload_n 1, 1, 0, 0), (11, .aload_n 0, 1, 0, 0), (12, .iload_n 2, 1, 0, 0), (13, .iconst 0, 1, 0, 0), (14, .invokevirtual 149, 3, 0, 0), (17, .ifCond .ne 12, 3, 0, 29), (20, .aload_n 0, 1, 0, 0), (21, .iload_n 2, 1, 0, 0), (22, .iconst 1, 1, 1, 0), (23, .invokevirtual 149, 3, 0, 0), (26, .ifCond .eq 11, 3, 0, 37), (29, .aload_n 0, 1, 0, 0), (30, .iload_n 2, 1, 0, 0), (31, .invokevirtual 231, 3, 0, 0), (34, .goto 4, 3, 0, 38), (37, .iconst 0, 1, 0, 0), (38, .iadd, 1, 0, 0), (39, .istore_n 1, 1, 0, 0), (40, .iinc 2 1, 3, 1, 0), (43, .goto (-39), 3, 0, 4), (46, .iload_n 1, 1, 0, 0), (47, .ireturn, 1, 0, 0)]
theorem tkX6_allLeft : ∀ x ∈ tbX6_allLeft, tbB cX6_allLeft x = true := tb_all (by decide +kernel)
def fX6_allLeft_38 (c : Nat → Option Nat) (k4 : Hp → Option Nat → Int32 → Int32 → Rs) (h : Hp) (l0 : Option Nat) (l2 : Int32) (s0 : Int32) (s1 : Int32) : Rs := k4 h l0 (s0 + s1) (l2 + (1 : Int32))
set_option maxHeartbeats 4000000 in
set_option maxRecDepth 100000 in
theorem sX6_allLeft_38 (X : Cx) {h0 : Hp} (k4 : Hp → Option Nat → Int32 → Int32 → Rs) (hk4 : ∀ (h : Hp) (l0 : Option Nat) (l1 : Int32) (l2 : Int32), Gd X mX6_allLeft h0 (k4 h l0 l1 l2) h 4 [some (.inr (.inr l0)), some (.inl l1), some (.inl l2)] []) (h : Hp) (l0 : Option Nat) (l2 : Int32) (s0 : Int32) (s1 : Int32) : Gd X mX6_allLeft h0 (fX6_allLeft_38 X.2.2.2 k4 h l0 l2 s0 s1) h 38 [some (.inr (.inr l0)), none, some (.inl l2)] [.inl s1, .inl s0] := by
  unfold fX6_allLeft_38
  refine q_run tkX6_allLeft 23 4 (pc' := 4) (L' := [some (.inr (.inr l0)), some (.inl (s0 + s1)), some (.inl (l2 + (1 : Int32)))]) (st' := []) rfl ?_
  exact hk4 h l0 (s0 + s1) (l2 + (1 : Int32))
def fX6_allLeft_29 (c : Nat → Option Nat) (k4 : Hp → Option Nat → Int32 → Int32 → Rs) (h : Hp) (l0 : Option Nat) (l2 : Int32) (s0 : Int32) : Rs := ck h l0 8 (cc (fX6_leftOf c h l0 l2) (kI fun h1 x2 => fX6_allLeft_38 c k4 h1 l0 l2 s0 x2))
set_option maxHeartbeats 4000000 in
set_option maxRecDepth 100000 in
theorem sX6_allLeft_29 (X : Cx) {h0 : Hp} (k4 : Hp → Option Nat → Int32 → Int32 → Rs) (hk4 : ∀ (h : Hp) (l0 : Option Nat) (l1 : Int32) (l2 : Int32), Gd X mX6_allLeft h0 (k4 h l0 l1 l2) h 4 [some (.inr (.inr l0)), some (.inl l1), some (.inl l2)] []) (h : Hp) (l0 : Option Nat) (l2 : Int32) (s0 : Int32) : Gd X mX6_allLeft h0 (fX6_allLeft_29 X.2.2.2 k4 h l0 l2 s0) h 29 [some (.inr (.inr l0)), none, some (.inl l2)] [.inl s0] := by
  unfold fX6_allLeft_29
  refine q_run tkX6_allLeft 18 2 (pc' := 31) (L' := [some (.inr (.inr l0)), none, some (.inl l2)]) (st' := [.inl l2, .inr (.inr l0), .inl s0]) rfl ?_
  refine q_cv (r := l0) (ci := 8) (n := 1) (as := [.inl l2]) (st := [.inl s0]) TX6 15 (soX6_leftOf X h l0 l2) (tbm tkX6_allLeft (i := 20) rfl) rfl rfl ceX6_leftOf wd_1268 wd_68 wd_1266 rfl (Nat.le_of_ble_eq_true rfl) (kI_gd (fun h1 x2 => ?_))
  refine q_run tkX6_allLeft 21 1 (pc' := 38) (L' := [some (.inr (.inr l0)), none, some (.inl l2)]) (st' := [.inl x2, .inl s0]) rfl ?_
  exact sX6_allLeft_38 X k4 hk4 h1 l0 l2 s0 x2
def fX6_allLeft_4 (c : Nat → Option Nat) : Nat → Hp → Option Nat → Int32 → Int32 → Rs
  | 0, _, _, _, _ => none
  | n + 1, h, l0, l1, l2 => if l2 < (21 : Int32) then (ck h l0 8 (cc (fX6_isHow c h l0 l2 (0 : Int32)) (kI fun h3 x4 => if x4 = 0 then (ck h3 l0 8 (cc (fX6_isHow c h3 l0 l2 (1 : Int32)) (kI fun h5 x6 => if x6 = 0 then (fX6_allLeft_38 c (fX6_allLeft_4 c n) h5 l0 l2 l1 (0 : Int32)) else (fX6_allLeft_29 c (fX6_allLeft_4 c n) h5 l0 l2 l1)))) else (fX6_allLeft_29 c (fX6_allLeft_4 c n) h3 l0 l2 l1)))) else (some (h, some (.inl l1)))
set_option maxHeartbeats 4000000 in
set_option maxRecDepth 100000 in
theorem sX6_allLeft_4 (X : Cx) {h0 : Hp} : ∀ (n : Nat) (h : Hp) (l0 : Option Nat) (l1 : Int32) (l2 : Int32), Gd X mX6_allLeft h0 (fX6_allLeft_4 X.2.2.2 n h l0 l1 l2) h 4 [some (.inr (.inr l0)), some (.inl l1), some (.inl l2)] [] := by
  intro n
  induction n with
  | zero => intros; exact gd_none
  | succ n ih =>
    intro h l0 l1 l2
    unfold fX6_allLeft_4
    refine q_run tkX6_allLeft 4 2 (pc' := 7) (L' := [some (.inr (.inr l0)), some (.inl l1), some (.inl l2)]) (st' := [.inl (21 : Int32), .inl l2]) rfl ?_
    refine q_icmp_ge (tbm tkX6_allLeft (i := 6) rfl) ?_ ?_
    · refine q_run tkX6_allLeft 7 4 (pc' := 14) (L' := [some (.inr (.inr l0)), some (.inl l1), some (.inl l2)]) (st' := [.inl (0 : Int32), .inl l2, .inr (.inr l0), .inl l1]) rfl ?_
      refine q_cv (r := l0) (ci := 8) (n := 2) (as := [.inl l2, .inl (0 : Int32)]) (st := [.inl l1]) TX6 15 (soX6_isHow X h l0 l2 (0 : Int32)) (tbm tkX6_allLeft (i := 11) rfl) rfl rfl ceX6_isHow wd_1065 wd_31 wd_1063 rfl (Nat.le_of_ble_eq_true rfl) (kI_gd (fun h3 x4 => ?_))
      refine q_if_ne (tbm tkX6_allLeft (i := 12) rfl) ?_ ?_
      · refine q_run tkX6_allLeft 13 3 (pc' := 23) (L' := [some (.inr (.inr l0)), some (.inl l1), some (.inl l2)]) (st' := [.inl (1 : Int32), .inl l2, .inr (.inr l0), .inl l1]) rfl ?_
        refine q_cv (r := l0) (ci := 8) (n := 2) (as := [.inl l2, .inl (1 : Int32)]) (st := [.inl l1]) TX6 15 (soX6_isHow X h3 l0 l2 (1 : Int32)) (tbm tkX6_allLeft (i := 16) rfl) rfl rfl ceX6_isHow wd_1065 wd_31 wd_1063 rfl (Nat.le_of_ble_eq_true rfl) (kI_gd (fun h5 x6 => ?_))
        refine q_if_eq (tbm tkX6_allLeft (i := 17) rfl) ?_ ?_
        · refine q_run tkX6_allLeft 22 1 (pc' := 38) (L' := [some (.inr (.inr l0)), some (.inl l1), some (.inl l2)]) (st' := [.inl (0 : Int32), .inl l1]) rfl ?_
          refine q_le (L' := [some (.inr (.inr l0)), none, some (.inl l2)]) (lvLe_s (lvLe_n (lvLe_s lvLe_0))) ?_
          exact sX6_allLeft_38 X (fX6_allLeft_4 X.2.2.2 n) ih h5 l0 l2 l1 (0 : Int32)
        · refine q_le (L' := [some (.inr (.inr l0)), none, some (.inl l2)]) (lvLe_s (lvLe_n (lvLe_s lvLe_0))) ?_
          exact sX6_allLeft_29 X (fX6_allLeft_4 X.2.2.2 n) ih h5 l0 l2 l1
      · refine q_le (L' := [some (.inr (.inr l0)), none, some (.inl l2)]) (lvLe_s (lvLe_n (lvLe_s lvLe_0))) ?_
        exact sX6_allLeft_29 X (fX6_allLeft_4 X.2.2.2 n) ih h3 l0 l2 l1
    · refine q_run tkX6_allLeft 27 1 (pc' := 47) (L' := [some (.inr (.inr l0)), some (.inl l1), some (.inl l2)]) (st' := [.inl l1]) rfl ?_
      exact q_iret (tbm tkX6_allLeft (i := 28) rfl) rfl
def fX6_allLeft (c : Nat → Option Nat) (h : Hp) (a0 : Option Nat) : Rs := fX6_allLeft_4 c FU h a0 (0 : Int32) (3 : Int32)
set_option maxHeartbeats 4000000 in
set_option maxRecDepth 100000 in
theorem soX6_allLeft (X : Cx) (h : Hp) (a0 : Option Nat) : SO X mX6_allLeft [.inr (.inr a0)] h (fX6_allLeft X.2.2.2 h a0) := by
  refine so_of (by decide +kernel) (Nat.le_of_ble_eq_true rfl) ?_
  show Gd X mX6_allLeft h (fX6_allLeft X.2.2.2 h a0) h 0 [some (.inr (.inr a0)), none, none] []
  unfold fX6_allLeft
  refine q_run tkX6_allLeft 0 4 (pc' := 4) (L' := [some (.inr (.inr a0)), some (.inl (0 : Int32)), some (.inl (3 : Int32))]) (st' := []) rfl ?_
  exact sX6_allLeft_4 X FU h a0 (0 : Int32) (3 : Int32)
theorem ceX6_allLeft : Ce mX6_allLeft 0 := ⟨wd_81, wd_1281, by decide +kernel, by decide +kernel, by decide +kernel⟩
/-- ReceiptRollsModel.linesLeft -/
abbrev mX6_linesLeft : MI := (yX6_linesLeft, cX6_linesLeft, 1, some .int, 10)
def tbX6_linesLeft : List TE := [(0, .aload_n 0, 1, 0, 0), (1, .iconst 0, 1, 0, 0), (2, .putfield 32, 3, 0, 0), (5, .aload_n 0, 1, 0, 0), (6, .invokevirtual 240, 3, 0, 0), (9, .ireturn, 1, 0, 0)]
theorem tkX6_linesLeft : ∀ x ∈ tbX6_linesLeft, tbB cX6_linesLeft x = true := tb_all (by decide +kernel)
def fX6_linesLeft (c : Nat → Option Nat) (h : Hp) (a0 : Option Nat) : Rs := wr h a0 8 0 (.inl (0 : Int32)) (fun h1 => ck h1 a0 8 (cc (fX6_allLeft c h1 a0) (kI fun h2 x3 => some (h2, some (.inl x3)))))
set_option maxHeartbeats 4000000 in
set_option maxRecDepth 100000 in
theorem soX6_linesLeft (X : Cx) (h : Hp) (a0 : Option Nat) : SO X mX6_linesLeft [.inr (.inr a0)] h (fX6_linesLeft X.2.2.2 h a0) := by
  refine so_of (by decide +kernel) (Nat.le_of_ble_eq_true rfl) ?_
  show Gd X mX6_linesLeft h (fX6_linesLeft X.2.2.2 h a0) h 0 [some (.inr (.inr a0))] []
  unfold fX6_linesLeft
  refine q_run tkX6_linesLeft 0 2 (pc' := 2) (L' := [some (.inr (.inr a0))]) (st' := [.inl (0 : Int32), .inr (.inr a0)]) rfl ?_
  refine q_wr RX6 TX6 15 (tbm tkX6_linesLeft (i := 2) rfl) rfl (Nat.le_of_ble_eq_true rfl) (Or.inl rfl) wd_935 (fun h1 => ?_)
  refine q_run tkX6_linesLeft 3 1 (pc' := 6) (L' := [some (.inr (.inr a0))]) (st' := [.inr (.inr a0)]) rfl ?_
  refine q_cv (r := a0) (ci := 8) (n := 0) (as := []) (st := []) TX6 15 (soX6_allLeft X h1 a0) (tbm tkX6_linesLeft (i := 4) rfl) rfl rfl ceX6_allLeft wd_1280 wd_70 wd_1278 rfl (Nat.le_of_ble_eq_true rfl) (kI_gd (fun h2 x3 => ?_))
  exact q_iret (tbm tkX6_linesLeft (i := 5) rfl) rfl
theorem ceX6_linesLeft : Ce mX6_linesLeft 0 := ⟨wd_81, wd_1277, by decide +kernel, by decide +kernel, by decide +kernel⟩
/-- ReceiptRollsModel.outIn -/
abbrev mX6_outIn : MI := (yX6_outIn, cX6_outIn, 1, some .int, 10)
def tbX6_outIn : List TE := [(0, .aload_n 0, 1, 0, 0), (1, .iconst 0, 1, 0, 0), (2, .putfield 32, 3, 0, 0), (5, .aload_n 0, 1, 0, 0), (6, .invokevirtual 240, 3, 0, 0), (9, .aload_n 0, 1, 0, 0), (10, .getfield 7, 3, 0, 0), (13, .bipush 7, 2, 7, 0), (15, .iaload, 1, 0, 0), (16, .if_icmp .ge 8, 3, 0, 24), (19, .bipush (-6), 2, -6, 0), (21, .goto 14, 3, 0, 35), (24, .aload_n 0, 1, 0, 0), (25, .aload_n 0, 1, 0, 0), (26, .getfield 7, 3, 0, 0), (29, .bipush 7, 2, 7, 0), (31, .iaload, 1, 0, 0), (32, .invokevirtual 237, 3, 0, 0), (35, .ireturn, 1, 0, 0)]
theorem tkX6_outIn : ∀ x ∈ tbX6_outIn, tbB cX6_outIn x = true := tb_all (by decide +kernel)
def fX6_outIn_35 (c : Nat → Option Nat) (h : Hp) (s0 : Int32) : Rs := some (h, some (.inl s0))
set_option maxHeartbeats 4000000 in
set_option maxRecDepth 100000 in
theorem sX6_outIn_35 (X : Cx) {h0 : Hp} (h : Hp) (s0 : Int32) : Gd X mX6_outIn h0 (fX6_outIn_35 X.2.2.2 h s0) h 35 [none] [.inl s0] := by
  unfold fX6_outIn_35
  exact q_iret (tbm tkX6_outIn (i := 18) rfl) rfl
def fX6_outIn (c : Nat → Option Nat) (h : Hp) (a0 : Option Nat) : Rs := wr h a0 8 0 (.inl (0 : Int32)) (fun h1 => ck h1 a0 8 (cc (fX6_allLeft c h1 a0) (kI fun h2 x3 => rdR h2 a0 8 1 (fun r4 => aldI h2 r4 [0, 10] (7 : Int32) (fun x5 => if x3 < x5 then (fX6_outIn_35 c h2 (-6 : Int32)) else (rdR h2 a0 8 1 (fun r6 => aldI h2 r6 [0, 10] (7 : Int32) (fun x7 => ck h2 a0 8 (cc (fX6_ticksFor c h2 a0 x7) (kI fun h8 x9 => fX6_outIn_35 c h8 x9))))))))))
set_option maxHeartbeats 4000000 in
set_option maxRecDepth 100000 in
theorem soX6_outIn (X : Cx) (h : Hp) (a0 : Option Nat) : SO X mX6_outIn [.inr (.inr a0)] h (fX6_outIn X.2.2.2 h a0) := by
  refine so_of (by decide +kernel) (Nat.le_of_ble_eq_true rfl) ?_
  show Gd X mX6_outIn h (fX6_outIn X.2.2.2 h a0) h 0 [some (.inr (.inr a0))] []
  unfold fX6_outIn
  refine q_run tkX6_outIn 0 2 (pc' := 2) (L' := [some (.inr (.inr a0))]) (st' := [.inl (0 : Int32), .inr (.inr a0)]) rfl ?_
  refine q_wr RX6 TX6 15 (tbm tkX6_outIn (i := 2) rfl) rfl (Nat.le_of_ble_eq_true rfl) (Or.inl rfl) wd_935 (fun h1 => ?_)
  refine q_run tkX6_outIn 3 1 (pc' := 6) (L' := [some (.inr (.inr a0))]) (st' := [.inr (.inr a0)]) rfl ?_
  refine q_cv (r := a0) (ci := 8) (n := 0) (as := []) (st := []) TX6 15 (soX6_allLeft X h1 a0) (tbm tkX6_outIn (i := 4) rfl) rfl rfl ceX6_allLeft wd_1280 wd_70 wd_1278 rfl (Nat.le_of_ble_eq_true rfl) (kI_gd (fun h2 x3 => ?_))
  refine q_run tkX6_outIn 5 1 (pc' := 10) (L' := [some (.inr (.inr a0))]) (st' := [.inr (.inr a0), .inl x3]) rfl ?_
  refine q_rdR RX6 TX6 15 (tbm tkX6_outIn (i := 6) rfl) rfl (Nat.le_of_ble_eq_true rfl) wd_936 (fun r4 => ?_)
  refine q_run tkX6_outIn 7 1 (pc' := 15) (L' := [some (.inr (.inr a0))]) (st' := [.inl (7 : Int32), .inr (.inr r4), .inl x3]) rfl ?_
  refine q_iaload (tbm tkX6_outIn (i := 8) rfl) (fun x5 => ?_)
  refine q_icmp_ge (tbm tkX6_outIn (i := 9) rfl) ?_ ?_
  · refine q_run tkX6_outIn 10 2 (pc' := 35) (L' := [some (.inr (.inr a0))]) (st' := [.inl (-6 : Int32)]) rfl ?_
    refine q_le (L' := [none]) (lvLe_n lvLe_0) ?_
    exact sX6_outIn_35 X h2 (-6 : Int32)
  · refine q_run tkX6_outIn 12 2 (pc' := 26) (L' := [some (.inr (.inr a0))]) (st' := [.inr (.inr a0), .inr (.inr a0)]) rfl ?_
    refine q_rdR RX6 TX6 15 (tbm tkX6_outIn (i := 14) rfl) rfl (Nat.le_of_ble_eq_true rfl) wd_936 (fun r6 => ?_)
    refine q_run tkX6_outIn 15 1 (pc' := 31) (L' := [some (.inr (.inr a0))]) (st' := [.inl (7 : Int32), .inr (.inr r6), .inr (.inr a0)]) rfl ?_
    refine q_iaload (tbm tkX6_outIn (i := 16) rfl) (fun x7 => ?_)
    refine q_cv (r := a0) (ci := 8) (n := 1) (as := [.inl x7]) (st := []) TX6 15 (soX6_ticksFor X h2 a0 x7) (tbm tkX6_outIn (i := 17) rfl) rfl rfl ceX6_ticksFor wd_1272 wd_69 wd_1270 rfl (Nat.le_of_ble_eq_true rfl) (kI_gd (fun h8 x9 => ?_))
    refine q_le (L' := [none]) (lvLe_n lvLe_0) ?_
    exact sX6_outIn_35 X h8 x9
theorem ceX6_outIn : Ce mX6_outIn 0 := ⟨wd_81, wd_1285, by decide +kernel, by decide +kernel, by decide +kernel⟩
/-- ReceiptRollsModel.bestWidth -/
abbrev mX6_bestWidth : MI := (yX6_bestWidth, cX6_bestWidth, 7, some .int, 7)
def tbX6_bestWidth : List TE := [(0, .aload_n 0, 1, 0, 0), (1, .iconst 0, 1, 0, 0), (2, .putfield 32, 3, 0, 0), (5, .iload_n 1, 1, 0, 0), (6, .invokestatic 196, 3, 0, 0), (9, .ifCond .ne 5, 3, 0, 14), (12, .iconst (-1), 1, -1, 0), (13, .ireturn, 1, 0, 0), (14, .iload_n 2, 1, 0, 0), (15, .iconst 0, 1, 0, 0), (16, .iconst 1, 1, 1, 0), (17, .invokestatic 40, 3, 0, 0), (20, .ifCond .ne 6, 3, 0, 26), (23, .bipush (-2), 2, -2, 0), (25, .ireturn, 1, 0, 0), (26, .bipush 16, 2, 16, 0), (28, .istore_n 3, 1, 0, 0), (29, .aload_n 0, 1, 0, 0), (30, .iload_n 1, 1, 0, 0), (31, .bipush 16, 2, 16, 0), (33, .bipush (-6), 2, -6, 0), (35, .invokevirtual 146, 3, 0, 0), (38, .istore 4, 2, 0, 0), (40, .bipush 17, 2, 17, 0), (42, .istore 5, 2, 0, 0), (44, .iload 5, 2, 0, 0), (46, .bipush 40, 2, 40, 0), (48, .if_icmp .gt 50, 3, 0, 98), (51, .aload_n 0, 1, 0, 0), (52, .iload_n 1, 1, 0, 0), (53, .iload 5, 2, 0, 0), (55, .bipush (-6), 2, -6, 0), (57, .invokevirtual 146, 3, 0, 0), (60, .istore 6, 2, 0, 0), (62, .iload 6, 2, 0, 0), (64, .iload 4, 2, 0, 0), (66, .if_icmp .ge 8, 3, 0, 74), (69, .iload 5, 2, 0, 0), (71, .goto 4, 3, 0, 75), (74, .iload_n 3, 1, 0, 0), (75, .istore_n 3, 1, 0, 0), (76, .iload 6, 2, 0, 0), (78, .iload 4, 2, 0, 0), (80, .if_icmp .ge 8, 3, 0, 88), (83, .iload 6, 2, 0, 0), (85, .goto 5, 3, 0, 90), (88, .iload 4, 2, 0, 0), (90, .istore 4, 2, 0, 0), (92, .iinc 5 1, 3, 1, 0), (95, .goto (-51), 3, 0, 44), (98, .iload_n 2, 1, 0, 0), (99, .ifCond .ne 7, 3, 0, 106), (102, .iload_n 3, 1, 0, 0), (103, .goto 5, 3, 0, 108), (106, .iload 4, 2, 0, 0), (108, .ireturn, 1, 0, 0)]
theorem tkX6_bestWidth : ∀ x ∈ tbX6_bestWidth, tbB cX6_bestWidth x = true := tb_all (by decide +kernel)
def fX6_bestWidth_90 (c : Nat → Option Nat) (k44 : Hp → Option Nat → Int32 → Int32 → Int32 → Int32 → Int32 → Rs) (h : Hp) (l0 : Option Nat) (l1 : Int32) (l2 : Int32) (l3 : Int32) (l5 : Int32) (s0 : Int32) : Rs := k44 h l0 l1 l2 l3 s0 (l5 + (1 : Int32))
set_option maxHeartbeats 4000000 in
set_option maxRecDepth 100000 in
theorem sX6_bestWidth_90 (X : Cx) {h0 : Hp} (k44 : Hp → Option Nat → Int32 → Int32 → Int32 → Int32 → Int32 → Rs) (hk44 : ∀ (h : Hp) (l0 : Option Nat) (l1 : Int32) (l2 : Int32) (l3 : Int32) (l4 : Int32) (l5 : Int32), Gd X mX6_bestWidth h0 (k44 h l0 l1 l2 l3 l4 l5) h 44 [some (.inr (.inr l0)), some (.inl l1), some (.inl l2), some (.inl l3), some (.inl l4), some (.inl l5), none] []) (h : Hp) (l0 : Option Nat) (l1 : Int32) (l2 : Int32) (l3 : Int32) (l5 : Int32) (s0 : Int32) : Gd X mX6_bestWidth h0 (fX6_bestWidth_90 X.2.2.2 k44 h l0 l1 l2 l3 l5 s0) h 90 [some (.inr (.inr l0)), some (.inl l1), some (.inl l2), some (.inl l3), none, some (.inl l5), none] [.inl s0] := by
  unfold fX6_bestWidth_90
  refine q_run tkX6_bestWidth 47 3 (pc' := 44) (L' := [some (.inr (.inr l0)), some (.inl l1), some (.inl l2), some (.inl l3), some (.inl s0), some (.inl (l5 + (1 : Int32))), none]) (st' := []) rfl ?_
  exact hk44 h l0 l1 l2 l3 s0 (l5 + (1 : Int32))
def fX6_bestWidth_75 (c : Nat → Option Nat) (k44 : Hp → Option Nat → Int32 → Int32 → Int32 → Int32 → Int32 → Rs) (h : Hp) (l0 : Option Nat) (l1 : Int32) (l2 : Int32) (l4 : Int32) (l5 : Int32) (l6 : Int32) (s0 : Int32) : Rs := if l6 < l4 then (fX6_bestWidth_90 c k44 h l0 l1 l2 s0 l5 l6) else (fX6_bestWidth_90 c k44 h l0 l1 l2 s0 l5 l4)
set_option maxHeartbeats 4000000 in
set_option maxRecDepth 100000 in
theorem sX6_bestWidth_75 (X : Cx) {h0 : Hp} (k44 : Hp → Option Nat → Int32 → Int32 → Int32 → Int32 → Int32 → Rs) (hk44 : ∀ (h : Hp) (l0 : Option Nat) (l1 : Int32) (l2 : Int32) (l3 : Int32) (l4 : Int32) (l5 : Int32), Gd X mX6_bestWidth h0 (k44 h l0 l1 l2 l3 l4 l5) h 44 [some (.inr (.inr l0)), some (.inl l1), some (.inl l2), some (.inl l3), some (.inl l4), some (.inl l5), none] []) (h : Hp) (l0 : Option Nat) (l1 : Int32) (l2 : Int32) (l4 : Int32) (l5 : Int32) (l6 : Int32) (s0 : Int32) : Gd X mX6_bestWidth h0 (fX6_bestWidth_75 X.2.2.2 k44 h l0 l1 l2 l4 l5 l6 s0) h 75 [some (.inr (.inr l0)), some (.inl l1), some (.inl l2), none, some (.inl l4), some (.inl l5), some (.inl l6)] [.inl s0] := by
  unfold fX6_bestWidth_75
  refine q_run tkX6_bestWidth 40 3 (pc' := 80) (L' := [some (.inr (.inr l0)), some (.inl l1), some (.inl l2), some (.inl s0), some (.inl l4), some (.inl l5), some (.inl l6)]) (st' := [.inl l4, .inl l6]) rfl ?_
  refine q_icmp_ge (tbm tkX6_bestWidth (i := 43) rfl) ?_ ?_
  · refine q_run tkX6_bestWidth 44 2 (pc' := 90) (L' := [some (.inr (.inr l0)), some (.inl l1), some (.inl l2), some (.inl s0), some (.inl l4), some (.inl l5), some (.inl l6)]) (st' := [.inl l6]) rfl ?_
    refine q_le (L' := [some (.inr (.inr l0)), some (.inl l1), some (.inl l2), some (.inl s0), none, some (.inl l5), none]) (lvLe_s (lvLe_s (lvLe_s (lvLe_s (lvLe_n (lvLe_s (lvLe_n lvLe_0))))))) ?_
    exact sX6_bestWidth_90 X k44 hk44 h l0 l1 l2 s0 l5 l6
  · refine q_run tkX6_bestWidth 46 1 (pc' := 90) (L' := [some (.inr (.inr l0)), some (.inl l1), some (.inl l2), some (.inl s0), some (.inl l4), some (.inl l5), some (.inl l6)]) (st' := [.inl l4]) rfl ?_
    refine q_le (L' := [some (.inr (.inr l0)), some (.inl l1), some (.inl l2), some (.inl s0), none, some (.inl l5), none]) (lvLe_s (lvLe_s (lvLe_s (lvLe_s (lvLe_n (lvLe_s (lvLe_n lvLe_0))))))) ?_
    exact sX6_bestWidth_90 X k44 hk44 h l0 l1 l2 s0 l5 l4
def fX6_bestWidth_108 (c : Nat → Option Nat) (h : Hp) (s0 : Int32) : Rs := some (h, some (.inl s0))
set_option maxHeartbeats 4000000 in
set_option maxRecDepth 100000 in
theorem sX6_bestWidth_108 (X : Cx) {h0 : Hp} (h : Hp) (s0 : Int32) : Gd X mX6_bestWidth h0 (fX6_bestWidth_108 X.2.2.2 h s0) h 108 [none, none, none, none, none, none, none] [.inl s0] := by
  unfold fX6_bestWidth_108
  exact q_iret (tbm tkX6_bestWidth (i := 55) rfl) rfl
def fX6_bestWidth_44 (c : Nat → Option Nat) : Nat → Hp → Option Nat → Int32 → Int32 → Int32 → Int32 → Int32 → Rs
  | 0, _, _, _, _, _, _, _ => none
  | n + 1, h, l0, l1, l2, l3, l4, l5 => if (40 : Int32) < l5 then (if l2 = 0 then (fX6_bestWidth_108 c h l3) else (fX6_bestWidth_108 c h l4)) else (ck h l0 8 (cc (fX6_laysAll c h l0 l1 l5 (-6 : Int32)) (kI fun h1 x2 => if x2 < l4 then (fX6_bestWidth_75 c (fX6_bestWidth_44 c n) h1 l0 l1 l2 l4 l5 x2 l5) else (fX6_bestWidth_75 c (fX6_bestWidth_44 c n) h1 l0 l1 l2 l4 l5 x2 l3))))
set_option maxHeartbeats 4000000 in
set_option maxRecDepth 100000 in
theorem sX6_bestWidth_44 (X : Cx) {h0 : Hp} : ∀ (n : Nat) (h : Hp) (l0 : Option Nat) (l1 : Int32) (l2 : Int32) (l3 : Int32) (l4 : Int32) (l5 : Int32), Gd X mX6_bestWidth h0 (fX6_bestWidth_44 X.2.2.2 n h l0 l1 l2 l3 l4 l5) h 44 [some (.inr (.inr l0)), some (.inl l1), some (.inl l2), some (.inl l3), some (.inl l4), some (.inl l5), none] [] := by
  intro n
  induction n with
  | zero => intros; exact gd_none
  | succ n ih =>
    intro h l0 l1 l2 l3 l4 l5
    unfold fX6_bestWidth_44
    refine q_run tkX6_bestWidth 25 2 (pc' := 48) (L' := [some (.inr (.inr l0)), some (.inl l1), some (.inl l2), some (.inl l3), some (.inl l4), some (.inl l5), none]) (st' := [.inl (40 : Int32), .inl l5]) rfl ?_
    refine q_icmp_gt (tbm tkX6_bestWidth (i := 27) rfl) ?_ ?_
    · refine q_run tkX6_bestWidth 50 1 (pc' := 99) (L' := [some (.inr (.inr l0)), some (.inl l1), some (.inl l2), some (.inl l3), some (.inl l4), some (.inl l5), none]) (st' := [.inl l2]) rfl ?_
      refine q_if_ne (tbm tkX6_bestWidth (i := 51) rfl) ?_ ?_
      · refine q_run tkX6_bestWidth 52 2 (pc' := 108) (L' := [some (.inr (.inr l0)), some (.inl l1), some (.inl l2), some (.inl l3), some (.inl l4), some (.inl l5), none]) (st' := [.inl l3]) rfl ?_
        refine q_le (L' := [none, none, none, none, none, none, none]) (lvLe_n (lvLe_n (lvLe_n (lvLe_n (lvLe_n (lvLe_n (lvLe_n lvLe_0))))))) ?_
        exact sX6_bestWidth_108 X h l3
      · refine q_run tkX6_bestWidth 54 1 (pc' := 108) (L' := [some (.inr (.inr l0)), some (.inl l1), some (.inl l2), some (.inl l3), some (.inl l4), some (.inl l5), none]) (st' := [.inl l4]) rfl ?_
        refine q_le (L' := [none, none, none, none, none, none, none]) (lvLe_n (lvLe_n (lvLe_n (lvLe_n (lvLe_n (lvLe_n (lvLe_n lvLe_0))))))) ?_
        exact sX6_bestWidth_108 X h l4
    · refine q_run tkX6_bestWidth 28 4 (pc' := 57) (L' := [some (.inr (.inr l0)), some (.inl l1), some (.inl l2), some (.inl l3), some (.inl l4), some (.inl l5), none]) (st' := [.inl (-6 : Int32), .inl l5, .inl l1, .inr (.inr l0)]) rfl ?_
      refine q_cv (r := l0) (ci := 8) (n := 3) (as := [.inl l1, .inl l5, .inl (-6 : Int32)]) (st := []) TX6 15 (soX6_laysAll X h l0 l1 l5 (-6 : Int32)) (tbm tkX6_bestWidth (i := 32) rfl) rfl rfl ceX6_laysAll wd_1101 wd_37 wd_1099 rfl (Nat.le_of_ble_eq_true rfl) (kI_gd (fun h1 x2 => ?_))
      refine q_run tkX6_bestWidth 33 3 (pc' := 66) (L' := [some (.inr (.inr l0)), some (.inl l1), some (.inl l2), some (.inl l3), some (.inl l4), some (.inl l5), some (.inl x2)]) (st' := [.inl l4, .inl x2]) rfl ?_
      refine q_icmp_ge (tbm tkX6_bestWidth (i := 36) rfl) ?_ ?_
      · refine q_run tkX6_bestWidth 37 2 (pc' := 75) (L' := [some (.inr (.inr l0)), some (.inl l1), some (.inl l2), some (.inl l3), some (.inl l4), some (.inl l5), some (.inl x2)]) (st' := [.inl l5]) rfl ?_
        refine q_le (L' := [some (.inr (.inr l0)), some (.inl l1), some (.inl l2), none, some (.inl l4), some (.inl l5), some (.inl x2)]) (lvLe_s (lvLe_s (lvLe_s (lvLe_n (lvLe_s (lvLe_s (lvLe_s lvLe_0))))))) ?_
        exact sX6_bestWidth_75 X (fX6_bestWidth_44 X.2.2.2 n) ih h1 l0 l1 l2 l4 l5 x2 l5
      · refine q_run tkX6_bestWidth 39 1 (pc' := 75) (L' := [some (.inr (.inr l0)), some (.inl l1), some (.inl l2), some (.inl l3), some (.inl l4), some (.inl l5), some (.inl x2)]) (st' := [.inl l3]) rfl ?_
        refine q_le (L' := [some (.inr (.inr l0)), some (.inl l1), some (.inl l2), none, some (.inl l4), some (.inl l5), some (.inl x2)]) (lvLe_s (lvLe_s (lvLe_s (lvLe_n (lvLe_s (lvLe_s (lvLe_s lvLe_0))))))) ?_
        exact sX6_bestWidth_75 X (fX6_bestWidth_44 X.2.2.2 n) ih h1 l0 l1 l2 l4 l5 x2 l3
def fX6_bestWidth (c : Nat → Option Nat) (h : Hp) (a0 : Option Nat) (a1 : Int32) (a2 : Int32) : Rs := wr h a0 8 0 (.inl (0 : Int32)) (fun h3 => cc (fX6_isTill c h3 a1) (kI fun h4 x5 => if x5 = 0 then (some (h4, some (.inl (-1 : Int32)))) else (cc (fX6_in c h4 a2 (0 : Int32) (1 : Int32)) (kI fun h6 x7 => if x7 = 0 then (some (h6, some (.inl (-2 : Int32)))) else (ck h6 a0 8 (cc (fX6_laysAll c h6 a0 a1 (16 : Int32) (-6 : Int32)) (kI fun h8 x9 => fX6_bestWidth_44 c FU h8 a0 a1 a2 (16 : Int32) x9 (17 : Int32))))))))
set_option maxHeartbeats 4000000 in
set_option maxRecDepth 100000 in
theorem soX6_bestWidth (X : Cx) (h : Hp) (a0 : Option Nat) (a1 : Int32) (a2 : Int32) : SO X mX6_bestWidth [.inr (.inr a0), .inl a1, .inl a2] h (fX6_bestWidth X.2.2.2 h a0 a1 a2) := by
  refine so_of (by decide +kernel) (Nat.le_of_ble_eq_true rfl) ?_
  show Gd X mX6_bestWidth h (fX6_bestWidth X.2.2.2 h a0 a1 a2) h 0 [some (.inr (.inr a0)), some (.inl a1), some (.inl a2), none, none, none, none] []
  unfold fX6_bestWidth
  refine q_run tkX6_bestWidth 0 2 (pc' := 2) (L' := [some (.inr (.inr a0)), some (.inl a1), some (.inl a2), none, none, none, none]) (st' := [.inl (0 : Int32), .inr (.inr a0)]) rfl ?_
  refine q_wr RX6 TX6 15 (tbm tkX6_bestWidth (i := 2) rfl) rfl (Nat.le_of_ble_eq_true rfl) (Or.inl rfl) wd_935 (fun h3 => ?_)
  refine q_run tkX6_bestWidth 3 1 (pc' := 6) (L' := [some (.inr (.inr a0)), some (.inl a1), some (.inl a2), none, none, none, none]) (st' := [.inl a1]) rfl ?_
  refine q_cs (n := 1) (as := [.inl a1]) (st := []) (soX6_isTill X h3 a1) (tbm tkX6_bestWidth (i := 4) rfl) rfl ceX6_isTill wd_1004 wd_1003 rfl (Nat.le_of_ble_eq_true rfl) (kI_gd (fun h4 x5 => ?_))
  refine q_if_ne (tbm tkX6_bestWidth (i := 5) rfl) ?_ ?_
  · refine q_run tkX6_bestWidth 6 1 (pc' := 13) (L' := [some (.inr (.inr a0)), some (.inl a1), some (.inl a2), none, none, none, none]) (st' := [.inl (-1 : Int32)]) rfl ?_
    exact q_iret (tbm tkX6_bestWidth (i := 7) rfl) rfl
  · refine q_run tkX6_bestWidth 8 3 (pc' := 17) (L' := [some (.inr (.inr a0)), some (.inl a1), some (.inl a2), none, none, none, none]) (st' := [.inl (1 : Int32), .inl (0 : Int32), .inl a2]) rfl ?_
    refine q_cs (n := 3) (as := [.inl a2, .inl (0 : Int32), .inl (1 : Int32)]) (st := []) (soX6_in X h4 a2 (0 : Int32) (1 : Int32)) (tbm tkX6_bestWidth (i := 11) rfl) rfl ceX6_in wd_987 wd_986 rfl (Nat.le_of_ble_eq_true rfl) (kI_gd (fun h6 x7 => ?_))
    refine q_if_ne (tbm tkX6_bestWidth (i := 12) rfl) ?_ ?_
    · refine q_run tkX6_bestWidth 13 1 (pc' := 25) (L' := [some (.inr (.inr a0)), some (.inl a1), some (.inl a2), none, none, none, none]) (st' := [.inl (-2 : Int32)]) rfl ?_
      exact q_iret (tbm tkX6_bestWidth (i := 14) rfl) rfl
    · refine q_run tkX6_bestWidth 15 6 (pc' := 35) (L' := [some (.inr (.inr a0)), some (.inl a1), some (.inl a2), some (.inl (16 : Int32)), none, none, none]) (st' := [.inl (-6 : Int32), .inl (16 : Int32), .inl a1, .inr (.inr a0)]) rfl ?_
      refine q_cv (r := a0) (ci := 8) (n := 3) (as := [.inl a1, .inl (16 : Int32), .inl (-6 : Int32)]) (st := []) TX6 15 (soX6_laysAll X h6 a0 a1 (16 : Int32) (-6 : Int32)) (tbm tkX6_bestWidth (i := 21) rfl) rfl rfl ceX6_laysAll wd_1101 wd_37 wd_1099 rfl (Nat.le_of_ble_eq_true rfl) (kI_gd (fun h8 x9 => ?_))
      refine q_run tkX6_bestWidth 22 3 (pc' := 44) (L' := [some (.inr (.inr a0)), some (.inl a1), some (.inl a2), some (.inl (16 : Int32)), some (.inl x9), some (.inl (17 : Int32)), none]) (st' := []) rfl ?_
      exact sX6_bestWidth_44 X FU h8 a0 a1 a2 (16 : Int32) x9 (17 : Int32)
theorem ceX6_bestWidth : Ce mX6_bestWidth 2 := ⟨wd_81, wd_1289, by decide +kernel, by decide +kernel, by decide +kernel⟩
/-- ReceiptRollsModel.ifStruck -/
abbrev mX6_ifStruck : MI := (yX6_ifStruck, cX6_ifStruck, 3, some .int, 5)
def tbX6_ifStruck : List TE := [(0, .aload_n 0, 1, 0, 0), (1, .iconst 0, 1, 0, 0), (2, .putfield 32, 3, 0, 0), (5, .aload_n 0, 1, 0, 0), (6, .iload_n 1, 1, 0, 0), (7, .iload_n 2, 1, 0, 0), (8, .invokevirtual 209, 3, 0, 0), (11, .ifCond .ne 5, 3, 0, 16), (14, .iconst (-1), 1, -1, 0), (15, .ireturn, 1, 0, 0), (16, .aload_n 0, 1, 0, 0), (17, .iload_n 1, 1, 0, 0), (18, .invokevirtual 134, 3, 0, 0), (21, .aload_n 0, 1, 0, 0), (22, .iload_n 1, 1, 0, 0), (23, .iload_n 2, 1, 0, 0), (24, .invokevirtual 60, 3, 0, 0), (27, .ifCond .eq 12, 3, 0, 39), (30, .aload_n 0, 1, 0, 0), (31, .iload_n 1, 1, 0, 0), (32, .iload_n 2, 1, 0, 0), (33, .invokevirtual 64, 3, 0, 0), (36, .goto 10, 3, 0, 46), (39, .aload_n 0, 1, 0, 0), (40, .iload_n 1, 1, 0, 0), (41, .iload_n 2, 1, 0, 0), (42, .invokevirtual 64, 3, 0, 0), (45, .ineg, 1, 0, 0), (46, .iadd, 1, 0, 0), (47, .ireturn, 1, 0, 0)]
theorem tkX6_ifStruck : ∀ x ∈ tbX6_ifStruck, tbB cX6_ifStruck x = true := tb_all (by decide +kernel)
def fX6_ifStruck_46 (c : Nat → Option Nat) (h : Hp) (s0 : Int32) (s1 : Int32) : Rs := some (h, some (.inl (s0 + s1)))
set_option maxHeartbeats 4000000 in
set_option maxRecDepth 100000 in
theorem sX6_ifStruck_46 (X : Cx) {h0 : Hp} (h : Hp) (s0 : Int32) (s1 : Int32) : Gd X mX6_ifStruck h0 (fX6_ifStruck_46 X.2.2.2 h s0 s1) h 46 [none, none, none] [.inl s1, .inl s0] := by
  unfold fX6_ifStruck_46
  refine q_run tkX6_ifStruck 28 1 (pc' := 47) (L' := [none, none, none]) (st' := [.inl (s0 + s1)]) rfl ?_
  exact q_iret (tbm tkX6_ifStruck (i := 29) rfl) rfl
def fX6_ifStruck (c : Nat → Option Nat) (h : Hp) (a0 : Option Nat) (a1 : Int32) (a2 : Int32) : Rs := wr h a0 8 0 (.inl (0 : Int32)) (fun h1 => ck h1 a0 8 (cc (fX6_isItem c h1 a0 a1 a2) (kI fun h2 x3 => if x3 = 0 then (some (h2, some (.inl (-1 : Int32)))) else (ck h2 a0 8 (cc (fX6_total c h2 a0 a1) (kI fun h4 x5 => ck h4 a0 8 (cc (fX6_isStruck c h4 a0 a1 a2) (kI fun h6 x7 => if x7 = 0 then (ck h6 a0 8 (cc (fX6_sum c h6 a0 a1 a2) (kI fun h8 x9 => fX6_ifStruck_46 c h8 x5 (-x9)))) else (ck h6 a0 8 (cc (fX6_sum c h6 a0 a1 a2) (kI fun h10 x11 => fX6_ifStruck_46 c h10 x5 x11)))))))))))
set_option maxHeartbeats 4000000 in
set_option maxRecDepth 100000 in
theorem soX6_ifStruck (X : Cx) (h : Hp) (a0 : Option Nat) (a1 : Int32) (a2 : Int32) : SO X mX6_ifStruck [.inr (.inr a0), .inl a1, .inl a2] h (fX6_ifStruck X.2.2.2 h a0 a1 a2) := by
  refine so_of (by decide +kernel) (Nat.le_of_ble_eq_true rfl) ?_
  show Gd X mX6_ifStruck h (fX6_ifStruck X.2.2.2 h a0 a1 a2) h 0 [some (.inr (.inr a0)), some (.inl a1), some (.inl a2)] []
  unfold fX6_ifStruck
  refine q_run tkX6_ifStruck 0 2 (pc' := 2) (L' := [some (.inr (.inr a0)), some (.inl a1), some (.inl a2)]) (st' := [.inl (0 : Int32), .inr (.inr a0)]) rfl ?_
  refine q_wr RX6 TX6 15 (tbm tkX6_ifStruck (i := 2) rfl) rfl (Nat.le_of_ble_eq_true rfl) (Or.inl rfl) wd_935 (fun h1 => ?_)
  refine q_run tkX6_ifStruck 3 3 (pc' := 8) (L' := [some (.inr (.inr a0)), some (.inl a1), some (.inl a2)]) (st' := [.inl a2, .inl a1, .inr (.inr a0)]) rfl ?_
  refine q_cv (r := a0) (ci := 8) (n := 2) (as := [.inl a1, .inl a2]) (st := []) TX6 15 (soX6_isItem X h1 a0 a1 a2) (tbm tkX6_ifStruck (i := 6) rfl) rfl rfl ceX6_isItem wd_1032 wd_24 wd_1030 rfl (Nat.le_of_ble_eq_true rfl) (kI_gd (fun h2 x3 => ?_))
  refine q_if_ne (tbm tkX6_ifStruck (i := 7) rfl) ?_ ?_
  · refine q_run tkX6_ifStruck 8 1 (pc' := 15) (L' := [some (.inr (.inr a0)), some (.inl a1), some (.inl a2)]) (st' := [.inl (-1 : Int32)]) rfl ?_
    exact q_iret (tbm tkX6_ifStruck (i := 9) rfl) rfl
  · refine q_run tkX6_ifStruck 10 2 (pc' := 18) (L' := [some (.inr (.inr a0)), some (.inl a1), some (.inl a2)]) (st' := [.inl a1, .inr (.inr a0)]) rfl ?_
    refine q_cv (r := a0) (ci := 8) (n := 1) (as := [.inl a1]) (st := []) TX6 15 (soX6_total X h2 a0 a1) (tbm tkX6_ifStruck (i := 12) rfl) rfl rfl ceX6_total wd_1157 wd_51 wd_1155 rfl (Nat.le_of_ble_eq_true rfl) (kI_gd (fun h4 x5 => ?_))
    refine q_run tkX6_ifStruck 13 3 (pc' := 24) (L' := [some (.inr (.inr a0)), some (.inl a1), some (.inl a2)]) (st' := [.inl a2, .inl a1, .inr (.inr a0), .inl x5]) rfl ?_
    refine q_cv (r := a0) (ci := 8) (n := 2) (as := [.inl a1, .inl a2]) (st := [.inl x5]) TX6 15 (soX6_isStruck X h4 a0 a1 a2) (tbm tkX6_ifStruck (i := 16) rfl) rfl rfl ceX6_isStruck wd_1036 wd_25 wd_1034 rfl (Nat.le_of_ble_eq_true rfl) (kI_gd (fun h6 x7 => ?_))
    refine q_if_eq (tbm tkX6_ifStruck (i := 17) rfl) ?_ ?_
    · refine q_run tkX6_ifStruck 23 3 (pc' := 42) (L' := [some (.inr (.inr a0)), some (.inl a1), some (.inl a2)]) (st' := [.inl a2, .inl a1, .inr (.inr a0), .inl x5]) rfl ?_
      refine q_cv (r := a0) (ci := 8) (n := 2) (as := [.inl a1, .inl a2]) (st := [.inl x5]) TX6 15 (soX6_sum X h6 a0 a1 a2) (tbm tkX6_ifStruck (i := 26) rfl) rfl rfl ceX6_sum wd_1045 wd_27 wd_1043 rfl (Nat.le_of_ble_eq_true rfl) (kI_gd (fun h8 x9 => ?_))
      refine q_run tkX6_ifStruck 27 1 (pc' := 46) (L' := [some (.inr (.inr a0)), some (.inl a1), some (.inl a2)]) (st' := [.inl (-x9), .inl x5]) rfl ?_
      refine q_le (L' := [none, none, none]) (lvLe_n (lvLe_n (lvLe_n lvLe_0))) ?_
      exact sX6_ifStruck_46 X h8 x5 (-x9)
    · refine q_run tkX6_ifStruck 18 3 (pc' := 33) (L' := [some (.inr (.inr a0)), some (.inl a1), some (.inl a2)]) (st' := [.inl a2, .inl a1, .inr (.inr a0), .inl x5]) rfl ?_
      refine q_cv (r := a0) (ci := 8) (n := 2) (as := [.inl a1, .inl a2]) (st := [.inl x5]) TX6 15 (soX6_sum X h6 a0 a1 a2) (tbm tkX6_ifStruck (i := 21) rfl) rfl rfl ceX6_sum wd_1045 wd_27 wd_1043 rfl (Nat.le_of_ble_eq_true rfl) (kI_gd (fun h10 x11 => ?_))
      refine q_run tkX6_ifStruck 22 1 (pc' := 46) (L' := [some (.inr (.inr a0)), some (.inl a1), some (.inl a2)]) (st' := [.inl x11, .inl x5]) rfl ?_
      refine q_le (L' := [none, none, none]) (lvLe_n (lvLe_n (lvLe_n lvLe_0))) ?_
      exact sX6_ifStruck_46 X h10 x5 x11
theorem ceX6_ifStruck : Ce mX6_ifStruck 2 := ⟨wd_81, wd_1293, by decide +kernel, by decide +kernel, by decide +kernel⟩
/-- ReceiptRollsModel.put -/
abbrev mX6_put : MI := (yX6_put, cX6_put, 8, some .int, 1)
def tbX6_put : List TE := [(0, .aload_n 0, 1, 0, 0), (1, .iconst 0, 1, 0, 0), (2, .putfield 32, 3, 0, 0), (5, .iconst 0, 1, 0, 0), (6, .istore_n 3, 1, 0, 0), (7, .lload_n 1, 1, 0, 0), (8, .lstore 4, 2, 0, 0), (10, .iconst 1, 1, 1, 0), (11, .istore 6, 2, 0, 0), (13, .iload_n 3, 1, 0, 0), (14, .bipush 8, 2, 8, 0), (16, .if_icmp .ge 56, 3, 0, 72), (19, .lload 4, 2, 0, 0), (21, .ldc2_w 243, 3, 0, 0), (24, .land, 1, 0, 0), (25, .lconst 0, 1, 0, 0), (26, .lcmp, 1, 0, 0), (27, .ifCond .eq 45, 3, 0, 72), (30, .iload 6, 2, 0, 0), (32, .ifCond .eq 24, 3, 0, 56), (35, .lload 4, 2, 0, 0), (37, .ldc2_w 243, 3, 0, 0), (40, .land, 1, 0, 0), (41, .l2i, 1, 0, 0), (42, .bipush 33, 2, 33, 0), (44, .bipush 126, 2, 126, 0), (46, .invokestatic 40, 3, 0, 0), (49, .ifCond .eq 7, 3, 0, 56), (52, .iconst 1, 1, 1, 0), (53, .goto 4, 3, 0, 57), (56, .iconst 0, 1, 0, 0), (57, .istore 6, 2, 0, 0), (59, .lload 4, 2, 0, 0), (61, .bipush 8, 2, 8, 0), (63, .lushr, 1, 0, 0), (64, .lstore 4, 2, 0, 0), (66, .iinc 3 1, 3, 1, 0), (69, .goto (-56), 3, 0, 13), (72, .iload_n 3, 1, 0, 0), (73, .ifCond .eq 15, 3, 0, 88), (76, .iload 6, 2, 0, 0), (78, .ifCond .eq 10, 3, 0, 88), (81, .lload 4, 2, 0, 0), (83, .lconst 0, 1, 0, 0), (84, .lcmp, 1, 0, 0), (85, .ifCond .eq 6, 3, 0, 91), (88, .bipush (-2), 2, -2, 0), (90, .ireturn, 1, 0, 0), (91, .aload_n 0, 1, 0, 0), (92, .getfield 193, 3, 0, 0), (95, .iload_n 3, 1, 0, 0), (96, .iadd, 1, 0, 0), (97, .bipush 80, 2, 80, 0), (99, .if_icmp .le 6, 3, 0, 105), (102, .bipush (-4), 2, -4, 0), (104, .ireturn, 1, 0, 0), (105, .iconst 0, 1, 0, 0), (106, .istore 7, 2, 0, 0), (108, .iload 7, 2, 0, 0), (110, .iload_n 3, 1, 0, 0), (111, .if_icmp .ge 37, 3, 0, 148), (114, .aload_n 0, 1, 0, 0), (115, .getfield 23, 3, 0, 0), (118, .aload_n 0, 1, 0, 0), (119, .getfield 193, 3, 0, 0), (122, .iload 7, 2, 0, 0), (124, .iadd, 1, 0, 0), (125, .lload_n 1, 1, 0, 0), (126, .bipush 8, 2, 8, 0), (128, .iload_n 3, 1, 0, 0), (129, .iconst 1, 1, 1, 0), (130, .isub, 1, 0, 0), (131, .iload 7, 2, 0, 0), (133, .isub, 1, 0, 0), (134, .imul, 1, 0, 0), (135, .lushr, 1, 0, 0), (136, .ldc2_w 243, 3, 0, 0), (139, .land, 1, 0, 0), (140, .l2i, 1, 0, 0), (141, .iastore, 1, 0, 0), (142, .iinc 7 1, 3, 1, 0), (145, .goto (-37), 3, 0, 108), (148, .aload_n 0, 1, 0, 0), (149, .dup, 1, 0, 0), (150, .getfield 193, 3, 0, 0), (153, .iload_n 3, 1, 0, 0), (154, .iadd, 1, 0, 0), (155, .putfield 193, 3, 0, 0), (158, .aload_n 0, 1, 0, 0), (159, .getfield 193, 3, 0, 0), (162, .ireturn, 1, 0, 0)]
theorem tkX6_put : ∀ x ∈ tbX6_put, tbB cX6_put x = true := tb_all (by decide +kernel)
def fX6_put_57 (c : Nat → Option Nat) (k13 : Hp → Option Nat → Int64 → Int32 → Int64 → Int32 → Rs) (h : Hp) (l0 : Option Nat) (l1 : Int64) (l3 : Int32) (l4 : Int64) (s0 : Int32) : Rs := k13 h l0 l1 (l3 + (1 : Int32)) (ushrL l4 (8 : Int32)) s0
set_option maxHeartbeats 4000000 in
set_option maxRecDepth 100000 in
theorem sX6_put_57 (X : Cx) {h0 : Hp} (k13 : Hp → Option Nat → Int64 → Int32 → Int64 → Int32 → Rs) (hk13 : ∀ (h : Hp) (l0 : Option Nat) (l1 : Int64) (l3 : Int32) (l4 : Int64) (l6 : Int32), Gd X mX6_put h0 (k13 h l0 l1 l3 l4 l6) h 13 [some (.inr (.inr l0)), some (.inr (.inl l1)), none, some (.inl l3), some (.inr (.inl l4)), none, some (.inl l6), none] []) (h : Hp) (l0 : Option Nat) (l1 : Int64) (l3 : Int32) (l4 : Int64) (s0 : Int32) : Gd X mX6_put h0 (fX6_put_57 X.2.2.2 k13 h l0 l1 l3 l4 s0) h 57 [some (.inr (.inr l0)), some (.inr (.inl l1)), none, some (.inl l3), some (.inr (.inl l4)), none, none, none] [.inl s0] := by
  unfold fX6_put_57
  refine q_run tkX6_put 31 7 (pc' := 13) (L' := [some (.inr (.inr l0)), some (.inr (.inl l1)), none, some (.inl (l3 + (1 : Int32))), some (.inr (.inl (ushrL l4 (8 : Int32)))), none, some (.inl s0), none]) (st' := []) rfl ?_
  exact hk13 h l0 l1 (l3 + (1 : Int32)) (ushrL l4 (8 : Int32)) s0
def fX6_put_56 (c : Nat → Option Nat) (k13 : Hp → Option Nat → Int64 → Int32 → Int64 → Int32 → Rs) (h : Hp) (l0 : Option Nat) (l1 : Int64) (l3 : Int32) (l4 : Int64) : Rs := fX6_put_57 c k13 h l0 l1 l3 l4 (0 : Int32)
set_option maxHeartbeats 4000000 in
set_option maxRecDepth 100000 in
theorem sX6_put_56 (X : Cx) {h0 : Hp} (k13 : Hp → Option Nat → Int64 → Int32 → Int64 → Int32 → Rs) (hk13 : ∀ (h : Hp) (l0 : Option Nat) (l1 : Int64) (l3 : Int32) (l4 : Int64) (l6 : Int32), Gd X mX6_put h0 (k13 h l0 l1 l3 l4 l6) h 13 [some (.inr (.inr l0)), some (.inr (.inl l1)), none, some (.inl l3), some (.inr (.inl l4)), none, some (.inl l6), none] []) (h : Hp) (l0 : Option Nat) (l1 : Int64) (l3 : Int32) (l4 : Int64) : Gd X mX6_put h0 (fX6_put_56 X.2.2.2 k13 h l0 l1 l3 l4) h 56 [some (.inr (.inr l0)), some (.inr (.inl l1)), none, some (.inl l3), some (.inr (.inl l4)), none, none, none] [] := by
  unfold fX6_put_56
  refine q_run tkX6_put 30 1 (pc' := 57) (L' := [some (.inr (.inr l0)), some (.inr (.inl l1)), none, some (.inl l3), some (.inr (.inl l4)), none, none, none]) (st' := [.inl (0 : Int32)]) rfl ?_
  exact sX6_put_57 X k13 hk13 h l0 l1 l3 l4 (0 : Int32)
def fX6_put_88 (c : Nat → Option Nat) (h : Hp) : Rs := some (h, some (.inl (-2 : Int32)))
set_option maxHeartbeats 4000000 in
set_option maxRecDepth 100000 in
theorem sX6_put_88 (X : Cx) {h0 : Hp} (h : Hp) : Gd X mX6_put h0 (fX6_put_88 X.2.2.2 h) h 88 [none, none, none, none, none, none, none, none] [] := by
  unfold fX6_put_88
  refine q_run tkX6_put 46 1 (pc' := 90) (L' := [none, none, none, none, none, none, none, none]) (st' := [.inl (-2 : Int32)]) rfl ?_
  exact q_iret (tbm tkX6_put (i := 47) rfl) rfl
def fX6_put_108 (c : Nat → Option Nat) : Nat → Hp → Option Nat → Int64 → Int32 → Int32 → Rs
  | 0, _, _, _, _, _ => none
  | n + 1, h, l0, l1, l3, l7 => if l7 < l3 then (rdR h l0 8 6 (fun r1 => rdI h l0 8 7 (fun x2 => astI h r1 [0] (x2 + l7) (Int64.toInt32 ((ushrL l1 ((8 : Int32) * ((l3 - (1 : Int32)) - l7))) &&& (255 : Int64))) (fun h3 => fX6_put_108 c n h3 l0 l1 l3 (l7 + (1 : Int32)))))) else (rdI h l0 8 7 (fun x4 => wr h l0 8 7 (.inl (x4 + l3)) (fun h5 => rdI h5 l0 8 7 (fun x6 => some (h5, some (.inl x6))))))
set_option maxHeartbeats 4000000 in
set_option maxRecDepth 100000 in
theorem sX6_put_108 (X : Cx) {h0 : Hp} : ∀ (n : Nat) (h : Hp) (l0 : Option Nat) (l1 : Int64) (l3 : Int32) (l7 : Int32), Gd X mX6_put h0 (fX6_put_108 X.2.2.2 n h l0 l1 l3 l7) h 108 [some (.inr (.inr l0)), some (.inr (.inl l1)), none, some (.inl l3), none, none, none, some (.inl l7)] [] := by
  intro n
  induction n with
  | zero => intros; exact gd_none
  | succ n ih =>
    intro h l0 l1 l3 l7
    unfold fX6_put_108
    refine q_run tkX6_put 58 2 (pc' := 111) (L' := [some (.inr (.inr l0)), some (.inr (.inl l1)), none, some (.inl l3), none, none, none, some (.inl l7)]) (st' := [.inl l3, .inl l7]) rfl ?_
    refine q_icmp_ge (tbm tkX6_put (i := 60) rfl) ?_ ?_
    · refine q_run tkX6_put 61 1 (pc' := 115) (L' := [some (.inr (.inr l0)), some (.inr (.inl l1)), none, some (.inl l3), none, none, none, some (.inl l7)]) (st' := [.inr (.inr l0)]) rfl ?_
      refine q_rdR RX6 TX6 15 (tbm tkX6_put (i := 62) rfl) rfl (Nat.le_of_ble_eq_true rfl) wd_941 (fun r1 => ?_)
      refine q_run tkX6_put 63 1 (pc' := 119) (L' := [some (.inr (.inr l0)), some (.inr (.inl l1)), none, some (.inl l3), none, none, none, some (.inl l7)]) (st' := [.inr (.inr l0), .inr (.inr r1)]) rfl ?_
      refine q_rdI RX6 TX6 15 (tbm tkX6_put (i := 64) rfl) rfl (Nat.le_of_ble_eq_true rfl) wd_942 (fun x2 => ?_)
      refine q_run tkX6_put 65 11 (pc' := 136) (L' := [some (.inr (.inr l0)), some (.inr (.inl l1)), none, some (.inl l3), none, none, none, some (.inl l7)]) (st' := [.inr (.inl (ushrL l1 ((8 : Int32) * ((l3 - (1 : Int32)) - l7)))), .inl (x2 + l7), .inr (.inr r1)]) rfl ?_
      refine q_ldc2 (w := (255 : Int64)) (tbm tkX6_put (i := 76) rfl) wd_1298 ?_
      refine q_run tkX6_put 77 2 (pc' := 141) (L' := [some (.inr (.inr l0)), some (.inr (.inl l1)), none, some (.inl l3), none, none, none, some (.inl l7)]) (st' := [.inl (Int64.toInt32 ((ushrL l1 ((8 : Int32) * ((l3 - (1 : Int32)) - l7))) &&& (255 : Int64))), .inl (x2 + l7), .inr (.inr r1)]) rfl ?_
      refine q_iastore (tbm tkX6_put (i := 79) rfl) (fun h3 => ?_)
      refine q_run tkX6_put 80 2 (pc' := 108) (L' := [some (.inr (.inr l0)), some (.inr (.inl l1)), none, some (.inl l3), none, none, none, some (.inl (l7 + (1 : Int32)))]) (st' := []) rfl ?_
      exact ih h3 l0 l1 l3 (l7 + (1 : Int32))
    · refine q_run tkX6_put 82 2 (pc' := 150) (L' := [some (.inr (.inr l0)), some (.inr (.inl l1)), none, some (.inl l3), none, none, none, some (.inl l7)]) (st' := [.inr (.inr l0), .inr (.inr l0)]) rfl ?_
      refine q_rdI RX6 TX6 15 (tbm tkX6_put (i := 84) rfl) rfl (Nat.le_of_ble_eq_true rfl) wd_942 (fun x4 => ?_)
      refine q_run tkX6_put 85 2 (pc' := 155) (L' := [some (.inr (.inr l0)), some (.inr (.inl l1)), none, some (.inl l3), none, none, none, some (.inl l7)]) (st' := [.inl (x4 + l3), .inr (.inr l0)]) rfl ?_
      refine q_wr RX6 TX6 15 (tbm tkX6_put (i := 87) rfl) rfl (Nat.le_of_ble_eq_true rfl) (Or.inl rfl) wd_942 (fun h5 => ?_)
      refine q_run tkX6_put 88 1 (pc' := 159) (L' := [some (.inr (.inr l0)), some (.inr (.inl l1)), none, some (.inl l3), none, none, none, some (.inl l7)]) (st' := [.inr (.inr l0)]) rfl ?_
      refine q_rdI RX6 TX6 15 (tbm tkX6_put (i := 89) rfl) rfl (Nat.le_of_ble_eq_true rfl) wd_942 (fun x6 => ?_)
      exact q_iret (tbm tkX6_put (i := 90) rfl) rfl
def fX6_put_72 (c : Nat → Option Nat) (h : Hp) (l0 : Option Nat) (l1 : Int64) (l3 : Int32) (l4 : Int64) (l6 : Int32) : Rs := if l3 = 0 then (fX6_put_88 c h) else (if l6 = 0 then (fX6_put_88 c h) else (if (lg_cmp l4 (0 : Int64)) = 0 then (rdI h l0 8 7 (fun x7 => if (80 : Int32) < (x7 + l3) then (some (h, some (.inl (-4 : Int32)))) else (fX6_put_108 c FU h l0 l1 l3 (0 : Int32)))) else (fX6_put_88 c h)))
set_option maxHeartbeats 4000000 in
set_option maxRecDepth 100000 in
theorem sX6_put_72 (X : Cx) {h0 : Hp} (h : Hp) (l0 : Option Nat) (l1 : Int64) (l3 : Int32) (l4 : Int64) (l6 : Int32) : Gd X mX6_put h0 (fX6_put_72 X.2.2.2 h l0 l1 l3 l4 l6) h 72 [some (.inr (.inr l0)), some (.inr (.inl l1)), none, some (.inl l3), some (.inr (.inl l4)), none, some (.inl l6), none] [] := by
  unfold fX6_put_72
  refine q_run tkX6_put 38 1 (pc' := 73) (L' := [some (.inr (.inr l0)), some (.inr (.inl l1)), none, some (.inl l3), some (.inr (.inl l4)), none, some (.inl l6), none]) (st' := [.inl l3]) rfl ?_
  refine q_if_eq (tbm tkX6_put (i := 39) rfl) ?_ ?_
  · refine q_le (L' := [none, none, none, none, none, none, none, none]) (lvLe_n (lvLe_n (lvLe_n (lvLe_n (lvLe_n (lvLe_n (lvLe_n (lvLe_n lvLe_0)))))))) ?_
    exact sX6_put_88 X h
  · refine q_run tkX6_put 40 1 (pc' := 78) (L' := [some (.inr (.inr l0)), some (.inr (.inl l1)), none, some (.inl l3), some (.inr (.inl l4)), none, some (.inl l6), none]) (st' := [.inl l6]) rfl ?_
    refine q_if_eq (tbm tkX6_put (i := 41) rfl) ?_ ?_
    · refine q_le (L' := [none, none, none, none, none, none, none, none]) (lvLe_n (lvLe_n (lvLe_n (lvLe_n (lvLe_n (lvLe_n (lvLe_n (lvLe_n lvLe_0)))))))) ?_
      exact sX6_put_88 X h
    · refine q_run tkX6_put 42 1 (pc' := 83) (L' := [some (.inr (.inr l0)), some (.inr (.inl l1)), none, some (.inl l3), some (.inr (.inl l4)), none, some (.inl l6), none]) (st' := [.inr (.inl l4)]) rfl ?_
      refine q_lconst (w := (0 : Int64)) (tbm tkX6_put (i := 43) rfl) rfl ?_
      refine q_run tkX6_put 44 1 (pc' := 85) (L' := [some (.inr (.inr l0)), some (.inr (.inl l1)), none, some (.inl l3), some (.inr (.inl l4)), none, some (.inl l6), none]) (st' := [.inl (lg_cmp l4 (0 : Int64))]) rfl ?_
      refine q_if_eq (tbm tkX6_put (i := 45) rfl) ?_ ?_
      · refine q_run tkX6_put 48 1 (pc' := 92) (L' := [some (.inr (.inr l0)), some (.inr (.inl l1)), none, some (.inl l3), some (.inr (.inl l4)), none, some (.inl l6), none]) (st' := [.inr (.inr l0)]) rfl ?_
        refine q_rdI RX6 TX6 15 (tbm tkX6_put (i := 49) rfl) rfl (Nat.le_of_ble_eq_true rfl) wd_942 (fun x7 => ?_)
        refine q_run tkX6_put 50 3 (pc' := 99) (L' := [some (.inr (.inr l0)), some (.inr (.inl l1)), none, some (.inl l3), some (.inr (.inl l4)), none, some (.inl l6), none]) (st' := [.inl (80 : Int32), .inl (x7 + l3)]) rfl ?_
        refine q_icmp_le (tbm tkX6_put (i := 53) rfl) ?_ ?_
        · refine q_run tkX6_put 54 1 (pc' := 104) (L' := [some (.inr (.inr l0)), some (.inr (.inl l1)), none, some (.inl l3), some (.inr (.inl l4)), none, some (.inl l6), none]) (st' := [.inl (-4 : Int32)]) rfl ?_
          exact q_iret (tbm tkX6_put (i := 55) rfl) rfl
        · refine q_run tkX6_put 56 2 (pc' := 108) (L' := [some (.inr (.inr l0)), some (.inr (.inl l1)), none, some (.inl l3), some (.inr (.inl l4)), none, some (.inl l6), some (.inl (0 : Int32))]) (st' := []) rfl ?_
          refine q_le (L' := [some (.inr (.inr l0)), some (.inr (.inl l1)), none, some (.inl l3), none, none, none, some (.inl (0 : Int32))]) (lvLe_s (lvLe_s (lvLe_n (lvLe_s (lvLe_n (lvLe_n (lvLe_n (lvLe_s lvLe_0)))))))) ?_
          exact sX6_put_108 X FU h l0 l1 l3 (0 : Int32)
      · refine q_le (L' := [none, none, none, none, none, none, none, none]) (lvLe_n (lvLe_n (lvLe_n (lvLe_n (lvLe_n (lvLe_n (lvLe_n (lvLe_n lvLe_0)))))))) ?_
        exact sX6_put_88 X h
def fX6_put_13 (c : Nat → Option Nat) : Nat → Hp → Option Nat → Int64 → Int32 → Int64 → Int32 → Rs
  | 0, _, _, _, _, _, _ => none
  | n + 1, h, l0, l1, l3, l4, l6 => if l3 < (8 : Int32) then (if (lg_cmp (l4 &&& (255 : Int64)) (0 : Int64)) = 0 then (fX6_put_72 c h l0 l1 l3 l4 l6) else (if l6 = 0 then (fX6_put_56 c (fX6_put_13 c n) h l0 l1 l3 l4) else (cc (fX6_in c h (Int64.toInt32 (l4 &&& (255 : Int64))) (33 : Int32) (126 : Int32)) (kI fun h8 x9 => if x9 = 0 then (fX6_put_56 c (fX6_put_13 c n) h8 l0 l1 l3 l4) else (fX6_put_57 c (fX6_put_13 c n) h8 l0 l1 l3 l4 (1 : Int32)))))) else (fX6_put_72 c h l0 l1 l3 l4 l6)
set_option maxHeartbeats 4000000 in
set_option maxRecDepth 100000 in
theorem sX6_put_13 (X : Cx) {h0 : Hp} : ∀ (n : Nat) (h : Hp) (l0 : Option Nat) (l1 : Int64) (l3 : Int32) (l4 : Int64) (l6 : Int32), Gd X mX6_put h0 (fX6_put_13 X.2.2.2 n h l0 l1 l3 l4 l6) h 13 [some (.inr (.inr l0)), some (.inr (.inl l1)), none, some (.inl l3), some (.inr (.inl l4)), none, some (.inl l6), none] [] := by
  intro n
  induction n with
  | zero => intros; exact gd_none
  | succ n ih =>
    intro h l0 l1 l3 l4 l6
    unfold fX6_put_13
    refine q_run tkX6_put 9 2 (pc' := 16) (L' := [some (.inr (.inr l0)), some (.inr (.inl l1)), none, some (.inl l3), some (.inr (.inl l4)), none, some (.inl l6), none]) (st' := [.inl (8 : Int32), .inl l3]) rfl ?_
    refine q_icmp_ge (tbm tkX6_put (i := 11) rfl) ?_ ?_
    · refine q_run tkX6_put 12 1 (pc' := 21) (L' := [some (.inr (.inr l0)), some (.inr (.inl l1)), none, some (.inl l3), some (.inr (.inl l4)), none, some (.inl l6), none]) (st' := [.inr (.inl l4)]) rfl ?_
      refine q_ldc2 (w := (255 : Int64)) (tbm tkX6_put (i := 13) rfl) wd_1298 ?_
      refine q_run tkX6_put 14 1 (pc' := 25) (L' := [some (.inr (.inr l0)), some (.inr (.inl l1)), none, some (.inl l3), some (.inr (.inl l4)), none, some (.inl l6), none]) (st' := [.inr (.inl (l4 &&& (255 : Int64)))]) rfl ?_
      refine q_lconst (w := (0 : Int64)) (tbm tkX6_put (i := 15) rfl) rfl ?_
      refine q_run tkX6_put 16 1 (pc' := 27) (L' := [some (.inr (.inr l0)), some (.inr (.inl l1)), none, some (.inl l3), some (.inr (.inl l4)), none, some (.inl l6), none]) (st' := [.inl (lg_cmp (l4 &&& (255 : Int64)) (0 : Int64))]) rfl ?_
      refine q_if_eq (tbm tkX6_put (i := 17) rfl) ?_ ?_
      · exact sX6_put_72 X h l0 l1 l3 l4 l6
      · refine q_run tkX6_put 18 1 (pc' := 32) (L' := [some (.inr (.inr l0)), some (.inr (.inl l1)), none, some (.inl l3), some (.inr (.inl l4)), none, some (.inl l6), none]) (st' := [.inl l6]) rfl ?_
        refine q_if_eq (tbm tkX6_put (i := 19) rfl) ?_ ?_
        · refine q_le (L' := [some (.inr (.inr l0)), some (.inr (.inl l1)), none, some (.inl l3), some (.inr (.inl l4)), none, none, none]) (lvLe_s (lvLe_s (lvLe_n (lvLe_s (lvLe_s (lvLe_n (lvLe_n (lvLe_n lvLe_0)))))))) ?_
          exact sX6_put_56 X (fX6_put_13 X.2.2.2 n) ih h l0 l1 l3 l4
        · refine q_run tkX6_put 20 1 (pc' := 37) (L' := [some (.inr (.inr l0)), some (.inr (.inl l1)), none, some (.inl l3), some (.inr (.inl l4)), none, some (.inl l6), none]) (st' := [.inr (.inl l4)]) rfl ?_
          refine q_ldc2 (w := (255 : Int64)) (tbm tkX6_put (i := 21) rfl) wd_1298 ?_
          refine q_run tkX6_put 22 4 (pc' := 46) (L' := [some (.inr (.inr l0)), some (.inr (.inl l1)), none, some (.inl l3), some (.inr (.inl l4)), none, some (.inl l6), none]) (st' := [.inl (126 : Int32), .inl (33 : Int32), .inl (Int64.toInt32 (l4 &&& (255 : Int64)))]) rfl ?_
          refine q_cs (n := 3) (as := [.inl (Int64.toInt32 (l4 &&& (255 : Int64))), .inl (33 : Int32), .inl (126 : Int32)]) (st := []) (soX6_in X h (Int64.toInt32 (l4 &&& (255 : Int64))) (33 : Int32) (126 : Int32)) (tbm tkX6_put (i := 26) rfl) rfl ceX6_in wd_987 wd_986 rfl (Nat.le_of_ble_eq_true rfl) (kI_gd (fun h8 x9 => ?_))
          refine q_if_eq (tbm tkX6_put (i := 27) rfl) ?_ ?_
          · refine q_le (L' := [some (.inr (.inr l0)), some (.inr (.inl l1)), none, some (.inl l3), some (.inr (.inl l4)), none, none, none]) (lvLe_s (lvLe_s (lvLe_n (lvLe_s (lvLe_s (lvLe_n (lvLe_n (lvLe_n lvLe_0)))))))) ?_
            exact sX6_put_56 X (fX6_put_13 X.2.2.2 n) ih h8 l0 l1 l3 l4
          · refine q_run tkX6_put 28 2 (pc' := 57) (L' := [some (.inr (.inr l0)), some (.inr (.inl l1)), none, some (.inl l3), some (.inr (.inl l4)), none, some (.inl l6), none]) (st' := [.inl (1 : Int32)]) rfl ?_
            refine q_le (L' := [some (.inr (.inr l0)), some (.inr (.inl l1)), none, some (.inl l3), some (.inr (.inl l4)), none, none, none]) (lvLe_s (lvLe_s (lvLe_n (lvLe_s (lvLe_s (lvLe_n (lvLe_n (lvLe_n lvLe_0)))))))) ?_
            exact sX6_put_57 X (fX6_put_13 X.2.2.2 n) ih h8 l0 l1 l3 l4 (1 : Int32)
    · exact sX6_put_72 X h l0 l1 l3 l4 l6
def fX6_put (c : Nat → Option Nat) (h : Hp) (a0 : Option Nat) (a1 : Int64) : Rs := wr h a0 8 0 (.inl (0 : Int32)) (fun h10 => fX6_put_13 c FU h10 a0 a1 (0 : Int32) a1 (1 : Int32))
set_option maxHeartbeats 4000000 in
set_option maxRecDepth 100000 in
theorem soX6_put (X : Cx) (h : Hp) (a0 : Option Nat) (a1 : Int64) : SO X mX6_put [.inr (.inr a0), .inr (.inl a1)] h (fX6_put X.2.2.2 h a0 a1) := by
  refine so_of (by decide +kernel) (Nat.le_of_ble_eq_true rfl) ?_
  show Gd X mX6_put h (fX6_put X.2.2.2 h a0 a1) h 0 [some (.inr (.inr a0)), some (.inr (.inl a1)), none, none, none, none, none, none] []
  unfold fX6_put
  refine q_run tkX6_put 0 2 (pc' := 2) (L' := [some (.inr (.inr a0)), some (.inr (.inl a1)), none, none, none, none, none, none]) (st' := [.inl (0 : Int32), .inr (.inr a0)]) rfl ?_
  refine q_wr RX6 TX6 15 (tbm tkX6_put (i := 2) rfl) rfl (Nat.le_of_ble_eq_true rfl) (Or.inl rfl) wd_935 (fun h10 => ?_)
  refine q_run tkX6_put 3 6 (pc' := 13) (L' := [some (.inr (.inr a0)), some (.inr (.inl a1)), none, some (.inl (0 : Int32)), some (.inr (.inl a1)), none, some (.inl (1 : Int32)), none]) (st' := []) rfl ?_
  exact sX6_put_13 X FU h10 a0 a1 (0 : Int32) a1 (1 : Int32)
theorem ceX6_put : Ce mX6_put 1 := ⟨wd_81, wd_1297, by decide +kernel, by decide +kernel, by decide +kernel⟩
/-- ReceiptRollsModel.wipe -/
abbrev mX6_wipe : MI := (yX6_wipe, cX6_wipe, 2, some .int, 0)
def tbX6_wipe : List TE := [(0, .aload_n 0, 1, 0, 0), (1, .iconst 0, 1, 0, 0), (2, .putfield 32, 3, 0, 0), (5, .aload_n 0, 1, 0, 0), (6, .getfield 193, 3, 0, 0), (9, .istore_n 1, 1, 0, 0), (10, .aload_n 0, 1, 0, 0), (11, .iconst 0, 1, 0, 0), (12, .putfield 193, 3, 0, 0), (15, .iload_n 1, 1, 0, 0), (16, .ireturn, 1, 0, 0)]
theorem tkX6_wipe : ∀ x ∈ tbX6_wipe, tbB cX6_wipe x = true := tb_all (by decide +kernel)
def fX6_wipe (c : Nat → Option Nat) (h : Hp) (a0 : Option Nat) : Rs := wr h a0 8 0 (.inl (0 : Int32)) (fun h1 => rdI h1 a0 8 7 (fun x2 => wr h1 a0 8 7 (.inl (0 : Int32)) (fun h3 => some (h3, some (.inl x2)))))
set_option maxHeartbeats 4000000 in
set_option maxRecDepth 100000 in
theorem soX6_wipe (X : Cx) (h : Hp) (a0 : Option Nat) : SO X mX6_wipe [.inr (.inr a0)] h (fX6_wipe X.2.2.2 h a0) := by
  refine so_of (by decide +kernel) (Nat.le_of_ble_eq_true rfl) ?_
  show Gd X mX6_wipe h (fX6_wipe X.2.2.2 h a0) h 0 [some (.inr (.inr a0)), none] []
  unfold fX6_wipe
  refine q_run tkX6_wipe 0 2 (pc' := 2) (L' := [some (.inr (.inr a0)), none]) (st' := [.inl (0 : Int32), .inr (.inr a0)]) rfl ?_
  refine q_wr RX6 TX6 15 (tbm tkX6_wipe (i := 2) rfl) rfl (Nat.le_of_ble_eq_true rfl) (Or.inl rfl) wd_935 (fun h1 => ?_)
  refine q_run tkX6_wipe 3 1 (pc' := 6) (L' := [some (.inr (.inr a0)), none]) (st' := [.inr (.inr a0)]) rfl ?_
  refine q_rdI RX6 TX6 15 (tbm tkX6_wipe (i := 4) rfl) rfl (Nat.le_of_ble_eq_true rfl) wd_942 (fun x2 => ?_)
  refine q_run tkX6_wipe 5 3 (pc' := 12) (L' := [some (.inr (.inr a0)), some (.inl x2)]) (st' := [.inl (0 : Int32), .inr (.inr a0)]) rfl ?_
  refine q_wr RX6 TX6 15 (tbm tkX6_wipe (i := 8) rfl) rfl (Nat.le_of_ble_eq_true rfl) (Or.inl rfl) wd_942 (fun h3 => ?_)
  refine q_run tkX6_wipe 9 1 (pc' := 16) (L' := [some (.inr (.inr a0)), some (.inl x2)]) (st' := [.inl x2]) rfl ?_
  exact q_iret (tbm tkX6_wipe (i := 10) rfl) rfl
theorem ceX6_wipe : Ce mX6_wipe 0 := ⟨wd_81, wd_1302, by decide +kernel, by decide +kernel, by decide +kernel⟩
/-- ReceiptRollsModel.fault -/
abbrev mX6_fault : MI := (yX6_fault, cX6_fault, 1, some .int, 3)
def tbX6_fault : List TE := [(0, .aload_n 0, 1, 0, 0), (1, .iconst 0, 1, 0, 0), (2, .putfield 32, 3, 0, 0), (5, .aload_n 0, 1, 0, 0), (6, .invokevirtual 200, 3, 0, 0), (9, .ireturn, 1, 0, 0)]
theorem tkX6_fault : ∀ x ∈ tbX6_fault, tbB cX6_fault x = true := tb_all (by decide +kernel)
def fX6_fault (c : Nat → Option Nat) (h : Hp) (a0 : Option Nat) : Rs := wr h a0 8 0 (.inl (0 : Int32)) (fun h1 => ck h1 a0 8 (cc (fX6_faultAt c h1 a0) (kI fun h2 x3 => some (h2, some (.inl x3)))))
set_option maxHeartbeats 4000000 in
set_option maxRecDepth 100000 in
theorem soX6_fault (X : Cx) (h : Hp) (a0 : Option Nat) : SO X mX6_fault [.inr (.inr a0)] h (fX6_fault X.2.2.2 h a0) := by
  refine so_of (by decide +kernel) (Nat.le_of_ble_eq_true rfl) ?_
  show Gd X mX6_fault h (fX6_fault X.2.2.2 h a0) h 0 [some (.inr (.inr a0))] []
  unfold fX6_fault
  refine q_run tkX6_fault 0 2 (pc' := 2) (L' := [some (.inr (.inr a0))]) (st' := [.inl (0 : Int32), .inr (.inr a0)]) rfl ?_
  refine q_wr RX6 TX6 15 (tbm tkX6_fault (i := 2) rfl) rfl (Nat.le_of_ble_eq_true rfl) (Or.inl rfl) wd_935 (fun h1 => ?_)
  refine q_run tkX6_fault 3 1 (pc' := 6) (L' := [some (.inr (.inr a0))]) (st' := [.inr (.inr a0)]) rfl ?_
  refine q_cv (r := a0) (ci := 8) (n := 0) (as := []) (st := []) TX6 15 (soX6_faultAt X h1 a0) (tbm tkX6_fault (i := 4) rfl) rfl rfl ceX6_faultAt wd_1008 wd_19 wd_1006 rfl (Nat.le_of_ble_eq_true rfl) (kI_gd (fun h2 x3 => ?_))
  exact q_iret (tbm tkX6_fault (i := 5) rfl) rfl
theorem ceX6_fault : Ce mX6_fault 0 := ⟨wd_81, wd_1306, by decide +kernel, by decide +kernel, by decide +kernel⟩
/-- ReceiptRollsModel.undo -/
abbrev mX6_undo : MI := (yX6_undo, cX6_undo, 2, some .int, 0)
def tbX6_undo : List TE := [(0, .aload_n 0, 1, 0, 0), (1, .iconst 0, 1, 0, 0), (2, .putfield 32, 3, 0, 0), (5, .aload_n 0, 1, 0, 0), (6, .getfield 44, 3, 0, 0), (9, .ifCond .ne 6, 3, 0, 15), (12, .bipush (-5), 2, -5, 0), (14, .ireturn, 1, 0, 0), (15, .aload_n 0, 1, 0, 0), (16, .dup, 1, 0, 0), (17, .getfield 44, 3, 0, 0), (20, .iconst 1, 1, 1, 0), (21, .isub, 1, 0, 0), (22, .putfield 44, 3, 0, 0), (25, .iconst 0, 1, 0, 0), (26, .istore_n 1, 1, 0, 0), (27, .iload_n 1, 1, 0, 0), (28, .sipush 1818, 3, 1818, 0), (31, .if_icmp .ge 30, 3, 0, 61), (34, .aload_n 0, 1, 0, 0), (35, .getfield 7, 3, 0, 0), (38, .iload_n 1, 1, 0, 0), (39, .aload_n 0, 1, 0, 0), (40, .getfield 13, 3, 0, 0), (43, .sipush 1818, 3, 1818, 0), (46, .aload_n 0, 1, 0, 0), (47, .getfield 44, 3, 0, 0), (50, .imul, 1, 0, 0), (51, .iload_n 1, 1, 0, 0), (52, .iadd, 1, 0, 0), (53, .iaload, 1, 0, 0), (54, .iastore, 1, 0, 0), (55, .iinc 1 1, 3, 1, 0), (58, .goto (-31), 3, 0, 27), (61, .aload_n 0, 1, 0, 0), (62, .getfield 44, 3, 0, 0), (65, .ireturn, 1, 0, 0)]
theorem tkX6_undo : ∀ x ∈ tbX6_undo, tbB cX6_undo x = true := tb_all (by decide +kernel)
def fX6_undo_27 (c : Nat → Option Nat) : Nat → Hp → Option Nat → Int32 → Rs
  | 0, _, _, _ => none
  | n + 1, h, l0, l1 => if l1 < (1818 : Int32) then (rdR h l0 8 1 (fun r1 => rdR h l0 8 2 (fun r2 => rdI h l0 8 3 (fun x3 => aldI h r2 [0, 10] (((1818 : Int32) * x3) + l1) (fun x4 => astI h r1 [0] l1 x4 (fun h5 => fX6_undo_27 c n h5 l0 (l1 + (1 : Int32)))))))) else (rdI h l0 8 3 (fun x6 => some (h, some (.inl x6))))
set_option maxHeartbeats 4000000 in
set_option maxRecDepth 100000 in
theorem sX6_undo_27 (X : Cx) {h0 : Hp} : ∀ (n : Nat) (h : Hp) (l0 : Option Nat) (l1 : Int32), Gd X mX6_undo h0 (fX6_undo_27 X.2.2.2 n h l0 l1) h 27 [some (.inr (.inr l0)), some (.inl l1)] [] := by
  intro n
  induction n with
  | zero => intros; exact gd_none
  | succ n ih =>
    intro h l0 l1
    unfold fX6_undo_27
    refine q_run tkX6_undo 16 2 (pc' := 31) (L' := [some (.inr (.inr l0)), some (.inl l1)]) (st' := [.inl (1818 : Int32), .inl l1]) rfl ?_
    refine q_icmp_ge (tbm tkX6_undo (i := 18) rfl) ?_ ?_
    · refine q_run tkX6_undo 19 1 (pc' := 35) (L' := [some (.inr (.inr l0)), some (.inl l1)]) (st' := [.inr (.inr l0)]) rfl ?_
      refine q_rdR RX6 TX6 15 (tbm tkX6_undo (i := 20) rfl) rfl (Nat.le_of_ble_eq_true rfl) wd_936 (fun r1 => ?_)
      refine q_run tkX6_undo 21 2 (pc' := 40) (L' := [some (.inr (.inr l0)), some (.inl l1)]) (st' := [.inr (.inr l0), .inl l1, .inr (.inr r1)]) rfl ?_
      refine q_rdR RX6 TX6 15 (tbm tkX6_undo (i := 23) rfl) rfl (Nat.le_of_ble_eq_true rfl) wd_937 (fun r2 => ?_)
      refine q_run tkX6_undo 24 2 (pc' := 47) (L' := [some (.inr (.inr l0)), some (.inl l1)]) (st' := [.inr (.inr l0), .inl (1818 : Int32), .inr (.inr r2), .inl l1, .inr (.inr r1)]) rfl ?_
      refine q_rdI RX6 TX6 15 (tbm tkX6_undo (i := 26) rfl) rfl (Nat.le_of_ble_eq_true rfl) wd_938 (fun x3 => ?_)
      refine q_run tkX6_undo 27 3 (pc' := 53) (L' := [some (.inr (.inr l0)), some (.inl l1)]) (st' := [.inl (((1818 : Int32) * x3) + l1), .inr (.inr r2), .inl l1, .inr (.inr r1)]) rfl ?_
      refine q_iaload (tbm tkX6_undo (i := 30) rfl) (fun x4 => ?_)
      refine q_iastore (tbm tkX6_undo (i := 31) rfl) (fun h5 => ?_)
      refine q_run tkX6_undo 32 2 (pc' := 27) (L' := [some (.inr (.inr l0)), some (.inl (l1 + (1 : Int32)))]) (st' := []) rfl ?_
      exact ih h5 l0 (l1 + (1 : Int32))
    · refine q_run tkX6_undo 34 1 (pc' := 62) (L' := [some (.inr (.inr l0)), some (.inl l1)]) (st' := [.inr (.inr l0)]) rfl ?_
      refine q_rdI RX6 TX6 15 (tbm tkX6_undo (i := 35) rfl) rfl (Nat.le_of_ble_eq_true rfl) wd_938 (fun x6 => ?_)
      exact q_iret (tbm tkX6_undo (i := 36) rfl) rfl
def fX6_undo (c : Nat → Option Nat) (h : Hp) (a0 : Option Nat) : Rs := wr h a0 8 0 (.inl (0 : Int32)) (fun h7 => rdI h7 a0 8 3 (fun x8 => if x8 = 0 then (some (h7, some (.inl (-5 : Int32)))) else (rdI h7 a0 8 3 (fun x9 => wr h7 a0 8 3 (.inl (x9 - (1 : Int32))) (fun h10 => fX6_undo_27 c FU h10 a0 (0 : Int32))))))
set_option maxHeartbeats 4000000 in
set_option maxRecDepth 100000 in
theorem soX6_undo (X : Cx) (h : Hp) (a0 : Option Nat) : SO X mX6_undo [.inr (.inr a0)] h (fX6_undo X.2.2.2 h a0) := by
  refine so_of (by decide +kernel) (Nat.le_of_ble_eq_true rfl) ?_
  show Gd X mX6_undo h (fX6_undo X.2.2.2 h a0) h 0 [some (.inr (.inr a0)), none] []
  unfold fX6_undo
  refine q_run tkX6_undo 0 2 (pc' := 2) (L' := [some (.inr (.inr a0)), none]) (st' := [.inl (0 : Int32), .inr (.inr a0)]) rfl ?_
  refine q_wr RX6 TX6 15 (tbm tkX6_undo (i := 2) rfl) rfl (Nat.le_of_ble_eq_true rfl) (Or.inl rfl) wd_935 (fun h7 => ?_)
  refine q_run tkX6_undo 3 1 (pc' := 6) (L' := [some (.inr (.inr a0)), none]) (st' := [.inr (.inr a0)]) rfl ?_
  refine q_rdI RX6 TX6 15 (tbm tkX6_undo (i := 4) rfl) rfl (Nat.le_of_ble_eq_true rfl) wd_938 (fun x8 => ?_)
  refine q_if_ne (tbm tkX6_undo (i := 5) rfl) ?_ ?_
  · refine q_run tkX6_undo 6 1 (pc' := 14) (L' := [some (.inr (.inr a0)), none]) (st' := [.inl (-5 : Int32)]) rfl ?_
    exact q_iret (tbm tkX6_undo (i := 7) rfl) rfl
  · refine q_run tkX6_undo 8 2 (pc' := 17) (L' := [some (.inr (.inr a0)), none]) (st' := [.inr (.inr a0), .inr (.inr a0)]) rfl ?_
    refine q_rdI RX6 TX6 15 (tbm tkX6_undo (i := 10) rfl) rfl (Nat.le_of_ble_eq_true rfl) wd_938 (fun x9 => ?_)
    refine q_run tkX6_undo 11 2 (pc' := 22) (L' := [some (.inr (.inr a0)), none]) (st' := [.inl (x9 - (1 : Int32)), .inr (.inr a0)]) rfl ?_
    refine q_wr RX6 TX6 15 (tbm tkX6_undo (i := 13) rfl) rfl (Nat.le_of_ble_eq_true rfl) (Or.inl rfl) wd_938 (fun h10 => ?_)
    refine q_run tkX6_undo 14 2 (pc' := 27) (L' := [some (.inr (.inr a0)), some (.inl (0 : Int32))]) (st' := []) rfl ?_
    exact sX6_undo_27 X FU h10 a0 (0 : Int32)
theorem ceX6_undo : Ce mX6_undo 0 := ⟨wd_81, wd_1310, by decide +kernel, by decide +kernel, by decide +kernel⟩
/-- ReceiptRollsModel.save -/
abbrev mX6_save : MI := (yX6_save, cX6_save, 3, some .int, 1)
def tbX6_save : List TE := [(0, .aload_n 0, 1, 0, 0), (1, .iconst 0, 1, 0, 0), (2, .putfield 32, 3, 0, 0), (5, .iload_n 1, 1, 0, 0), (6, .iconst 0, 1, 0, 0), (7, .iconst 1, 1, 1, 0), (8, .invokestatic 40, 3, 0, 0), (11, .ifCond .ne 6, 3, 0, 17), (14, .bipush (-2), 2, -2, 0), (16, .ireturn, 1, 0, 0), (17, .iconst 0, 1, 0, 0), (18, .istore_n 2, 1, 0, 0), (19, .iload_n 2, 1, 0, 0), (20, .sipush 1818, 3, 1818, 0), (23, .if_icmp .ge 27, 3, 0, 50), (26, .aload_n 0, 1, 0, 0), (27, .getfield 16, 3, 0, 0), (30, .sipush 1818, 3, 1818, 0), (33, .iload_n 1, 1, 0, 0), (34, .imul, 1, 0, 0), (35, .iload_n 2, 1, 0, 0), (36, .iadd, 1, 0, 0), (37, .aload_n 0, 1, 0, 0), (38, .getfield 7, 3, 0, 0), (41, .iload_n 2, 1, 0, 0), (42, .iaload, 1, 0, 0), (43, .iastore, 1, 0, 0), (44, .iinc 2 1, 3, 1, 0), (47, .goto (-28), 3, 0, 19), (50, .aload_n 0, 1, 0, 0), (51, .getfield 19, 3, 0, 0), (54, .iload_n 1, 1, 0, 0), (55, .iconst 1, 1, 1, 0), (56, .bastore, 1, 0, 0), (57, .aload_n 0, 1, 0, 0), (58, .getfield 7, 3, 0, 0), (61, .iconst 4, 1, 4, 0), (62, .iaload, 1, 0, 0), (63, .ireturn, 1, 0, 0)]
theorem tkX6_save : ∀ x ∈ tbX6_save, tbB cX6_save x = true := tb_all (by decide +kernel)
def fX6_save_19 (c : Nat → Option Nat) : Nat → Hp → Option Nat → Int32 → Int32 → Rs
  | 0, _, _, _, _ => none
  | n + 1, h, l0, l1, l2 => if l2 < (1818 : Int32) then (rdR h l0 8 4 (fun r1 => rdR h l0 8 1 (fun r2 => aldI h r2 [0, 10] l2 (fun x3 => astI h r1 [0] (((1818 : Int32) * l1) + l2) x3 (fun h4 => fX6_save_19 c n h4 l0 l1 (l2 + (1 : Int32))))))) else (rdR h l0 8 5 (fun r5 => astI h r5 [1, 2] l1 (1 : Int32) (fun h6 => rdR h6 l0 8 1 (fun r7 => aldI h6 r7 [0, 10] (4 : Int32) (fun x8 => some (h6, some (.inl x8)))))))
set_option maxHeartbeats 4000000 in
set_option maxRecDepth 100000 in
theorem sX6_save_19 (X : Cx) {h0 : Hp} : ∀ (n : Nat) (h : Hp) (l0 : Option Nat) (l1 : Int32) (l2 : Int32), Gd X mX6_save h0 (fX6_save_19 X.2.2.2 n h l0 l1 l2) h 19 [some (.inr (.inr l0)), some (.inl l1), some (.inl l2)] [] := by
  intro n
  induction n with
  | zero => intros; exact gd_none
  | succ n ih =>
    intro h l0 l1 l2
    unfold fX6_save_19
    refine q_run tkX6_save 12 2 (pc' := 23) (L' := [some (.inr (.inr l0)), some (.inl l1), some (.inl l2)]) (st' := [.inl (1818 : Int32), .inl l2]) rfl ?_
    refine q_icmp_ge (tbm tkX6_save (i := 14) rfl) ?_ ?_
    · refine q_run tkX6_save 15 1 (pc' := 27) (L' := [some (.inr (.inr l0)), some (.inl l1), some (.inl l2)]) (st' := [.inr (.inr l0)]) rfl ?_
      refine q_rdR RX6 TX6 15 (tbm tkX6_save (i := 16) rfl) rfl (Nat.le_of_ble_eq_true rfl) wd_939 (fun r1 => ?_)
      refine q_run tkX6_save 17 6 (pc' := 38) (L' := [some (.inr (.inr l0)), some (.inl l1), some (.inl l2)]) (st' := [.inr (.inr l0), .inl (((1818 : Int32) * l1) + l2), .inr (.inr r1)]) rfl ?_
      refine q_rdR RX6 TX6 15 (tbm tkX6_save (i := 23) rfl) rfl (Nat.le_of_ble_eq_true rfl) wd_936 (fun r2 => ?_)
      refine q_run tkX6_save 24 1 (pc' := 42) (L' := [some (.inr (.inr l0)), some (.inl l1), some (.inl l2)]) (st' := [.inl l2, .inr (.inr r2), .inl (((1818 : Int32) * l1) + l2), .inr (.inr r1)]) rfl ?_
      refine q_iaload (tbm tkX6_save (i := 25) rfl) (fun x3 => ?_)
      refine q_iastore (tbm tkX6_save (i := 26) rfl) (fun h4 => ?_)
      refine q_run tkX6_save 27 2 (pc' := 19) (L' := [some (.inr (.inr l0)), some (.inl l1), some (.inl (l2 + (1 : Int32)))]) (st' := []) rfl ?_
      exact ih h4 l0 l1 (l2 + (1 : Int32))
    · refine q_run tkX6_save 29 1 (pc' := 51) (L' := [some (.inr (.inr l0)), some (.inl l1), some (.inl l2)]) (st' := [.inr (.inr l0)]) rfl ?_
      refine q_rdR RX6 TX6 15 (tbm tkX6_save (i := 30) rfl) rfl (Nat.le_of_ble_eq_true rfl) wd_940 (fun r5 => ?_)
      refine q_run tkX6_save 31 2 (pc' := 56) (L' := [some (.inr (.inr l0)), some (.inl l1), some (.inl l2)]) (st' := [.inl (1 : Int32), .inl l1, .inr (.inr r5)]) rfl ?_
      refine q_bastore (tbm tkX6_save (i := 33) rfl) (fun h6 => ?_)
      refine q_run tkX6_save 34 1 (pc' := 58) (L' := [some (.inr (.inr l0)), some (.inl l1), some (.inl l2)]) (st' := [.inr (.inr l0)]) rfl ?_
      refine q_rdR RX6 TX6 15 (tbm tkX6_save (i := 35) rfl) rfl (Nat.le_of_ble_eq_true rfl) wd_936 (fun r7 => ?_)
      refine q_run tkX6_save 36 1 (pc' := 62) (L' := [some (.inr (.inr l0)), some (.inl l1), some (.inl l2)]) (st' := [.inl (4 : Int32), .inr (.inr r7)]) rfl ?_
      refine q_iaload (tbm tkX6_save (i := 37) rfl) (fun x8 => ?_)
      exact q_iret (tbm tkX6_save (i := 38) rfl) rfl
def fX6_save (c : Nat → Option Nat) (h : Hp) (a0 : Option Nat) (a1 : Int32) : Rs := wr h a0 8 0 (.inl (0 : Int32)) (fun h9 => cc (fX6_in c h9 a1 (0 : Int32) (1 : Int32)) (kI fun h10 x11 => if x11 = 0 then (some (h10, some (.inl (-2 : Int32)))) else (fX6_save_19 c FU h10 a0 a1 (0 : Int32))))
set_option maxHeartbeats 4000000 in
set_option maxRecDepth 100000 in
theorem soX6_save (X : Cx) (h : Hp) (a0 : Option Nat) (a1 : Int32) : SO X mX6_save [.inr (.inr a0), .inl a1] h (fX6_save X.2.2.2 h a0 a1) := by
  refine so_of (by decide +kernel) (Nat.le_of_ble_eq_true rfl) ?_
  show Gd X mX6_save h (fX6_save X.2.2.2 h a0 a1) h 0 [some (.inr (.inr a0)), some (.inl a1), none] []
  unfold fX6_save
  refine q_run tkX6_save 0 2 (pc' := 2) (L' := [some (.inr (.inr a0)), some (.inl a1), none]) (st' := [.inl (0 : Int32), .inr (.inr a0)]) rfl ?_
  refine q_wr RX6 TX6 15 (tbm tkX6_save (i := 2) rfl) rfl (Nat.le_of_ble_eq_true rfl) (Or.inl rfl) wd_935 (fun h9 => ?_)
  refine q_run tkX6_save 3 3 (pc' := 8) (L' := [some (.inr (.inr a0)), some (.inl a1), none]) (st' := [.inl (1 : Int32), .inl (0 : Int32), .inl a1]) rfl ?_
  refine q_cs (n := 3) (as := [.inl a1, .inl (0 : Int32), .inl (1 : Int32)]) (st := []) (soX6_in X h9 a1 (0 : Int32) (1 : Int32)) (tbm tkX6_save (i := 6) rfl) rfl ceX6_in wd_987 wd_986 rfl (Nat.le_of_ble_eq_true rfl) (kI_gd (fun h10 x11 => ?_))
  refine q_if_ne (tbm tkX6_save (i := 7) rfl) ?_ ?_
  · refine q_run tkX6_save 8 1 (pc' := 16) (L' := [some (.inr (.inr a0)), some (.inl a1), none]) (st' := [.inl (-2 : Int32)]) rfl ?_
    exact q_iret (tbm tkX6_save (i := 9) rfl) rfl
  · refine q_run tkX6_save 10 2 (pc' := 19) (L' := [some (.inr (.inr a0)), some (.inl a1), some (.inl (0 : Int32))]) (st' := []) rfl ?_
    exact sX6_save_19 X FU h10 a0 a1 (0 : Int32)
theorem ceX6_save : Ce mX6_save 1 := ⟨wd_81, wd_1314, by decide +kernel, by decide +kernel, by decide +kernel⟩
/-- ReceiptRollsModel.restore -/
abbrev mX6_restore : MI := (yX6_restore, cX6_restore, 3, some .int, 1)
def tbX6_restore : List TE := [(0, .aload_n 0, 1, 0, 0), (1, .iconst 0, 1, 0, 0), (2, .putfield 32, 3, 0, 0), (5, .iload_n 1, 1, 0, 0), (6, .iconst 0, 1, 0, 0), (7, .iconst 1, 1, 1, 0), (8, .invokestatic 40, 3, 0, 0), (11, .ifCond .ne 6, 3, 0, 17), (14, .bipush (-2), 2, -2, 0), (16, .ireturn, 1, 0, 0), (17, .aload_n 0, 1, 0, 0), (18, .getfield 19, 3, 0, 0), (21, .iload_n 1, 1, 0, 0), (22, .baload, 1, 0, 0), (23, .ifCond .ne 6, 3, 0, 29), (26, .bipush (-5), 2, -5, 0), (28, .ireturn, 1, 0, 0), (29, .aload_n 0, 1, 0, 0), (30, .invokevirtual 190, 3, 0, 0), (33, .iconst 0, 1, 0, 0), (34, .istore_n 2, 1, 0, 0), (35, .iload_n 2, 1, 0, 0), (36, .sipush 1818, 3, 1818, 0), (39, .if_icmp .ge 27, 3, 0, 66), (42, .aload_n 0, 1, 0, 0), (43, .getfield 7, 3, 0, 0), (46, .iload_n 2, 1, 0, 0), (47, .aload_n 0, 1, 0, 0), (48, .getfield 16, 3, 0, 0), (51, .sipush 1818, 3, 1818, 0), (54, .iload_n 1, 1, 0, 0), (55, .imul, 1, 0, 0), (56, .iload_n 2, 1, 0, 0), (57, .iadd, 1, 0, 0), (58, .iaload, 1, 0, 0), (59, .iastore, 1, 0, 0), (60, .iinc 2 1, 3, 1, 0), (63, .goto (-28), 3, 0, 35), (66, .aload_n 0, 1, 0, 0), (67, .getfield 7, 3, 0, 0), (70, .iconst 4, 1, 4, 0), (71, .iaload, 1, 0, 0), (72, .ireturn, 1, 0, 0)]
theorem tkX6_restore : ∀ x ∈ tbX6_restore, tbB cX6_restore x = true := tb_all (by decide +kernel)
def fX6_restore_35 (c : Nat → Option Nat) : Nat → Hp → Option Nat → Int32 → Int32 → Rs
  | 0, _, _, _, _ => none
  | n + 1, h, l0, l1, l2 => if l2 < (1818 : Int32) then (rdR h l0 8 1 (fun r1 => rdR h l0 8 4 (fun r2 => aldI h r2 [0, 10] (((1818 : Int32) * l1) + l2) (fun x3 => astI h r1 [0] l2 x3 (fun h4 => fX6_restore_35 c n h4 l0 l1 (l2 + (1 : Int32))))))) else (rdR h l0 8 1 (fun r5 => aldI h r5 [0, 10] (4 : Int32) (fun x6 => some (h, some (.inl x6)))))
set_option maxHeartbeats 4000000 in
set_option maxRecDepth 100000 in
theorem sX6_restore_35 (X : Cx) {h0 : Hp} : ∀ (n : Nat) (h : Hp) (l0 : Option Nat) (l1 : Int32) (l2 : Int32), Gd X mX6_restore h0 (fX6_restore_35 X.2.2.2 n h l0 l1 l2) h 35 [some (.inr (.inr l0)), some (.inl l1), some (.inl l2)] [] := by
  intro n
  induction n with
  | zero => intros; exact gd_none
  | succ n ih =>
    intro h l0 l1 l2
    unfold fX6_restore_35
    refine q_run tkX6_restore 21 2 (pc' := 39) (L' := [some (.inr (.inr l0)), some (.inl l1), some (.inl l2)]) (st' := [.inl (1818 : Int32), .inl l2]) rfl ?_
    refine q_icmp_ge (tbm tkX6_restore (i := 23) rfl) ?_ ?_
    · refine q_run tkX6_restore 24 1 (pc' := 43) (L' := [some (.inr (.inr l0)), some (.inl l1), some (.inl l2)]) (st' := [.inr (.inr l0)]) rfl ?_
      refine q_rdR RX6 TX6 15 (tbm tkX6_restore (i := 25) rfl) rfl (Nat.le_of_ble_eq_true rfl) wd_936 (fun r1 => ?_)
      refine q_run tkX6_restore 26 2 (pc' := 48) (L' := [some (.inr (.inr l0)), some (.inl l1), some (.inl l2)]) (st' := [.inr (.inr l0), .inl l2, .inr (.inr r1)]) rfl ?_
      refine q_rdR RX6 TX6 15 (tbm tkX6_restore (i := 28) rfl) rfl (Nat.le_of_ble_eq_true rfl) wd_939 (fun r2 => ?_)
      refine q_run tkX6_restore 29 5 (pc' := 58) (L' := [some (.inr (.inr l0)), some (.inl l1), some (.inl l2)]) (st' := [.inl (((1818 : Int32) * l1) + l2), .inr (.inr r2), .inl l2, .inr (.inr r1)]) rfl ?_
      refine q_iaload (tbm tkX6_restore (i := 34) rfl) (fun x3 => ?_)
      refine q_iastore (tbm tkX6_restore (i := 35) rfl) (fun h4 => ?_)
      refine q_run tkX6_restore 36 2 (pc' := 35) (L' := [some (.inr (.inr l0)), some (.inl l1), some (.inl (l2 + (1 : Int32)))]) (st' := []) rfl ?_
      exact ih h4 l0 l1 (l2 + (1 : Int32))
    · refine q_run tkX6_restore 38 1 (pc' := 67) (L' := [some (.inr (.inr l0)), some (.inl l1), some (.inl l2)]) (st' := [.inr (.inr l0)]) rfl ?_
      refine q_rdR RX6 TX6 15 (tbm tkX6_restore (i := 39) rfl) rfl (Nat.le_of_ble_eq_true rfl) wd_936 (fun r5 => ?_)
      refine q_run tkX6_restore 40 1 (pc' := 71) (L' := [some (.inr (.inr l0)), some (.inl l1), some (.inl l2)]) (st' := [.inl (4 : Int32), .inr (.inr r5)]) rfl ?_
      refine q_iaload (tbm tkX6_restore (i := 41) rfl) (fun x6 => ?_)
      exact q_iret (tbm tkX6_restore (i := 42) rfl) rfl
def fX6_restore (c : Nat → Option Nat) (h : Hp) (a0 : Option Nat) (a1 : Int32) : Rs := wr h a0 8 0 (.inl (0 : Int32)) (fun h7 => cc (fX6_in c h7 a1 (0 : Int32) (1 : Int32)) (kI fun h8 x9 => if x9 = 0 then (some (h8, some (.inl (-2 : Int32)))) else (rdR h8 a0 8 5 (fun r10 => aldI h8 r10 [1, 2, 11] a1 (fun x11 => if x11 = 0 then (some (h8, some (.inl (-5 : Int32)))) else (ck h8 a0 8 (cc (fX6_records c h8 a0) (kV fun h12 => fX6_restore_35 c FU h12 a0 a1 (0 : Int32)))))))))
set_option maxHeartbeats 4000000 in
set_option maxRecDepth 100000 in
theorem soX6_restore (X : Cx) (h : Hp) (a0 : Option Nat) (a1 : Int32) : SO X mX6_restore [.inr (.inr a0), .inl a1] h (fX6_restore X.2.2.2 h a0 a1) := by
  refine so_of (by decide +kernel) (Nat.le_of_ble_eq_true rfl) ?_
  show Gd X mX6_restore h (fX6_restore X.2.2.2 h a0 a1) h 0 [some (.inr (.inr a0)), some (.inl a1), none] []
  unfold fX6_restore
  refine q_run tkX6_restore 0 2 (pc' := 2) (L' := [some (.inr (.inr a0)), some (.inl a1), none]) (st' := [.inl (0 : Int32), .inr (.inr a0)]) rfl ?_
  refine q_wr RX6 TX6 15 (tbm tkX6_restore (i := 2) rfl) rfl (Nat.le_of_ble_eq_true rfl) (Or.inl rfl) wd_935 (fun h7 => ?_)
  refine q_run tkX6_restore 3 3 (pc' := 8) (L' := [some (.inr (.inr a0)), some (.inl a1), none]) (st' := [.inl (1 : Int32), .inl (0 : Int32), .inl a1]) rfl ?_
  refine q_cs (n := 3) (as := [.inl a1, .inl (0 : Int32), .inl (1 : Int32)]) (st := []) (soX6_in X h7 a1 (0 : Int32) (1 : Int32)) (tbm tkX6_restore (i := 6) rfl) rfl ceX6_in wd_987 wd_986 rfl (Nat.le_of_ble_eq_true rfl) (kI_gd (fun h8 x9 => ?_))
  refine q_if_ne (tbm tkX6_restore (i := 7) rfl) ?_ ?_
  · refine q_run tkX6_restore 8 1 (pc' := 16) (L' := [some (.inr (.inr a0)), some (.inl a1), none]) (st' := [.inl (-2 : Int32)]) rfl ?_
    exact q_iret (tbm tkX6_restore (i := 9) rfl) rfl
  · refine q_run tkX6_restore 10 1 (pc' := 18) (L' := [some (.inr (.inr a0)), some (.inl a1), none]) (st' := [.inr (.inr a0)]) rfl ?_
    refine q_rdR RX6 TX6 15 (tbm tkX6_restore (i := 11) rfl) rfl (Nat.le_of_ble_eq_true rfl) wd_940 (fun r10 => ?_)
    refine q_run tkX6_restore 12 1 (pc' := 22) (L' := [some (.inr (.inr a0)), some (.inl a1), none]) (st' := [.inl a1, .inr (.inr r10)]) rfl ?_
    refine q_baload (tbm tkX6_restore (i := 13) rfl) (fun x11 => ?_)
    refine q_if_ne (tbm tkX6_restore (i := 14) rfl) ?_ ?_
    · refine q_run tkX6_restore 15 1 (pc' := 28) (L' := [some (.inr (.inr a0)), some (.inl a1), none]) (st' := [.inl (-5 : Int32)]) rfl ?_
      exact q_iret (tbm tkX6_restore (i := 16) rfl) rfl
    · refine q_run tkX6_restore 17 1 (pc' := 30) (L' := [some (.inr (.inr a0)), some (.inl a1), none]) (st' := [.inr (.inr a0)]) rfl ?_
      refine q_cv (r := a0) (ci := 8) (n := 0) (as := []) (st := []) TX6 15 (soX6_records X h8 a0) (tbm tkX6_restore (i := 18) rfl) rfl rfl ceX6_records wd_997 wd_18 wd_995 rfl (Nat.le_of_ble_eq_true rfl) (kV_gd (fun h12 => ?_))
      refine q_run tkX6_restore 19 2 (pc' := 35) (L' := [some (.inr (.inr a0)), some (.inl a1), some (.inl (0 : Int32))]) (st' := []) rfl ?_
      exact sX6_restore_35 X FU h12 a0 a1 (0 : Int32)
theorem ceX6_restore : Ce mX6_restore 1 := ⟨wd_81, wd_1318, by decide +kernel, by decide +kernel, by decide +kernel⟩
