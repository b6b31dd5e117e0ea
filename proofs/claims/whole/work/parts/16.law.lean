def fL_law_917 (c : Nat → Option Nat) (k18 : Hp → Option Nat → Option Nat → Option Nat → Int32 → Rs) (h : Hp) (l0 : Option Nat) (l1 : Option Nat) (l2 : Option Nat) (l3 : Int32) : Rs := k18 h l0 l1 l2 (l3 + (5 : Int32))
set_option maxHeartbeats 4000000 in
set_option maxRecDepth 100000 in
theorem sL_law_917 (X : Cx) {h0 : Hp} (k18 : Hp → Option Nat → Option Nat → Option Nat → Int32 → Rs) (hk18 : ∀ (h : Hp) (l0 : Option Nat) (l1 : Option Nat) (l2 : Option Nat) (l3 : Int32), Gd X mL_law h0 (k18 h l0 l1 l2 l3) h 18 [some (.inr (.inr l0)), some (.inr (.inr l1)), some (.inr (.inr l2)), some (.inl l3)] []) (h : Hp) (l0 : Option Nat) (l1 : Option Nat) (l2 : Option Nat) (l3 : Int32) : Gd X mL_law h0 (fL_law_917 X.2.2.2 k18 h l0 l1 l2 l3) h 917 [some (.inr (.inr l0)), some (.inr (.inr l1)), some (.inr (.inr l2)), some (.inl l3)] [] := by
  unfold fL_law_917
  refine q_run tkL_law 615 2 (pc' := 18) (L' := [some (.inr (.inr l0)), some (.inr (.inr l1)), some (.inr (.inr l2)), some (.inl (l3 + (5 : Int32)))]) (st' := []) rfl ?_
  exact hk18 h l0 l1 l2 (l3 + (5 : Int32))
def fL_law_18 (c : Nat → Option Nat) : Nat → Hp → Option Nat → Option Nat → Option Nat → Int32 → Rs
  | 0, _, _, _, _, _ => none
  | n + 1, h, l0, l1, l2, l3 => lenA h l0 (fun x1 => if (x1 - (5 : Int32)) < l3 then (rtI .boolean h (1 : Int32)) else (aldI h l0 [0, 10] l3 (fun x2 => swf (x2 &&& (31 : Int32)) [((0 : Int32), aldI h l0 [0, 10] (l3 + (1 : Int32)) (fun x3 => aldI h l0 [0, 10] (l3 + (2 : Int32)) (fun x4 => ck h l1 7 (cc (fX5_set c h l1 x3 x4) (kI fun h5 x6 => aldI h5 l0 [0, 10] (l3 + (1 : Int32)) (fun x7 => aldI h5 l0 [0, 10] (l3 + (2 : Int32)) (fun x8 => ck h5 l2 8 (cc (fX6_set c h5 l2 x7 x8) (kI fun h9 x10 => if x6 = x10 then (fL_law_917 c (fL_law_18 c n) h9 l0 l1 l2 l3) else (rtI .boolean h9 (0 : Int32))))))))))), ((1 : Int32), aldI h l0 [0, 10] (l3 + (1 : Int32)) (fun x11 => aldI h l0 [0, 10] (l3 + (2 : Int32)) (fun x12 => aldI h l0 [0, 10] (l3 + (3 : Int32)) (fun x13 => aldI h l0 [0, 10] (l3 + (4 : Int32)) (fun x14 => ck h l1 7 (cc (fX5_ring c h l1 x11 x12 x13 x14) (kI fun h15 x16 => aldI h15 l0 [0, 10] (l3 + (1 : Int32)) (fun x17 => aldI h15 l0 [0, 10] (l3 + (2 : Int32)) (fun x18 => aldI h15 l0 [0, 10] (l3 + (3 : Int32)) (fun x19 => aldI h15 l0 [0, 10] (l3 + (4 : Int32)) (fun x20 => ck h15 l2 8 (cc (fX6_ring c h15 l2 x17 x18 x19 x20) (kI fun h21 x22 => if x16 = x22 then (fL_law_917 c (fL_law_18 c n) h21 l0 l1 l2 l3) else (rtI .boolean h21 (0 : Int32))))))))))))))), ((2 : Int32), aldI h l0 [0, 10] (l3 + (1 : Int32)) (fun x23 => aldI h l0 [0, 10] (l3 + (2 : Int32)) (fun x24 => ck h l1 7 (cc (fX5_strike c h l1 x23 x24) (kI fun h25 x26 => aldI h25 l0 [0, 10] (l3 + (1 : Int32)) (fun x27 => aldI h25 l0 [0, 10] (l3 + (2 : Int32)) (fun x28 => ck h25 l2 8 (cc (fX6_strike c h25 l2 x27 x28) (kI fun h29 x30 => if x26 = x30 then (fL_law_917 c (fL_law_18 c n) h29 l0 l1 l2 l3) else (rtI .boolean h29 (0 : Int32))))))))))), ((3 : Int32), aldI h l0 [0, 10] (l3 + (1 : Int32)) (fun x31 => aldI h l0 [0, 10] (l3 + (2 : Int32)) (fun x32 => ck h l1 7 (cc (fX5_close c h l1 x31 x32) (kI fun h33 x34 => aldI h33 l0 [0, 10] (l3 + (1 : Int32)) (fun x35 => aldI h33 l0 [0, 10] (l3 + (2 : Int32)) (fun x36 => ck h33 l2 8 (cc (fX6_close c h33 l2 x35 x36) (kI fun h37 x38 => if x34 = x38 then (fL_law_917 c (fL_law_18 c n) h37 l0 l1 l2 l3) else (rtI .boolean h37 (0 : Int32))))))))))), ((4 : Int32), aldI h l0 [0, 10] (l3 + (1 : Int32)) (fun x39 => aldI h l0 [0, 10] (l3 + (2 : Int32)) (fun x40 => ck h l1 7 (cc (fX5_hurry c h l1 x39 x40) (kI fun h41 x42 => aldI h41 l0 [0, 10] (l3 + (1 : Int32)) (fun x43 => aldI h41 l0 [0, 10] (l3 + (2 : Int32)) (fun x44 => ck h41 l2 8 (cc (fX6_hurry c h41 l2 x43 x44) (kI fun h45 x46 => if x42 = x46 then (fL_law_917 c (fL_law_18 c n) h45 l0 l1 l2 l3) else (rtI .boolean h45 (0 : Int32))))))))))), ((5 : Int32), ck h l1 7 (cc (fX5_newRoll c h l1) (kI fun h47 x48 => ck h47 l2 8 (cc (fX6_newRoll c h47 l2) (kI fun h49 x50 => if x48 = x50 then (fL_law_917 c (fL_law_18 c n) h49 l0 l1 l2 l3) else (rtI .boolean h49 (0 : Int32))))))), ((6 : Int32), aldI h l0 [0, 10] (l3 + (1 : Int32)) (fun x51 => ck h l1 7 (cc (fX5_tear c h l1 x51) (kI fun h52 x53 => aldI h52 l0 [0, 10] (l3 + (1 : Int32)) (fun x54 => ck h52 l2 8 (cc (fX6_tear c h52 l2 x54) (kI fun h55 x56 => if x53 = x56 then (fL_law_917 c (fL_law_18 c n) h55 l0 l1 l2 l3) else (rtI .boolean h55 (0 : Int32))))))))), ((7 : Int32), aldI h l0 [0, 10] (l3 + (1 : Int32)) (fun x57 => ck h l1 7 (cc (fX5_pass c h l1 x57) (kI fun h58 x59 => aldI h58 l0 [0, 10] (l3 + (1 : Int32)) (fun x60 => ck h58 l2 8 (cc (fX6_pass c h58 l2 x60) (kI fun h61 x62 => if x59 = x62 then (fL_law_917 c (fL_law_18 c n) h61 l0 l1 l2 l3) else (rtI .boolean h61 (0 : Int32))))))))), ((8 : Int32), aldI h l0 [0, 10] (l3 + (1 : Int32)) (fun x63 => aldI h l0 [0, 10] (l3 + (2 : Int32)) (fun x64 => aldI h l0 [0, 10] (l3 + (3 : Int32)) (fun x65 => ck h l1 7 (cc (fX5_item c h l1 x63 x64 x65) (kI fun h66 x67 => aldI h66 l0 [0, 10] (l3 + (1 : Int32)) (fun x68 => aldI h66 l0 [0, 10] (l3 + (2 : Int32)) (fun x69 => aldI h66 l0 [0, 10] (l3 + (3 : Int32)) (fun x70 => ck h66 l2 8 (cc (fX6_item c h66 l2 x68 x69 x70) (kI fun h71 x72 => if x67 = x72 then (fL_law_917 c (fL_law_18 c n) h71 l0 l1 l2 l3) else (rtI .boolean h71 (0 : Int32))))))))))))), ((9 : Int32), aldI h l0 [0, 10] (l3 + (1 : Int32)) (fun x73 => aldI h l0 [0, 10] (l3 + (2 : Int32)) (fun x74 => ck h l1 7 (cc (fX5_ofTill c h l1 x73 x74) (kI fun h75 x76 => aldI h75 l0 [0, 10] (l3 + (1 : Int32)) (fun x77 => aldI h75 l0 [0, 10] (l3 + (2 : Int32)) (fun x78 => ck h75 l2 8 (cc (fX6_ofTill c h75 l2 x77 x78) (kI fun h79 x80 => if x76 = x80 then (fL_law_917 c (fL_law_18 c n) h79 l0 l1 l2 l3) else (rtI .boolean h79 (0 : Int32))))))))))), ((10 : Int32), aldI h l0 [0, 10] (l3 + (1 : Int32)) (fun x81 => aldI h l0 [0, 10] (l3 + (2 : Int32)) (fun x82 => ck h l1 7 (cc (fX5_ofReceipt c h l1 x81 x82) (kI fun h83 x84 => aldI h83 l0 [0, 10] (l3 + (1 : Int32)) (fun x85 => aldI h83 l0 [0, 10] (l3 + (2 : Int32)) (fun x86 => ck h83 l2 8 (cc (fX6_ofReceipt c h83 l2 x85 x86) (kI fun h87 x88 => if x84 = x88 then (fL_law_917 c (fL_law_18 c n) h87 l0 l1 l2 l3) else (rtI .boolean h87 (0 : Int32))))))))))), ((11 : Int32), aldI h l0 [0, 10] (l3 + (1 : Int32)) (fun x89 => aldI h l0 [0, 10] (l3 + (2 : Int32)) (fun x90 => aldI h l0 [0, 10] (l3 + (3 : Int32)) (fun x91 => ck h l1 7 (cc (fX5_sign c h l1 x89 x90 x91) (kI fun h92 x93 => aldI h92 l0 [0, 10] (l3 + (1 : Int32)) (fun x94 => aldI h92 l0 [0, 10] (l3 + (2 : Int32)) (fun x95 => aldI h92 l0 [0, 10] (l3 + (3 : Int32)) (fun x96 => ck h92 l2 8 (cc (fX6_sign c h92 l2 x94 x95 x96) (kI fun h97 x98 => if x93 = x98 then (fL_law_917 c (fL_law_18 c n) h97 l0 l1 l2 l3) else (rtI .boolean h97 (0 : Int32))))))))))))), ((12 : Int32), aldI h l0 [0, 10] (l3 + (1 : Int32)) (fun x99 => ck h l1 7 (cc (fX5_waiting c h l1 x99) (kI fun h100 x101 => aldI h100 l0 [0, 10] (l3 + (1 : Int32)) (fun x102 => ck h100 l2 8 (cc (fX6_waiting c h100 l2 x102) (kI fun h103 x104 => if x101 = x104 then (fL_law_917 c (fL_law_18 c n) h103 l0 l1 l2 l3) else (rtI .boolean h103 (0 : Int32))))))))), ((13 : Int32), aldI h l0 [0, 10] (l3 + (1 : Int32)) (fun x105 => ck h l1 7 (cc (fX5_printer c h l1 x105) (kI fun h106 x107 => aldI h106 l0 [0, 10] (l3 + (1 : Int32)) (fun x108 => ck h106 l2 8 (cc (fX6_printer c h106 l2 x108) (kI fun h109 x110 => if x107 = x110 then (fL_law_917 c (fL_law_18 c n) h109 l0 l1 l2 l3) else (rtI .boolean h109 (0 : Int32))))))))), ((14 : Int32), aldI h l0 [0, 10] (l3 + (1 : Int32)) (fun x111 => ck h l1 7 (cc (fX5_count c h l1 x111) (kI fun h112 x113 => aldI h112 l0 [0, 10] (l3 + (1 : Int32)) (fun x114 => ck h112 l2 8 (cc (fX6_count c h112 l2 x114) (kI fun h115 x116 => if x113 = x116 then (fL_law_917 c (fL_law_18 c n) h115 l0 l1 l2 l3) else (rtI .boolean h115 (0 : Int32))))))))), ((15 : Int32), aldI h l0 [0, 10] (l3 + (1 : Int32)) (fun x117 => aldI h l0 [0, 10] (l3 + (2 : Int32)) (fun x118 => aldI h l0 [0, 10] (l3 + (3 : Int32)) (fun x119 => ck h l1 7 (cc (fX5_between c h l1 x117 x118 x119) (kI fun h120 x121 => aldI h120 l0 [0, 10] (l3 + (1 : Int32)) (fun x122 => aldI h120 l0 [0, 10] (l3 + (2 : Int32)) (fun x123 => aldI h120 l0 [0, 10] (l3 + (3 : Int32)) (fun x124 => ck h120 l2 8 (cc (fX6_between c h120 l2 x122 x123 x124) (kI fun h125 x126 => if x121 = x126 then (fL_law_917 c (fL_law_18 c n) h125 l0 l1 l2 l3) else (rtI .boolean h125 (0 : Int32))))))))))))), ((16 : Int32), aldI h l0 [0, 10] (l3 + (1 : Int32)) (fun x127 => ck h l1 7 (cc (fX5_doneIn c h l1 x127) (kI fun h128 x129 => aldI h128 l0 [0, 10] (l3 + (1 : Int32)) (fun x130 => ck h128 l2 8 (cc (fX6_doneIn c h128 l2 x130) (kI fun h131 x132 => if x129 = x132 then (fL_law_917 c (fL_law_18 c n) h131 l0 l1 l2 l3) else (rtI .boolean h131 (0 : Int32))))))))), ((17 : Int32), ck h l1 7 (cc (fX5_linesLeft c h l1) (kI fun h133 x134 => ck h133 l2 8 (cc (fX6_linesLeft c h133 l2) (kI fun h135 x136 => if x134 = x136 then (fL_law_917 c (fL_law_18 c n) h135 l0 l1 l2 l3) else (rtI .boolean h135 (0 : Int32))))))), ((18 : Int32), ck h l1 7 (cc (fX5_outIn c h l1) (kI fun h137 x138 => ck h137 l2 8 (cc (fX6_outIn c h137 l2) (kI fun h139 x140 => if x138 = x140 then (fL_law_917 c (fL_law_18 c n) h139 l0 l1 l2 l3) else (rtI .boolean h139 (0 : Int32))))))), ((19 : Int32), aldI h l0 [0, 10] (l3 + (1 : Int32)) (fun x141 => aldI h l0 [0, 10] (l3 + (2 : Int32)) (fun x142 => ck h l1 7 (cc (fX5_bestWidth c h l1 x141 x142) (kI fun h143 x144 => aldI h143 l0 [0, 10] (l3 + (1 : Int32)) (fun x145 => aldI h143 l0 [0, 10] (l3 + (2 : Int32)) (fun x146 => ck h143 l2 8 (cc (fX6_bestWidth c h143 l2 x145 x146) (kI fun h147 x148 => if x144 = x148 then (fL_law_917 c (fL_law_18 c n) h147 l0 l1 l2 l3) else (rtI .boolean h147 (0 : Int32))))))))))), ((20 : Int32), aldI h l0 [0, 10] (l3 + (1 : Int32)) (fun x149 => aldI h l0 [0, 10] (l3 + (2 : Int32)) (fun x150 => ck h l1 7 (cc (fX5_ifStruck c h l1 x149 x150) (kI fun h151 x152 => aldI h151 l0 [0, 10] (l3 + (1 : Int32)) (fun x153 => aldI h151 l0 [0, 10] (l3 + (2 : Int32)) (fun x154 => ck h151 l2 8 (cc (fX6_ifStruck c h151 l2 x153 x154) (kI fun h155 x156 => if x152 = x156 then (fL_law_917 c (fL_law_18 c n) h155 l0 l1 l2 l3) else (rtI .boolean h155 (0 : Int32))))))))))), ((21 : Int32), aldI h l0 [0, 10] (l3 + (1 : Int32)) (fun x157 => aldI h l0 [0, 10] (l3 + (2 : Int32)) (fun x158 => ck h l1 7 (cc (fX5_put c h l1 ((shlL (Int32.toInt64 x157) (32 : Int32)) ||| ((Int32.toInt64 x158) &&& (4294967295 : Int64)))) (kI fun h159 x160 => aldI h159 l0 [0, 10] (l3 + (1 : Int32)) (fun x161 => aldI h159 l0 [0, 10] (l3 + (2 : Int32)) (fun x162 => ck h159 l2 8 (cc (fX6_put c h159 l2 ((shlL (Int32.toInt64 x161) (32 : Int32)) ||| ((Int32.toInt64 x162) &&& (4294967295 : Int64)))) (kI fun h163 x164 => if x160 = x164 then (fL_law_917 c (fL_law_18 c n) h163 l0 l1 l2 l3) else (rtI .boolean h163 (0 : Int32))))))))))), ((22 : Int32), ck h l1 7 (cc (fX5_wipe c h l1) (kI fun h165 x166 => ck h165 l2 8 (cc (fX6_wipe c h165 l2) (kI fun h167 x168 => if x166 = x168 then (fL_law_917 c (fL_law_18 c n) h167 l0 l1 l2 l3) else (rtI .boolean h167 (0 : Int32))))))), ((23 : Int32), ck h l1 7 (cc (fX5_fault c h l1) (kI fun h169 x170 => ck h169 l2 8 (cc (fX6_fault c h169 l2) (kI fun h171 x172 => if x170 = x172 then (fL_law_917 c (fL_law_18 c n) h171 l0 l1 l2 l3) else (rtI .boolean h171 (0 : Int32))))))), ((24 : Int32), ck h l1 7 (cc (fX5_undo c h l1) (kI fun h173 x174 => ck h173 l2 8 (cc (fX6_undo c h173 l2) (kI fun h175 x176 => if x174 = x176 then (fL_law_917 c (fL_law_18 c n) h175 l0 l1 l2 l3) else (rtI .boolean h175 (0 : Int32))))))), ((25 : Int32), aldI h l0 [0, 10] (l3 + (1 : Int32)) (fun x177 => ck h l1 7 (cc (fX5_save c h l1 x177) (kI fun h178 x179 => aldI h178 l0 [0, 10] (l3 + (1 : Int32)) (fun x180 => ck h178 l2 8 (cc (fX6_save c h178 l2 x180) (kI fun h181 x182 => if x179 = x182 then (fL_law_917 c (fL_law_18 c n) h181 l0 l1 l2 l3) else (rtI .boolean h181 (0 : Int32))))))))), ((26 : Int32), aldI h l0 [0, 10] (l3 + (1 : Int32)) (fun x183 => ck h l1 7 (cc (fX5_restore c h l1 x183) (kI fun h184 x185 => aldI h184 l0 [0, 10] (l3 + (1 : Int32)) (fun x186 => ck h184 l2 8 (cc (fX6_restore c h184 l2 x186) (kI fun h187 x188 => if x185 = x188 then (fL_law_917 c (fL_law_18 c n) h187 l0 l1 l2 l3) else (rtI .boolean h187 (0 : Int32)))))))))] (fL_law_917 c (fL_law_18 c n) h l0 l1 l2 l3))))
set_option maxHeartbeats 4000000 in
set_option maxRecDepth 100000 in
theorem sL_law_18 (X : Cx) {h0 : Hp} : ∀ (n : Nat) (h : Hp) (l0 : Option Nat) (l1 : Option Nat) (l2 : Option Nat) (l3 : Int32), Gd X mL_law h0 (fL_law_18 X.2.2.2 n h l0 l1 l2 l3) h 18 [some (.inr (.inr l0)), some (.inr (.inr l1)), some (.inr (.inr l2)), some (.inl l3)] [] := by
  intro n
  induction n with
  | zero => intros; exact gd_none
  | succ n ih =>
    intro h l0 l1 l2 l3
    unfold fL_law_18
    refine q_run tkL_law 10 2 (pc' := 20) (L' := [some (.inr (.inr l0)), some (.inr (.inr l1)), some (.inr (.inr l2)), some (.inl l3)]) (st' := [.inr (.inr l0), .inl l3]) rfl ?_
    refine q_alen (tbm tkL_law (i := 12) rfl) (fun x1 => ?_)
    refine q_run tkL_law 13 2 (pc' := 23) (L' := [some (.inr (.inr l0)), some (.inr (.inr l1)), some (.inr (.inr l2)), some (.inl l3)]) (st' := [.inl (x1 - (5 : Int32)), .inl l3]) rfl ?_
    refine q_icmp_gt (tbm tkL_law (i := 15) rfl) ?_ ?_
    · refine q_run tkL_law 617 1 (pc' := 924) (L' := [some (.inr (.inr l0)), some (.inr (.inr l1)), some (.inr (.inr l2)), some (.inl l3)]) (st' := [.inl (1 : Int32)]) rfl ?_
      exact q_zret (tbm tkL_law (i := 618) rfl) rfl
    · refine q_run tkL_law 16 2 (pc' := 28) (L' := [some (.inr (.inr l0)), some (.inr (.inr l1)), some (.inr (.inr l2)), some (.inl l3)]) (st' := [.inl l3, .inr (.inr l0)]) rfl ?_
      refine q_iaload (tbm tkL_law (i := 18) rfl) (fun x2 => ?_)
      refine q_run tkL_law 19 2 (pc' := 32) (L' := [some (.inr (.inr l0)), some (.inr (.inr l1)), some (.inr (.inr l2)), some (.inl l3)]) (st' := [.inl (x2 &&& (31 : Int32))]) rfl ?_
      refine q_sw [((0 : Int32), 156), ((1 : Int32), 189), ((2 : Int32), 242), ((3 : Int32), 275), ((4 : Int32), 308), ((5 : Int32), 341), ((6 : Int32), 354), ((7 : Int32), 377), ((8 : Int32), 400), ((9 : Int32), 443), ((10 : Int32), 476), ((11 : Int32), 509), ((12 : Int32), 552), ((13 : Int32), 575), ((14 : Int32), 598), ((15 : Int32), 621), ((16 : Int32), 664), ((17 : Int32), 687), ((18 : Int32), 700), ((19 : Int32), 713), ((20 : Int32), 746), ((21 : Int32), 779), ((22 : Int32), 832), ((23 : Int32), 845), ((24 : Int32), 858), ((25 : Int32), 871), ((26 : Int32), 894)] 917 (tbm tkL_law (i := 21) rfl) (by decide +kernel) ?_ ⟨⟨rfl, ?_⟩, ⟨rfl, ?_⟩, ⟨rfl, ?_⟩, ⟨rfl, ?_⟩, ⟨rfl, ?_⟩, ⟨rfl, ?_⟩, ⟨rfl, ?_⟩, ⟨rfl, ?_⟩, ⟨rfl, ?_⟩, ⟨rfl, ?_⟩, ⟨rfl, ?_⟩, ⟨rfl, ?_⟩, ⟨rfl, ?_⟩, ⟨rfl, ?_⟩, ⟨rfl, ?_⟩, ⟨rfl, ?_⟩, ⟨rfl, ?_⟩, ⟨rfl, ?_⟩, ⟨rfl, ?_⟩, ⟨rfl, ?_⟩, ⟨rfl, ?_⟩, ⟨rfl, ?_⟩, ⟨rfl, ?_⟩, ⟨rfl, ?_⟩, ⟨rfl, ?_⟩, ⟨rfl, ?_⟩, ⟨rfl, ?_⟩, trivial⟩
      · exact sL_law_917 X (fL_law_18 X.2.2.2 n) ih h l0 l1 l2 l3
      · refine q_run tkL_law 22 5 (pc' := 161) (L' := [some (.inr (.inr l0)), some (.inr (.inr l1)), some (.inr (.inr l2)), some (.inl l3)]) (st' := [.inl (l3 + (1 : Int32)), .inr (.inr l0), .inr (.inr l1)]) rfl ?_
        refine q_iaload (tbm tkL_law (i := 27) rfl) (fun x3 => ?_)
        refine q_run tkL_law 28 4 (pc' := 166) (L' := [some (.inr (.inr l0)), some (.inr (.inr l1)), some (.inr (.inr l2)), some (.inl l3)]) (st' := [.inl (l3 + (2 : Int32)), .inr (.inr l0), .inl x3, .inr (.inr l1)]) rfl ?_
        refine q_iaload (tbm tkL_law (i := 32) rfl) (fun x4 => ?_)
        refine q_cv (r := l1) (ci := 7) (n := 2) (as := [.inl x3, .inl x4]) (st := []) TX5 5 (soX5_set X h l1 x3 x4) (tbm tkL_law (i := 33) rfl) rfl rfl ceX5_set wd_321 wd_322 wd_320 rfl (Nat.le_of_ble_eq_true rfl) (kI_gd (fun h5 x6 => ?_))
        refine q_run tkL_law 34 5 (pc' := 175) (L' := [some (.inr (.inr l0)), some (.inr (.inr l1)), some (.inr (.inr l2)), some (.inl l3)]) (st' := [.inl (l3 + (1 : Int32)), .inr (.inr l0), .inr (.inr l2), .inl x6]) rfl ?_
        refine q_iaload (tbm tkL_law (i := 39) rfl) (fun x7 => ?_)
        refine q_run tkL_law 40 4 (pc' := 180) (L' := [some (.inr (.inr l0)), some (.inr (.inr l1)), some (.inr (.inr l2)), some (.inl l3)]) (st' := [.inl (l3 + (2 : Int32)), .inr (.inr l0), .inl x7, .inr (.inr l2), .inl x6]) rfl ?_
        refine q_iaload (tbm tkL_law (i := 44) rfl) (fun x8 => ?_)
        refine q_cv (r := l2) (ci := 8) (n := 2) (as := [.inl x7, .inl x8]) (st := [.inl x6]) TX6 15 (soX6_set X h5 l2 x7 x8) (tbm tkL_law (i := 45) rfl) rfl rfl ceX6_set wd_983 wd_984 wd_982 rfl (Nat.le_of_ble_eq_true rfl) (kI_gd (fun h9 x10 => ?_))
        refine q_icmp_eq (tbm tkL_law (i := 46) rfl) ?_ ?_
        · exact sL_law_917 X (fL_law_18 X.2.2.2 n) ih h9 l0 l1 l2 l3
        · refine q_run tkL_law 47 1 (pc' := 188) (L' := [some (.inr (.inr l0)), some (.inr (.inr l1)), some (.inr (.inr l2)), some (.inl l3)]) (st' := [.inl (0 : Int32)]) rfl ?_
          exact q_zret (tbm tkL_law (i := 48) rfl) rfl
      · refine q_run tkL_law 49 5 (pc' := 194) (L' := [some (.inr (.inr l0)), some (.inr (.inr l1)), some (.inr (.inr l2)), some (.inl l3)]) (st' := [.inl (l3 + (1 : Int32)), .inr (.inr l0), .inr (.inr l1)]) rfl ?_
        refine q_iaload (tbm tkL_law (i := 54) rfl) (fun x11 => ?_)
        refine q_run tkL_law 55 4 (pc' := 199) (L' := [some (.inr (.inr l0)), some (.inr (.inr l1)), some (.inr (.inr l2)), some (.inl l3)]) (st' := [.inl (l3 + (2 : Int32)), .inr (.inr l0), .inl x11, .inr (.inr l1)]) rfl ?_
        refine q_iaload (tbm tkL_law (i := 59) rfl) (fun x12 => ?_)
        refine q_run tkL_law 60 4 (pc' := 204) (L' := [some (.inr (.inr l0)), some (.inr (.inr l1)), some (.inr (.inr l2)), some (.inl l3)]) (st' := [.inl (l3 + (3 : Int32)), .inr (.inr l0), .inl x12, .inl x11, .inr (.inr l1)]) rfl ?_
        refine q_iaload (tbm tkL_law (i := 64) rfl) (fun x13 => ?_)
        refine q_run tkL_law 65 4 (pc' := 209) (L' := [some (.inr (.inr l0)), some (.inr (.inr l1)), some (.inr (.inr l2)), some (.inl l3)]) (st' := [.inl (l3 + (4 : Int32)), .inr (.inr l0), .inl x13, .inl x12, .inl x11, .inr (.inr l1)]) rfl ?_
        refine q_iaload (tbm tkL_law (i := 69) rfl) (fun x14 => ?_)
        refine q_cv (r := l1) (ci := 7) (n := 4) (as := [.inl x11, .inl x12, .inl x13, .inl x14]) (st := []) TX5 5 (soX5_ring X h l1 x11 x12 x13 x14) (tbm tkL_law (i := 70) rfl) rfl rfl ceX5_ring wd_356 wd_357 wd_355 rfl (Nat.le_of_ble_eq_true rfl) (kI_gd (fun h15 x16 => ?_))
        refine q_run tkL_law 71 5 (pc' := 218) (L' := [some (.inr (.inr l0)), some (.inr (.inr l1)), some (.inr (.inr l2)), some (.inl l3)]) (st' := [.inl (l3 + (1 : Int32)), .inr (.inr l0), .inr (.inr l2), .inl x16]) rfl ?_
        refine q_iaload (tbm tkL_law (i := 76) rfl) (fun x17 => ?_)
        refine q_run tkL_law 77 4 (pc' := 223) (L' := [some (.inr (.inr l0)), some (.inr (.inr l1)), some (.inr (.inr l2)), some (.inl l3)]) (st' := [.inl (l3 + (2 : Int32)), .inr (.inr l0), .inl x17, .inr (.inr l2), .inl x16]) rfl ?_
        refine q_iaload (tbm tkL_law (i := 81) rfl) (fun x18 => ?_)
        refine q_run tkL_law 82 4 (pc' := 228) (L' := [some (.inr (.inr l0)), some (.inr (.inr l1)), some (.inr (.inr l2)), some (.inl l3)]) (st' := [.inl (l3 + (3 : Int32)), .inr (.inr l0), .inl x18, .inl x17, .inr (.inr l2), .inl x16]) rfl ?_
        refine q_iaload (tbm tkL_law (i := 86) rfl) (fun x19 => ?_)
        refine q_run tkL_law 87 4 (pc' := 233) (L' := [some (.inr (.inr l0)), some (.inr (.inr l1)), some (.inr (.inr l2)), some (.inl l3)]) (st' := [.inl (l3 + (4 : Int32)), .inr (.inr l0), .inl x19, .inl x18, .inl x17, .inr (.inr l2), .inl x16]) rfl ?_
        refine q_iaload (tbm tkL_law (i := 91) rfl) (fun x20 => ?_)
        refine q_cv (r := l2) (ci := 8) (n := 4) (as := [.inl x17, .inl x18, .inl x19, .inl x20]) (st := [.inl x16]) TX6 15 (soX6_ring X h15 l2 x17 x18 x19 x20) (tbm tkL_law (i := 92) rfl) rfl rfl ceX6_ring wd_1000 wd_1001 wd_999 rfl (Nat.le_of_ble_eq_true rfl) (kI_gd (fun h21 x22 => ?_))
        refine q_icmp_eq (tbm tkL_law (i := 93) rfl) ?_ ?_
        · exact sL_law_917 X (fL_law_18 X.2.2.2 n) ih h21 l0 l1 l2 l3
        · refine q_run tkL_law 94 1 (pc' := 241) (L' := [some (.inr (.inr l0)), some (.inr (.inr l1)), some (.inr (.inr l2)), some (.inl l3)]) (st' := [.inl (0 : Int32)]) rfl ?_
          exact q_zret (tbm tkL_law (i := 95) rfl) rfl
      · refine q_run tkL_law 96 5 (pc' := 247) (L' := [some (.inr (.inr l0)), some (.inr (.inr l1)), some (.inr (.inr l2)), some (.inl l3)]) (st' := [.inl (l3 + (1 : Int32)), .inr (.inr l0), .inr (.inr l1)]) rfl ?_
        refine q_iaload (tbm tkL_law (i := 101) rfl) (fun x23 => ?_)
        refine q_run tkL_law 102 4 (pc' := 252) (L' := [some (.inr (.inr l0)), some (.inr (.inr l1)), some (.inr (.inr l2)), some (.inl l3)]) (st' := [.inl (l3 + (2 : Int32)), .inr (.inr l0), .inl x23, .inr (.inr l1)]) rfl ?_
        refine q_iaload (tbm tkL_law (i := 106) rfl) (fun x24 => ?_)
        refine q_cv (r := l1) (ci := 7) (n := 2) (as := [.inl x23, .inl x24]) (st := []) TX5 5 (soX5_strike X h l1 x23 x24) (tbm tkL_law (i := 107) rfl) rfl rfl ceX5_strike wd_560 wd_561 wd_559 rfl (Nat.le_of_ble_eq_true rfl) (kI_gd (fun h25 x26 => ?_))
        refine q_run tkL_law 108 5 (pc' := 261) (L' := [some (.inr (.inr l0)), some (.inr (.inr l1)), some (.inr (.inr l2)), some (.inl l3)]) (st' := [.inl (l3 + (1 : Int32)), .inr (.inr l0), .inr (.inr l2), .inl x26]) rfl ?_
        refine q_iaload (tbm tkL_law (i := 113) rfl) (fun x27 => ?_)
        refine q_run tkL_law 114 4 (pc' := 266) (L' := [some (.inr (.inr l0)), some (.inr (.inr l1)), some (.inr (.inr l2)), some (.inl l3)]) (st' := [.inl (l3 + (2 : Int32)), .inr (.inr l0), .inl x27, .inr (.inr l2), .inl x26]) rfl ?_
        refine q_iaload (tbm tkL_law (i := 118) rfl) (fun x28 => ?_)
        refine q_cv (r := l2) (ci := 8) (n := 2) (as := [.inl x27, .inl x28]) (st := [.inl x26]) TX6 15 (soX6_strike X h25 l2 x27 x28) (tbm tkL_law (i := 119) rfl) rfl rfl ceX6_strike wd_1027 wd_1028 wd_1026 rfl (Nat.le_of_ble_eq_true rfl) (kI_gd (fun h29 x30 => ?_))
        refine q_icmp_eq (tbm tkL_law (i := 120) rfl) ?_ ?_
        · exact sL_law_917 X (fL_law_18 X.2.2.2 n) ih h29 l0 l1 l2 l3
        · refine q_run tkL_law 121 1 (pc' := 274) (L' := [some (.inr (.inr l0)), some (.inr (.inr l1)), some (.inr (.inr l2)), some (.inl l3)]) (st' := [.inl (0 : Int32)]) rfl ?_
          exact q_zret (tbm tkL_law (i := 122) rfl) rfl
      · refine q_run tkL_law 123 5 (pc' := 280) (L' := [some (.inr (.inr l0)), some (.inr (.inr l1)), some (.inr (.inr l2)), some (.inl l3)]) (st' := [.inl (l3 + (1 : Int32)), .inr (.inr l0), .inr (.inr l1)]) rfl ?_
        refine q_iaload (tbm tkL_law (i := 128) rfl) (fun x31 => ?_)
        refine q_run tkL_law 129 4 (pc' := 285) (L' := [some (.inr (.inr l0)), some (.inr (.inr l1)), some (.inr (.inr l2)), some (.inl l3)]) (st' := [.inl (l3 + (2 : Int32)), .inr (.inr l0), .inl x31, .inr (.inr l1)]) rfl ?_
        refine q_iaload (tbm tkL_law (i := 133) rfl) (fun x32 => ?_)
        refine q_cv (r := l1) (ci := 7) (n := 2) (as := [.inl x31, .inl x32]) (st := []) TX5 5 (soX5_close X h l1 x31 x32) (tbm tkL_law (i := 134) rfl) rfl rfl ceX5_close wd_580 wd_581 wd_579 rfl (Nat.le_of_ble_eq_true rfl) (kI_gd (fun h33 x34 => ?_))
        refine q_run tkL_law 135 5 (pc' := 294) (L' := [some (.inr (.inr l0)), some (.inr (.inr l1)), some (.inr (.inr l2)), some (.inl l3)]) (st' := [.inl (l3 + (1 : Int32)), .inr (.inr l0), .inr (.inr l2), .inl x34]) rfl ?_
        refine q_iaload (tbm tkL_law (i := 140) rfl) (fun x35 => ?_)
        refine q_run tkL_law 141 4 (pc' := 299) (L' := [some (.inr (.inr l0)), some (.inr (.inr l1)), some (.inr (.inr l2)), some (.inl l3)]) (st' := [.inl (l3 + (2 : Int32)), .inr (.inr l0), .inl x35, .inr (.inr l2), .inl x34]) rfl ?_
        refine q_iaload (tbm tkL_law (i := 145) rfl) (fun x36 => ?_)
        refine q_cv (r := l2) (ci := 8) (n := 2) (as := [.inl x35, .inl x36]) (st := [.inl x34]) TX6 15 (soX6_close X h33 l2 x35 x36) (tbm tkL_law (i := 146) rfl) rfl rfl ceX6_close wd_1056 wd_1057 wd_1055 rfl (Nat.le_of_ble_eq_true rfl) (kI_gd (fun h37 x38 => ?_))
        refine q_icmp_eq (tbm tkL_law (i := 147) rfl) ?_ ?_
        · exact sL_law_917 X (fL_law_18 X.2.2.2 n) ih h37 l0 l1 l2 l3
        · refine q_run tkL_law 148 1 (pc' := 307) (L' := [some (.inr (.inr l0)), some (.inr (.inr l1)), some (.inr (.inr l2)), some (.inl l3)]) (st' := [.inl (0 : Int32)]) rfl ?_
          exact q_zret (tbm tkL_law (i := 149) rfl) rfl
      · refine q_run tkL_law 150 5 (pc' := 313) (L' := [some (.inr (.inr l0)), some (.inr (.inr l1)), some (.inr (.inr l2)), some (.inl l3)]) (st' := [.inl (l3 + (1 : Int32)), .inr (.inr l0), .inr (.inr l1)]) rfl ?_
        refine q_iaload (tbm tkL_law (i := 155) rfl) (fun x39 => ?_)
        refine q_run tkL_law 156 4 (pc' := 318) (L' := [some (.inr (.inr l0)), some (.inr (.inr l1)), some (.inr (.inr l2)), some (.inl l3)]) (st' := [.inl (l3 + (2 : Int32)), .inr (.inr l0), .inl x39, .inr (.inr l1)]) rfl ?_
        refine q_iaload (tbm tkL_law (i := 160) rfl) (fun x40 => ?_)
        refine q_cv (r := l1) (ci := 7) (n := 2) (as := [.inl x39, .inl x40]) (st := []) TX5 5 (soX5_hurry X h l1 x39 x40) (tbm tkL_law (i := 161) rfl) rfl rfl ceX5_hurry wd_708 wd_709 wd_707 rfl (Nat.le_of_ble_eq_true rfl) (kI_gd (fun h41 x42 => ?_))
        refine q_run tkL_law 162 5 (pc' := 327) (L' := [some (.inr (.inr l0)), some (.inr (.inr l1)), some (.inr (.inr l2)), some (.inl l3)]) (st' := [.inl (l3 + (1 : Int32)), .inr (.inr l0), .inr (.inr l2), .inl x42]) rfl ?_
        refine q_iaload (tbm tkL_law (i := 167) rfl) (fun x43 => ?_)
        refine q_run tkL_law 168 4 (pc' := 332) (L' := [some (.inr (.inr l0)), some (.inr (.inr l1)), some (.inr (.inr l2)), some (.inl l3)]) (st' := [.inl (l3 + (2 : Int32)), .inr (.inr l0), .inl x43, .inr (.inr l2), .inl x42]) rfl ?_
        refine q_iaload (tbm tkL_law (i := 172) rfl) (fun x44 => ?_)
        refine q_cv (r := l2) (ci := 8) (n := 2) (as := [.inl x43, .inl x44]) (st := [.inl x42]) TX6 15 (soX6_hurry X h41 l2 x43 x44) (tbm tkL_law (i := 173) rfl) rfl rfl ceX6_hurry wd_1076 wd_1077 wd_1075 rfl (Nat.le_of_ble_eq_true rfl) (kI_gd (fun h45 x46 => ?_))
        refine q_icmp_eq (tbm tkL_law (i := 174) rfl) ?_ ?_
        · exact sL_law_917 X (fL_law_18 X.2.2.2 n) ih h45 l0 l1 l2 l3
        · refine q_run tkL_law 175 1 (pc' := 340) (L' := [some (.inr (.inr l0)), some (.inr (.inr l1)), some (.inr (.inr l2)), some (.inl l3)]) (st' := [.inl (0 : Int32)]) rfl ?_
          exact q_zret (tbm tkL_law (i := 176) rfl) rfl
      · refine q_run tkL_law 177 1 (pc' := 342) (L' := [some (.inr (.inr l0)), some (.inr (.inr l1)), some (.inr (.inr l2)), some (.inl l3)]) (st' := [.inr (.inr l1)]) rfl ?_
        refine q_cv (r := l1) (ci := 7) (n := 0) (as := []) (st := []) TX5 5 (soX5_newRoll X h l1) (tbm tkL_law (i := 178) rfl) rfl rfl ceX5_newRoll wd_724 wd_725 wd_723 rfl (Nat.le_of_ble_eq_true rfl) (kI_gd (fun h47 x48 => ?_))
        refine q_run tkL_law 179 1 (pc' := 346) (L' := [some (.inr (.inr l0)), some (.inr (.inr l1)), some (.inr (.inr l2)), some (.inl l3)]) (st' := [.inr (.inr l2), .inl x48]) rfl ?_
        refine q_cv (r := l2) (ci := 8) (n := 0) (as := []) (st := [.inl x48]) TX6 15 (soX6_newRoll X h47 l2) (tbm tkL_law (i := 180) rfl) rfl rfl ceX6_newRoll wd_1084 wd_1085 wd_1083 rfl (Nat.le_of_ble_eq_true rfl) (kI_gd (fun h49 x50 => ?_))
        refine q_icmp_eq (tbm tkL_law (i := 181) rfl) ?_ ?_
        · exact sL_law_917 X (fL_law_18 X.2.2.2 n) ih h49 l0 l1 l2 l3
        · refine q_run tkL_law 182 1 (pc' := 353) (L' := [some (.inr (.inr l0)), some (.inr (.inr l1)), some (.inr (.inr l2)), some (.inl l3)]) (st' := [.inl (0 : Int32)]) rfl ?_
          exact q_zret (tbm tkL_law (i := 183) rfl) rfl
      · refine q_run tkL_law 184 5 (pc' := 359) (L' := [some (.inr (.inr l0)), some (.inr (.inr l1)), some (.inr (.inr l2)), some (.inl l3)]) (st' := [.inl (l3 + (1 : Int32)), .inr (.inr l0), .inr (.inr l1)]) rfl ?_
        refine q_iaload (tbm tkL_law (i := 189) rfl) (fun x51 => ?_)
        refine q_cv (r := l1) (ci := 7) (n := 1) (as := [.inl x51]) (st := []) TX5 5 (soX5_tear X h l1 x51) (tbm tkL_law (i := 190) rfl) rfl rfl ceX5_tear wd_728 wd_729 wd_727 rfl (Nat.le_of_ble_eq_true rfl) (kI_gd (fun h52 x53 => ?_))
        refine q_run tkL_law 191 5 (pc' := 368) (L' := [some (.inr (.inr l0)), some (.inr (.inr l1)), some (.inr (.inr l2)), some (.inl l3)]) (st' := [.inl (l3 + (1 : Int32)), .inr (.inr l0), .inr (.inr l2), .inl x53]) rfl ?_
        refine q_iaload (tbm tkL_law (i := 196) rfl) (fun x54 => ?_)
        refine q_cv (r := l2) (ci := 8) (n := 1) (as := [.inl x54]) (st := [.inl x53]) TX6 15 (soX6_tear X h52 l2 x54) (tbm tkL_law (i := 197) rfl) rfl rfl ceX6_tear wd_1088 wd_1089 wd_1087 rfl (Nat.le_of_ble_eq_true rfl) (kI_gd (fun h55 x56 => ?_))
        refine q_icmp_eq (tbm tkL_law (i := 198) rfl) ?_ ?_
        · exact sL_law_917 X (fL_law_18 X.2.2.2 n) ih h55 l0 l1 l2 l3
        · refine q_run tkL_law 199 1 (pc' := 376) (L' := [some (.inr (.inr l0)), some (.inr (.inr l1)), some (.inr (.inr l2)), some (.inl l3)]) (st' := [.inl (0 : Int32)]) rfl ?_
          exact q_zret (tbm tkL_law (i := 200) rfl) rfl
      · refine q_run tkL_law 201 5 (pc' := 382) (L' := [some (.inr (.inr l0)), some (.inr (.inr l1)), some (.inr (.inr l2)), some (.inl l3)]) (st' := [.inl (l3 + (1 : Int32)), .inr (.inr l0), .inr (.inr l1)]) rfl ?_
        refine q_iaload (tbm tkL_law (i := 206) rfl) (fun x57 => ?_)
        refine q_cv (r := l1) (ci := 7) (n := 1) (as := [.inl x57]) (st := []) TX5 5 (soX5_pass X h l1 x57) (tbm tkL_law (i := 207) rfl) rfl rfl ceX5_pass wd_732 wd_733 wd_731 rfl (Nat.le_of_ble_eq_true rfl) (kI_gd (fun h58 x59 => ?_))
        refine q_run tkL_law 208 5 (pc' := 391) (L' := [some (.inr (.inr l0)), some (.inr (.inr l1)), some (.inr (.inr l2)), some (.inl l3)]) (st' := [.inl (l3 + (1 : Int32)), .inr (.inr l0), .inr (.inr l2), .inl x59]) rfl ?_
        refine q_iaload (tbm tkL_law (i := 213) rfl) (fun x60 => ?_)
        refine q_cv (r := l2) (ci := 8) (n := 1) (as := [.inl x60]) (st := [.inl x59]) TX6 15 (soX6_pass X h58 l2 x60) (tbm tkL_law (i := 214) rfl) rfl rfl ceX6_pass wd_1179 wd_1180 wd_1178 rfl (Nat.le_of_ble_eq_true rfl) (kI_gd (fun h61 x62 => ?_))
        refine q_icmp_eq (tbm tkL_law (i := 215) rfl) ?_ ?_
        · exact sL_law_917 X (fL_law_18 X.2.2.2 n) ih h61 l0 l1 l2 l3
        · refine q_run tkL_law 216 1 (pc' := 399) (L' := [some (.inr (.inr l0)), some (.inr (.inr l1)), some (.inr (.inr l2)), some (.inl l3)]) (st' := [.inl (0 : Int32)]) rfl ?_
          exact q_zret (tbm tkL_law (i := 217) rfl) rfl
      · refine q_run tkL_law 218 5 (pc' := 405) (L' := [some (.inr (.inr l0)), some (.inr (.inr l1)), some (.inr (.inr l2)), some (.inl l3)]) (st' := [.inl (l3 + (1 : Int32)), .inr (.inr l0), .inr (.inr l1)]) rfl ?_
        refine q_iaload (tbm tkL_law (i := 223) rfl) (fun x63 => ?_)
        refine q_run tkL_law 224 4 (pc' := 410) (L' := [some (.inr (.inr l0)), some (.inr (.inr l1)), some (.inr (.inr l2)), some (.inl l3)]) (st' := [.inl (l3 + (2 : Int32)), .inr (.inr l0), .inl x63, .inr (.inr l1)]) rfl ?_
        refine q_iaload (tbm tkL_law (i := 228) rfl) (fun x64 => ?_)
        refine q_run tkL_law 229 4 (pc' := 415) (L' := [some (.inr (.inr l0)), some (.inr (.inr l1)), some (.inr (.inr l2)), some (.inl l3)]) (st' := [.inl (l3 + (3 : Int32)), .inr (.inr l0), .inl x64, .inl x63, .inr (.inr l1)]) rfl ?_
        refine q_iaload (tbm tkL_law (i := 233) rfl) (fun x65 => ?_)
        refine q_cv (r := l1) (ci := 7) (n := 3) (as := [.inl x63, .inl x64, .inl x65]) (st := []) TX5 5 (soX5_item X h l1 x63 x64 x65) (tbm tkL_law (i := 234) rfl) rfl rfl ceX5_item wd_766 wd_767 wd_765 rfl (Nat.le_of_ble_eq_true rfl) (kI_gd (fun h66 x67 => ?_))
        refine q_run tkL_law 235 5 (pc' := 424) (L' := [some (.inr (.inr l0)), some (.inr (.inr l1)), some (.inr (.inr l2)), some (.inl l3)]) (st' := [.inl (l3 + (1 : Int32)), .inr (.inr l0), .inr (.inr l2), .inl x67]) rfl ?_
        refine q_iaload (tbm tkL_law (i := 240) rfl) (fun x68 => ?_)
        refine q_run tkL_law 241 4 (pc' := 429) (L' := [some (.inr (.inr l0)), some (.inr (.inr l1)), some (.inr (.inr l2)), some (.inl l3)]) (st' := [.inl (l3 + (2 : Int32)), .inr (.inr l0), .inl x68, .inr (.inr l2), .inl x67]) rfl ?_
        refine q_iaload (tbm tkL_law (i := 245) rfl) (fun x69 => ?_)
        refine q_run tkL_law 246 4 (pc' := 434) (L' := [some (.inr (.inr l0)), some (.inr (.inr l1)), some (.inr (.inr l2)), some (.inl l3)]) (st' := [.inl (l3 + (3 : Int32)), .inr (.inr l0), .inl x69, .inl x68, .inr (.inr l2), .inl x67]) rfl ?_
        refine q_iaload (tbm tkL_law (i := 250) rfl) (fun x70 => ?_)
        refine q_cv (r := l2) (ci := 8) (n := 3) (as := [.inl x68, .inl x69, .inl x70]) (st := [.inl x67]) TX6 15 (soX6_item X h66 l2 x68 x69 x70) (tbm tkL_law (i := 251) rfl) rfl rfl ceX6_item wd_1215 wd_1216 wd_1214 rfl (Nat.le_of_ble_eq_true rfl) (kI_gd (fun h71 x72 => ?_))
        refine q_icmp_eq (tbm tkL_law (i := 252) rfl) ?_ ?_
        · exact sL_law_917 X (fL_law_18 X.2.2.2 n) ih h71 l0 l1 l2 l3
        · refine q_run tkL_law 253 1 (pc' := 442) (L' := [some (.inr (.inr l0)), some (.inr (.inr l1)), some (.inr (.inr l2)), some (.inl l3)]) (st' := [.inl (0 : Int32)]) rfl ?_
          exact q_zret (tbm tkL_law (i := 254) rfl) rfl
      · refine q_run tkL_law 255 5 (pc' := 448) (L' := [some (.inr (.inr l0)), some (.inr (.inr l1)), some (.inr (.inr l2)), some (.inl l3)]) (st' := [.inl (l3 + (1 : Int32)), .inr (.inr l0), .inr (.inr l1)]) rfl ?_
        refine q_iaload (tbm tkL_law (i := 260) rfl) (fun x73 => ?_)
        refine q_run tkL_law 261 4 (pc' := 453) (L' := [some (.inr (.inr l0)), some (.inr (.inr l1)), some (.inr (.inr l2)), some (.inl l3)]) (st' := [.inl (l3 + (2 : Int32)), .inr (.inr l0), .inl x73, .inr (.inr l1)]) rfl ?_
        refine q_iaload (tbm tkL_law (i := 265) rfl) (fun x74 => ?_)
        refine q_cv (r := l1) (ci := 7) (n := 2) (as := [.inl x73, .inl x74]) (st := []) TX5 5 (soX5_ofTill X h l1 x73 x74) (tbm tkL_law (i := 266) rfl) rfl rfl ceX5_ofTill wd_775 wd_776 wd_774 rfl (Nat.le_of_ble_eq_true rfl) (kI_gd (fun h75 x76 => ?_))
        refine q_run tkL_law 267 5 (pc' := 462) (L' := [some (.inr (.inr l0)), some (.inr (.inr l1)), some (.inr (.inr l2)), some (.inl l3)]) (st' := [.inl (l3 + (1 : Int32)), .inr (.inr l0), .inr (.inr l2), .inl x76]) rfl ?_
        refine q_iaload (tbm tkL_law (i := 272) rfl) (fun x77 => ?_)
        refine q_run tkL_law 273 4 (pc' := 467) (L' := [some (.inr (.inr l0)), some (.inr (.inr l1)), some (.inr (.inr l2)), some (.inl l3)]) (st' := [.inl (l3 + (2 : Int32)), .inr (.inr l0), .inl x77, .inr (.inr l2), .inl x76]) rfl ?_
        refine q_iaload (tbm tkL_law (i := 277) rfl) (fun x78 => ?_)
        refine q_cv (r := l2) (ci := 8) (n := 2) (as := [.inl x77, .inl x78]) (st := [.inl x76]) TX6 15 (soX6_ofTill X h75 l2 x77 x78) (tbm tkL_law (i := 278) rfl) rfl rfl ceX6_ofTill wd_1223 wd_1224 wd_1222 rfl (Nat.le_of_ble_eq_true rfl) (kI_gd (fun h79 x80 => ?_))
        refine q_icmp_eq (tbm tkL_law (i := 279) rfl) ?_ ?_
        · exact sL_law_917 X (fL_law_18 X.2.2.2 n) ih h79 l0 l1 l2 l3
        · refine q_run tkL_law 280 1 (pc' := 475) (L' := [some (.inr (.inr l0)), some (.inr (.inr l1)), some (.inr (.inr l2)), some (.inl l3)]) (st' := [.inl (0 : Int32)]) rfl ?_
          exact q_zret (tbm tkL_law (i := 281) rfl) rfl
      · refine q_run tkL_law 282 5 (pc' := 481) (L' := [some (.inr (.inr l0)), some (.inr (.inr l1)), some (.inr (.inr l2)), some (.inl l3)]) (st' := [.inl (l3 + (1 : Int32)), .inr (.inr l0), .inr (.inr l1)]) rfl ?_
        refine q_iaload (tbm tkL_law (i := 287) rfl) (fun x81 => ?_)
        refine q_run tkL_law 288 4 (pc' := 486) (L' := [some (.inr (.inr l0)), some (.inr (.inr l1)), some (.inr (.inr l2)), some (.inl l3)]) (st' := [.inl (l3 + (2 : Int32)), .inr (.inr l0), .inl x81, .inr (.inr l1)]) rfl ?_
        refine q_iaload (tbm tkL_law (i := 292) rfl) (fun x82 => ?_)
        refine q_cv (r := l1) (ci := 7) (n := 2) (as := [.inl x81, .inl x82]) (st := []) TX5 5 (soX5_ofReceipt X h l1 x81 x82) (tbm tkL_law (i := 293) rfl) rfl rfl ceX5_ofReceipt wd_791 wd_792 wd_790 rfl (Nat.le_of_ble_eq_true rfl) (kI_gd (fun h83 x84 => ?_))
        refine q_run tkL_law 294 5 (pc' := 495) (L' := [some (.inr (.inr l0)), some (.inr (.inr l1)), some (.inr (.inr l2)), some (.inl l3)]) (st' := [.inl (l3 + (1 : Int32)), .inr (.inr l0), .inr (.inr l2), .inl x84]) rfl ?_
        refine q_iaload (tbm tkL_law (i := 299) rfl) (fun x85 => ?_)
        refine q_run tkL_law 300 4 (pc' := 500) (L' := [some (.inr (.inr l0)), some (.inr (.inr l1)), some (.inr (.inr l2)), some (.inl l3)]) (st' := [.inl (l3 + (2 : Int32)), .inr (.inr l0), .inl x85, .inr (.inr l2), .inl x84]) rfl ?_
        refine q_iaload (tbm tkL_law (i := 304) rfl) (fun x86 => ?_)
        refine q_cv (r := l2) (ci := 8) (n := 2) (as := [.inl x85, .inl x86]) (st := [.inl x84]) TX6 15 (soX6_ofReceipt X h83 l2 x85 x86) (tbm tkL_law (i := 305) rfl) rfl rfl ceX6_ofReceipt wd_1231 wd_1232 wd_1230 rfl (Nat.le_of_ble_eq_true rfl) (kI_gd (fun h87 x88 => ?_))
        refine q_icmp_eq (tbm tkL_law (i := 306) rfl) ?_ ?_
        · exact sL_law_917 X (fL_law_18 X.2.2.2 n) ih h87 l0 l1 l2 l3
        · refine q_run tkL_law 307 1 (pc' := 508) (L' := [some (.inr (.inr l0)), some (.inr (.inr l1)), some (.inr (.inr l2)), some (.inl l3)]) (st' := [.inl (0 : Int32)]) rfl ?_
          exact q_zret (tbm tkL_law (i := 308) rfl) rfl
      · refine q_run tkL_law 309 5 (pc' := 514) (L' := [some (.inr (.inr l0)), some (.inr (.inr l1)), some (.inr (.inr l2)), some (.inl l3)]) (st' := [.inl (l3 + (1 : Int32)), .inr (.inr l0), .inr (.inr l1)]) rfl ?_
        refine q_iaload (tbm tkL_law (i := 314) rfl) (fun x89 => ?_)
        refine q_run tkL_law 315 4 (pc' := 519) (L' := [some (.inr (.inr l0)), some (.inr (.inr l1)), some (.inr (.inr l2)), some (.inl l3)]) (st' := [.inl (l3 + (2 : Int32)), .inr (.inr l0), .inl x89, .inr (.inr l1)]) rfl ?_
        refine q_iaload (tbm tkL_law (i := 319) rfl) (fun x90 => ?_)
        refine q_run tkL_law 320 4 (pc' := 524) (L' := [some (.inr (.inr l0)), some (.inr (.inr l1)), some (.inr (.inr l2)), some (.inl l3)]) (st' := [.inl (l3 + (3 : Int32)), .inr (.inr l0), .inl x90, .inl x89, .inr (.inr l1)]) rfl ?_
        refine q_iaload (tbm tkL_law (i := 324) rfl) (fun x91 => ?_)
        refine q_cv (r := l1) (ci := 7) (n := 3) (as := [.inl x89, .inl x90, .inl x91]) (st := []) TX5 5 (soX5_sign X h l1 x89 x90 x91) (tbm tkL_law (i := 325) rfl) rfl rfl ceX5_sign wd_795 wd_796 wd_794 rfl (Nat.le_of_ble_eq_true rfl) (kI_gd (fun h92 x93 => ?_))
        refine q_run tkL_law 326 5 (pc' := 533) (L' := [some (.inr (.inr l0)), some (.inr (.inr l1)), some (.inr (.inr l2)), some (.inl l3)]) (st' := [.inl (l3 + (1 : Int32)), .inr (.inr l0), .inr (.inr l2), .inl x93]) rfl ?_
        refine q_iaload (tbm tkL_law (i := 331) rfl) (fun x94 => ?_)
        refine q_run tkL_law 332 4 (pc' := 538) (L' := [some (.inr (.inr l0)), some (.inr (.inr l1)), some (.inr (.inr l2)), some (.inl l3)]) (st' := [.inl (l3 + (2 : Int32)), .inr (.inr l0), .inl x94, .inr (.inr l2), .inl x93]) rfl ?_
        refine q_iaload (tbm tkL_law (i := 336) rfl) (fun x95 => ?_)
        refine q_run tkL_law 337 4 (pc' := 543) (L' := [some (.inr (.inr l0)), some (.inr (.inr l1)), some (.inr (.inr l2)), some (.inl l3)]) (st' := [.inl (l3 + (3 : Int32)), .inr (.inr l0), .inl x95, .inl x94, .inr (.inr l2), .inl x93]) rfl ?_
        refine q_iaload (tbm tkL_law (i := 341) rfl) (fun x96 => ?_)
        refine q_cv (r := l2) (ci := 8) (n := 3) (as := [.inl x94, .inl x95, .inl x96]) (st := [.inl x93]) TX6 15 (soX6_sign X h92 l2 x94 x95 x96) (tbm tkL_law (i := 342) rfl) rfl rfl ceX6_sign wd_1235 wd_1236 wd_1234 rfl (Nat.le_of_ble_eq_true rfl) (kI_gd (fun h97 x98 => ?_))
        refine q_icmp_eq (tbm tkL_law (i := 343) rfl) ?_ ?_
        · exact sL_law_917 X (fL_law_18 X.2.2.2 n) ih h97 l0 l1 l2 l3
        · refine q_run tkL_law 344 1 (pc' := 551) (L' := [some (.inr (.inr l0)), some (.inr (.inr l1)), some (.inr (.inr l2)), some (.inl l3)]) (st' := [.inl (0 : Int32)]) rfl ?_
          exact q_zret (tbm tkL_law (i := 345) rfl) rfl
      · refine q_run tkL_law 346 5 (pc' := 557) (L' := [some (.inr (.inr l0)), some (.inr (.inr l1)), some (.inr (.inr l2)), some (.inl l3)]) (st' := [.inl (l3 + (1 : Int32)), .inr (.inr l0), .inr (.inr l1)]) rfl ?_
        refine q_iaload (tbm tkL_law (i := 351) rfl) (fun x99 => ?_)
        refine q_cv (r := l1) (ci := 7) (n := 1) (as := [.inl x99]) (st := []) TX5 5 (soX5_waiting X h l1 x99) (tbm tkL_law (i := 352) rfl) rfl rfl ceX5_waiting wd_803 wd_804 wd_802 rfl (Nat.le_of_ble_eq_true rfl) (kI_gd (fun h100 x101 => ?_))
        refine q_run tkL_law 353 5 (pc' := 566) (L' := [some (.inr (.inr l0)), some (.inr (.inr l1)), some (.inr (.inr l2)), some (.inl l3)]) (st' := [.inl (l3 + (1 : Int32)), .inr (.inr l0), .inr (.inr l2), .inl x101]) rfl ?_
        refine q_iaload (tbm tkL_law (i := 358) rfl) (fun x102 => ?_)
        refine q_cv (r := l2) (ci := 8) (n := 1) (as := [.inl x102]) (st := [.inl x101]) TX6 15 (soX6_waiting X h100 l2 x102) (tbm tkL_law (i := 359) rfl) rfl rfl ceX6_waiting wd_1243 wd_1244 wd_1242 rfl (Nat.le_of_ble_eq_true rfl) (kI_gd (fun h103 x104 => ?_))
        refine q_icmp_eq (tbm tkL_law (i := 360) rfl) ?_ ?_
        · exact sL_law_917 X (fL_law_18 X.2.2.2 n) ih h103 l0 l1 l2 l3
        · refine q_run tkL_law 361 1 (pc' := 574) (L' := [some (.inr (.inr l0)), some (.inr (.inr l1)), some (.inr (.inr l2)), some (.inl l3)]) (st' := [.inl (0 : Int32)]) rfl ?_
          exact q_zret (tbm tkL_law (i := 362) rfl) rfl
      · refine q_run tkL_law 363 5 (pc' := 580) (L' := [some (.inr (.inr l0)), some (.inr (.inr l1)), some (.inr (.inr l2)), some (.inl l3)]) (st' := [.inl (l3 + (1 : Int32)), .inr (.inr l0), .inr (.inr l1)]) rfl ?_
        refine q_iaload (tbm tkL_law (i := 368) rfl) (fun x105 => ?_)
        refine q_cv (r := l1) (ci := 7) (n := 1) (as := [.inl x105]) (st := []) TX5 5 (soX5_printer X h l1 x105) (tbm tkL_law (i := 369) rfl) rfl rfl ceX5_printer wd_808 wd_809 wd_807 rfl (Nat.le_of_ble_eq_true rfl) (kI_gd (fun h106 x107 => ?_))
        refine q_run tkL_law 370 5 (pc' := 589) (L' := [some (.inr (.inr l0)), some (.inr (.inr l1)), some (.inr (.inr l2)), some (.inl l3)]) (st' := [.inl (l3 + (1 : Int32)), .inr (.inr l0), .inr (.inr l2), .inl x107]) rfl ?_
        refine q_iaload (tbm tkL_law (i := 375) rfl) (fun x108 => ?_)
        refine q_cv (r := l2) (ci := 8) (n := 1) (as := [.inl x108]) (st := [.inl x107]) TX6 15 (soX6_printer X h106 l2 x108) (tbm tkL_law (i := 376) rfl) rfl rfl ceX6_printer wd_1247 wd_1248 wd_1246 rfl (Nat.le_of_ble_eq_true rfl) (kI_gd (fun h109 x110 => ?_))
        refine q_icmp_eq (tbm tkL_law (i := 377) rfl) ?_ ?_
        · exact sL_law_917 X (fL_law_18 X.2.2.2 n) ih h109 l0 l1 l2 l3
        · refine q_run tkL_law 378 1 (pc' := 597) (L' := [some (.inr (.inr l0)), some (.inr (.inr l1)), some (.inr (.inr l2)), some (.inl l3)]) (st' := [.inl (0 : Int32)]) rfl ?_
          exact q_zret (tbm tkL_law (i := 379) rfl) rfl
      · refine q_run tkL_law 380 5 (pc' := 603) (L' := [some (.inr (.inr l0)), some (.inr (.inr l1)), some (.inr (.inr l2)), some (.inl l3)]) (st' := [.inl (l3 + (1 : Int32)), .inr (.inr l0), .inr (.inr l1)]) rfl ?_
        refine q_iaload (tbm tkL_law (i := 385) rfl) (fun x111 => ?_)
        refine q_cv (r := l1) (ci := 7) (n := 1) (as := [.inl x111]) (st := []) TX5 5 (soX5_count X h l1 x111) (tbm tkL_law (i := 386) rfl) rfl rfl ceX5_count wd_812 wd_813 wd_811 rfl (Nat.le_of_ble_eq_true rfl) (kI_gd (fun h112 x113 => ?_))
        refine q_run tkL_law 387 5 (pc' := 612) (L' := [some (.inr (.inr l0)), some (.inr (.inr l1)), some (.inr (.inr l2)), some (.inl l3)]) (st' := [.inl (l3 + (1 : Int32)), .inr (.inr l0), .inr (.inr l2), .inl x113]) rfl ?_
        refine q_iaload (tbm tkL_law (i := 392) rfl) (fun x114 => ?_)
        refine q_cv (r := l2) (ci := 8) (n := 1) (as := [.inl x114]) (st := [.inl x113]) TX6 15 (soX6_count X h112 l2 x114) (tbm tkL_law (i := 393) rfl) rfl rfl ceX6_count wd_1251 wd_1252 wd_1250 rfl (Nat.le_of_ble_eq_true rfl) (kI_gd (fun h115 x116 => ?_))
        refine q_icmp_eq (tbm tkL_law (i := 394) rfl) ?_ ?_
        · exact sL_law_917 X (fL_law_18 X.2.2.2 n) ih h115 l0 l1 l2 l3
        · refine q_run tkL_law 395 1 (pc' := 620) (L' := [some (.inr (.inr l0)), some (.inr (.inr l1)), some (.inr (.inr l2)), some (.inl l3)]) (st' := [.inl (0 : Int32)]) rfl ?_
          exact q_zret (tbm tkL_law (i := 396) rfl) rfl
      · refine q_run tkL_law 397 5 (pc' := 626) (L' := [some (.inr (.inr l0)), some (.inr (.inr l1)), some (.inr (.inr l2)), some (.inl l3)]) (st' := [.inl (l3 + (1 : Int32)), .inr (.inr l0), .inr (.inr l1)]) rfl ?_
        refine q_iaload (tbm tkL_law (i := 402) rfl) (fun x117 => ?_)
        refine q_run tkL_law 403 4 (pc' := 631) (L' := [some (.inr (.inr l0)), some (.inr (.inr l1)), some (.inr (.inr l2)), some (.inl l3)]) (st' := [.inl (l3 + (2 : Int32)), .inr (.inr l0), .inl x117, .inr (.inr l1)]) rfl ?_
        refine q_iaload (tbm tkL_law (i := 407) rfl) (fun x118 => ?_)
        refine q_run tkL_law 408 4 (pc' := 636) (L' := [some (.inr (.inr l0)), some (.inr (.inr l1)), some (.inr (.inr l2)), some (.inl l3)]) (st' := [.inl (l3 + (3 : Int32)), .inr (.inr l0), .inl x118, .inl x117, .inr (.inr l1)]) rfl ?_
        refine q_iaload (tbm tkL_law (i := 412) rfl) (fun x119 => ?_)
        refine q_cv (r := l1) (ci := 7) (n := 3) (as := [.inl x117, .inl x118, .inl x119]) (st := []) TX5 5 (soX5_between X h l1 x117 x118 x119) (tbm tkL_law (i := 413) rfl) rfl rfl ceX5_between wd_820 wd_821 wd_819 rfl (Nat.le_of_ble_eq_true rfl) (kI_gd (fun h120 x121 => ?_))
        refine q_run tkL_law 414 5 (pc' := 645) (L' := [some (.inr (.inr l0)), some (.inr (.inr l1)), some (.inr (.inr l2)), some (.inl l3)]) (st' := [.inl (l3 + (1 : Int32)), .inr (.inr l0), .inr (.inr l2), .inl x121]) rfl ?_
        refine q_iaload (tbm tkL_law (i := 419) rfl) (fun x122 => ?_)
        refine q_run tkL_law 420 4 (pc' := 650) (L' := [some (.inr (.inr l0)), some (.inr (.inr l1)), some (.inr (.inr l2)), some (.inl l3)]) (st' := [.inl (l3 + (2 : Int32)), .inr (.inr l0), .inl x122, .inr (.inr l2), .inl x121]) rfl ?_
        refine q_iaload (tbm tkL_law (i := 424) rfl) (fun x123 => ?_)
        refine q_run tkL_law 425 4 (pc' := 655) (L' := [some (.inr (.inr l0)), some (.inr (.inr l1)), some (.inr (.inr l2)), some (.inl l3)]) (st' := [.inl (l3 + (3 : Int32)), .inr (.inr l0), .inl x123, .inl x122, .inr (.inr l2), .inl x121]) rfl ?_
        refine q_iaload (tbm tkL_law (i := 429) rfl) (fun x124 => ?_)
        refine q_cv (r := l2) (ci := 8) (n := 3) (as := [.inl x122, .inl x123, .inl x124]) (st := [.inl x121]) TX6 15 (soX6_between X h120 l2 x122 x123 x124) (tbm tkL_law (i := 430) rfl) rfl rfl ceX6_between wd_1255 wd_1256 wd_1254 rfl (Nat.le_of_ble_eq_true rfl) (kI_gd (fun h125 x126 => ?_))
        refine q_icmp_eq (tbm tkL_law (i := 431) rfl) ?_ ?_
        · exact sL_law_917 X (fL_law_18 X.2.2.2 n) ih h125 l0 l1 l2 l3
        · refine q_run tkL_law 432 1 (pc' := 663) (L' := [some (.inr (.inr l0)), some (.inr (.inr l1)), some (.inr (.inr l2)), some (.inl l3)]) (st' := [.inl (0 : Int32)]) rfl ?_
          exact q_zret (tbm tkL_law (i := 433) rfl) rfl
      · refine q_run tkL_law 434 5 (pc' := 669) (L' := [some (.inr (.inr l0)), some (.inr (.inr l1)), some (.inr (.inr l2)), some (.inl l3)]) (st' := [.inl (l3 + (1 : Int32)), .inr (.inr l0), .inr (.inr l1)]) rfl ?_
        refine q_iaload (tbm tkL_law (i := 439) rfl) (fun x127 => ?_)
        refine q_cv (r := l1) (ci := 7) (n := 1) (as := [.inl x127]) (st := []) TX5 5 (soX5_doneIn X h l1 x127) (tbm tkL_law (i := 440) rfl) rfl rfl ceX5_doneIn wd_827 wd_828 wd_826 rfl (Nat.le_of_ble_eq_true rfl) (kI_gd (fun h128 x129 => ?_))
        refine q_run tkL_law 441 5 (pc' := 678) (L' := [some (.inr (.inr l0)), some (.inr (.inr l1)), some (.inr (.inr l2)), some (.inl l3)]) (st' := [.inl (l3 + (1 : Int32)), .inr (.inr l0), .inr (.inr l2), .inl x129]) rfl ?_
        refine q_iaload (tbm tkL_law (i := 446) rfl) (fun x130 => ?_)
        refine q_cv (r := l2) (ci := 8) (n := 1) (as := [.inl x130]) (st := [.inl x129]) TX6 15 (soX6_doneIn X h128 l2 x130) (tbm tkL_law (i := 447) rfl) rfl rfl ceX6_doneIn wd_1259 wd_1260 wd_1258 rfl (Nat.le_of_ble_eq_true rfl) (kI_gd (fun h131 x132 => ?_))
        refine q_icmp_eq (tbm tkL_law (i := 448) rfl) ?_ ?_
        · exact sL_law_917 X (fL_law_18 X.2.2.2 n) ih h131 l0 l1 l2 l3
        · refine q_run tkL_law 449 1 (pc' := 686) (L' := [some (.inr (.inr l0)), some (.inr (.inr l1)), some (.inr (.inr l2)), some (.inl l3)]) (st' := [.inl (0 : Int32)]) rfl ?_
          exact q_zret (tbm tkL_law (i := 450) rfl) rfl
      · refine q_run tkL_law 451 1 (pc' := 688) (L' := [some (.inr (.inr l0)), some (.inr (.inr l1)), some (.inr (.inr l2)), some (.inl l3)]) (st' := [.inr (.inr l1)]) rfl ?_
        refine q_cv (r := l1) (ci := 7) (n := 0) (as := []) (st := []) TX5 5 (soX5_linesLeft X h l1) (tbm tkL_law (i := 452) rfl) rfl rfl ceX5_linesLeft wd_843 wd_844 wd_842 rfl (Nat.le_of_ble_eq_true rfl) (kI_gd (fun h133 x134 => ?_))
        refine q_run tkL_law 453 1 (pc' := 692) (L' := [some (.inr (.inr l0)), some (.inr (.inr l1)), some (.inr (.inr l2)), some (.inl l3)]) (st' := [.inr (.inr l2), .inl x134]) rfl ?_
        refine q_cv (r := l2) (ci := 8) (n := 0) (as := []) (st := [.inl x134]) TX6 15 (soX6_linesLeft X h133 l2) (tbm tkL_law (i := 454) rfl) rfl rfl ceX6_linesLeft wd_1275 wd_1276 wd_1274 rfl (Nat.le_of_ble_eq_true rfl) (kI_gd (fun h135 x136 => ?_))
        refine q_icmp_eq (tbm tkL_law (i := 455) rfl) ?_ ?_
        · exact sL_law_917 X (fL_law_18 X.2.2.2 n) ih h135 l0 l1 l2 l3
        · refine q_run tkL_law 456 1 (pc' := 699) (L' := [some (.inr (.inr l0)), some (.inr (.inr l1)), some (.inr (.inr l2)), some (.inl l3)]) (st' := [.inl (0 : Int32)]) rfl ?_
          exact q_zret (tbm tkL_law (i := 457) rfl) rfl
      · refine q_run tkL_law 458 1 (pc' := 701) (L' := [some (.inr (.inr l0)), some (.inr (.inr l1)), some (.inr (.inr l2)), some (.inl l3)]) (st' := [.inr (.inr l1)]) rfl ?_
        refine q_cv (r := l1) (ci := 7) (n := 0) (as := []) (st := []) TX5 5 (soX5_outIn X h l1) (tbm tkL_law (i := 459) rfl) rfl rfl ceX5_outIn wd_851 wd_852 wd_850 rfl (Nat.le_of_ble_eq_true rfl) (kI_gd (fun h137 x138 => ?_))
        refine q_run tkL_law 460 1 (pc' := 705) (L' := [some (.inr (.inr l0)), some (.inr (.inr l1)), some (.inr (.inr l2)), some (.inl l3)]) (st' := [.inr (.inr l2), .inl x138]) rfl ?_
        refine q_cv (r := l2) (ci := 8) (n := 0) (as := []) (st := [.inl x138]) TX6 15 (soX6_outIn X h137 l2) (tbm tkL_law (i := 461) rfl) rfl rfl ceX6_outIn wd_1283 wd_1284 wd_1282 rfl (Nat.le_of_ble_eq_true rfl) (kI_gd (fun h139 x140 => ?_))
        refine q_icmp_eq (tbm tkL_law (i := 462) rfl) ?_ ?_
        · exact sL_law_917 X (fL_law_18 X.2.2.2 n) ih h139 l0 l1 l2 l3
        · refine q_run tkL_law 463 1 (pc' := 712) (L' := [some (.inr (.inr l0)), some (.inr (.inr l1)), some (.inr (.inr l2)), some (.inl l3)]) (st' := [.inl (0 : Int32)]) rfl ?_
          exact q_zret (tbm tkL_law (i := 464) rfl) rfl
      · refine q_run tkL_law 465 5 (pc' := 718) (L' := [some (.inr (.inr l0)), some (.inr (.inr l1)), some (.inr (.inr l2)), some (.inl l3)]) (st' := [.inl (l3 + (1 : Int32)), .inr (.inr l0), .inr (.inr l1)]) rfl ?_
        refine q_iaload (tbm tkL_law (i := 470) rfl) (fun x141 => ?_)
        refine q_run tkL_law 471 4 (pc' := 723) (L' := [some (.inr (.inr l0)), some (.inr (.inr l1)), some (.inr (.inr l2)), some (.inl l3)]) (st' := [.inl (l3 + (2 : Int32)), .inr (.inr l0), .inl x141, .inr (.inr l1)]) rfl ?_
        refine q_iaload (tbm tkL_law (i := 475) rfl) (fun x142 => ?_)
        refine q_cv (r := l1) (ci := 7) (n := 2) (as := [.inl x141, .inl x142]) (st := []) TX5 5 (soX5_bestWidth X h l1 x141 x142) (tbm tkL_law (i := 476) rfl) rfl rfl ceX5_bestWidth wd_855 wd_856 wd_854 rfl (Nat.le_of_ble_eq_true rfl) (kI_gd (fun h143 x144 => ?_))
        refine q_run tkL_law 477 5 (pc' := 732) (L' := [some (.inr (.inr l0)), some (.inr (.inr l1)), some (.inr (.inr l2)), some (.inl l3)]) (st' := [.inl (l3 + (1 : Int32)), .inr (.inr l0), .inr (.inr l2), .inl x144]) rfl ?_
        refine q_iaload (tbm tkL_law (i := 482) rfl) (fun x145 => ?_)
        refine q_run tkL_law 483 4 (pc' := 737) (L' := [some (.inr (.inr l0)), some (.inr (.inr l1)), some (.inr (.inr l2)), some (.inl l3)]) (st' := [.inl (l3 + (2 : Int32)), .inr (.inr l0), .inl x145, .inr (.inr l2), .inl x144]) rfl ?_
        refine q_iaload (tbm tkL_law (i := 487) rfl) (fun x146 => ?_)
        refine q_cv (r := l2) (ci := 8) (n := 2) (as := [.inl x145, .inl x146]) (st := [.inl x144]) TX6 15 (soX6_bestWidth X h143 l2 x145 x146) (tbm tkL_law (i := 488) rfl) rfl rfl ceX6_bestWidth wd_1287 wd_1288 wd_1286 rfl (Nat.le_of_ble_eq_true rfl) (kI_gd (fun h147 x148 => ?_))
        refine q_icmp_eq (tbm tkL_law (i := 489) rfl) ?_ ?_
        · exact sL_law_917 X (fL_law_18 X.2.2.2 n) ih h147 l0 l1 l2 l3
        · refine q_run tkL_law 490 1 (pc' := 745) (L' := [some (.inr (.inr l0)), some (.inr (.inr l1)), some (.inr (.inr l2)), some (.inl l3)]) (st' := [.inl (0 : Int32)]) rfl ?_
          exact q_zret (tbm tkL_law (i := 491) rfl) rfl
      · refine q_run tkL_law 492 5 (pc' := 751) (L' := [some (.inr (.inr l0)), some (.inr (.inr l1)), some (.inr (.inr l2)), some (.inl l3)]) (st' := [.inl (l3 + (1 : Int32)), .inr (.inr l0), .inr (.inr l1)]) rfl ?_
        refine q_iaload (tbm tkL_law (i := 497) rfl) (fun x149 => ?_)
        refine q_run tkL_law 498 4 (pc' := 756) (L' := [some (.inr (.inr l0)), some (.inr (.inr l1)), some (.inr (.inr l2)), some (.inl l3)]) (st' := [.inl (l3 + (2 : Int32)), .inr (.inr l0), .inl x149, .inr (.inr l1)]) rfl ?_
        refine q_iaload (tbm tkL_law (i := 502) rfl) (fun x150 => ?_)
        refine q_cv (r := l1) (ci := 7) (n := 2) (as := [.inl x149, .inl x150]) (st := []) TX5 5 (soX5_ifStruck X h l1 x149 x150) (tbm tkL_law (i := 503) rfl) rfl rfl ceX5_ifStruck wd_859 wd_860 wd_858 rfl (Nat.le_of_ble_eq_true rfl) (kI_gd (fun h151 x152 => ?_))
        refine q_run tkL_law 504 5 (pc' := 765) (L' := [some (.inr (.inr l0)), some (.inr (.inr l1)), some (.inr (.inr l2)), some (.inl l3)]) (st' := [.inl (l3 + (1 : Int32)), .inr (.inr l0), .inr (.inr l2), .inl x152]) rfl ?_
        refine q_iaload (tbm tkL_law (i := 509) rfl) (fun x153 => ?_)
        refine q_run tkL_law 510 4 (pc' := 770) (L' := [some (.inr (.inr l0)), some (.inr (.inr l1)), some (.inr (.inr l2)), some (.inl l3)]) (st' := [.inl (l3 + (2 : Int32)), .inr (.inr l0), .inl x153, .inr (.inr l2), .inl x152]) rfl ?_
        refine q_iaload (tbm tkL_law (i := 514) rfl) (fun x154 => ?_)
        refine q_cv (r := l2) (ci := 8) (n := 2) (as := [.inl x153, .inl x154]) (st := [.inl x152]) TX6 15 (soX6_ifStruck X h151 l2 x153 x154) (tbm tkL_law (i := 515) rfl) rfl rfl ceX6_ifStruck wd_1291 wd_1292 wd_1290 rfl (Nat.le_of_ble_eq_true rfl) (kI_gd (fun h155 x156 => ?_))
        refine q_icmp_eq (tbm tkL_law (i := 516) rfl) ?_ ?_
        · exact sL_law_917 X (fL_law_18 X.2.2.2 n) ih h155 l0 l1 l2 l3
        · refine q_run tkL_law 517 1 (pc' := 778) (L' := [some (.inr (.inr l0)), some (.inr (.inr l1)), some (.inr (.inr l2)), some (.inl l3)]) (st' := [.inl (0 : Int32)]) rfl ?_
          exact q_zret (tbm tkL_law (i := 518) rfl) rfl
      · refine q_run tkL_law 519 5 (pc' := 784) (L' := [some (.inr (.inr l0)), some (.inr (.inr l1)), some (.inr (.inr l2)), some (.inl l3)]) (st' := [.inl (l3 + (1 : Int32)), .inr (.inr l0), .inr (.inr l1)]) rfl ?_
        refine q_iaload (tbm tkL_law (i := 524) rfl) (fun x157 => ?_)
        refine q_run tkL_law 525 7 (pc' := 793) (L' := [some (.inr (.inr l0)), some (.inr (.inr l1)), some (.inr (.inr l2)), some (.inl l3)]) (st' := [.inl (l3 + (2 : Int32)), .inr (.inr l0), .inr (.inl (shlL (Int32.toInt64 x157) (32 : Int32))), .inr (.inr l1)]) rfl ?_
        refine q_iaload (tbm tkL_law (i := 532) rfl) (fun x158 => ?_)
        refine q_run tkL_law 533 1 (pc' := 795) (L' := [some (.inr (.inr l0)), some (.inr (.inr l1)), some (.inr (.inr l2)), some (.inl l3)]) (st' := [.inr (.inl (Int32.toInt64 x158)), .inr (.inl (shlL (Int32.toInt64 x157) (32 : Int32))), .inr (.inr l1)]) rfl ?_
        refine q_ldc2 (w := (4294967295 : Int64)) (tbm tkL_law (i := 534) rfl) wd_1319 ?_
        refine q_run tkL_law 535 2 (pc' := 800) (L' := [some (.inr (.inr l0)), some (.inr (.inr l1)), some (.inr (.inr l2)), some (.inl l3)]) (st' := [.inr (.inl ((shlL (Int32.toInt64 x157) (32 : Int32)) ||| ((Int32.toInt64 x158) &&& (4294967295 : Int64)))), .inr (.inr l1)]) rfl ?_
        refine q_cv (r := l1) (ci := 7) (n := 1) (as := [.inr (.inl ((shlL (Int32.toInt64 x157) (32 : Int32)) ||| ((Int32.toInt64 x158) &&& (4294967295 : Int64))))]) (st := []) TX5 5 (soX5_put X h l1 ((shlL (Int32.toInt64 x157) (32 : Int32)) ||| ((Int32.toInt64 x158) &&& (4294967295 : Int64)))) (tbm tkL_law (i := 537) rfl) rfl rfl ceX5_put wd_864 wd_865 wd_863 rfl (Nat.le_of_ble_eq_true rfl) (kI_gd (fun h159 x160 => ?_))
        refine q_run tkL_law 538 5 (pc' := 808) (L' := [some (.inr (.inr l0)), some (.inr (.inr l1)), some (.inr (.inr l2)), some (.inl l3)]) (st' := [.inl (l3 + (1 : Int32)), .inr (.inr l0), .inr (.inr l2), .inl x160]) rfl ?_
        refine q_iaload (tbm tkL_law (i := 543) rfl) (fun x161 => ?_)
        refine q_run tkL_law 544 7 (pc' := 817) (L' := [some (.inr (.inr l0)), some (.inr (.inr l1)), some (.inr (.inr l2)), some (.inl l3)]) (st' := [.inl (l3 + (2 : Int32)), .inr (.inr l0), .inr (.inl (shlL (Int32.toInt64 x161) (32 : Int32))), .inr (.inr l2), .inl x160]) rfl ?_
        refine q_iaload (tbm tkL_law (i := 551) rfl) (fun x162 => ?_)
        refine q_run tkL_law 552 1 (pc' := 819) (L' := [some (.inr (.inr l0)), some (.inr (.inr l1)), some (.inr (.inr l2)), some (.inl l3)]) (st' := [.inr (.inl (Int32.toInt64 x162)), .inr (.inl (shlL (Int32.toInt64 x161) (32 : Int32))), .inr (.inr l2), .inl x160]) rfl ?_
        refine q_ldc2 (w := (4294967295 : Int64)) (tbm tkL_law (i := 553) rfl) wd_1319 ?_
        refine q_run tkL_law 554 2 (pc' := 824) (L' := [some (.inr (.inr l0)), some (.inr (.inr l1)), some (.inr (.inr l2)), some (.inl l3)]) (st' := [.inr (.inl ((shlL (Int32.toInt64 x161) (32 : Int32)) ||| ((Int32.toInt64 x162) &&& (4294967295 : Int64)))), .inr (.inr l2), .inl x160]) rfl ?_
        refine q_cv (r := l2) (ci := 8) (n := 1) (as := [.inr (.inl ((shlL (Int32.toInt64 x161) (32 : Int32)) ||| ((Int32.toInt64 x162) &&& (4294967295 : Int64))))]) (st := [.inl x160]) TX6 15 (soX6_put X h159 l2 ((shlL (Int32.toInt64 x161) (32 : Int32)) ||| ((Int32.toInt64 x162) &&& (4294967295 : Int64)))) (tbm tkL_law (i := 556) rfl) rfl rfl ceX6_put wd_1295 wd_1296 wd_1294 rfl (Nat.le_of_ble_eq_true rfl) (kI_gd (fun h163 x164 => ?_))
        refine q_icmp_eq (tbm tkL_law (i := 557) rfl) ?_ ?_
        · exact sL_law_917 X (fL_law_18 X.2.2.2 n) ih h163 l0 l1 l2 l3
        · refine q_run tkL_law 558 1 (pc' := 831) (L' := [some (.inr (.inr l0)), some (.inr (.inr l1)), some (.inr (.inr l2)), some (.inl l3)]) (st' := [.inl (0 : Int32)]) rfl ?_
          exact q_zret (tbm tkL_law (i := 559) rfl) rfl
      · refine q_run tkL_law 560 1 (pc' := 833) (L' := [some (.inr (.inr l0)), some (.inr (.inr l1)), some (.inr (.inr l2)), some (.inl l3)]) (st' := [.inr (.inr l1)]) rfl ?_
        refine q_cv (r := l1) (ci := 7) (n := 0) (as := []) (st := []) TX5 5 (soX5_wipe X h l1) (tbm tkL_law (i := 561) rfl) rfl rfl ceX5_wipe wd_901 wd_902 wd_900 rfl (Nat.le_of_ble_eq_true rfl) (kI_gd (fun h165 x166 => ?_))
        refine q_run tkL_law 562 1 (pc' := 837) (L' := [some (.inr (.inr l0)), some (.inr (.inr l1)), some (.inr (.inr l2)), some (.inl l3)]) (st' := [.inr (.inr l2), .inl x166]) rfl ?_
        refine q_cv (r := l2) (ci := 8) (n := 0) (as := []) (st := [.inl x166]) TX6 15 (soX6_wipe X h165 l2) (tbm tkL_law (i := 563) rfl) rfl rfl ceX6_wipe wd_1300 wd_1301 wd_1299 rfl (Nat.le_of_ble_eq_true rfl) (kI_gd (fun h167 x168 => ?_))
        refine q_icmp_eq (tbm tkL_law (i := 564) rfl) ?_ ?_
        · exact sL_law_917 X (fL_law_18 X.2.2.2 n) ih h167 l0 l1 l2 l3
        · refine q_run tkL_law 565 1 (pc' := 844) (L' := [some (.inr (.inr l0)), some (.inr (.inr l1)), some (.inr (.inr l2)), some (.inl l3)]) (st' := [.inl (0 : Int32)]) rfl ?_
          exact q_zret (tbm tkL_law (i := 566) rfl) rfl
      · refine q_run tkL_law 567 1 (pc' := 846) (L' := [some (.inr (.inr l0)), some (.inr (.inr l1)), some (.inr (.inr l2)), some (.inl l3)]) (st' := [.inr (.inr l1)]) rfl ?_
        refine q_cv (r := l1) (ci := 7) (n := 0) (as := []) (st := []) TX5 5 (soX5_fault X h l1) (tbm tkL_law (i := 568) rfl) rfl rfl ceX5_fault wd_905 wd_906 wd_904 rfl (Nat.le_of_ble_eq_true rfl) (kI_gd (fun h169 x170 => ?_))
        refine q_run tkL_law 569 1 (pc' := 850) (L' := [some (.inr (.inr l0)), some (.inr (.inr l1)), some (.inr (.inr l2)), some (.inl l3)]) (st' := [.inr (.inr l2), .inl x170]) rfl ?_
        refine q_cv (r := l2) (ci := 8) (n := 0) (as := []) (st := [.inl x170]) TX6 15 (soX6_fault X h169 l2) (tbm tkL_law (i := 570) rfl) rfl rfl ceX6_fault wd_1304 wd_1305 wd_1303 rfl (Nat.le_of_ble_eq_true rfl) (kI_gd (fun h171 x172 => ?_))
        refine q_icmp_eq (tbm tkL_law (i := 571) rfl) ?_ ?_
        · exact sL_law_917 X (fL_law_18 X.2.2.2 n) ih h171 l0 l1 l2 l3
        · refine q_run tkL_law 572 1 (pc' := 857) (L' := [some (.inr (.inr l0)), some (.inr (.inr l1)), some (.inr (.inr l2)), some (.inl l3)]) (st' := [.inl (0 : Int32)]) rfl ?_
          exact q_zret (tbm tkL_law (i := 573) rfl) rfl
      · refine q_run tkL_law 574 1 (pc' := 859) (L' := [some (.inr (.inr l0)), some (.inr (.inr l1)), some (.inr (.inr l2)), some (.inl l3)]) (st' := [.inr (.inr l1)]) rfl ?_
        refine q_cv (r := l1) (ci := 7) (n := 0) (as := []) (st := []) TX5 5 (soX5_undo X h l1) (tbm tkL_law (i := 575) rfl) rfl rfl ceX5_undo wd_909 wd_910 wd_908 rfl (Nat.le_of_ble_eq_true rfl) (kI_gd (fun h173 x174 => ?_))
        refine q_run tkL_law 576 1 (pc' := 863) (L' := [some (.inr (.inr l0)), some (.inr (.inr l1)), some (.inr (.inr l2)), some (.inl l3)]) (st' := [.inr (.inr l2), .inl x174]) rfl ?_
        refine q_cv (r := l2) (ci := 8) (n := 0) (as := []) (st := [.inl x174]) TX6 15 (soX6_undo X h173 l2) (tbm tkL_law (i := 577) rfl) rfl rfl ceX6_undo wd_1308 wd_1309 wd_1307 rfl (Nat.le_of_ble_eq_true rfl) (kI_gd (fun h175 x176 => ?_))
        refine q_icmp_eq (tbm tkL_law (i := 578) rfl) ?_ ?_
        · exact sL_law_917 X (fL_law_18 X.2.2.2 n) ih h175 l0 l1 l2 l3
        · refine q_run tkL_law 579 1 (pc' := 870) (L' := [some (.inr (.inr l0)), some (.inr (.inr l1)), some (.inr (.inr l2)), some (.inl l3)]) (st' := [.inl (0 : Int32)]) rfl ?_
          exact q_zret (tbm tkL_law (i := 580) rfl) rfl
      · refine q_run tkL_law 581 5 (pc' := 876) (L' := [some (.inr (.inr l0)), some (.inr (.inr l1)), some (.inr (.inr l2)), some (.inl l3)]) (st' := [.inl (l3 + (1 : Int32)), .inr (.inr l0), .inr (.inr l1)]) rfl ?_
        refine q_iaload (tbm tkL_law (i := 586) rfl) (fun x177 => ?_)
        refine q_cv (r := l1) (ci := 7) (n := 1) (as := [.inl x177]) (st := []) TX5 5 (soX5_save X h l1 x177) (tbm tkL_law (i := 587) rfl) rfl rfl ceX5_save wd_917 wd_918 wd_916 rfl (Nat.le_of_ble_eq_true rfl) (kI_gd (fun h178 x179 => ?_))
        refine q_run tkL_law 588 5 (pc' := 885) (L' := [some (.inr (.inr l0)), some (.inr (.inr l1)), some (.inr (.inr l2)), some (.inl l3)]) (st' := [.inl (l3 + (1 : Int32)), .inr (.inr l0), .inr (.inr l2), .inl x179]) rfl ?_
        refine q_iaload (tbm tkL_law (i := 593) rfl) (fun x180 => ?_)
        refine q_cv (r := l2) (ci := 8) (n := 1) (as := [.inl x180]) (st := [.inl x179]) TX6 15 (soX6_save X h178 l2 x180) (tbm tkL_law (i := 594) rfl) rfl rfl ceX6_save wd_1312 wd_1313 wd_1311 rfl (Nat.le_of_ble_eq_true rfl) (kI_gd (fun h181 x182 => ?_))
        refine q_icmp_eq (tbm tkL_law (i := 595) rfl) ?_ ?_
        · exact sL_law_917 X (fL_law_18 X.2.2.2 n) ih h181 l0 l1 l2 l3
        · refine q_run tkL_law 596 1 (pc' := 893) (L' := [some (.inr (.inr l0)), some (.inr (.inr l1)), some (.inr (.inr l2)), some (.inl l3)]) (st' := [.inl (0 : Int32)]) rfl ?_
          exact q_zret (tbm tkL_law (i := 597) rfl) rfl
      · refine q_run tkL_law 598 5 (pc' := 899) (L' := [some (.inr (.inr l0)), some (.inr (.inr l1)), some (.inr (.inr l2)), some (.inl l3)]) (st' := [.inl (l3 + (1 : Int32)), .inr (.inr l0), .inr (.inr l1)]) rfl ?_
        refine q_iaload (tbm tkL_law (i := 603) rfl) (fun x183 => ?_)
        refine q_cv (r := l1) (ci := 7) (n := 1) (as := [.inl x183]) (st := []) TX5 5 (soX5_restore X h l1 x183) (tbm tkL_law (i := 604) rfl) rfl rfl ceX5_restore wd_922 wd_923 wd_921 rfl (Nat.le_of_ble_eq_true rfl) (kI_gd (fun h184 x185 => ?_))
        refine q_run tkL_law 605 5 (pc' := 908) (L' := [some (.inr (.inr l0)), some (.inr (.inr l1)), some (.inr (.inr l2)), some (.inl l3)]) (st' := [.inl (l3 + (1 : Int32)), .inr (.inr l0), .inr (.inr l2), .inl x185]) rfl ?_
        refine q_iaload (tbm tkL_law (i := 610) rfl) (fun x186 => ?_)
        refine q_cv (r := l2) (ci := 8) (n := 1) (as := [.inl x186]) (st := [.inl x185]) TX6 15 (soX6_restore X h184 l2 x186) (tbm tkL_law (i := 611) rfl) rfl rfl ceX6_restore wd_1316 wd_1317 wd_1315 rfl (Nat.le_of_ble_eq_true rfl) (kI_gd (fun h187 x188 => ?_))
        refine q_icmp_eq (tbm tkL_law (i := 612) rfl) ?_ ?_
        · exact sL_law_917 X (fL_law_18 X.2.2.2 n) ih h187 l0 l1 l2 l3
        · refine q_run tkL_law 613 1 (pc' := 916) (L' := [some (.inr (.inr l0)), some (.inr (.inr l1)), some (.inr (.inr l2)), some (.inl l3)]) (st' := [.inl (0 : Int32)]) rfl ?_
          exact q_zret (tbm tkL_law (i := 614) rfl) rfl
def fL_law (c : Nat → Option Nat) (h : Hp) (a0 : Option Nat) : Rs := nwO h 7 (fun h189 r190 => dn r190 (cc (fX5_init c h189 r190) (kV fun h191 => nwO h191 8 (fun h192 r193 => dn r193 (cc (fX6_init c h192 r193) (kV fun h194 => fL_law_18 c FU h194 a0 r190 r193 (0 : Int32)))))))
set_option maxHeartbeats 4000000 in
set_option maxRecDepth 100000 in
theorem gdL_law (X : Cx) {h0 : Hp} (h : Hp) (a0 : Option Nat) : Gd X mL_law h0 (fL_law X.2.2.2 h a0) h 0 [some (.inr (.inr a0)), none, none, none] [] := by
  unfold fL_law
  refine q_new RX5 TX5 5 (tbm tkL_law (i := 0) rfl) (Nat.le_of_ble_eq_true rfl) rfl ⟨wd_90, wd_91, wd_72⟩ (fun h189 r190 => ?_)
  refine q_run tkL_law 1 1 (pc' := 4) (L' := [some (.inr (.inr a0)), none, none, none]) (st' := [.inr (.inr r190), .inr (.inr r190)]) rfl ?_
  refine q_ci (r := r190) (n := 0) (as := []) (st := [.inr (.inr r190)]) (soX5_init X h189 r190) (tbm tkL_law (i := 2) rfl) rfl ceX5_init wd_93 rfl rfl wd_92 rfl (Nat.le_of_ble_eq_true rfl) (kV_gd (fun h191 => ?_))
  refine q_run tkL_law 3 1 (pc' := 8) (L' := [some (.inr (.inr a0)), some (.inr (.inr r190)), none, none]) (st' := []) rfl ?_
  refine q_new RX6 TX6 15 (tbm tkL_law (i := 4) rfl) (Nat.le_of_ble_eq_true rfl) rfl ⟨wd_925, wd_926, wd_81⟩ (fun h192 r193 => ?_)
  refine q_run tkL_law 5 1 (pc' := 12) (L' := [some (.inr (.inr a0)), some (.inr (.inr r190)), none, none]) (st' := [.inr (.inr r193), .inr (.inr r193)]) rfl ?_
  refine q_ci (r := r193) (n := 0) (as := []) (st := [.inr (.inr r193)]) (soX6_init X h192 r193) (tbm tkL_law (i := 6) rfl) rfl ceX6_init wd_928 rfl rfl wd_927 rfl (Nat.le_of_ble_eq_true rfl) (kV_gd (fun h194 => ?_))
  refine q_run tkL_law 7 3 (pc' := 18) (L' := [some (.inr (.inr a0)), some (.inr (.inr r190)), some (.inr (.inr r193)), some (.inl (0 : Int32))]) (st' := []) rfl ?_
  exact sL_law_18 X FU h194 a0 r190 r193 (0 : Int32)
