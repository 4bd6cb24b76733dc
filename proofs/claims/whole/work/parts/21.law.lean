def wL_L_law_18 (xs : Nat → Int32) (L : Nat) (post : Unit → Prop) (Kx18 : BX6 → BX1 → BX1 → BX5 → BX0 → BX4 → BX2 → (Nat → BX3) → (Nat → BX1) → BX7 → Prop) : Nat → Int32 → BX6 → BX1 → BX1 → BX5 → BX0 → BX4 → BX2 → (Nat → BX3) → (Nat → BX1) → BX7 → Prop
  | 0, _, _, _, _, _, _, _, _, _, _, _ => False
  | n18 + 1, x1, u2, u3, u4, u5, u6, u7, u8, u9, u10, u11 => (((Int32.ofNat L) - (6 : Int32)) < x1 → Kx18 u2 u3 u4 u5 u6 u7 u8 u9 u10 u11) ∧ (¬ ((Int32.ofNat L) - (6 : Int32)) < x1 → vp_in x1 L ∧ (∀ x23 : Int32, x23 = ((xs x1.toNatClampNeg) &&& (63 : Int32)) → (x23 = (0 : Int32) → vp_in (x1 + (1 : Int32)) L ∧ (vp_in (x1 + (2 : Int32)) L ∧ (vp_in (x1 + (3 : Int32)) L ∧ (W_X6_row u2 u9 (xs (x1 + (1 : Int32)).toNatClampNeg) (xs (x1 + (2 : Int32)).toNatClampNeg) (xs (x1 + (3 : Int32)).toNatClampNeg) (fun r25 u26 u27 => vp_in (x1 + (1 : Int32)) L ∧ (vp_in (x1 + (2 : Int32)) L ∧ (vp_in (x1 + (3 : Int32)) L ∧ (w_X7_row u11 (xs (x1 + (1 : Int32)).toNatClampNeg) (xs (x1 + (2 : Int32)).toNatClampNeg) (xs (x1 + (3 : Int32)).toNatClampNeg) (fun r29 u30 => (r25 = r29 → wL_L_law_18 xs L post Kx18 n18 (x1 + (6 : Int32)) u26 u3 u4 u5 u6 u7 u8 u27 u10 u30) ∧ (¬ r25 = r29 → False)))))))))) ∧ (¬ x23 = (0 : Int32) → (x23 = (1 : Int32) → vp_in (x1 + (1 : Int32)) L ∧ (vp_in (x1 + (2 : Int32)) L ∧ (vp_in (x1 + (3 : Int32)) L ∧ (W_X6_set u2 u9 (xs (x1 + (1 : Int32)).toNatClampNeg) (xs (x1 + (2 : Int32)).toNatClampNeg) (xs (x1 + (3 : Int32)).toNatClampNeg) (fun r33 u34 u35 => vp_in (x1 + (1 : Int32)) L ∧ (vp_in (x1 + (2 : Int32)) L ∧ (vp_in (x1 + (3 : Int32)) L ∧ (w_X7_set u11 (xs (x1 + (1 : Int32)).toNatClampNeg) (xs (x1 + (2 : Int32)).toNatClampNeg) (xs (x1 + (3 : Int32)).toNatClampNeg) (fun r37 u38 => (r33 = r37 → wL_L_law_18 xs L post Kx18 n18 (x1 + (6 : Int32)) u34 u3 u4 u5 u6 u7 u8 u35 u10 u38) ∧ (¬ r33 = r37 → False)))))))))) ∧ (¬ x23 = (1 : Int32) → (x23 = (2 : Int32) → vp_in (x1 + (1 : Int32)) L ∧ (vp_in (x1 + (2 : Int32)) L ∧ (vp_in (x1 + (3 : Int32)) L ∧ (vp_in (x1 + (4 : Int32)) L ∧ (vp_in (x1 + (5 : Int32)) L ∧ (W_X6_copy u2 u9 (xs (x1 + (1 : Int32)).toNatClampNeg) (xs (x1 + (2 : Int32)).toNatClampNeg) (xs (x1 + (3 : Int32)).toNatClampNeg) (xs (x1 + (4 : Int32)).toNatClampNeg) (xs (x1 + (5 : Int32)).toNatClampNeg) (fun r41 u42 u43 => vp_in (x1 + (1 : Int32)) L ∧ (vp_in (x1 + (2 : Int32)) L ∧ (vp_in (x1 + (3 : Int32)) L ∧ (vp_in (x1 + (4 : Int32)) L ∧ (vp_in (x1 + (5 : Int32)) L ∧ (w_X7_copy u11 (xs (x1 + (1 : Int32)).toNatClampNeg) (xs (x1 + (2 : Int32)).toNatClampNeg) (xs (x1 + (3 : Int32)).toNatClampNeg) (xs (x1 + (4 : Int32)).toNatClampNeg) (xs (x1 + (5 : Int32)).toNatClampNeg) (fun r45 u46 => (r41 = r45 → wL_L_law_18 xs L post Kx18 n18 (x1 + (6 : Int32)) u42 u3 u4 u5 u6 u7 u8 u43 u10 u46) ∧ (¬ r41 = r45 → False)))))))))))))) ∧ (¬ x23 = (2 : Int32) → (x23 = (3 : Int32) → vp_in (x1 + (1 : Int32)) L ∧ (W_X6_drop u2 u9 (xs (x1 + (1 : Int32)).toNatClampNeg) (fun r49 u50 u51 => vp_in (x1 + (1 : Int32)) L ∧ (w_X7_drop u11 (xs (x1 + (1 : Int32)).toNatClampNeg) (fun r53 u54 => (r49 = r53 → wL_L_law_18 xs L post Kx18 n18 (x1 + (6 : Int32)) u50 u3 u4 u5 u6 u7 u8 u51 u10 u54) ∧ (¬ r49 = r53 → False)))))) ∧ (¬ x23 = (3 : Int32) → (x23 = (4 : Int32) → vp_in (x1 + (1 : Int32)) L ∧ (w_X6_feed u2 u5 (xs (x1 + (1 : Int32)).toNatClampNeg) (fun r57 u58 => vp_in (x1 + (1 : Int32)) L ∧ (w_X7_feed u11 (xs (x1 + (1 : Int32)).toNatClampNeg) (fun r59 u60 => (r57 = r59 → wL_L_law_18 xs L post Kx18 n18 (x1 + (6 : Int32)) u2 u3 u4 u58 u6 u7 u8 u9 u10 u60) ∧ (¬ r57 = r59 → False)))))) ∧ (¬ x23 = (4 : Int32) → (x23 = (5 : Int32) → w_X6_agency u2 u3 u4 u5 u6 (fun r63 u64 u65 u66 u67 u68 => w_X7_agency u11 (fun r70 u71 => (r63 = r70 → wL_L_law_18 xs L post Kx18 n18 (x1 + (6 : Int32)) u64 u65 u66 u67 u68 u7 u8 u9 u10 u71) ∧ (¬ r63 = r70 → False)))) ∧ (¬ x23 = (5 : Int32) → (x23 = (6 : Int32) → w_X6_fault u2 (fun r74 => w_X7_fault u11 (fun r75 => (r74 = r75 → wL_L_law_18 xs L post Kx18 n18 (x1 + (6 : Int32)) u2 u3 u4 u5 u6 u7 u8 u9 u10 u11) ∧ (¬ r74 = r75 → False)))) ∧ (¬ x23 = (6 : Int32) → (x23 = (7 : Int32) → vp_in (x1 + (1 : Int32)) L ∧ (w_X6_nights u2 u3 u6 (xs (x1 + (1 : Int32)).toNatClampNeg) (fun r78 u79 u80 => vp_in (x1 + (1 : Int32)) L ∧ (w_X7_nights u11 (xs (x1 + (1 : Int32)).toNatClampNeg) (fun r82 u83 => (r78 = r82 → wL_L_law_18 xs L post Kx18 n18 (x1 + (6 : Int32)) u2 u79 u4 u5 u80 u7 u8 u9 u10 u83) ∧ (¬ r78 = r82 → False)))))) ∧ (¬ x23 = (7 : Int32) → (x23 = (8 : Int32) → vp_in (x1 + (1 : Int32)) L ∧ (vp_in (x1 + (2 : Int32)) L ∧ (w_X6_let u2 u3 u6 (xs (x1 + (1 : Int32)).toNatClampNeg) (xs (x1 + (2 : Int32)).toNatClampNeg) (fun r86 u87 u88 => vp_in (x1 + (1 : Int32)) L ∧ (vp_in (x1 + (2 : Int32)) L ∧ (w_X7_let u11 (xs (x1 + (1 : Int32)).toNatClampNeg) (xs (x1 + (2 : Int32)).toNatClampNeg) (fun r90 u91 => (r86 = r90 → wL_L_law_18 xs L post Kx18 n18 (x1 + (6 : Int32)) u2 u87 u4 u5 u88 u7 u8 u9 u10 u91) ∧ (¬ r86 = r90 → False)))))))) ∧ (¬ x23 = (8 : Int32) → (x23 = (9 : Int32) → vp_in (x1 + (1 : Int32)) L ∧ (vp_in (x1 + (2 : Int32)) L ∧ (w_X6_grow u2 u3 u6 (xs (x1 + (1 : Int32)).toNatClampNeg) (xs (x1 + (2 : Int32)).toNatClampNeg) (fun r94 u95 u96 => vp_in (x1 + (1 : Int32)) L ∧ (vp_in (x1 + (2 : Int32)) L ∧ (w_X7_grow u11 (xs (x1 + (1 : Int32)).toNatClampNeg) (xs (x1 + (2 : Int32)).toNatClampNeg) (fun r98 u99 => (r94 = r98 → wL_L_law_18 xs L post Kx18 n18 (x1 + (6 : Int32)) u2 u95 u4 u5 u96 u7 u8 u9 u10 u99) ∧ (¬ r94 = r98 → False)))))))) ∧ (¬ x23 = (9 : Int32) → (x23 = (10 : Int32) → vp_in (x1 + (1 : Int32)) L ∧ (vp_in (x1 + (2 : Int32)) L ∧ (w_X6_learn u2 u3 u6 (xs (x1 + (1 : Int32)).toNatClampNeg) (xs (x1 + (2 : Int32)).toNatClampNeg) (fun r102 u103 u104 => vp_in (x1 + (1 : Int32)) L ∧ (vp_in (x1 + (2 : Int32)) L ∧ (w_X7_learn u11 (xs (x1 + (1 : Int32)).toNatClampNeg) (xs (x1 + (2 : Int32)).toNatClampNeg) (fun r106 u107 => (r102 = r106 → wL_L_law_18 xs L post Kx18 n18 (x1 + (6 : Int32)) u2 u103 u4 u5 u104 u7 u8 u9 u10 u107) ∧ (¬ r102 = r106 → False)))))))) ∧ (¬ x23 = (10 : Int32) → (x23 = (11 : Int32) → w_X6_undo u2 u3 u6 (fun r110 u111 u112 => w_X7_undo u11 (fun r114 u115 => (r110 = r114 → wL_L_law_18 xs L post Kx18 n18 (x1 + (6 : Int32)) u2 u111 u4 u5 u112 u7 u8 u9 u10 u115) ∧ (¬ r110 = r114 → False)))) ∧ (¬ x23 = (11 : Int32) → (x23 = (12 : Int32) → vp_in (x1 + (1 : Int32)) L ∧ (vp_in (x1 + (2 : Int32)) L ∧ (w_X6_client u2 u3 (xs (x1 + (1 : Int32)).toNatClampNeg) (xs (x1 + (2 : Int32)).toNatClampNeg) (fun r118 => vp_in (x1 + (1 : Int32)) L ∧ (vp_in (x1 + (2 : Int32)) L ∧ (w_X7_client u11 (xs (x1 + (1 : Int32)).toNatClampNeg) (xs (x1 + (2 : Int32)).toNatClampNeg) (fun r119 => (r118 = r119 → wL_L_law_18 xs L post Kx18 n18 (x1 + (6 : Int32)) u2 u3 u4 u5 u6 u7 u8 u9 u10 u11) ∧ (¬ r118 = r119 → False)))))))) ∧ (¬ x23 = (12 : Int32) → (x23 = (13 : Int32) → vp_in (x1 + (1 : Int32)) L ∧ (vp_in (x1 + (2 : Int32)) L ∧ (w_X6_waker u2 u3 (xs (x1 + (1 : Int32)).toNatClampNeg) (xs (x1 + (2 : Int32)).toNatClampNeg) (fun r122 => vp_in (x1 + (1 : Int32)) L ∧ (vp_in (x1 + (2 : Int32)) L ∧ (w_X7_waker u11 (xs (x1 + (1 : Int32)).toNatClampNeg) (xs (x1 + (2 : Int32)).toNatClampNeg) (fun r123 => (r122 = r123 → wL_L_law_18 xs L post Kx18 n18 (x1 + (6 : Int32)) u2 u3 u4 u5 u6 u7 u8 u9 u10 u11) ∧ (¬ r122 = r123 → False)))))))) ∧ (¬ x23 = (13 : Int32) → (x23 = (14 : Int32) → vp_in (x1 + (1 : Int32)) L ∧ (vp_in (x1 + (2 : Int32)) L ∧ (w_X6_weight u2 u3 u4 (xs (x1 + (1 : Int32)).toNatClampNeg) (xs (x1 + (2 : Int32)).toNatClampNeg) (fun r126 u127 => vp_in (x1 + (1 : Int32)) L ∧ (vp_in (x1 + (2 : Int32)) L ∧ (w_X7_weight u11 (xs (x1 + (1 : Int32)).toNatClampNeg) (xs (x1 + (2 : Int32)).toNatClampNeg) (fun r128 u129 => (r126 = r128 → wL_L_law_18 xs L post Kx18 n18 (x1 + (6 : Int32)) u2 u3 u127 u5 u6 u7 u8 u9 u10 u129) ∧ (¬ r126 = r128 → False)))))))) ∧ (¬ x23 = (14 : Int32) → (x23 = (15 : Int32) → vp_in (x1 + (1 : Int32)) L ∧ (vp_in (x1 + (2 : Int32)) L ∧ (w_X6_earned u2 u3 u4 (xs (x1 + (1 : Int32)).toNatClampNeg) (xs (x1 + (2 : Int32)).toNatClampNeg) (fun r132 u133 => vp_in (x1 + (1 : Int32)) L ∧ (vp_in (x1 + (2 : Int32)) L ∧ (w_X7_earned u11 (xs (x1 + (1 : Int32)).toNatClampNeg) (xs (x1 + (2 : Int32)).toNatClampNeg) (fun r134 u135 => (r132 = r134 → wL_L_law_18 xs L post Kx18 n18 (x1 + (6 : Int32)) u2 u3 u133 u5 u6 u7 u8 u9 u10 u135) ∧ (¬ r132 = r134 → False)))))))) ∧ (¬ x23 = (15 : Int32) → (x23 = (16 : Int32) → vp_in (x1 + (1 : Int32)) L ∧ (w_X6_rests u2 u3 u4 (xs (x1 + (1 : Int32)).toNatClampNeg) (fun r138 u139 => vp_in (x1 + (1 : Int32)) L ∧ (w_X7_rests u11 (xs (x1 + (1 : Int32)).toNatClampNeg) (fun r140 u141 => (r138 = r140 → wL_L_law_18 xs L post Kx18 n18 (x1 + (6 : Int32)) u2 u3 u139 u5 u6 u7 u8 u9 u10 u141) ∧ (¬ r138 = r140 → False)))))) ∧ (¬ x23 = (16 : Int32) → (x23 = (17 : Int32) → vp_in (x1 + (1 : Int32)) L ∧ (w_X6_when u2 u3 u4 (xs (x1 + (1 : Int32)).toNatClampNeg) (fun r144 u145 => vp_in (x1 + (1 : Int32)) L ∧ (w_X7_when u11 (xs (x1 + (1 : Int32)).toNatClampNeg) (fun r146 u147 => (r144 = r146 → wL_L_law_18 xs L post Kx18 n18 (x1 + (6 : Int32)) u2 u3 u145 u5 u6 u7 u8 u9 u10 u147) ∧ (¬ r144 = r146 → False)))))) ∧ (¬ x23 = (17 : Int32) → (x23 = (18 : Int32) → vp_in (x1 + (1 : Int32)) L ∧ (w_X6_all u2 u3 u4 (xs (x1 + (1 : Int32)).toNatClampNeg) (fun r150 u151 => vp_in (x1 + (1 : Int32)) L ∧ (w_X7_all u11 (xs (x1 + (1 : Int32)).toNatClampNeg) (fun r152 u153 => (r150 = r152 → wL_L_law_18 xs L post Kx18 n18 (x1 + (6 : Int32)) u2 u3 u151 u5 u6 u7 u8 u9 u10 u153) ∧ (¬ r150 = r152 → False)))))) ∧ (¬ x23 = (18 : Int32) → (x23 = (19 : Int32) → w_X6_never u2 u3 u4 (fun r156 u157 => w_X7_never u11 (fun r158 u159 => (r156 = r158 → wL_L_law_18 xs L post Kx18 n18 (x1 + (6 : Int32)) u2 u3 u157 u5 u6 u7 u8 u9 u10 u159) ∧ (¬ r156 = r158 → False)))) ∧ (¬ x23 = (19 : Int32) → (x23 = (20 : Int32) → vp_in (x1 + (1 : Int32)) L ∧ (vp_in (x1 + (2 : Int32)) L ∧ (w_X6_best u2 u3 u7 (xs (x1 + (1 : Int32)).toNatClampNeg) (xs (x1 + (2 : Int32)).toNatClampNeg) (fun r162 u163 => vp_in (x1 + (1 : Int32)) L ∧ (vp_in (x1 + (2 : Int32)) L ∧ (w_X7_best u11 (xs (x1 + (1 : Int32)).toNatClampNeg) (xs (x1 + (2 : Int32)).toNatClampNeg) (fun r164 u165 => (r162 = r164 → wL_L_law_18 xs L post Kx18 n18 (x1 + (6 : Int32)) u2 u3 u4 u5 u6 u163 u8 u9 u10 u165) ∧ (¬ r162 = r164 → False)))))))) ∧ (¬ x23 = (20 : Int32) → (x23 = (21 : Int32) → vp_in (x1 + (1 : Int32)) L ∧ (vp_in (x1 + (2 : Int32)) L ∧ (vp_in (x1 + (3 : Int32)) L ∧ (w_X6_fewest u2 u3 u7 (xs (x1 + (1 : Int32)).toNatClampNeg) (xs (x1 + (2 : Int32)).toNatClampNeg) (xs (x1 + (3 : Int32)).toNatClampNeg) (fun r168 u169 => vp_in (x1 + (1 : Int32)) L ∧ (vp_in (x1 + (2 : Int32)) L ∧ (vp_in (x1 + (3 : Int32)) L ∧ (w_X7_fewest u11 (xs (x1 + (1 : Int32)).toNatClampNeg) (xs (x1 + (2 : Int32)).toNatClampNeg) (xs (x1 + (3 : Int32)).toNatClampNeg) (fun r170 u171 => (r168 = r170 → wL_L_law_18 xs L post Kx18 n18 (x1 + (6 : Int32)) u2 u3 u4 u5 u6 u169 u8 u9 u10 u171) ∧ (¬ r168 = r170 → False)))))))))) ∧ (¬ x23 = (21 : Int32) → (x23 = (22 : Int32) → vp_in (x1 + (1 : Int32)) L ∧ (vp_in (x1 + (2 : Int32)) L ∧ (vp_in (x1 + (3 : Int32)) L ∧ (vp_in (x1 + (4 : Int32)) L ∧ (vp_in (x1 + (5 : Int32)) L ∧ (W_X6_fits u2 u3 u4 u9 (xs (x1 + (1 : Int32)).toNatClampNeg) (xs (x1 + (2 : Int32)).toNatClampNeg) (xs (x1 + (3 : Int32)).toNatClampNeg) (xs (x1 + (4 : Int32)).toNatClampNeg) (xs (x1 + (5 : Int32)).toNatClampNeg) (fun r174 u175 u176 => vp_in (x1 + (1 : Int32)) L ∧ (vp_in (x1 + (2 : Int32)) L ∧ (vp_in (x1 + (3 : Int32)) L ∧ (vp_in (x1 + (4 : Int32)) L ∧ (vp_in (x1 + (5 : Int32)) L ∧ (w_X7_fits u11 (xs (x1 + (1 : Int32)).toNatClampNeg) (xs (x1 + (2 : Int32)).toNatClampNeg) (xs (x1 + (3 : Int32)).toNatClampNeg) (xs (x1 + (4 : Int32)).toNatClampNeg) (xs (x1 + (5 : Int32)).toNatClampNeg) (fun r178 u179 => (r174 = r178 → wL_L_law_18 xs L post Kx18 n18 (x1 + (6 : Int32)) u175 u3 u176 u5 u6 u7 u8 u9 u10 u179) ∧ (¬ r174 = r178 → False)))))))))))))) ∧ (¬ x23 = (22 : Int32) → (x23 = (23 : Int32) → vp_in (x1 + (1 : Int32)) L ∧ (vp_in (x1 + (2 : Int32)) L ∧ (vp_in (x1 + (3 : Int32)) L ∧ (w_X6_nods u2 u3 u4 (xs (x1 + (1 : Int32)).toNatClampNeg) (xs (x1 + (2 : Int32)).toNatClampNeg) (xs (x1 + (3 : Int32)).toNatClampNeg) (fun r182 u183 => vp_in (x1 + (1 : Int32)) L ∧ (vp_in (x1 + (2 : Int32)) L ∧ (vp_in (x1 + (3 : Int32)) L ∧ (w_X7_nods u11 (xs (x1 + (1 : Int32)).toNatClampNeg) (xs (x1 + (2 : Int32)).toNatClampNeg) (xs (x1 + (3 : Int32)).toNatClampNeg) (fun r184 u185 => (r182 = r184 → wL_L_law_18 xs L post Kx18 n18 (x1 + (6 : Int32)) u2 u3 u183 u5 u6 u7 u8 u9 u10 u185) ∧ (¬ r182 = r184 → False)))))))))) ∧ (¬ x23 = (23 : Int32) → (x23 = (24 : Int32) → vp_in (x1 + (1 : Int32)) L ∧ (vp_in (x1 + (2 : Int32)) L ∧ (vp_in (x1 + (3 : Int32)) L ∧ (w_X6_drawn u2 u3 u4 (xs (x1 + (1 : Int32)).toNatClampNeg) (xs (x1 + (2 : Int32)).toNatClampNeg) (xs (x1 + (3 : Int32)).toNatClampNeg) (fun r188 u189 => vp_in (x1 + (1 : Int32)) L ∧ (vp_in (x1 + (2 : Int32)) L ∧ (vp_in (x1 + (3 : Int32)) L ∧ (w_X7_drawn u11 (xs (x1 + (1 : Int32)).toNatClampNeg) (xs (x1 + (2 : Int32)).toNatClampNeg) (xs (x1 + (3 : Int32)).toNatClampNeg) (fun r190 u191 => (r188 = r190 → wL_L_law_18 xs L post Kx18 n18 (x1 + (6 : Int32)) u2 u3 u189 u5 u6 u7 u8 u9 u10 u191) ∧ (¬ r188 = r190 → False)))))))))) ∧ (¬ x23 = (24 : Int32) → (x23 = (25 : Int32) → vp_in (x1 + (1 : Int32)) L ∧ (W_X6_image u2 u3 u10 (xs (x1 + (1 : Int32)).toNatClampNeg) (fun r194 u195 => vp_in (x1 + (1 : Int32)) L ∧ (w_X7_image u11 (xs (x1 + (1 : Int32)).toNatClampNeg) (fun r196 u197 => (r194 = r196 → wL_L_law_18 xs L post Kx18 n18 (x1 + (6 : Int32)) u2 u3 u4 u5 u6 u7 u8 u9 u195 u197) ∧ (¬ r194 = r196 → False)))))) ∧ (¬ x23 = (25 : Int32) → (x23 = (26 : Int32) → vp_in (x1 + (1 : Int32)) L ∧ (W_X6_restore u2 u3 u6 u10 (xs (x1 + (1 : Int32)).toNatClampNeg) (fun r200 u201 u202 => vp_in (x1 + (1 : Int32)) L ∧ (w_X7_restore u11 (xs (x1 + (1 : Int32)).toNatClampNeg) (fun r204 u205 => (r200 = r204 → wL_L_law_18 xs L post Kx18 n18 (x1 + (6 : Int32)) u2 u201 u4 u5 u202 u7 u8 u9 u10 u205) ∧ (¬ r200 = r204 → False)))))) ∧ (¬ x23 = (26 : Int32) → (x23 = (27 : Int32) → vp_in (x1 + (1 : Int32)) L ∧ (w_X6_kind u2 u3 (xs (x1 + (1 : Int32)).toNatClampNeg) (fun r208 => vp_in (x1 + (1 : Int32)) L ∧ (w_X7_kind u11 (xs (x1 + (1 : Int32)).toNatClampNeg) (fun r209 => (r208 = r209 → wL_L_law_18 xs L post Kx18 n18 (x1 + (6 : Int32)) u2 u3 u4 u5 u6 u7 u8 u9 u10 u11) ∧ (¬ r208 = r209 → False)))))) ∧ (¬ x23 = (27 : Int32) → (x23 = (28 : Int32) → vp_in (x1 + (1 : Int32)) L ∧ (vp_in (x1 + (2 : Int32)) L ∧ (w_X6_as u2 u3 (xs (x1 + (1 : Int32)).toNatClampNeg) (xs (x1 + (2 : Int32)).toNatClampNeg) (fun r212 u213 => vp_in (x1 + (1 : Int32)) L ∧ (vp_in (x1 + (2 : Int32)) L ∧ (w_X7_as u11 (xs (x1 + (1 : Int32)).toNatClampNeg) (xs (x1 + (2 : Int32)).toNatClampNeg) (fun r214 u215 => (r212 = r214 → wL_L_law_18 xs L post Kx18 n18 (x1 + (6 : Int32)) u213 u3 u4 u5 u6 u7 u8 u9 u10 u215) ∧ (¬ r212 = r214 → False)))))))) ∧ (¬ x23 = (28 : Int32) → (x23 = (29 : Int32) → vp_in (x1 + (1 : Int32)) L ∧ (vp_in (x1 + (2 : Int32)) L ∧ (w_X6_ask u2 u3 u8 (xs (x1 + (1 : Int32)).toNatClampNeg) (xs (x1 + (2 : Int32)).toNatClampNeg) (fun r218 u219 => vp_in (x1 + (1 : Int32)) L ∧ (vp_in (x1 + (2 : Int32)) L ∧ (w_X7_ask u11 (xs (x1 + (1 : Int32)).toNatClampNeg) (xs (x1 + (2 : Int32)).toNatClampNeg) (fun r220 u221 => (r218 = r220 → wL_L_law_18 xs L post Kx18 n18 (x1 + (6 : Int32)) u2 u3 u4 u5 u6 u7 u219 u9 u10 u221) ∧ (¬ r218 = r220 → False)))))))) ∧ (¬ x23 = (29 : Int32) → (x23 = (30 : Int32) → vp_in (x1 + (1 : Int32)) L ∧ (w_X6_trace u2 u8 (xs (x1 + (1 : Int32)).toNatClampNeg) (fun r224 => vp_in (x1 + (1 : Int32)) L ∧ (w_X7_trace u11 (xs (x1 + (1 : Int32)).toNatClampNeg) (fun r225 => (r224 = r225 → wL_L_law_18 xs L post Kx18 n18 (x1 + (6 : Int32)) u2 u3 u4 u5 u6 u7 u8 u9 u10 u11) ∧ (¬ r224 = r225 → False)))))) ∧ (¬ x23 = (30 : Int32) → (x23 = (31 : Int32) → vp_in (x1 + (1 : Int32)) L ∧ (w_X6_count u2 u3 u5 u6 (u9 0) (u9 1) (u9 2) (u9 3) (u9 4) (u9 5) (u9 6) (u9 7) (xs (x1 + (1 : Int32)).toNatClampNeg) (fun r228 => vp_in (x1 + (1 : Int32)) L ∧ (w_X7_count u11 (xs (x1 + (1 : Int32)).toNatClampNeg) (fun r229 => (r228 = r229 → wL_L_law_18 xs L post Kx18 n18 (x1 + (6 : Int32)) u2 u3 u4 u5 u6 u7 u8 u9 u10 u11) ∧ (¬ r228 = r229 → False)))))) ∧ (¬ x23 = (31 : Int32) → (x23 = (32 : Int32) → w_X6_status u2 (fun r232 => w_X7_status u11 (fun r233 => (r232 = r233 → wL_L_law_18 xs L post Kx18 n18 (x1 + (6 : Int32)) u2 u3 u4 u5 u6 u7 u8 u9 u10 u11) ∧ (¬ r232 = r233 → False)))) ∧ (¬ x23 = (32 : Int32) → wL_L_law_18 xs L post Kx18 n18 (x1 + (6 : Int32)) u2 u3 u4 u5 u6 u7 u8 u9 u10 u11)))))))))))))))))))))))))))))))))))
set_option maxHeartbeats 40000000 in
set_option maxRecDepth 100000 in
theorem law_loop {F : FX} {b L : Nat} {xs : Nat → Int32} {A : Nat → Prop} {D : va_G} {K : Nat → ClassId} {t x no tr tp ac se ak mo : Nat → Nat} {ro im : Nat → Nat → Nat} (hLW : LW F b A) (hF : FOk F room_1 ret) (X : Cx F cL_law 4 RL D (TY K)) (hX : SX F A b L xs) (hT : ST t A (fxS F) (fxS F).heap) (hA : ∀ q : Nat, (fxS F).heap.size ≤ q → A q) (post : Unit → Prop) (a3 : Int32) (ux : BX6) (un : BX1) (ut : BX1) (up : BX5) (ua : BX0) (us : BX4) (uk : BX2) (rs : (Nat → BX3)) (ms : (Nat → BX1)) (um : BX7) (ls : Array Slot) (H : Heap) (locs : List Loc) (h : ∃ n18, wL_L_law_18 xs L post (fun (u12 : BX6) (u13 : BX1) (u14 : BX1) (u15 : BX5) (u16 : BX0) (u17 : BX4) (u18 : BX2) (u19 : (Nat → BX3)) (u20 : (Nat → BX1)) (u21 : BX7) => True) n18 a3 ux un ut up ua us uk rs ms um) (hl : lv_has ls 4 [(0, .ref b), (1, .ref (x 0)), (2, .ref (mo 0)), (3, .int a3)]) (hH : HH F D A (XW K x no tr tp ac se ak ro im ux un ut up ua us uk rs ms ++ CX7 K mo um) H locs) : V F (lw_Z F.2.2.2.2.2.2.2.1 #[Value.ref b] (fxS F)) H locs 18 ls [] := by
  obtain ⟨Kx18, hK18⟩ : ∃ f : BX6 → BX1 → BX1 → BX5 → BX0 → BX4 → BX2 → (Nat → BX3) → (Nat → BX1) → BX7 → Prop, f = (fun (u12 : BX6) (u13 : BX1) (u14 : BX1) (u15 : BX5) (u16 : BX0) (u17 : BX4) (u18 : BX2) (u19 : (Nat → BX3)) (u20 : (Nat → BX1)) (u21 : BX7) => True) := ⟨_, rfl⟩
  have kx22 : ∀ (u12 : BX6) (u13 : BX1) (u14 : BX1) (u15 : BX5) (u16 : BX0) (u17 : BX4) (u18 : BX2) (u19 : (Nat → BX3)) (u20 : (Nat → BX1)) (u21 : BX7) (ls : Array Slot) (H : Heap) (locs : List Loc), (Kx18 u12 u13 u14 u15 u16 u17 u18 u19 u20 u21) → lv_has ls 4 [] → HH F D A (CX6 K x no tr tp ac se ak ro im u12 ++ CX1 K no u13 ++ CX1 K tr u14 ++ CX5 K tp u15 ++ CX0 K ac u16 ++ CX4 K se u17 ++ CX2 K ak u18 ++ CRows K ro u19 ++ CImgs K im u20 ++ CX7 K mo u21) H locs → V F (lw_Z F.2.2.2.2.2.2.2.1 #[Value.ref b] (fxS F)) H locs 1175 ls [] := by
    intro u12 u13 u14 u15 u16 u17 u18 u19 u20 u21 ls H locs h hl hH
    have h : True := by rw [hK18] at h; exact h
    refine v_iconst (v := (1 : Int32)) X dL_law_1175 (by decide) ?_
    exact law_end hLW X hH dL_law_1176
  have lp18 : ∀ (n18 : Nat) (x1 : Int32) (u2 : BX6) (u3 : BX1) (u4 : BX1) (u5 : BX5) (u6 : BX0) (u7 : BX4) (u8 : BX2) (u9 : (Nat → BX3)) (u10 : (Nat → BX1)) (u11 : BX7) (ls : Array Slot) (H : Heap) (locs : List Loc), wL_L_law_18 xs L post Kx18 n18 x1 u2 u3 u4 u5 u6 u7 u8 u9 u10 u11 → lv_has ls 4 [(0, .ref b), (1, .ref (x 0)), (2, .ref (mo 0)), (3, .int x1)] → HH F D A (CX6 K x no tr tp ac se ak ro im u2 ++ CX1 K no u3 ++ CX1 K tr u4 ++ CX5 K tp u5 ++ CX0 K ac u6 ++ CX4 K se u7 ++ CX2 K ak u8 ++ CRows K ro u9 ++ CImgs K im u10 ++ CX7 K mo u11) H locs → V F (lw_Z F.2.2.2.2.2.2.2.1 #[Value.ref b] (fxS F)) H locs 18 ls [] := by
    intro n18
    induction n18 with
    | zero => intro x1 u2 u3 u4 u5 u6 u7 u8 u9 u10 u11 ls H locs h hl hH; exact h.elim
    | succ n18 ih18 =>
      intro x1 u2 u3 u4 u5 u6 u7 u8 u9 u10 u11 ls H locs h hl hH
      refine v_iload_n X dL_law_18 rfl (lv_at hl 3 rfl) ?_
      refine v_aload_n X dL_law_19 rfl (lv_at hl 0 rfl) ?_
      refine v_slen X hX hH.2.2 dL_law_20 ?_
      refine v_bipush (v := (6 : Int32)) X dL_law_21 (by decide) ?_
      refine v_isub X dL_law_23 ?_
      refine v_icmp_gt (tgt := 1175) X dL_law_24 (by decide) (fun c235 => ?_) (fun c235 => ?_)
      · have h := h.1 c235
        exact kx22 u2 u3 u4 u5 u6 u7 u8 u9 u10 u11 ls H locs h (lv_sub hl [] rfl) hH
      · have h := h.2 c235
        refine v_aload_n X dL_law_27 rfl (lv_at hl 0 rfl) ?_
        refine v_iload_n X dL_law_28 rfl (lv_at hl 3 rfl) ?_
        have hin := h.1
        have h := h.2
        refine v_sld X hX hH.2.2 hin dL_law_29 ?_
        refine v_bipush (v := (63 : Int32)) X dL_law_30 (by decide) ?_
        refine v_iand X dL_law_32 ?_
        refine v_topi (fun x23 ex23 => ?_)
        have h := h x23 ex23
        by_cases c24 : x23 = (0 : Int32)
        · have h := h.1 c24
          refine v_tableIn (tgt := 180) (off := 147) X dL_law_33 (by rw [c24]; decide) (by rw [c24]; decide) (by rw [c24]; rfl) (by decide) ?_
          refine v_aload_n X dL_law_180 rfl (lv_at hl 1 rfl) ?_
          refine v_aload_n X dL_law_181 rfl (lv_at hl 0 rfl) ?_
          refine v_iload_n X dL_law_182 rfl (lv_at hl 3 rfl) ?_
          refine v_iconst (v := (1 : Int32)) X dL_law_183 (by decide) ?_
          refine v_iadd X dL_law_184 ?_
          have hin := h.1
          have h := h.2
          refine v_sld X hX hH.2.2 hin dL_law_185 ?_
          refine v_aload_n X dL_law_186 rfl (lv_at hl 0 rfl) ?_
          refine v_iload_n X dL_law_187 rfl (lv_at hl 3 rfl) ?_
          refine v_iconst (v := (2 : Int32)) X dL_law_188 (by decide) ?_
          refine v_iadd X dL_law_189 ?_
          have hin := h.1
          have h := h.2
          refine v_sld X hX hH.2.2 hin dL_law_190 ?_
          refine v_aload_n X dL_law_191 rfl (lv_at hl 0 rfl) ?_
          refine v_iload_n X dL_law_192 rfl (lv_at hl 3 rfl) ?_
          refine v_iconst (v := (3 : Int32)) X dL_law_193 (by decide) ?_
          refine v_iadd X dL_law_194 ?_
          have hin := h.1
          have h := h.2
          refine v_sld X hX hH.2.2 hin dL_law_195 ?_
          refine wrVI (As := [.int (xs (x1 + (1 : Int32)).toNatClampNeg), .int (xs (x1 + (2 : Int32)).toNatClampNeg), .int (xs (x1 + (3 : Int32)).toNatClampNeg)]) (rest := []) (wr := ((((((((([] : va_W) ++ CX1 K no u3) ++ CX1 K tr u4) ++ CX5 K tp u5) ++ CX0 K ac u6) ++ CX4 K se u7) ++ CX2 K ak u8) ++ CImgs K im u10) ++ CX7 K mo u11)) X mv_L_13 (C_X6_row F.2.1 D K t x no tr tp ac se ak ro im u2 u9 (xs (x1 + (1 : Int32)).toNatClampNeg) (xs (x1 + (2 : Int32)).toNatClampNeg) (xs (x1 + (3 : Int32)).toNatClampNeg) _ h) hF ⟨rfl, rfl, Nat.le_of_ble_eq_true rfl, Nat.le_of_ble_eq_true rfl⟩ hT hA (hH.mix (pmR (pmR (pmC (pmR (pmR (pmR (pmR (pmR (pmR pm0)))))))))) _ _ cut_app (((((((((([] : va_W) ++ CX1 K no u3) ++ CX1 K tr u4) ++ CX5 K tp u5) ++ CX0 K ac u6) ++ CX4 K se u7) ++ CX2 K ak u8) ++ CImgs K im u10) ++ CX7 K mo u11)).length get_mid rfl hl.1 rfl rfl (Nat.le_of_ble_eq_true rfl) dL_law_196 (fun r25 u28 H locs h hH => ?_)
          obtain ⟨u26, u27⟩ := u28
          have hH : HH F D A (((((((((([] : va_W) ++ CX1 K no u3) ++ CX1 K tr u4) ++ CX5 K tp u5) ++ CX0 K ac u6) ++ CX4 K se u7) ++ CX2 K ak u8) ++ CImgs K im u10) ++ CX7 K mo u11) ++ (CX6 K x no tr tp ac se ak ro im u26 ++ CRows K ro u27)) H locs := hH
          have hH : HH F D A (CX6 K x no tr tp ac se ak ro im u26 ++ CX1 K no u3 ++ CX1 K tr u4 ++ CX5 K tp u5 ++ CX0 K ac u6 ++ CX4 K se u7 ++ CX2 K ak u8 ++ CRows K ro u27 ++ CImgs K im u10 ++ CX7 K mo u11) H locs := hH.mix ((pmR (pmR (pmC (pmR (pmR (pmR (pmR (pmR (pmR pm0)))))))))).symm
          refine v_aload_n X dL_law_199 rfl (lv_at hl 2 rfl) ?_
          refine v_aload_n X dL_law_200 rfl (lv_at hl 0 rfl) ?_
          refine v_iload_n X dL_law_201 rfl (lv_at hl 3 rfl) ?_
          refine v_iconst (v := (1 : Int32)) X dL_law_202 (by decide) ?_
          refine v_iadd X dL_law_203 ?_
          have hin := h.1
          have h := h.2
          refine v_sld X hX hH.2.2 hin dL_law_204 ?_
          refine v_aload_n X dL_law_205 rfl (lv_at hl 0 rfl) ?_
          refine v_iload_n X dL_law_206 rfl (lv_at hl 3 rfl) ?_
          refine v_iconst (v := (2 : Int32)) X dL_law_207 (by decide) ?_
          refine v_iadd X dL_law_208 ?_
          have hin := h.1
          have h := h.2
          refine v_sld X hX hH.2.2 hin dL_law_209 ?_
          refine v_aload_n X dL_law_210 rfl (lv_at hl 0 rfl) ?_
          refine v_iload_n X dL_law_211 rfl (lv_at hl 3 rfl) ?_
          refine v_iconst (v := (3 : Int32)) X dL_law_212 (by decide) ?_
          refine v_iadd X dL_law_213 ?_
          have hin := h.1
          have h := h.2
          refine v_sld X hX hH.2.2 hin dL_law_214 ?_
          refine wrVI (As := [.int (xs (x1 + (1 : Int32)).toNatClampNeg), .int (xs (x1 + (2 : Int32)).toNatClampNeg), .int (xs (x1 + (3 : Int32)).toNatClampNeg)]) (rest := [.int r25]) (wr := (((((((((([] : va_W) ++ CX6 K x no tr tp ac se ak ro im u26) ++ CX1 K no u3) ++ CX1 K tr u4) ++ CX5 K tp u5) ++ CX0 K ac u6) ++ CX4 K se u7) ++ CX2 K ak u8) ++ CRows K ro u27) ++ CImgs K im u10)) X mv_L_17 (c_X7_row F.2.1 D K t mo u11 (xs (x1 + (1 : Int32)).toNatClampNeg) (xs (x1 + (2 : Int32)).toNatClampNeg) (xs (x1 + (3 : Int32)).toNatClampNeg) _ h) hF ⟨rfl, rfl, Nat.le_of_ble_eq_true rfl, Nat.le_of_ble_eq_true rfl⟩ hT hA (hH.mix (pme (pme (pme (pme (pme (pme (pme (pme (pme pm0)))))))))) _ _ cut_app ((((((((((([] : va_W) ++ CX6 K x no tr tp ac se ak ro im u26) ++ CX1 K no u3) ++ CX1 K tr u4) ++ CX5 K tp u5) ++ CX0 K ac u6) ++ CX4 K se u7) ++ CX2 K ak u8) ++ CRows K ro u27) ++ CImgs K im u10)).length get_mid rfl hl.1 rfl rfl (Nat.le_of_ble_eq_true rfl) dL_law_215 (fun r29 u30 H locs h hH => ?_)
          have hH : HH F D A ((((((((((([] : va_W) ++ CX6 K x no tr tp ac se ak ro im u26) ++ CX1 K no u3) ++ CX1 K tr u4) ++ CX5 K tp u5) ++ CX0 K ac u6) ++ CX4 K se u7) ++ CX2 K ak u8) ++ CRows K ro u27) ++ CImgs K im u10) ++ (CX7 K mo u30)) H locs := hH
          have hH : HH F D A (CX6 K x no tr tp ac se ak ro im u26 ++ CX1 K no u3 ++ CX1 K tr u4 ++ CX5 K tp u5 ++ CX0 K ac u6 ++ CX4 K se u7 ++ CX2 K ak u8 ++ CRows K ro u27 ++ CImgs K im u10 ++ CX7 K mo u30) H locs := hH.mix ((pme (pme (pme (pme (pme (pme (pme (pme (pme pm0)))))))))).symm
          refine v_icmp_eq (tgt := 1169) X dL_law_218 (by decide) (fun c31 => ?_) (fun c31 => ?_)
          · have h := h.1 c31
            refine v_iinc (v := (x1 + (6 : Int32))) (lv' := [(3, .int (x1 + (6 : Int32))), (0, .ref b), (1, .ref (x 0)), (2, .ref (mo 0))]) X dL_law_1169 hl (k := 3) rfl rfl (by decide) rfl (fun ls hl => ?_)
            refine v_goto (tgt := 18) X dL_law_1172 (by decide) ?_
            exact ih18 (x1 + (6 : Int32)) u26 u3 u4 u5 u6 u7 u8 u27 u10 u30 ls H locs h (lv_sub hl [1, 2, 3, 0] rfl) hH
          · have h := h.2 c31
            refine v_iconst (v := (0 : Int32)) X dL_law_221 (by decide) ?_
            exact h.elim
        · have h := h.2 c24
          by_cases c32 : x23 = (1 : Int32)
          · have h := h.1 c32
            refine v_tableIn (tgt := 223) (off := 190) X dL_law_33 (by rw [c32]; decide) (by rw [c32]; decide) (by rw [c32]; rfl) (by decide) ?_
            refine v_aload_n X dL_law_223 rfl (lv_at hl 1 rfl) ?_
            refine v_aload_n X dL_law_224 rfl (lv_at hl 0 rfl) ?_
            refine v_iload_n X dL_law_225 rfl (lv_at hl 3 rfl) ?_
            refine v_iconst (v := (1 : Int32)) X dL_law_226 (by decide) ?_
            refine v_iadd X dL_law_227 ?_
            have hin := h.1
            have h := h.2
            refine v_sld X hX hH.2.2 hin dL_law_228 ?_
            refine v_aload_n X dL_law_229 rfl (lv_at hl 0 rfl) ?_
            refine v_iload_n X dL_law_230 rfl (lv_at hl 3 rfl) ?_
            refine v_iconst (v := (2 : Int32)) X dL_law_231 (by decide) ?_
            refine v_iadd X dL_law_232 ?_
            have hin := h.1
            have h := h.2
            refine v_sld X hX hH.2.2 hin dL_law_233 ?_
            refine v_aload_n X dL_law_234 rfl (lv_at hl 0 rfl) ?_
            refine v_iload_n X dL_law_235 rfl (lv_at hl 3 rfl) ?_
            refine v_iconst (v := (3 : Int32)) X dL_law_236 (by decide) ?_
            refine v_iadd X dL_law_237 ?_
            have hin := h.1
            have h := h.2
            refine v_sld X hX hH.2.2 hin dL_law_238 ?_
            refine wrVI (As := [.int (xs (x1 + (1 : Int32)).toNatClampNeg), .int (xs (x1 + (2 : Int32)).toNatClampNeg), .int (xs (x1 + (3 : Int32)).toNatClampNeg)]) (rest := []) (wr := ((((((((([] : va_W) ++ CX1 K no u3) ++ CX1 K tr u4) ++ CX5 K tp u5) ++ CX0 K ac u6) ++ CX4 K se u7) ++ CX2 K ak u8) ++ CImgs K im u10) ++ CX7 K mo u11)) X mv_L_18 (C_X6_set F.2.1 D K t x no tr tp ac se ak ro im u2 u9 (xs (x1 + (1 : Int32)).toNatClampNeg) (xs (x1 + (2 : Int32)).toNatClampNeg) (xs (x1 + (3 : Int32)).toNatClampNeg) _ h) hF ⟨rfl, rfl, Nat.le_of_ble_eq_true rfl, Nat.le_of_ble_eq_true rfl⟩ hT hA (hH.mix (pmR (pmR (pmC (pmR (pmR (pmR (pmR (pmR (pmR pm0)))))))))) _ _ cut_app (((((((((([] : va_W) ++ CX1 K no u3) ++ CX1 K tr u4) ++ CX5 K tp u5) ++ CX0 K ac u6) ++ CX4 K se u7) ++ CX2 K ak u8) ++ CImgs K im u10) ++ CX7 K mo u11)).length get_mid rfl hl.1 rfl rfl (Nat.le_of_ble_eq_true rfl) dL_law_239 (fun r33 u36 H locs h hH => ?_)
            obtain ⟨u34, u35⟩ := u36
            have hH : HH F D A (((((((((([] : va_W) ++ CX1 K no u3) ++ CX1 K tr u4) ++ CX5 K tp u5) ++ CX0 K ac u6) ++ CX4 K se u7) ++ CX2 K ak u8) ++ CImgs K im u10) ++ CX7 K mo u11) ++ (CX6 K x no tr tp ac se ak ro im u34 ++ CRows K ro u35)) H locs := hH
            have hH : HH F D A (CX6 K x no tr tp ac se ak ro im u34 ++ CX1 K no u3 ++ CX1 K tr u4 ++ CX5 K tp u5 ++ CX0 K ac u6 ++ CX4 K se u7 ++ CX2 K ak u8 ++ CRows K ro u35 ++ CImgs K im u10 ++ CX7 K mo u11) H locs := hH.mix ((pmR (pmR (pmC (pmR (pmR (pmR (pmR (pmR (pmR pm0)))))))))).symm
            refine v_aload_n X dL_law_242 rfl (lv_at hl 2 rfl) ?_
            refine v_aload_n X dL_law_243 rfl (lv_at hl 0 rfl) ?_
            refine v_iload_n X dL_law_244 rfl (lv_at hl 3 rfl) ?_
            refine v_iconst (v := (1 : Int32)) X dL_law_245 (by decide) ?_
            refine v_iadd X dL_law_246 ?_
            have hin := h.1
            have h := h.2
            refine v_sld X hX hH.2.2 hin dL_law_247 ?_
            refine v_aload_n X dL_law_248 rfl (lv_at hl 0 rfl) ?_
            refine v_iload_n X dL_law_249 rfl (lv_at hl 3 rfl) ?_
            refine v_iconst (v := (2 : Int32)) X dL_law_250 (by decide) ?_
            refine v_iadd X dL_law_251 ?_
            have hin := h.1
            have h := h.2
            refine v_sld X hX hH.2.2 hin dL_law_252 ?_
            refine v_aload_n X dL_law_253 rfl (lv_at hl 0 rfl) ?_
            refine v_iload_n X dL_law_254 rfl (lv_at hl 3 rfl) ?_
            refine v_iconst (v := (3 : Int32)) X dL_law_255 (by decide) ?_
            refine v_iadd X dL_law_256 ?_
            have hin := h.1
            have h := h.2
            refine v_sld X hX hH.2.2 hin dL_law_257 ?_
            refine wrVI (As := [.int (xs (x1 + (1 : Int32)).toNatClampNeg), .int (xs (x1 + (2 : Int32)).toNatClampNeg), .int (xs (x1 + (3 : Int32)).toNatClampNeg)]) (rest := [.int r33]) (wr := (((((((((([] : va_W) ++ CX6 K x no tr tp ac se ak ro im u34) ++ CX1 K no u3) ++ CX1 K tr u4) ++ CX5 K tp u5) ++ CX0 K ac u6) ++ CX4 K se u7) ++ CX2 K ak u8) ++ CRows K ro u35) ++ CImgs K im u10)) X mv_L_21 (c_X7_set F.2.1 D K t mo u11 (xs (x1 + (1 : Int32)).toNatClampNeg) (xs (x1 + (2 : Int32)).toNatClampNeg) (xs (x1 + (3 : Int32)).toNatClampNeg) _ h) hF ⟨rfl, rfl, Nat.le_of_ble_eq_true rfl, Nat.le_of_ble_eq_true rfl⟩ hT hA (hH.mix (pme (pme (pme (pme (pme (pme (pme (pme (pme pm0)))))))))) _ _ cut_app ((((((((((([] : va_W) ++ CX6 K x no tr tp ac se ak ro im u34) ++ CX1 K no u3) ++ CX1 K tr u4) ++ CX5 K tp u5) ++ CX0 K ac u6) ++ CX4 K se u7) ++ CX2 K ak u8) ++ CRows K ro u35) ++ CImgs K im u10)).length get_mid rfl hl.1 rfl rfl (Nat.le_of_ble_eq_true rfl) dL_law_258 (fun r37 u38 H locs h hH => ?_)
            have hH : HH F D A ((((((((((([] : va_W) ++ CX6 K x no tr tp ac se ak ro im u34) ++ CX1 K no u3) ++ CX1 K tr u4) ++ CX5 K tp u5) ++ CX0 K ac u6) ++ CX4 K se u7) ++ CX2 K ak u8) ++ CRows K ro u35) ++ CImgs K im u10) ++ (CX7 K mo u38)) H locs := hH
            have hH : HH F D A (CX6 K x no tr tp ac se ak ro im u34 ++ CX1 K no u3 ++ CX1 K tr u4 ++ CX5 K tp u5 ++ CX0 K ac u6 ++ CX4 K se u7 ++ CX2 K ak u8 ++ CRows K ro u35 ++ CImgs K im u10 ++ CX7 K mo u38) H locs := hH.mix ((pme (pme (pme (pme (pme (pme (pme (pme (pme pm0)))))))))).symm
            refine v_icmp_eq (tgt := 1169) X dL_law_261 (by decide) (fun c39 => ?_) (fun c39 => ?_)
            · have h := h.1 c39
              refine v_iinc (v := (x1 + (6 : Int32))) (lv' := [(3, .int (x1 + (6 : Int32))), (0, .ref b), (1, .ref (x 0)), (2, .ref (mo 0))]) X dL_law_1169 hl (k := 3) rfl rfl (by decide) rfl (fun ls hl => ?_)
              refine v_goto (tgt := 18) X dL_law_1172 (by decide) ?_
              exact ih18 (x1 + (6 : Int32)) u34 u3 u4 u5 u6 u7 u8 u35 u10 u38 ls H locs h (lv_sub hl [1, 2, 3, 0] rfl) hH
            · have h := h.2 c39
              refine v_iconst (v := (0 : Int32)) X dL_law_264 (by decide) ?_
              exact h.elim
          · have h := h.2 c32
            by_cases c40 : x23 = (2 : Int32)
            · have h := h.1 c40
              refine v_tableIn (tgt := 266) (off := 233) X dL_law_33 (by rw [c40]; decide) (by rw [c40]; decide) (by rw [c40]; rfl) (by decide) ?_
              refine v_aload_n X dL_law_266 rfl (lv_at hl 1 rfl) ?_
              refine v_aload_n X dL_law_267 rfl (lv_at hl 0 rfl) ?_
              refine v_iload_n X dL_law_268 rfl (lv_at hl 3 rfl) ?_
              refine v_iconst (v := (1 : Int32)) X dL_law_269 (by decide) ?_
              refine v_iadd X dL_law_270 ?_
              have hin := h.1
              have h := h.2
              refine v_sld X hX hH.2.2 hin dL_law_271 ?_
              refine v_aload_n X dL_law_272 rfl (lv_at hl 0 rfl) ?_
              refine v_iload_n X dL_law_273 rfl (lv_at hl 3 rfl) ?_
              refine v_iconst (v := (2 : Int32)) X dL_law_274 (by decide) ?_
              refine v_iadd X dL_law_275 ?_
              have hin := h.1
              have h := h.2
              refine v_sld X hX hH.2.2 hin dL_law_276 ?_
              refine v_aload_n X dL_law_277 rfl (lv_at hl 0 rfl) ?_
              refine v_iload_n X dL_law_278 rfl (lv_at hl 3 rfl) ?_
              refine v_iconst (v := (3 : Int32)) X dL_law_279 (by decide) ?_
              refine v_iadd X dL_law_280 ?_
              have hin := h.1
              have h := h.2
              refine v_sld X hX hH.2.2 hin dL_law_281 ?_
              refine v_aload_n X dL_law_282 rfl (lv_at hl 0 rfl) ?_
              refine v_iload_n X dL_law_283 rfl (lv_at hl 3 rfl) ?_
              refine v_iconst (v := (4 : Int32)) X dL_law_284 (by decide) ?_
              refine v_iadd X dL_law_285 ?_
              have hin := h.1
              have h := h.2
              refine v_sld X hX hH.2.2 hin dL_law_286 ?_
              refine v_aload_n X dL_law_287 rfl (lv_at hl 0 rfl) ?_
              refine v_iload_n X dL_law_288 rfl (lv_at hl 3 rfl) ?_
              refine v_iconst (v := (5 : Int32)) X dL_law_289 (by decide) ?_
              refine v_iadd X dL_law_290 ?_
              have hin := h.1
              have h := h.2
              refine v_sld X hX hH.2.2 hin dL_law_291 ?_
              refine wrVI (As := [.int (xs (x1 + (1 : Int32)).toNatClampNeg), .int (xs (x1 + (2 : Int32)).toNatClampNeg), .int (xs (x1 + (3 : Int32)).toNatClampNeg), .int (xs (x1 + (4 : Int32)).toNatClampNeg), .int (xs (x1 + (5 : Int32)).toNatClampNeg)]) (rest := []) (wr := ((((((((([] : va_W) ++ CX1 K no u3) ++ CX1 K tr u4) ++ CX5 K tp u5) ++ CX0 K ac u6) ++ CX4 K se u7) ++ CX2 K ak u8) ++ CImgs K im u10) ++ CX7 K mo u11)) X mv_L_22 (C_X6_copy F.2.1 D K t x no tr tp ac se ak ro im u2 u9 (xs (x1 + (1 : Int32)).toNatClampNeg) (xs (x1 + (2 : Int32)).toNatClampNeg) (xs (x1 + (3 : Int32)).toNatClampNeg) (xs (x1 + (4 : Int32)).toNatClampNeg) (xs (x1 + (5 : Int32)).toNatClampNeg) _ h) hF ⟨rfl, rfl, Nat.le_of_ble_eq_true rfl, Nat.le_of_ble_eq_true rfl⟩ hT hA (hH.mix (pmR (pmR (pmC (pmR (pmR (pmR (pmR (pmR (pmR pm0)))))))))) _ _ cut_app (((((((((([] : va_W) ++ CX1 K no u3) ++ CX1 K tr u4) ++ CX5 K tp u5) ++ CX0 K ac u6) ++ CX4 K se u7) ++ CX2 K ak u8) ++ CImgs K im u10) ++ CX7 K mo u11)).length get_mid rfl hl.1 rfl rfl (Nat.le_of_ble_eq_true rfl) dL_law_292 (fun r41 u44 H locs h hH => ?_)
              obtain ⟨u42, u43⟩ := u44
              have hH : HH F D A (((((((((([] : va_W) ++ CX1 K no u3) ++ CX1 K tr u4) ++ CX5 K tp u5) ++ CX0 K ac u6) ++ CX4 K se u7) ++ CX2 K ak u8) ++ CImgs K im u10) ++ CX7 K mo u11) ++ (CX6 K x no tr tp ac se ak ro im u42 ++ CRows K ro u43)) H locs := hH
              have hH : HH F D A (CX6 K x no tr tp ac se ak ro im u42 ++ CX1 K no u3 ++ CX1 K tr u4 ++ CX5 K tp u5 ++ CX0 K ac u6 ++ CX4 K se u7 ++ CX2 K ak u8 ++ CRows K ro u43 ++ CImgs K im u10 ++ CX7 K mo u11) H locs := hH.mix ((pmR (pmR (pmC (pmR (pmR (pmR (pmR (pmR (pmR pm0)))))))))).symm
              refine v_aload_n X dL_law_295 rfl (lv_at hl 2 rfl) ?_
              refine v_aload_n X dL_law_296 rfl (lv_at hl 0 rfl) ?_
              refine v_iload_n X dL_law_297 rfl (lv_at hl 3 rfl) ?_
              refine v_iconst (v := (1 : Int32)) X dL_law_298 (by decide) ?_
              refine v_iadd X dL_law_299 ?_
              have hin := h.1
              have h := h.2
              refine v_sld X hX hH.2.2 hin dL_law_300 ?_
              refine v_aload_n X dL_law_301 rfl (lv_at hl 0 rfl) ?_
              refine v_iload_n X dL_law_302 rfl (lv_at hl 3 rfl) ?_
              refine v_iconst (v := (2 : Int32)) X dL_law_303 (by decide) ?_
              refine v_iadd X dL_law_304 ?_
              have hin := h.1
              have h := h.2
              refine v_sld X hX hH.2.2 hin dL_law_305 ?_
              refine v_aload_n X dL_law_306 rfl (lv_at hl 0 rfl) ?_
              refine v_iload_n X dL_law_307 rfl (lv_at hl 3 rfl) ?_
              refine v_iconst (v := (3 : Int32)) X dL_law_308 (by decide) ?_
              refine v_iadd X dL_law_309 ?_
              have hin := h.1
              have h := h.2
              refine v_sld X hX hH.2.2 hin dL_law_310 ?_
              refine v_aload_n X dL_law_311 rfl (lv_at hl 0 rfl) ?_
              refine v_iload_n X dL_law_312 rfl (lv_at hl 3 rfl) ?_
              refine v_iconst (v := (4 : Int32)) X dL_law_313 (by decide) ?_
              refine v_iadd X dL_law_314 ?_
              have hin := h.1
              have h := h.2
              refine v_sld X hX hH.2.2 hin dL_law_315 ?_
              refine v_aload_n X dL_law_316 rfl (lv_at hl 0 rfl) ?_
              refine v_iload_n X dL_law_317 rfl (lv_at hl 3 rfl) ?_
              refine v_iconst (v := (5 : Int32)) X dL_law_318 (by decide) ?_
              refine v_iadd X dL_law_319 ?_
              have hin := h.1
              have h := h.2
              refine v_sld X hX hH.2.2 hin dL_law_320 ?_
              refine wrVI (As := [.int (xs (x1 + (1 : Int32)).toNatClampNeg), .int (xs (x1 + (2 : Int32)).toNatClampNeg), .int (xs (x1 + (3 : Int32)).toNatClampNeg), .int (xs (x1 + (4 : Int32)).toNatClampNeg), .int (xs (x1 + (5 : Int32)).toNatClampNeg)]) (rest := [.int r41]) (wr := (((((((((([] : va_W) ++ CX6 K x no tr tp ac se ak ro im u42) ++ CX1 K no u3) ++ CX1 K tr u4) ++ CX5 K tp u5) ++ CX0 K ac u6) ++ CX4 K se u7) ++ CX2 K ak u8) ++ CRows K ro u43) ++ CImgs K im u10)) X mv_L_26 (c_X7_copy F.2.1 D K t mo u11 (xs (x1 + (1 : Int32)).toNatClampNeg) (xs (x1 + (2 : Int32)).toNatClampNeg) (xs (x1 + (3 : Int32)).toNatClampNeg) (xs (x1 + (4 : Int32)).toNatClampNeg) (xs (x1 + (5 : Int32)).toNatClampNeg) _ h) hF ⟨rfl, rfl, Nat.le_of_ble_eq_true rfl, Nat.le_of_ble_eq_true rfl⟩ hT hA (hH.mix (pme (pme (pme (pme (pme (pme (pme (pme (pme pm0)))))))))) _ _ cut_app ((((((((((([] : va_W) ++ CX6 K x no tr tp ac se ak ro im u42) ++ CX1 K no u3) ++ CX1 K tr u4) ++ CX5 K tp u5) ++ CX0 K ac u6) ++ CX4 K se u7) ++ CX2 K ak u8) ++ CRows K ro u43) ++ CImgs K im u10)).length get_mid rfl hl.1 rfl rfl (Nat.le_of_ble_eq_true rfl) dL_law_321 (fun r45 u46 H locs h hH => ?_)
              have hH : HH F D A ((((((((((([] : va_W) ++ CX6 K x no tr tp ac se ak ro im u42) ++ CX1 K no u3) ++ CX1 K tr u4) ++ CX5 K tp u5) ++ CX0 K ac u6) ++ CX4 K se u7) ++ CX2 K ak u8) ++ CRows K ro u43) ++ CImgs K im u10) ++ (CX7 K mo u46)) H locs := hH
              have hH : HH F D A (CX6 K x no tr tp ac se ak ro im u42 ++ CX1 K no u3 ++ CX1 K tr u4 ++ CX5 K tp u5 ++ CX0 K ac u6 ++ CX4 K se u7 ++ CX2 K ak u8 ++ CRows K ro u43 ++ CImgs K im u10 ++ CX7 K mo u46) H locs := hH.mix ((pme (pme (pme (pme (pme (pme (pme (pme (pme pm0)))))))))).symm
              refine v_icmp_eq (tgt := 1169) X dL_law_324 (by decide) (fun c47 => ?_) (fun c47 => ?_)
              · have h := h.1 c47
                refine v_iinc (v := (x1 + (6 : Int32))) (lv' := [(3, .int (x1 + (6 : Int32))), (0, .ref b), (1, .ref (x 0)), (2, .ref (mo 0))]) X dL_law_1169 hl (k := 3) rfl rfl (by decide) rfl (fun ls hl => ?_)
                refine v_goto (tgt := 18) X dL_law_1172 (by decide) ?_
                exact ih18 (x1 + (6 : Int32)) u42 u3 u4 u5 u6 u7 u8 u43 u10 u46 ls H locs h (lv_sub hl [1, 2, 3, 0] rfl) hH
              · have h := h.2 c47
                refine v_iconst (v := (0 : Int32)) X dL_law_327 (by decide) ?_
                exact h.elim
            · have h := h.2 c40
              by_cases c48 : x23 = (3 : Int32)
              · have h := h.1 c48
                refine v_tableIn (tgt := 329) (off := 296) X dL_law_33 (by rw [c48]; decide) (by rw [c48]; decide) (by rw [c48]; rfl) (by decide) ?_
                refine v_aload_n X dL_law_329 rfl (lv_at hl 1 rfl) ?_
                refine v_aload_n X dL_law_330 rfl (lv_at hl 0 rfl) ?_
                refine v_iload_n X dL_law_331 rfl (lv_at hl 3 rfl) ?_
                refine v_iconst (v := (1 : Int32)) X dL_law_332 (by decide) ?_
                refine v_iadd X dL_law_333 ?_
                have hin := h.1
                have h := h.2
                refine v_sld X hX hH.2.2 hin dL_law_334 ?_
                refine wrVI (As := [.int (xs (x1 + (1 : Int32)).toNatClampNeg)]) (rest := []) (wr := ((((((((([] : va_W) ++ CX1 K no u3) ++ CX1 K tr u4) ++ CX5 K tp u5) ++ CX0 K ac u6) ++ CX4 K se u7) ++ CX2 K ak u8) ++ CImgs K im u10) ++ CX7 K mo u11)) X mv_L_27 (C_X6_drop F.2.1 D K t x no tr tp ac se ak ro im u2 u9 (xs (x1 + (1 : Int32)).toNatClampNeg) _ h) hF ⟨rfl, rfl, Nat.le_of_ble_eq_true rfl, Nat.le_of_ble_eq_true rfl⟩ hT hA (hH.mix (pmR (pmR (pmC (pmR (pmR (pmR (pmR (pmR (pmR pm0)))))))))) _ _ cut_app (((((((((([] : va_W) ++ CX1 K no u3) ++ CX1 K tr u4) ++ CX5 K tp u5) ++ CX0 K ac u6) ++ CX4 K se u7) ++ CX2 K ak u8) ++ CImgs K im u10) ++ CX7 K mo u11)).length get_mid rfl hl.1 rfl rfl (Nat.le_of_ble_eq_true rfl) dL_law_335 (fun r49 u52 H locs h hH => ?_)
                obtain ⟨u50, u51⟩ := u52
                have hH : HH F D A (((((((((([] : va_W) ++ CX1 K no u3) ++ CX1 K tr u4) ++ CX5 K tp u5) ++ CX0 K ac u6) ++ CX4 K se u7) ++ CX2 K ak u8) ++ CImgs K im u10) ++ CX7 K mo u11) ++ (CX6 K x no tr tp ac se ak ro im u50 ++ CRows K ro u51)) H locs := hH
                have hH : HH F D A (CX6 K x no tr tp ac se ak ro im u50 ++ CX1 K no u3 ++ CX1 K tr u4 ++ CX5 K tp u5 ++ CX0 K ac u6 ++ CX4 K se u7 ++ CX2 K ak u8 ++ CRows K ro u51 ++ CImgs K im u10 ++ CX7 K mo u11) H locs := hH.mix ((pmR (pmR (pmC (pmR (pmR (pmR (pmR (pmR (pmR pm0)))))))))).symm
                refine v_aload_n X dL_law_338 rfl (lv_at hl 2 rfl) ?_
                refine v_aload_n X dL_law_339 rfl (lv_at hl 0 rfl) ?_
                refine v_iload_n X dL_law_340 rfl (lv_at hl 3 rfl) ?_
                refine v_iconst (v := (1 : Int32)) X dL_law_341 (by decide) ?_
                refine v_iadd X dL_law_342 ?_
                have hin := h.1
                have h := h.2
                refine v_sld X hX hH.2.2 hin dL_law_343 ?_
                refine wrVI (As := [.int (xs (x1 + (1 : Int32)).toNatClampNeg)]) (rest := [.int r49]) (wr := (((((((((([] : va_W) ++ CX6 K x no tr tp ac se ak ro im u50) ++ CX1 K no u3) ++ CX1 K tr u4) ++ CX5 K tp u5) ++ CX0 K ac u6) ++ CX4 K se u7) ++ CX2 K ak u8) ++ CRows K ro u51) ++ CImgs K im u10)) X mv_L_31 (c_X7_drop F.2.1 D K t mo u11 (xs (x1 + (1 : Int32)).toNatClampNeg) _ h) hF ⟨rfl, rfl, Nat.le_of_ble_eq_true rfl, Nat.le_of_ble_eq_true rfl⟩ hT hA (hH.mix (pme (pme (pme (pme (pme (pme (pme (pme (pme pm0)))))))))) _ _ cut_app ((((((((((([] : va_W) ++ CX6 K x no tr tp ac se ak ro im u50) ++ CX1 K no u3) ++ CX1 K tr u4) ++ CX5 K tp u5) ++ CX0 K ac u6) ++ CX4 K se u7) ++ CX2 K ak u8) ++ CRows K ro u51) ++ CImgs K im u10)).length get_mid rfl hl.1 rfl rfl (Nat.le_of_ble_eq_true rfl) dL_law_344 (fun r53 u54 H locs h hH => ?_)
                have hH : HH F D A ((((((((((([] : va_W) ++ CX6 K x no tr tp ac se ak ro im u50) ++ CX1 K no u3) ++ CX1 K tr u4) ++ CX5 K tp u5) ++ CX0 K ac u6) ++ CX4 K se u7) ++ CX2 K ak u8) ++ CRows K ro u51) ++ CImgs K im u10) ++ (CX7 K mo u54)) H locs := hH
                have hH : HH F D A (CX6 K x no tr tp ac se ak ro im u50 ++ CX1 K no u3 ++ CX1 K tr u4 ++ CX5 K tp u5 ++ CX0 K ac u6 ++ CX4 K se u7 ++ CX2 K ak u8 ++ CRows K ro u51 ++ CImgs K im u10 ++ CX7 K mo u54) H locs := hH.mix ((pme (pme (pme (pme (pme (pme (pme (pme (pme pm0)))))))))).symm
                refine v_icmp_eq (tgt := 1169) X dL_law_347 (by decide) (fun c55 => ?_) (fun c55 => ?_)
                · have h := h.1 c55
                  refine v_iinc (v := (x1 + (6 : Int32))) (lv' := [(3, .int (x1 + (6 : Int32))), (0, .ref b), (1, .ref (x 0)), (2, .ref (mo 0))]) X dL_law_1169 hl (k := 3) rfl rfl (by decide) rfl (fun ls hl => ?_)
                  refine v_goto (tgt := 18) X dL_law_1172 (by decide) ?_
                  exact ih18 (x1 + (6 : Int32)) u50 u3 u4 u5 u6 u7 u8 u51 u10 u54 ls H locs h (lv_sub hl [1, 2, 3, 0] rfl) hH
                · have h := h.2 c55
                  refine v_iconst (v := (0 : Int32)) X dL_law_350 (by decide) ?_
                  exact h.elim
              · have h := h.2 c48
                by_cases c56 : x23 = (4 : Int32)
                · have h := h.1 c56
                  refine v_tableIn (tgt := 352) (off := 319) X dL_law_33 (by rw [c56]; decide) (by rw [c56]; decide) (by rw [c56]; rfl) (by decide) ?_
                  refine v_aload_n X dL_law_352 rfl (lv_at hl 1 rfl) ?_
                  refine v_aload_n X dL_law_353 rfl (lv_at hl 0 rfl) ?_
                  refine v_iload_n X dL_law_354 rfl (lv_at hl 3 rfl) ?_
                  refine v_iconst (v := (1 : Int32)) X dL_law_355 (by decide) ?_
                  refine v_iadd X dL_law_356 ?_
                  have hin := h.1
                  have h := h.2
                  refine v_sld X hX hH.2.2 hin dL_law_357 ?_
                  refine wrVI (As := [.int (xs (x1 + (1 : Int32)).toNatClampNeg)]) (rest := []) (wr := ((((((((([] : va_W) ++ CX1 K no u3) ++ CX1 K tr u4) ++ CX0 K ac u6) ++ CX4 K se u7) ++ CX2 K ak u8) ++ CRows K ro u9) ++ CImgs K im u10) ++ CX7 K mo u11)) X mv_L_32 (c_X6_feed F.2.1 D K t x no tr tp ac se ak ro im u2 u5 (xs (x1 + (1 : Int32)).toNatClampNeg) _ h) hF ⟨rfl, rfl, Nat.le_of_ble_eq_true rfl, Nat.le_of_ble_eq_true rfl⟩ hT hA (hH.mix (pmR (pmR (pmR (pmR (pmR (pmR (pmC (pmR (pmR pm0)))))))))) _ _ cut_app (((((((((([] : va_W) ++ CX1 K no u3) ++ CX1 K tr u4) ++ CX0 K ac u6) ++ CX4 K se u7) ++ CX2 K ak u8) ++ CRows K ro u9) ++ CImgs K im u10) ++ CX7 K mo u11)).length get_mid rfl hl.1 rfl rfl (Nat.le_of_ble_eq_true rfl) dL_law_358 (fun r57 u58 H locs h hH => ?_)
                  have hH : HH F D A (((((((((([] : va_W) ++ CX1 K no u3) ++ CX1 K tr u4) ++ CX0 K ac u6) ++ CX4 K se u7) ++ CX2 K ak u8) ++ CRows K ro u9) ++ CImgs K im u10) ++ CX7 K mo u11) ++ (CX6 K x no tr tp ac se ak ro im u2 ++ CX5 K tp u58)) H locs := hH
                  have hH : HH F D A (CX6 K x no tr tp ac se ak ro im u2 ++ CX1 K no u3 ++ CX1 K tr u4 ++ CX5 K tp u58 ++ CX0 K ac u6 ++ CX4 K se u7 ++ CX2 K ak u8 ++ CRows K ro u9 ++ CImgs K im u10 ++ CX7 K mo u11) H locs := hH.mix ((pmR (pmR (pmR (pmR (pmR (pmR (pmC (pmR (pmR pm0)))))))))).symm
                  refine v_aload_n X dL_law_361 rfl (lv_at hl 2 rfl) ?_
                  refine v_aload_n X dL_law_362 rfl (lv_at hl 0 rfl) ?_
                  refine v_iload_n X dL_law_363 rfl (lv_at hl 3 rfl) ?_
                  refine v_iconst (v := (1 : Int32)) X dL_law_364 (by decide) ?_
                  refine v_iadd X dL_law_365 ?_
                  have hin := h.1
                  have h := h.2
                  refine v_sld X hX hH.2.2 hin dL_law_366 ?_
                  refine wrVI (As := [.int (xs (x1 + (1 : Int32)).toNatClampNeg)]) (rest := [.int r57]) (wr := (((((((((([] : va_W) ++ CX6 K x no tr tp ac se ak ro im u2) ++ CX1 K no u3) ++ CX1 K tr u4) ++ CX5 K tp u58) ++ CX0 K ac u6) ++ CX4 K se u7) ++ CX2 K ak u8) ++ CRows K ro u9) ++ CImgs K im u10)) X mv_L_35 (c_X7_feed F.2.1 D K t mo u11 (xs (x1 + (1 : Int32)).toNatClampNeg) _ h) hF ⟨rfl, rfl, Nat.le_of_ble_eq_true rfl, Nat.le_of_ble_eq_true rfl⟩ hT hA (hH.mix (pme (pme (pme (pme (pme (pme (pme (pme (pme pm0)))))))))) _ _ cut_app ((((((((((([] : va_W) ++ CX6 K x no tr tp ac se ak ro im u2) ++ CX1 K no u3) ++ CX1 K tr u4) ++ CX5 K tp u58) ++ CX0 K ac u6) ++ CX4 K se u7) ++ CX2 K ak u8) ++ CRows K ro u9) ++ CImgs K im u10)).length get_mid rfl hl.1 rfl rfl (Nat.le_of_ble_eq_true rfl) dL_law_367 (fun r59 u60 H locs h hH => ?_)
                  have hH : HH F D A ((((((((((([] : va_W) ++ CX6 K x no tr tp ac se ak ro im u2) ++ CX1 K no u3) ++ CX1 K tr u4) ++ CX5 K tp u58) ++ CX0 K ac u6) ++ CX4 K se u7) ++ CX2 K ak u8) ++ CRows K ro u9) ++ CImgs K im u10) ++ (CX7 K mo u60)) H locs := hH
                  have hH : HH F D A (CX6 K x no tr tp ac se ak ro im u2 ++ CX1 K no u3 ++ CX1 K tr u4 ++ CX5 K tp u58 ++ CX0 K ac u6 ++ CX4 K se u7 ++ CX2 K ak u8 ++ CRows K ro u9 ++ CImgs K im u10 ++ CX7 K mo u60) H locs := hH.mix ((pme (pme (pme (pme (pme (pme (pme (pme (pme pm0)))))))))).symm
                  refine v_icmp_eq (tgt := 1169) X dL_law_370 (by decide) (fun c61 => ?_) (fun c61 => ?_)
                  · have h := h.1 c61
                    refine v_iinc (v := (x1 + (6 : Int32))) (lv' := [(3, .int (x1 + (6 : Int32))), (0, .ref b), (1, .ref (x 0)), (2, .ref (mo 0))]) X dL_law_1169 hl (k := 3) rfl rfl (by decide) rfl (fun ls hl => ?_)
                    refine v_goto (tgt := 18) X dL_law_1172 (by decide) ?_
                    exact ih18 (x1 + (6 : Int32)) u2 u3 u4 u58 u6 u7 u8 u9 u10 u60 ls H locs h (lv_sub hl [1, 2, 3, 0] rfl) hH
                  · have h := h.2 c61
                    refine v_iconst (v := (0 : Int32)) X dL_law_373 (by decide) ?_
                    exact h.elim
                · have h := h.2 c56
                  by_cases c62 : x23 = (5 : Int32)
                  · have h := h.1 c62
                    refine v_tableIn (tgt := 375) (off := 342) X dL_law_33 (by rw [c62]; decide) (by rw [c62]; decide) (by rw [c62]; rfl) (by decide) ?_
                    refine v_aload_n X dL_law_375 rfl (lv_at hl 1 rfl) ?_
                    refine wrVI (As := []) (rest := []) (wr := (((((([] : va_W) ++ CX4 K se u7) ++ CX2 K ak u8) ++ CRows K ro u9) ++ CImgs K im u10) ++ CX7 K mo u11)) X mv_L_36 (c_X6_agency F.2.1 D K t x no tr tp ac se ak ro im u2 u3 u4 u5 u6 _ h) hF ⟨rfl, rfl, Nat.le_of_ble_eq_true rfl, Nat.le_of_ble_eq_true rfl⟩ hT hA (hH.mix (pmR (pmR (pmR (pmR (pmR (pmC (pmC (pmC (pmC pm0)))))))))) _ _ cut_app ((((((([] : va_W) ++ CX4 K se u7) ++ CX2 K ak u8) ++ CRows K ro u9) ++ CImgs K im u10) ++ CX7 K mo u11)).length get_mid rfl hl.1 rfl rfl (Nat.le_of_ble_eq_true rfl) dL_law_376 (fun r63 u69 H locs h hH => ?_)
                    obtain ⟨u64, u65, u66, u67, u68⟩ := u69
                    have hH : HH F D A ((((((([] : va_W) ++ CX4 K se u7) ++ CX2 K ak u8) ++ CRows K ro u9) ++ CImgs K im u10) ++ CX7 K mo u11) ++ (CX6 K x no tr tp ac se ak ro im u64 ++ CX1 K no u65 ++ CX1 K tr u66 ++ CX5 K tp u67 ++ CX0 K ac u68)) H locs := hH
                    have hH : HH F D A (CX6 K x no tr tp ac se ak ro im u64 ++ CX1 K no u65 ++ CX1 K tr u66 ++ CX5 K tp u67 ++ CX0 K ac u68 ++ CX4 K se u7 ++ CX2 K ak u8 ++ CRows K ro u9 ++ CImgs K im u10 ++ CX7 K mo u11) H locs := hH.mix ((pmR (pmR (pmR (pmR (pmR (pmC (pmC (pmC (pmC pm0)))))))))).symm
                    refine v_aload_n X dL_law_379 rfl (lv_at hl 2 rfl) ?_
                    refine wrVI (As := []) (rest := [.int r63]) (wr := (((((((((([] : va_W) ++ CX6 K x no tr tp ac se ak ro im u64) ++ CX1 K no u65) ++ CX1 K tr u66) ++ CX5 K tp u67) ++ CX0 K ac u68) ++ CX4 K se u7) ++ CX2 K ak u8) ++ CRows K ro u9) ++ CImgs K im u10)) X mv_L_40 (c_X7_agency F.2.1 D K t mo u11 _ h) hF ⟨rfl, rfl, Nat.le_of_ble_eq_true rfl, Nat.le_of_ble_eq_true rfl⟩ hT hA (hH.mix (pme (pme (pme (pme (pme (pme (pme (pme (pme pm0)))))))))) _ _ cut_app ((((((((((([] : va_W) ++ CX6 K x no tr tp ac se ak ro im u64) ++ CX1 K no u65) ++ CX1 K tr u66) ++ CX5 K tp u67) ++ CX0 K ac u68) ++ CX4 K se u7) ++ CX2 K ak u8) ++ CRows K ro u9) ++ CImgs K im u10)).length get_mid rfl hl.1 rfl rfl (Nat.le_of_ble_eq_true rfl) dL_law_380 (fun r70 u71 H locs h hH => ?_)
                    have hH : HH F D A ((((((((((([] : va_W) ++ CX6 K x no tr tp ac se ak ro im u64) ++ CX1 K no u65) ++ CX1 K tr u66) ++ CX5 K tp u67) ++ CX0 K ac u68) ++ CX4 K se u7) ++ CX2 K ak u8) ++ CRows K ro u9) ++ CImgs K im u10) ++ (CX7 K mo u71)) H locs := hH
                    have hH : HH F D A (CX6 K x no tr tp ac se ak ro im u64 ++ CX1 K no u65 ++ CX1 K tr u66 ++ CX5 K tp u67 ++ CX0 K ac u68 ++ CX4 K se u7 ++ CX2 K ak u8 ++ CRows K ro u9 ++ CImgs K im u10 ++ CX7 K mo u71) H locs := hH.mix ((pme (pme (pme (pme (pme (pme (pme (pme (pme pm0)))))))))).symm
                    refine v_icmp_eq (tgt := 1169) X dL_law_383 (by decide) (fun c72 => ?_) (fun c72 => ?_)
                    · have h := h.1 c72
                      refine v_iinc (v := (x1 + (6 : Int32))) (lv' := [(3, .int (x1 + (6 : Int32))), (0, .ref b), (1, .ref (x 0)), (2, .ref (mo 0))]) X dL_law_1169 hl (k := 3) rfl rfl (by decide) rfl (fun ls hl => ?_)
                      refine v_goto (tgt := 18) X dL_law_1172 (by decide) ?_
                      exact ih18 (x1 + (6 : Int32)) u64 u65 u66 u67 u68 u7 u8 u9 u10 u71 ls H locs h (lv_sub hl [1, 2, 3, 0] rfl) hH
                    · have h := h.2 c72
                      refine v_iconst (v := (0 : Int32)) X dL_law_386 (by decide) ?_
                      exact h.elim
                  · have h := h.2 c62
                    by_cases c73 : x23 = (6 : Int32)
                    · have h := h.1 c73
                      refine v_tableIn (tgt := 388) (off := 355) X dL_law_33 (by rw [c73]; decide) (by rw [c73]; decide) (by rw [c73]; rfl) (by decide) ?_
                      refine v_aload_n X dL_law_388 rfl (lv_at hl 1 rfl) ?_
                      have hQ := hH.mix (ws' := (((((((((([] : va_W) ++ CX1 K no u3) ++ CX1 K tr u4) ++ CX5 K tp u5) ++ CX0 K ac u6) ++ CX4 K se u7) ++ CX2 K ak u8) ++ CRows K ro u9) ++ CImgs K im u10) ++ CX7 K mo u11) ++ (CX6 K x no tr tp ac se ak ro im u2)) (pmR (pmR (pmR (pmR (pmR (pmR (pmR (pmR (pmR pm0)))))))))
                      refine rdV (As := []) (rest := []) X mv_L_41 (c_X6_fault F.2.1 D K t x no tr tp ac se ak ro im u2 _ h) hF ⟨rfl, rfl, Nat.le_of_ble_eq_true rfl, Nat.le_of_ble_eq_true rfl⟩ (stW hT hQ) hQ.1 _ (Cut.sub cut_app) ((((((((((([] : va_W) ++ CX1 K no u3) ++ CX1 K tr u4) ++ CX5 K tp u5) ++ CX0 K ac u6) ++ CX4 K se u7) ++ CX2 K ak u8) ++ CRows K ro u9) ++ CImgs K im u10) ++ CX7 K mo u11)).length get_mid rfl hl.1 rfl rfl (Nat.le_of_ble_eq_true rfl) dL_law_389 (fun r74 h => ?_)
                      refine v_aload_n X dL_law_392 rfl (lv_at hl 2 rfl) ?_
                      have hQ := hH.mix (ws' := (((((((((([] : va_W) ++ CX6 K x no tr tp ac se ak ro im u2) ++ CX1 K no u3) ++ CX1 K tr u4) ++ CX5 K tp u5) ++ CX0 K ac u6) ++ CX4 K se u7) ++ CX2 K ak u8) ++ CRows K ro u9) ++ CImgs K im u10) ++ (CX7 K mo u11)) (pme (pme (pme (pme (pme (pme (pme (pme (pme pm0)))))))))
                      refine rdV (As := []) (rest := [.int r74]) X mv_L_44 (c_X7_fault F.2.1 D K t mo u11 _ h) hF ⟨rfl, rfl, Nat.le_of_ble_eq_true rfl, Nat.le_of_ble_eq_true rfl⟩ (stW hT hQ) hQ.1 _ (Cut.sub cut_app) ((((((((((([] : va_W) ++ CX6 K x no tr tp ac se ak ro im u2) ++ CX1 K no u3) ++ CX1 K tr u4) ++ CX5 K tp u5) ++ CX0 K ac u6) ++ CX4 K se u7) ++ CX2 K ak u8) ++ CRows K ro u9) ++ CImgs K im u10)).length get_mid rfl hl.1 rfl rfl (Nat.le_of_ble_eq_true rfl) dL_law_393 (fun r75 h => ?_)
                      refine v_icmp_eq (tgt := 1169) X dL_law_396 (by decide) (fun c76 => ?_) (fun c76 => ?_)
                      · have h := h.1 c76
                        refine v_iinc (v := (x1 + (6 : Int32))) (lv' := [(3, .int (x1 + (6 : Int32))), (0, .ref b), (1, .ref (x 0)), (2, .ref (mo 0))]) X dL_law_1169 hl (k := 3) rfl rfl (by decide) rfl (fun ls hl => ?_)
                        refine v_goto (tgt := 18) X dL_law_1172 (by decide) ?_
                        exact ih18 (x1 + (6 : Int32)) u2 u3 u4 u5 u6 u7 u8 u9 u10 u11 ls H locs h (lv_sub hl [1, 2, 3, 0] rfl) hH
                      · have h := h.2 c76
                        refine v_iconst (v := (0 : Int32)) X dL_law_399 (by decide) ?_
                        exact h.elim
                    · have h := h.2 c73
                      by_cases c77 : x23 = (7 : Int32)
                      · have h := h.1 c77
                        refine v_tableIn (tgt := 401) (off := 368) X dL_law_33 (by rw [c77]; decide) (by rw [c77]; decide) (by rw [c77]; rfl) (by decide) ?_
                        refine v_aload_n X dL_law_401 rfl (lv_at hl 1 rfl) ?_
                        refine v_aload_n X dL_law_402 rfl (lv_at hl 0 rfl) ?_
                        refine v_iload_n X dL_law_403 rfl (lv_at hl 3 rfl) ?_
                        refine v_iconst (v := (1 : Int32)) X dL_law_404 (by decide) ?_
                        refine v_iadd X dL_law_405 ?_
                        have hin := h.1
                        have h := h.2
                        refine v_sld X hX hH.2.2 hin dL_law_406 ?_
                        refine wrVI (As := [.int (xs (x1 + (1 : Int32)).toNatClampNeg)]) (rest := []) (wr := (((((((([] : va_W) ++ CX1 K tr u4) ++ CX5 K tp u5) ++ CX4 K se u7) ++ CX2 K ak u8) ++ CRows K ro u9) ++ CImgs K im u10) ++ CX7 K mo u11)) X mv_L_45 (c_X6_nights F.2.1 D K t x no tr tp ac se ak ro im u2 u3 u6 (xs (x1 + (1 : Int32)).toNatClampNeg) _ h) hF ⟨rfl, rfl, Nat.le_of_ble_eq_true rfl, Nat.le_of_ble_eq_true rfl⟩ hT hA (hH.mix (pmR (pmR (pmR (pmR (pmR (pmC (pmR (pmR (pmC pm0)))))))))) _ _ cut_app ((((((((([] : va_W) ++ CX1 K tr u4) ++ CX5 K tp u5) ++ CX4 K se u7) ++ CX2 K ak u8) ++ CRows K ro u9) ++ CImgs K im u10) ++ CX7 K mo u11)).length get_mid rfl hl.1 rfl rfl (Nat.le_of_ble_eq_true rfl) dL_law_407 (fun r78 u81 H locs h hH => ?_)
                        obtain ⟨u79, u80⟩ := u81
                        have hH : HH F D A ((((((((([] : va_W) ++ CX1 K tr u4) ++ CX5 K tp u5) ++ CX4 K se u7) ++ CX2 K ak u8) ++ CRows K ro u9) ++ CImgs K im u10) ++ CX7 K mo u11) ++ (CX6 K x no tr tp ac se ak ro im u2 ++ CX1 K no u79 ++ CX0 K ac u80)) H locs := hH
                        have hH : HH F D A (CX6 K x no tr tp ac se ak ro im u2 ++ CX1 K no u79 ++ CX1 K tr u4 ++ CX5 K tp u5 ++ CX0 K ac u80 ++ CX4 K se u7 ++ CX2 K ak u8 ++ CRows K ro u9 ++ CImgs K im u10 ++ CX7 K mo u11) H locs := hH.mix ((pmR (pmR (pmR (pmR (pmR (pmC (pmR (pmR (pmC pm0)))))))))).symm
                        refine v_aload_n X dL_law_410 rfl (lv_at hl 2 rfl) ?_
                        refine v_aload_n X dL_law_411 rfl (lv_at hl 0 rfl) ?_
                        refine v_iload_n X dL_law_412 rfl (lv_at hl 3 rfl) ?_
                        refine v_iconst (v := (1 : Int32)) X dL_law_413 (by decide) ?_
                        refine v_iadd X dL_law_414 ?_
                        have hin := h.1
                        have h := h.2
                        refine v_sld X hX hH.2.2 hin dL_law_415 ?_
                        refine wrVI (As := [.int (xs (x1 + (1 : Int32)).toNatClampNeg)]) (rest := [.int r78]) (wr := (((((((((([] : va_W) ++ CX6 K x no tr tp ac se ak ro im u2) ++ CX1 K no u79) ++ CX1 K tr u4) ++ CX5 K tp u5) ++ CX0 K ac u80) ++ CX4 K se u7) ++ CX2 K ak u8) ++ CRows K ro u9) ++ CImgs K im u10)) X mv_L_48 (c_X7_nights F.2.1 D K t mo u11 (xs (x1 + (1 : Int32)).toNatClampNeg) _ h) hF ⟨rfl, rfl, Nat.le_of_ble_eq_true rfl, Nat.le_of_ble_eq_true rfl⟩ hT hA (hH.mix (pme (pme (pme (pme (pme (pme (pme (pme (pme pm0)))))))))) _ _ cut_app ((((((((((([] : va_W) ++ CX6 K x no tr tp ac se ak ro im u2) ++ CX1 K no u79) ++ CX1 K tr u4) ++ CX5 K tp u5) ++ CX0 K ac u80) ++ CX4 K se u7) ++ CX2 K ak u8) ++ CRows K ro u9) ++ CImgs K im u10)).length get_mid rfl hl.1 rfl rfl (Nat.le_of_ble_eq_true rfl) dL_law_416 (fun r82 u83 H locs h hH => ?_)
                        have hH : HH F D A ((((((((((([] : va_W) ++ CX6 K x no tr tp ac se ak ro im u2) ++ CX1 K no u79) ++ CX1 K tr u4) ++ CX5 K tp u5) ++ CX0 K ac u80) ++ CX4 K se u7) ++ CX2 K ak u8) ++ CRows K ro u9) ++ CImgs K im u10) ++ (CX7 K mo u83)) H locs := hH
                        have hH : HH F D A (CX6 K x no tr tp ac se ak ro im u2 ++ CX1 K no u79 ++ CX1 K tr u4 ++ CX5 K tp u5 ++ CX0 K ac u80 ++ CX4 K se u7 ++ CX2 K ak u8 ++ CRows K ro u9 ++ CImgs K im u10 ++ CX7 K mo u83) H locs := hH.mix ((pme (pme (pme (pme (pme (pme (pme (pme (pme pm0)))))))))).symm
                        refine v_icmp_eq (tgt := 1169) X dL_law_419 (by decide) (fun c84 => ?_) (fun c84 => ?_)
                        · have h := h.1 c84
                          refine v_iinc (v := (x1 + (6 : Int32))) (lv' := [(3, .int (x1 + (6 : Int32))), (0, .ref b), (1, .ref (x 0)), (2, .ref (mo 0))]) X dL_law_1169 hl (k := 3) rfl rfl (by decide) rfl (fun ls hl => ?_)
                          refine v_goto (tgt := 18) X dL_law_1172 (by decide) ?_
                          exact ih18 (x1 + (6 : Int32)) u2 u79 u4 u5 u80 u7 u8 u9 u10 u83 ls H locs h (lv_sub hl [1, 2, 3, 0] rfl) hH
                        · have h := h.2 c84
                          refine v_iconst (v := (0 : Int32)) X dL_law_422 (by decide) ?_
                          exact h.elim
                      · have h := h.2 c77
                        by_cases c85 : x23 = (8 : Int32)
                        · have h := h.1 c85
                          refine v_tableIn (tgt := 424) (off := 391) X dL_law_33 (by rw [c85]; decide) (by rw [c85]; decide) (by rw [c85]; rfl) (by decide) ?_
                          refine v_aload_n X dL_law_424 rfl (lv_at hl 1 rfl) ?_
                          refine v_aload_n X dL_law_425 rfl (lv_at hl 0 rfl) ?_
                          refine v_iload_n X dL_law_426 rfl (lv_at hl 3 rfl) ?_
                          refine v_iconst (v := (1 : Int32)) X dL_law_427 (by decide) ?_
                          refine v_iadd X dL_law_428 ?_
                          have hin := h.1
                          have h := h.2
                          refine v_sld X hX hH.2.2 hin dL_law_429 ?_
                          refine v_aload_n X dL_law_430 rfl (lv_at hl 0 rfl) ?_
                          refine v_iload_n X dL_law_431 rfl (lv_at hl 3 rfl) ?_
                          refine v_iconst (v := (2 : Int32)) X dL_law_432 (by decide) ?_
                          refine v_iadd X dL_law_433 ?_
                          have hin := h.1
                          have h := h.2
                          refine v_sld X hX hH.2.2 hin dL_law_434 ?_
                          refine wrVI (As := [.int (xs (x1 + (1 : Int32)).toNatClampNeg), .int (xs (x1 + (2 : Int32)).toNatClampNeg)]) (rest := []) (wr := (((((((([] : va_W) ++ CX1 K tr u4) ++ CX5 K tp u5) ++ CX4 K se u7) ++ CX2 K ak u8) ++ CRows K ro u9) ++ CImgs K im u10) ++ CX7 K mo u11)) X mv_L_49 (c_X6_let F.2.1 D K t x no tr tp ac se ak ro im u2 u3 u6 (xs (x1 + (1 : Int32)).toNatClampNeg) (xs (x1 + (2 : Int32)).toNatClampNeg) _ h) hF ⟨rfl, rfl, Nat.le_of_ble_eq_true rfl, Nat.le_of_ble_eq_true rfl⟩ hT hA (hH.mix (pmR (pmR (pmR (pmR (pmR (pmC (pmR (pmR (pmC pm0)))))))))) _ _ cut_app ((((((((([] : va_W) ++ CX1 K tr u4) ++ CX5 K tp u5) ++ CX4 K se u7) ++ CX2 K ak u8) ++ CRows K ro u9) ++ CImgs K im u10) ++ CX7 K mo u11)).length get_mid rfl hl.1 rfl rfl (Nat.le_of_ble_eq_true rfl) dL_law_435 (fun r86 u89 H locs h hH => ?_)
                          obtain ⟨u87, u88⟩ := u89
                          have hH : HH F D A ((((((((([] : va_W) ++ CX1 K tr u4) ++ CX5 K tp u5) ++ CX4 K se u7) ++ CX2 K ak u8) ++ CRows K ro u9) ++ CImgs K im u10) ++ CX7 K mo u11) ++ (CX6 K x no tr tp ac se ak ro im u2 ++ CX1 K no u87 ++ CX0 K ac u88)) H locs := hH
                          have hH : HH F D A (CX6 K x no tr tp ac se ak ro im u2 ++ CX1 K no u87 ++ CX1 K tr u4 ++ CX5 K tp u5 ++ CX0 K ac u88 ++ CX4 K se u7 ++ CX2 K ak u8 ++ CRows K ro u9 ++ CImgs K im u10 ++ CX7 K mo u11) H locs := hH.mix ((pmR (pmR (pmR (pmR (pmR (pmC (pmR (pmR (pmC pm0)))))))))).symm
                          refine v_aload_n X dL_law_438 rfl (lv_at hl 2 rfl) ?_
                          refine v_aload_n X dL_law_439 rfl (lv_at hl 0 rfl) ?_
                          refine v_iload_n X dL_law_440 rfl (lv_at hl 3 rfl) ?_
                          refine v_iconst (v := (1 : Int32)) X dL_law_441 (by decide) ?_
                          refine v_iadd X dL_law_442 ?_
                          have hin := h.1
                          have h := h.2
                          refine v_sld X hX hH.2.2 hin dL_law_443 ?_
                          refine v_aload_n X dL_law_444 rfl (lv_at hl 0 rfl) ?_
                          refine v_iload_n X dL_law_445 rfl (lv_at hl 3 rfl) ?_
                          refine v_iconst (v := (2 : Int32)) X dL_law_446 (by decide) ?_
                          refine v_iadd X dL_law_447 ?_
                          have hin := h.1
                          have h := h.2
                          refine v_sld X hX hH.2.2 hin dL_law_448 ?_
                          refine wrVI (As := [.int (xs (x1 + (1 : Int32)).toNatClampNeg), .int (xs (x1 + (2 : Int32)).toNatClampNeg)]) (rest := [.int r86]) (wr := (((((((((([] : va_W) ++ CX6 K x no tr tp ac se ak ro im u2) ++ CX1 K no u87) ++ CX1 K tr u4) ++ CX5 K tp u5) ++ CX0 K ac u88) ++ CX4 K se u7) ++ CX2 K ak u8) ++ CRows K ro u9) ++ CImgs K im u10)) X mv_L_53 (c_X7_let F.2.1 D K t mo u11 (xs (x1 + (1 : Int32)).toNatClampNeg) (xs (x1 + (2 : Int32)).toNatClampNeg) _ h) hF ⟨rfl, rfl, Nat.le_of_ble_eq_true rfl, Nat.le_of_ble_eq_true rfl⟩ hT hA (hH.mix (pme (pme (pme (pme (pme (pme (pme (pme (pme pm0)))))))))) _ _ cut_app ((((((((((([] : va_W) ++ CX6 K x no tr tp ac se ak ro im u2) ++ CX1 K no u87) ++ CX1 K tr u4) ++ CX5 K tp u5) ++ CX0 K ac u88) ++ CX4 K se u7) ++ CX2 K ak u8) ++ CRows K ro u9) ++ CImgs K im u10)).length get_mid rfl hl.1 rfl rfl (Nat.le_of_ble_eq_true rfl) dL_law_449 (fun r90 u91 H locs h hH => ?_)
                          have hH : HH F D A ((((((((((([] : va_W) ++ CX6 K x no tr tp ac se ak ro im u2) ++ CX1 K no u87) ++ CX1 K tr u4) ++ CX5 K tp u5) ++ CX0 K ac u88) ++ CX4 K se u7) ++ CX2 K ak u8) ++ CRows K ro u9) ++ CImgs K im u10) ++ (CX7 K mo u91)) H locs := hH
                          have hH : HH F D A (CX6 K x no tr tp ac se ak ro im u2 ++ CX1 K no u87 ++ CX1 K tr u4 ++ CX5 K tp u5 ++ CX0 K ac u88 ++ CX4 K se u7 ++ CX2 K ak u8 ++ CRows K ro u9 ++ CImgs K im u10 ++ CX7 K mo u91) H locs := hH.mix ((pme (pme (pme (pme (pme (pme (pme (pme (pme pm0)))))))))).symm
                          refine v_icmp_eq (tgt := 1169) X dL_law_452 (by decide) (fun c92 => ?_) (fun c92 => ?_)
                          · have h := h.1 c92
                            refine v_iinc (v := (x1 + (6 : Int32))) (lv' := [(3, .int (x1 + (6 : Int32))), (0, .ref b), (1, .ref (x 0)), (2, .ref (mo 0))]) X dL_law_1169 hl (k := 3) rfl rfl (by decide) rfl (fun ls hl => ?_)
                            refine v_goto (tgt := 18) X dL_law_1172 (by decide) ?_
                            exact ih18 (x1 + (6 : Int32)) u2 u87 u4 u5 u88 u7 u8 u9 u10 u91 ls H locs h (lv_sub hl [1, 2, 3, 0] rfl) hH
                          · have h := h.2 c92
                            refine v_iconst (v := (0 : Int32)) X dL_law_455 (by decide) ?_
                            exact h.elim
                        · have h := h.2 c85
                          by_cases c93 : x23 = (9 : Int32)
                          · have h := h.1 c93
                            refine v_tableIn (tgt := 457) (off := 424) X dL_law_33 (by rw [c93]; decide) (by rw [c93]; decide) (by rw [c93]; rfl) (by decide) ?_
                            refine v_aload_n X dL_law_457 rfl (lv_at hl 1 rfl) ?_
                            refine v_aload_n X dL_law_458 rfl (lv_at hl 0 rfl) ?_
                            refine v_iload_n X dL_law_459 rfl (lv_at hl 3 rfl) ?_
                            refine v_iconst (v := (1 : Int32)) X dL_law_460 (by decide) ?_
                            refine v_iadd X dL_law_461 ?_
                            have hin := h.1
                            have h := h.2
                            refine v_sld X hX hH.2.2 hin dL_law_462 ?_
                            refine v_aload_n X dL_law_463 rfl (lv_at hl 0 rfl) ?_
                            refine v_iload_n X dL_law_464 rfl (lv_at hl 3 rfl) ?_
                            refine v_iconst (v := (2 : Int32)) X dL_law_465 (by decide) ?_
                            refine v_iadd X dL_law_466 ?_
                            have hin := h.1
                            have h := h.2
                            refine v_sld X hX hH.2.2 hin dL_law_467 ?_
                            refine wrVI (As := [.int (xs (x1 + (1 : Int32)).toNatClampNeg), .int (xs (x1 + (2 : Int32)).toNatClampNeg)]) (rest := []) (wr := (((((((([] : va_W) ++ CX1 K tr u4) ++ CX5 K tp u5) ++ CX4 K se u7) ++ CX2 K ak u8) ++ CRows K ro u9) ++ CImgs K im u10) ++ CX7 K mo u11)) X mv_L_54 (c_X6_grow F.2.1 D K t x no tr tp ac se ak ro im u2 u3 u6 (xs (x1 + (1 : Int32)).toNatClampNeg) (xs (x1 + (2 : Int32)).toNatClampNeg) _ h) hF ⟨rfl, rfl, Nat.le_of_ble_eq_true rfl, Nat.le_of_ble_eq_true rfl⟩ hT hA (hH.mix (pmR (pmR (pmR (pmR (pmR (pmC (pmR (pmR (pmC pm0)))))))))) _ _ cut_app ((((((((([] : va_W) ++ CX1 K tr u4) ++ CX5 K tp u5) ++ CX4 K se u7) ++ CX2 K ak u8) ++ CRows K ro u9) ++ CImgs K im u10) ++ CX7 K mo u11)).length get_mid rfl hl.1 rfl rfl (Nat.le_of_ble_eq_true rfl) dL_law_468 (fun r94 u97 H locs h hH => ?_)
                            obtain ⟨u95, u96⟩ := u97
                            have hH : HH F D A ((((((((([] : va_W) ++ CX1 K tr u4) ++ CX5 K tp u5) ++ CX4 K se u7) ++ CX2 K ak u8) ++ CRows K ro u9) ++ CImgs K im u10) ++ CX7 K mo u11) ++ (CX6 K x no tr tp ac se ak ro im u2 ++ CX1 K no u95 ++ CX0 K ac u96)) H locs := hH
                            have hH : HH F D A (CX6 K x no tr tp ac se ak ro im u2 ++ CX1 K no u95 ++ CX1 K tr u4 ++ CX5 K tp u5 ++ CX0 K ac u96 ++ CX4 K se u7 ++ CX2 K ak u8 ++ CRows K ro u9 ++ CImgs K im u10 ++ CX7 K mo u11) H locs := hH.mix ((pmR (pmR (pmR (pmR (pmR (pmC (pmR (pmR (pmC pm0)))))))))).symm
                            refine v_aload_n X dL_law_471 rfl (lv_at hl 2 rfl) ?_
                            refine v_aload_n X dL_law_472 rfl (lv_at hl 0 rfl) ?_
                            refine v_iload_n X dL_law_473 rfl (lv_at hl 3 rfl) ?_
                            refine v_iconst (v := (1 : Int32)) X dL_law_474 (by decide) ?_
                            refine v_iadd X dL_law_475 ?_
                            have hin := h.1
                            have h := h.2
                            refine v_sld X hX hH.2.2 hin dL_law_476 ?_
                            refine v_aload_n X dL_law_477 rfl (lv_at hl 0 rfl) ?_
                            refine v_iload_n X dL_law_478 rfl (lv_at hl 3 rfl) ?_
                            refine v_iconst (v := (2 : Int32)) X dL_law_479 (by decide) ?_
                            refine v_iadd X dL_law_480 ?_
                            have hin := h.1
                            have h := h.2
                            refine v_sld X hX hH.2.2 hin dL_law_481 ?_
                            refine wrVI (As := [.int (xs (x1 + (1 : Int32)).toNatClampNeg), .int (xs (x1 + (2 : Int32)).toNatClampNeg)]) (rest := [.int r94]) (wr := (((((((((([] : va_W) ++ CX6 K x no tr tp ac se ak ro im u2) ++ CX1 K no u95) ++ CX1 K tr u4) ++ CX5 K tp u5) ++ CX0 K ac u96) ++ CX4 K se u7) ++ CX2 K ak u8) ++ CRows K ro u9) ++ CImgs K im u10)) X mv_L_57 (c_X7_grow F.2.1 D K t mo u11 (xs (x1 + (1 : Int32)).toNatClampNeg) (xs (x1 + (2 : Int32)).toNatClampNeg) _ h) hF ⟨rfl, rfl, Nat.le_of_ble_eq_true rfl, Nat.le_of_ble_eq_true rfl⟩ hT hA (hH.mix (pme (pme (pme (pme (pme (pme (pme (pme (pme pm0)))))))))) _ _ cut_app ((((((((((([] : va_W) ++ CX6 K x no tr tp ac se ak ro im u2) ++ CX1 K no u95) ++ CX1 K tr u4) ++ CX5 K tp u5) ++ CX0 K ac u96) ++ CX4 K se u7) ++ CX2 K ak u8) ++ CRows K ro u9) ++ CImgs K im u10)).length get_mid rfl hl.1 rfl rfl (Nat.le_of_ble_eq_true rfl) dL_law_482 (fun r98 u99 H locs h hH => ?_)
                            have hH : HH F D A ((((((((((([] : va_W) ++ CX6 K x no tr tp ac se ak ro im u2) ++ CX1 K no u95) ++ CX1 K tr u4) ++ CX5 K tp u5) ++ CX0 K ac u96) ++ CX4 K se u7) ++ CX2 K ak u8) ++ CRows K ro u9) ++ CImgs K im u10) ++ (CX7 K mo u99)) H locs := hH
                            have hH : HH F D A (CX6 K x no tr tp ac se ak ro im u2 ++ CX1 K no u95 ++ CX1 K tr u4 ++ CX5 K tp u5 ++ CX0 K ac u96 ++ CX4 K se u7 ++ CX2 K ak u8 ++ CRows K ro u9 ++ CImgs K im u10 ++ CX7 K mo u99) H locs := hH.mix ((pme (pme (pme (pme (pme (pme (pme (pme (pme pm0)))))))))).symm
                            refine v_icmp_eq (tgt := 1169) X dL_law_485 (by decide) (fun c100 => ?_) (fun c100 => ?_)
                            · have h := h.1 c100
                              refine v_iinc (v := (x1 + (6 : Int32))) (lv' := [(3, .int (x1 + (6 : Int32))), (0, .ref b), (1, .ref (x 0)), (2, .ref (mo 0))]) X dL_law_1169 hl (k := 3) rfl rfl (by decide) rfl (fun ls hl => ?_)
                              refine v_goto (tgt := 18) X dL_law_1172 (by decide) ?_
                              exact ih18 (x1 + (6 : Int32)) u2 u95 u4 u5 u96 u7 u8 u9 u10 u99 ls H locs h (lv_sub hl [1, 2, 3, 0] rfl) hH
                            · have h := h.2 c100
                              refine v_iconst (v := (0 : Int32)) X dL_law_488 (by decide) ?_
                              exact h.elim
                          · have h := h.2 c93
                            by_cases c101 : x23 = (10 : Int32)
                            · have h := h.1 c101
                              refine v_tableIn (tgt := 490) (off := 457) X dL_law_33 (by rw [c101]; decide) (by rw [c101]; decide) (by rw [c101]; rfl) (by decide) ?_
                              refine v_aload_n X dL_law_490 rfl (lv_at hl 1 rfl) ?_
                              refine v_aload_n X dL_law_491 rfl (lv_at hl 0 rfl) ?_
                              refine v_iload_n X dL_law_492 rfl (lv_at hl 3 rfl) ?_
                              refine v_iconst (v := (1 : Int32)) X dL_law_493 (by decide) ?_
                              refine v_iadd X dL_law_494 ?_
                              have hin := h.1
                              have h := h.2
                              refine v_sld X hX hH.2.2 hin dL_law_495 ?_
                              refine v_aload_n X dL_law_496 rfl (lv_at hl 0 rfl) ?_
                              refine v_iload_n X dL_law_497 rfl (lv_at hl 3 rfl) ?_
                              refine v_iconst (v := (2 : Int32)) X dL_law_498 (by decide) ?_
                              refine v_iadd X dL_law_499 ?_
                              have hin := h.1
                              have h := h.2
                              refine v_sld X hX hH.2.2 hin dL_law_500 ?_
                              refine wrVI (As := [.int (xs (x1 + (1 : Int32)).toNatClampNeg), .int (xs (x1 + (2 : Int32)).toNatClampNeg)]) (rest := []) (wr := (((((((([] : va_W) ++ CX1 K tr u4) ++ CX5 K tp u5) ++ CX4 K se u7) ++ CX2 K ak u8) ++ CRows K ro u9) ++ CImgs K im u10) ++ CX7 K mo u11)) X mv_L_58 (c_X6_learn F.2.1 D K t x no tr tp ac se ak ro im u2 u3 u6 (xs (x1 + (1 : Int32)).toNatClampNeg) (xs (x1 + (2 : Int32)).toNatClampNeg) _ h) hF ⟨rfl, rfl, Nat.le_of_ble_eq_true rfl, Nat.le_of_ble_eq_true rfl⟩ hT hA (hH.mix (pmR (pmR (pmR (pmR (pmR (pmC (pmR (pmR (pmC pm0)))))))))) _ _ cut_app ((((((((([] : va_W) ++ CX1 K tr u4) ++ CX5 K tp u5) ++ CX4 K se u7) ++ CX2 K ak u8) ++ CRows K ro u9) ++ CImgs K im u10) ++ CX7 K mo u11)).length get_mid rfl hl.1 rfl rfl (Nat.le_of_ble_eq_true rfl) dL_law_501 (fun r102 u105 H locs h hH => ?_)
                              obtain ⟨u103, u104⟩ := u105
                              have hH : HH F D A ((((((((([] : va_W) ++ CX1 K tr u4) ++ CX5 K tp u5) ++ CX4 K se u7) ++ CX2 K ak u8) ++ CRows K ro u9) ++ CImgs K im u10) ++ CX7 K mo u11) ++ (CX6 K x no tr tp ac se ak ro im u2 ++ CX1 K no u103 ++ CX0 K ac u104)) H locs := hH
                              have hH : HH F D A (CX6 K x no tr tp ac se ak ro im u2 ++ CX1 K no u103 ++ CX1 K tr u4 ++ CX5 K tp u5 ++ CX0 K ac u104 ++ CX4 K se u7 ++ CX2 K ak u8 ++ CRows K ro u9 ++ CImgs K im u10 ++ CX7 K mo u11) H locs := hH.mix ((pmR (pmR (pmR (pmR (pmR (pmC (pmR (pmR (pmC pm0)))))))))).symm
                              refine v_aload_n X dL_law_504 rfl (lv_at hl 2 rfl) ?_
                              refine v_aload_n X dL_law_505 rfl (lv_at hl 0 rfl) ?_
                              refine v_iload_n X dL_law_506 rfl (lv_at hl 3 rfl) ?_
                              refine v_iconst (v := (1 : Int32)) X dL_law_507 (by decide) ?_
                              refine v_iadd X dL_law_508 ?_
                              have hin := h.1
                              have h := h.2
                              refine v_sld X hX hH.2.2 hin dL_law_509 ?_
                              refine v_aload_n X dL_law_510 rfl (lv_at hl 0 rfl) ?_
                              refine v_iload_n X dL_law_511 rfl (lv_at hl 3 rfl) ?_
                              refine v_iconst (v := (2 : Int32)) X dL_law_512 (by decide) ?_
                              refine v_iadd X dL_law_513 ?_
                              have hin := h.1
                              have h := h.2
                              refine v_sld X hX hH.2.2 hin dL_law_514 ?_
                              refine wrVI (As := [.int (xs (x1 + (1 : Int32)).toNatClampNeg), .int (xs (x1 + (2 : Int32)).toNatClampNeg)]) (rest := [.int r102]) (wr := (((((((((([] : va_W) ++ CX6 K x no tr tp ac se ak ro im u2) ++ CX1 K no u103) ++ CX1 K tr u4) ++ CX5 K tp u5) ++ CX0 K ac u104) ++ CX4 K se u7) ++ CX2 K ak u8) ++ CRows K ro u9) ++ CImgs K im u10)) X mv_L_61 (c_X7_learn F.2.1 D K t mo u11 (xs (x1 + (1 : Int32)).toNatClampNeg) (xs (x1 + (2 : Int32)).toNatClampNeg) _ h) hF ⟨rfl, rfl, Nat.le_of_ble_eq_true rfl, Nat.le_of_ble_eq_true rfl⟩ hT hA (hH.mix (pme (pme (pme (pme (pme (pme (pme (pme (pme pm0)))))))))) _ _ cut_app ((((((((((([] : va_W) ++ CX6 K x no tr tp ac se ak ro im u2) ++ CX1 K no u103) ++ CX1 K tr u4) ++ CX5 K tp u5) ++ CX0 K ac u104) ++ CX4 K se u7) ++ CX2 K ak u8) ++ CRows K ro u9) ++ CImgs K im u10)).length get_mid rfl hl.1 rfl rfl (Nat.le_of_ble_eq_true rfl) dL_law_515 (fun r106 u107 H locs h hH => ?_)
                              have hH : HH F D A ((((((((((([] : va_W) ++ CX6 K x no tr tp ac se ak ro im u2) ++ CX1 K no u103) ++ CX1 K tr u4) ++ CX5 K tp u5) ++ CX0 K ac u104) ++ CX4 K se u7) ++ CX2 K ak u8) ++ CRows K ro u9) ++ CImgs K im u10) ++ (CX7 K mo u107)) H locs := hH
                              have hH : HH F D A (CX6 K x no tr tp ac se ak ro im u2 ++ CX1 K no u103 ++ CX1 K tr u4 ++ CX5 K tp u5 ++ CX0 K ac u104 ++ CX4 K se u7 ++ CX2 K ak u8 ++ CRows K ro u9 ++ CImgs K im u10 ++ CX7 K mo u107) H locs := hH.mix ((pme (pme (pme (pme (pme (pme (pme (pme (pme pm0)))))))))).symm
                              refine v_icmp_eq (tgt := 1169) X dL_law_518 (by decide) (fun c108 => ?_) (fun c108 => ?_)
                              · have h := h.1 c108
                                refine v_iinc (v := (x1 + (6 : Int32))) (lv' := [(3, .int (x1 + (6 : Int32))), (0, .ref b), (1, .ref (x 0)), (2, .ref (mo 0))]) X dL_law_1169 hl (k := 3) rfl rfl (by decide) rfl (fun ls hl => ?_)
                                refine v_goto (tgt := 18) X dL_law_1172 (by decide) ?_
                                exact ih18 (x1 + (6 : Int32)) u2 u103 u4 u5 u104 u7 u8 u9 u10 u107 ls H locs h (lv_sub hl [1, 2, 3, 0] rfl) hH
                              · have h := h.2 c108
                                refine v_iconst (v := (0 : Int32)) X dL_law_521 (by decide) ?_
                                exact h.elim
                            · have h := h.2 c101
                              by_cases c109 : x23 = (11 : Int32)
                              · have h := h.1 c109
                                refine v_tableIn (tgt := 523) (off := 490) X dL_law_33 (by rw [c109]; decide) (by rw [c109]; decide) (by rw [c109]; rfl) (by decide) ?_
                                refine v_aload_n X dL_law_523 rfl (lv_at hl 1 rfl) ?_
                                refine wrVI (As := []) (rest := []) (wr := (((((((([] : va_W) ++ CX1 K tr u4) ++ CX5 K tp u5) ++ CX4 K se u7) ++ CX2 K ak u8) ++ CRows K ro u9) ++ CImgs K im u10) ++ CX7 K mo u11)) X mv_L_62 (c_X6_undo F.2.1 D K t x no tr tp ac se ak ro im u2 u3 u6 _ h) hF ⟨rfl, rfl, Nat.le_of_ble_eq_true rfl, Nat.le_of_ble_eq_true rfl⟩ hT hA (hH.mix (pmR (pmR (pmR (pmR (pmR (pmC (pmR (pmR (pmC pm0)))))))))) _ _ cut_app ((((((((([] : va_W) ++ CX1 K tr u4) ++ CX5 K tp u5) ++ CX4 K se u7) ++ CX2 K ak u8) ++ CRows K ro u9) ++ CImgs K im u10) ++ CX7 K mo u11)).length get_mid rfl hl.1 rfl rfl (Nat.le_of_ble_eq_true rfl) dL_law_524 (fun r110 u113 H locs h hH => ?_)
                                obtain ⟨u111, u112⟩ := u113
                                have hH : HH F D A ((((((((([] : va_W) ++ CX1 K tr u4) ++ CX5 K tp u5) ++ CX4 K se u7) ++ CX2 K ak u8) ++ CRows K ro u9) ++ CImgs K im u10) ++ CX7 K mo u11) ++ (CX6 K x no tr tp ac se ak ro im u2 ++ CX1 K no u111 ++ CX0 K ac u112)) H locs := hH
                                have hH : HH F D A (CX6 K x no tr tp ac se ak ro im u2 ++ CX1 K no u111 ++ CX1 K tr u4 ++ CX5 K tp u5 ++ CX0 K ac u112 ++ CX4 K se u7 ++ CX2 K ak u8 ++ CRows K ro u9 ++ CImgs K im u10 ++ CX7 K mo u11) H locs := hH.mix ((pmR (pmR (pmR (pmR (pmR (pmC (pmR (pmR (pmC pm0)))))))))).symm
                                refine v_aload_n X dL_law_527 rfl (lv_at hl 2 rfl) ?_
                                refine wrVI (As := []) (rest := [.int r110]) (wr := (((((((((([] : va_W) ++ CX6 K x no tr tp ac se ak ro im u2) ++ CX1 K no u111) ++ CX1 K tr u4) ++ CX5 K tp u5) ++ CX0 K ac u112) ++ CX4 K se u7) ++ CX2 K ak u8) ++ CRows K ro u9) ++ CImgs K im u10)) X mv_L_65 (c_X7_undo F.2.1 D K t mo u11 _ h) hF ⟨rfl, rfl, Nat.le_of_ble_eq_true rfl, Nat.le_of_ble_eq_true rfl⟩ hT hA (hH.mix (pme (pme (pme (pme (pme (pme (pme (pme (pme pm0)))))))))) _ _ cut_app ((((((((((([] : va_W) ++ CX6 K x no tr tp ac se ak ro im u2) ++ CX1 K no u111) ++ CX1 K tr u4) ++ CX5 K tp u5) ++ CX0 K ac u112) ++ CX4 K se u7) ++ CX2 K ak u8) ++ CRows K ro u9) ++ CImgs K im u10)).length get_mid rfl hl.1 rfl rfl (Nat.le_of_ble_eq_true rfl) dL_law_528 (fun r114 u115 H locs h hH => ?_)
                                have hH : HH F D A ((((((((((([] : va_W) ++ CX6 K x no tr tp ac se ak ro im u2) ++ CX1 K no u111) ++ CX1 K tr u4) ++ CX5 K tp u5) ++ CX0 K ac u112) ++ CX4 K se u7) ++ CX2 K ak u8) ++ CRows K ro u9) ++ CImgs K im u10) ++ (CX7 K mo u115)) H locs := hH
                                have hH : HH F D A (CX6 K x no tr tp ac se ak ro im u2 ++ CX1 K no u111 ++ CX1 K tr u4 ++ CX5 K tp u5 ++ CX0 K ac u112 ++ CX4 K se u7 ++ CX2 K ak u8 ++ CRows K ro u9 ++ CImgs K im u10 ++ CX7 K mo u115) H locs := hH.mix ((pme (pme (pme (pme (pme (pme (pme (pme (pme pm0)))))))))).symm
                                refine v_icmp_eq (tgt := 1169) X dL_law_531 (by decide) (fun c116 => ?_) (fun c116 => ?_)
                                · have h := h.1 c116
                                  refine v_iinc (v := (x1 + (6 : Int32))) (lv' := [(3, .int (x1 + (6 : Int32))), (0, .ref b), (1, .ref (x 0)), (2, .ref (mo 0))]) X dL_law_1169 hl (k := 3) rfl rfl (by decide) rfl (fun ls hl => ?_)
                                  refine v_goto (tgt := 18) X dL_law_1172 (by decide) ?_
                                  exact ih18 (x1 + (6 : Int32)) u2 u111 u4 u5 u112 u7 u8 u9 u10 u115 ls H locs h (lv_sub hl [1, 2, 3, 0] rfl) hH
                                · have h := h.2 c116
                                  refine v_iconst (v := (0 : Int32)) X dL_law_534 (by decide) ?_
                                  exact h.elim
                              · have h := h.2 c109
                                by_cases c117 : x23 = (12 : Int32)
                                · have h := h.1 c117
                                  refine v_tableIn (tgt := 536) (off := 503) X dL_law_33 (by rw [c117]; decide) (by rw [c117]; decide) (by rw [c117]; rfl) (by decide) ?_
                                  refine v_aload_n X dL_law_536 rfl (lv_at hl 1 rfl) ?_
                                  refine v_aload_n X dL_law_537 rfl (lv_at hl 0 rfl) ?_
                                  refine v_iload_n X dL_law_538 rfl (lv_at hl 3 rfl) ?_
                                  refine v_iconst (v := (1 : Int32)) X dL_law_539 (by decide) ?_
                                  refine v_iadd X dL_law_540 ?_
                                  have hin := h.1
                                  have h := h.2
                                  refine v_sld X hX hH.2.2 hin dL_law_541 ?_
                                  refine v_aload_n X dL_law_542 rfl (lv_at hl 0 rfl) ?_
                                  refine v_iload_n X dL_law_543 rfl (lv_at hl 3 rfl) ?_
                                  refine v_iconst (v := (2 : Int32)) X dL_law_544 (by decide) ?_
                                  refine v_iadd X dL_law_545 ?_
                                  have hin := h.1
                                  have h := h.2
                                  refine v_sld X hX hH.2.2 hin dL_law_546 ?_
                                  have hQ := hH.mix (ws' := ((((((((([] : va_W) ++ CX1 K tr u4) ++ CX5 K tp u5) ++ CX0 K ac u6) ++ CX4 K se u7) ++ CX2 K ak u8) ++ CRows K ro u9) ++ CImgs K im u10) ++ CX7 K mo u11) ++ (CX6 K x no tr tp ac se ak ro im u2 ++ CX1 K no u3)) (pmR (pmR (pmR (pmR (pmR (pmR (pmR (pmR (pmC pm0)))))))))
                                  refine rdV (As := [.int (xs (x1 + (1 : Int32)).toNatClampNeg), .int (xs (x1 + (2 : Int32)).toNatClampNeg)]) (rest := []) X mv_L_66 (c_X6_client F.2.1 D K t x no tr tp ac se ak ro im u2 u3 (xs (x1 + (1 : Int32)).toNatClampNeg) (xs (x1 + (2 : Int32)).toNatClampNeg) _ h) hF ⟨rfl, rfl, Nat.le_of_ble_eq_true rfl, Nat.le_of_ble_eq_true rfl⟩ (stW hT hQ) hQ.1 _ (Cut.sub cut_app) (((((((((([] : va_W) ++ CX1 K tr u4) ++ CX5 K tp u5) ++ CX0 K ac u6) ++ CX4 K se u7) ++ CX2 K ak u8) ++ CRows K ro u9) ++ CImgs K im u10) ++ CX7 K mo u11)).length get_mid rfl hl.1 rfl rfl (Nat.le_of_ble_eq_true rfl) dL_law_547 (fun r118 h => ?_)
                                  refine v_aload_n X dL_law_550 rfl (lv_at hl 2 rfl) ?_
                                  refine v_aload_n X dL_law_551 rfl (lv_at hl 0 rfl) ?_
                                  refine v_iload_n X dL_law_552 rfl (lv_at hl 3 rfl) ?_
                                  refine v_iconst (v := (1 : Int32)) X dL_law_553 (by decide) ?_
                                  refine v_iadd X dL_law_554 ?_
                                  have hin := h.1
                                  have h := h.2
                                  refine v_sld X hX hH.2.2 hin dL_law_555 ?_
                                  refine v_aload_n X dL_law_556 rfl (lv_at hl 0 rfl) ?_
                                  refine v_iload_n X dL_law_557 rfl (lv_at hl 3 rfl) ?_
                                  refine v_iconst (v := (2 : Int32)) X dL_law_558 (by decide) ?_
                                  refine v_iadd X dL_law_559 ?_
                                  have hin := h.1
                                  have h := h.2
                                  refine v_sld X hX hH.2.2 hin dL_law_560 ?_
                                  have hQ := hH.mix (ws' := (((((((((([] : va_W) ++ CX6 K x no tr tp ac se ak ro im u2) ++ CX1 K no u3) ++ CX1 K tr u4) ++ CX5 K tp u5) ++ CX0 K ac u6) ++ CX4 K se u7) ++ CX2 K ak u8) ++ CRows K ro u9) ++ CImgs K im u10) ++ (CX7 K mo u11)) (pme (pme (pme (pme (pme (pme (pme (pme (pme pm0)))))))))
                                  refine rdV (As := [.int (xs (x1 + (1 : Int32)).toNatClampNeg), .int (xs (x1 + (2 : Int32)).toNatClampNeg)]) (rest := [.int r118]) X mv_L_69 (c_X7_client F.2.1 D K t mo u11 (xs (x1 + (1 : Int32)).toNatClampNeg) (xs (x1 + (2 : Int32)).toNatClampNeg) _ h) hF ⟨rfl, rfl, Nat.le_of_ble_eq_true rfl, Nat.le_of_ble_eq_true rfl⟩ (stW hT hQ) hQ.1 _ (Cut.sub cut_app) ((((((((((([] : va_W) ++ CX6 K x no tr tp ac se ak ro im u2) ++ CX1 K no u3) ++ CX1 K tr u4) ++ CX5 K tp u5) ++ CX0 K ac u6) ++ CX4 K se u7) ++ CX2 K ak u8) ++ CRows K ro u9) ++ CImgs K im u10)).length get_mid rfl hl.1 rfl rfl (Nat.le_of_ble_eq_true rfl) dL_law_561 (fun r119 h => ?_)
                                  refine v_icmp_eq (tgt := 1169) X dL_law_564 (by decide) (fun c120 => ?_) (fun c120 => ?_)
                                  · have h := h.1 c120
                                    refine v_iinc (v := (x1 + (6 : Int32))) (lv' := [(3, .int (x1 + (6 : Int32))), (0, .ref b), (1, .ref (x 0)), (2, .ref (mo 0))]) X dL_law_1169 hl (k := 3) rfl rfl (by decide) rfl (fun ls hl => ?_)
                                    refine v_goto (tgt := 18) X dL_law_1172 (by decide) ?_
                                    exact ih18 (x1 + (6 : Int32)) u2 u3 u4 u5 u6 u7 u8 u9 u10 u11 ls H locs h (lv_sub hl [1, 2, 3, 0] rfl) hH
                                  · have h := h.2 c120
                                    refine v_iconst (v := (0 : Int32)) X dL_law_567 (by decide) ?_
                                    exact h.elim
                                · have h := h.2 c117
                                  by_cases c121 : x23 = (13 : Int32)
                                  · have h := h.1 c121
                                    refine v_tableIn (tgt := 569) (off := 536) X dL_law_33 (by rw [c121]; decide) (by rw [c121]; decide) (by rw [c121]; rfl) (by decide) ?_
                                    refine v_aload_n X dL_law_569 rfl (lv_at hl 1 rfl) ?_
                                    refine v_aload_n X dL_law_570 rfl (lv_at hl 0 rfl) ?_
                                    refine v_iload_n X dL_law_571 rfl (lv_at hl 3 rfl) ?_
                                    refine v_iconst (v := (1 : Int32)) X dL_law_572 (by decide) ?_
                                    refine v_iadd X dL_law_573 ?_
                                    have hin := h.1
                                    have h := h.2
                                    refine v_sld X hX hH.2.2 hin dL_law_574 ?_
                                    refine v_aload_n X dL_law_575 rfl (lv_at hl 0 rfl) ?_
                                    refine v_iload_n X dL_law_576 rfl (lv_at hl 3 rfl) ?_
                                    refine v_iconst (v := (2 : Int32)) X dL_law_577 (by decide) ?_
                                    refine v_iadd X dL_law_578 ?_
                                    have hin := h.1
                                    have h := h.2
                                    refine v_sld X hX hH.2.2 hin dL_law_579 ?_
                                    have hQ := hH.mix (ws' := ((((((((([] : va_W) ++ CX1 K tr u4) ++ CX5 K tp u5) ++ CX0 K ac u6) ++ CX4 K se u7) ++ CX2 K ak u8) ++ CRows K ro u9) ++ CImgs K im u10) ++ CX7 K mo u11) ++ (CX6 K x no tr tp ac se ak ro im u2 ++ CX1 K no u3)) (pmR (pmR (pmR (pmR (pmR (pmR (pmR (pmR (pmC pm0)))))))))
                                    refine rdV (As := [.int (xs (x1 + (1 : Int32)).toNatClampNeg), .int (xs (x1 + (2 : Int32)).toNatClampNeg)]) (rest := []) X mv_L_70 (c_X6_waker F.2.1 D K t x no tr tp ac se ak ro im u2 u3 (xs (x1 + (1 : Int32)).toNatClampNeg) (xs (x1 + (2 : Int32)).toNatClampNeg) _ h) hF ⟨rfl, rfl, Nat.le_of_ble_eq_true rfl, Nat.le_of_ble_eq_true rfl⟩ (stW hT hQ) hQ.1 _ (Cut.sub cut_app) (((((((((([] : va_W) ++ CX1 K tr u4) ++ CX5 K tp u5) ++ CX0 K ac u6) ++ CX4 K se u7) ++ CX2 K ak u8) ++ CRows K ro u9) ++ CImgs K im u10) ++ CX7 K mo u11)).length get_mid rfl hl.1 rfl rfl (Nat.le_of_ble_eq_true rfl) dL_law_580 (fun r122 h => ?_)
                                    refine v_aload_n X dL_law_583 rfl (lv_at hl 2 rfl) ?_
                                    refine v_aload_n X dL_law_584 rfl (lv_at hl 0 rfl) ?_
                                    refine v_iload_n X dL_law_585 rfl (lv_at hl 3 rfl) ?_
                                    refine v_iconst (v := (1 : Int32)) X dL_law_586 (by decide) ?_
                                    refine v_iadd X dL_law_587 ?_
                                    have hin := h.1
                                    have h := h.2
                                    refine v_sld X hX hH.2.2 hin dL_law_588 ?_
                                    refine v_aload_n X dL_law_589 rfl (lv_at hl 0 rfl) ?_
                                    refine v_iload_n X dL_law_590 rfl (lv_at hl 3 rfl) ?_
                                    refine v_iconst (v := (2 : Int32)) X dL_law_591 (by decide) ?_
                                    refine v_iadd X dL_law_592 ?_
                                    have hin := h.1
                                    have h := h.2
                                    refine v_sld X hX hH.2.2 hin dL_law_593 ?_
                                    have hQ := hH.mix (ws' := (((((((((([] : va_W) ++ CX6 K x no tr tp ac se ak ro im u2) ++ CX1 K no u3) ++ CX1 K tr u4) ++ CX5 K tp u5) ++ CX0 K ac u6) ++ CX4 K se u7) ++ CX2 K ak u8) ++ CRows K ro u9) ++ CImgs K im u10) ++ (CX7 K mo u11)) (pme (pme (pme (pme (pme (pme (pme (pme (pme pm0)))))))))
                                    refine rdV (As := [.int (xs (x1 + (1 : Int32)).toNatClampNeg), .int (xs (x1 + (2 : Int32)).toNatClampNeg)]) (rest := [.int r122]) X mv_L_73 (c_X7_waker F.2.1 D K t mo u11 (xs (x1 + (1 : Int32)).toNatClampNeg) (xs (x1 + (2 : Int32)).toNatClampNeg) _ h) hF ⟨rfl, rfl, Nat.le_of_ble_eq_true rfl, Nat.le_of_ble_eq_true rfl⟩ (stW hT hQ) hQ.1 _ (Cut.sub cut_app) ((((((((((([] : va_W) ++ CX6 K x no tr tp ac se ak ro im u2) ++ CX1 K no u3) ++ CX1 K tr u4) ++ CX5 K tp u5) ++ CX0 K ac u6) ++ CX4 K se u7) ++ CX2 K ak u8) ++ CRows K ro u9) ++ CImgs K im u10)).length get_mid rfl hl.1 rfl rfl (Nat.le_of_ble_eq_true rfl) dL_law_594 (fun r123 h => ?_)
                                    refine v_icmp_eq (tgt := 1169) X dL_law_597 (by decide) (fun c124 => ?_) (fun c124 => ?_)
                                    · have h := h.1 c124
                                      refine v_iinc (v := (x1 + (6 : Int32))) (lv' := [(3, .int (x1 + (6 : Int32))), (0, .ref b), (1, .ref (x 0)), (2, .ref (mo 0))]) X dL_law_1169 hl (k := 3) rfl rfl (by decide) rfl (fun ls hl => ?_)
                                      refine v_goto (tgt := 18) X dL_law_1172 (by decide) ?_
                                      exact ih18 (x1 + (6 : Int32)) u2 u3 u4 u5 u6 u7 u8 u9 u10 u11 ls H locs h (lv_sub hl [1, 2, 3, 0] rfl) hH
                                    · have h := h.2 c124
                                      refine v_iconst (v := (0 : Int32)) X dL_law_600 (by decide) ?_
                                      exact h.elim
                                  · have h := h.2 c121
                                    by_cases c125 : x23 = (14 : Int32)
                                    · have h := h.1 c125
                                      refine v_tableIn (tgt := 602) (off := 569) X dL_law_33 (by rw [c125]; decide) (by rw [c125]; decide) (by rw [c125]; rfl) (by decide) ?_
                                      refine v_aload_n X dL_law_602 rfl (lv_at hl 1 rfl) ?_
                                      refine v_aload_n X dL_law_603 rfl (lv_at hl 0 rfl) ?_
                                      refine v_iload_n X dL_law_604 rfl (lv_at hl 3 rfl) ?_
                                      refine v_iconst (v := (1 : Int32)) X dL_law_605 (by decide) ?_
                                      refine v_iadd X dL_law_606 ?_
                                      have hin := h.1
                                      have h := h.2
                                      refine v_sld X hX hH.2.2 hin dL_law_607 ?_
                                      refine v_aload_n X dL_law_608 rfl (lv_at hl 0 rfl) ?_
                                      refine v_iload_n X dL_law_609 rfl (lv_at hl 3 rfl) ?_
                                      refine v_iconst (v := (2 : Int32)) X dL_law_610 (by decide) ?_
                                      refine v_iadd X dL_law_611 ?_
                                      have hin := h.1
                                      have h := h.2
                                      refine v_sld X hX hH.2.2 hin dL_law_612 ?_
                                      refine wrVI (As := [.int (xs (x1 + (1 : Int32)).toNatClampNeg), .int (xs (x1 + (2 : Int32)).toNatClampNeg)]) (rest := []) (wr := (((((((([] : va_W) ++ CX5 K tp u5) ++ CX0 K ac u6) ++ CX4 K se u7) ++ CX2 K ak u8) ++ CRows K ro u9) ++ CImgs K im u10) ++ CX7 K mo u11)) X mv_L_74 (c_X6_weight F.2.1 D K t x no tr tp ac se ak ro im u2 u3 u4 (xs (x1 + (1 : Int32)).toNatClampNeg) (xs (x1 + (2 : Int32)).toNatClampNeg) _ h) hF ⟨rfl, rfl, Nat.le_of_ble_eq_true rfl, Nat.le_of_ble_eq_true rfl⟩ hT hA (hH.mix (pmR (pmR (pmR (pmR (pmR (pmR (pmR (pmC (pmC pm0)))))))))) _ _ cut_app ((((((((([] : va_W) ++ CX5 K tp u5) ++ CX0 K ac u6) ++ CX4 K se u7) ++ CX2 K ak u8) ++ CRows K ro u9) ++ CImgs K im u10) ++ CX7 K mo u11)).length get_mid rfl hl.1 rfl rfl (Nat.le_of_ble_eq_true rfl) dL_law_613 (fun r126 u127 H locs h hH => ?_)
                                      have hH : HH F D A ((((((((([] : va_W) ++ CX5 K tp u5) ++ CX0 K ac u6) ++ CX4 K se u7) ++ CX2 K ak u8) ++ CRows K ro u9) ++ CImgs K im u10) ++ CX7 K mo u11) ++ (CX6 K x no tr tp ac se ak ro im u2 ++ CX1 K no u3 ++ CX1 K tr u127)) H locs := hH
                                      have hH : HH F D A (CX6 K x no tr tp ac se ak ro im u2 ++ CX1 K no u3 ++ CX1 K tr u127 ++ CX5 K tp u5 ++ CX0 K ac u6 ++ CX4 K se u7 ++ CX2 K ak u8 ++ CRows K ro u9 ++ CImgs K im u10 ++ CX7 K mo u11) H locs := hH.mix ((pmR (pmR (pmR (pmR (pmR (pmR (pmR (pmC (pmC pm0)))))))))).symm
                                      refine v_aload_n X dL_law_616 rfl (lv_at hl 2 rfl) ?_
                                      refine v_aload_n X dL_law_617 rfl (lv_at hl 0 rfl) ?_
                                      refine v_iload_n X dL_law_618 rfl (lv_at hl 3 rfl) ?_
                                      refine v_iconst (v := (1 : Int32)) X dL_law_619 (by decide) ?_
                                      refine v_iadd X dL_law_620 ?_
                                      have hin := h.1
                                      have h := h.2
                                      refine v_sld X hX hH.2.2 hin dL_law_621 ?_
                                      refine v_aload_n X dL_law_622 rfl (lv_at hl 0 rfl) ?_
                                      refine v_iload_n X dL_law_623 rfl (lv_at hl 3 rfl) ?_
                                      refine v_iconst (v := (2 : Int32)) X dL_law_624 (by decide) ?_
                                      refine v_iadd X dL_law_625 ?_
                                      have hin := h.1
                                      have h := h.2
                                      refine v_sld X hX hH.2.2 hin dL_law_626 ?_
                                      refine wrVI (As := [.int (xs (x1 + (1 : Int32)).toNatClampNeg), .int (xs (x1 + (2 : Int32)).toNatClampNeg)]) (rest := [.int r126]) (wr := (((((((((([] : va_W) ++ CX6 K x no tr tp ac se ak ro im u2) ++ CX1 K no u3) ++ CX1 K tr u127) ++ CX5 K tp u5) ++ CX0 K ac u6) ++ CX4 K se u7) ++ CX2 K ak u8) ++ CRows K ro u9) ++ CImgs K im u10)) X mv_L_77 (c_X7_weight F.2.1 D K t mo u11 (xs (x1 + (1 : Int32)).toNatClampNeg) (xs (x1 + (2 : Int32)).toNatClampNeg) _ h) hF ⟨rfl, rfl, Nat.le_of_ble_eq_true rfl, Nat.le_of_ble_eq_true rfl⟩ hT hA (hH.mix (pme (pme (pme (pme (pme (pme (pme (pme (pme pm0)))))))))) _ _ cut_app ((((((((((([] : va_W) ++ CX6 K x no tr tp ac se ak ro im u2) ++ CX1 K no u3) ++ CX1 K tr u127) ++ CX5 K tp u5) ++ CX0 K ac u6) ++ CX4 K se u7) ++ CX2 K ak u8) ++ CRows K ro u9) ++ CImgs K im u10)).length get_mid rfl hl.1 rfl rfl (Nat.le_of_ble_eq_true rfl) dL_law_627 (fun r128 u129 H locs h hH => ?_)
                                      have hH : HH F D A ((((((((((([] : va_W) ++ CX6 K x no tr tp ac se ak ro im u2) ++ CX1 K no u3) ++ CX1 K tr u127) ++ CX5 K tp u5) ++ CX0 K ac u6) ++ CX4 K se u7) ++ CX2 K ak u8) ++ CRows K ro u9) ++ CImgs K im u10) ++ (CX7 K mo u129)) H locs := hH
                                      have hH : HH F D A (CX6 K x no tr tp ac se ak ro im u2 ++ CX1 K no u3 ++ CX1 K tr u127 ++ CX5 K tp u5 ++ CX0 K ac u6 ++ CX4 K se u7 ++ CX2 K ak u8 ++ CRows K ro u9 ++ CImgs K im u10 ++ CX7 K mo u129) H locs := hH.mix ((pme (pme (pme (pme (pme (pme (pme (pme (pme pm0)))))))))).symm
                                      refine v_icmp_eq (tgt := 1169) X dL_law_630 (by decide) (fun c130 => ?_) (fun c130 => ?_)
                                      · have h := h.1 c130
                                        refine v_iinc (v := (x1 + (6 : Int32))) (lv' := [(3, .int (x1 + (6 : Int32))), (0, .ref b), (1, .ref (x 0)), (2, .ref (mo 0))]) X dL_law_1169 hl (k := 3) rfl rfl (by decide) rfl (fun ls hl => ?_)
                                        refine v_goto (tgt := 18) X dL_law_1172 (by decide) ?_
                                        exact ih18 (x1 + (6 : Int32)) u2 u3 u127 u5 u6 u7 u8 u9 u10 u129 ls H locs h (lv_sub hl [1, 2, 3, 0] rfl) hH
                                      · have h := h.2 c130
                                        refine v_iconst (v := (0 : Int32)) X dL_law_633 (by decide) ?_
                                        exact h.elim
                                    · have h := h.2 c125
                                      by_cases c131 : x23 = (15 : Int32)
                                      · have h := h.1 c131
                                        refine v_tableIn (tgt := 635) (off := 602) X dL_law_33 (by rw [c131]; decide) (by rw [c131]; decide) (by rw [c131]; rfl) (by decide) ?_
                                        refine v_aload_n X dL_law_635 rfl (lv_at hl 1 rfl) ?_
                                        refine v_aload_n X dL_law_636 rfl (lv_at hl 0 rfl) ?_
                                        refine v_iload_n X dL_law_637 rfl (lv_at hl 3 rfl) ?_
                                        refine v_iconst (v := (1 : Int32)) X dL_law_638 (by decide) ?_
                                        refine v_iadd X dL_law_639 ?_
                                        have hin := h.1
                                        have h := h.2
                                        refine v_sld X hX hH.2.2 hin dL_law_640 ?_
                                        refine v_aload_n X dL_law_641 rfl (lv_at hl 0 rfl) ?_
                                        refine v_iload_n X dL_law_642 rfl (lv_at hl 3 rfl) ?_
                                        refine v_iconst (v := (2 : Int32)) X dL_law_643 (by decide) ?_
                                        refine v_iadd X dL_law_644 ?_
                                        have hin := h.1
                                        have h := h.2
                                        refine v_sld X hX hH.2.2 hin dL_law_645 ?_
                                        refine wrVI (As := [.int (xs (x1 + (1 : Int32)).toNatClampNeg), .int (xs (x1 + (2 : Int32)).toNatClampNeg)]) (rest := []) (wr := (((((((([] : va_W) ++ CX5 K tp u5) ++ CX0 K ac u6) ++ CX4 K se u7) ++ CX2 K ak u8) ++ CRows K ro u9) ++ CImgs K im u10) ++ CX7 K mo u11)) X mv_L_78 (c_X6_earned F.2.1 D K t x no tr tp ac se ak ro im u2 u3 u4 (xs (x1 + (1 : Int32)).toNatClampNeg) (xs (x1 + (2 : Int32)).toNatClampNeg) _ h) hF ⟨rfl, rfl, Nat.le_of_ble_eq_true rfl, Nat.le_of_ble_eq_true rfl⟩ hT hA (hH.mix (pmR (pmR (pmR (pmR (pmR (pmR (pmR (pmC (pmC pm0)))))))))) _ _ cut_app ((((((((([] : va_W) ++ CX5 K tp u5) ++ CX0 K ac u6) ++ CX4 K se u7) ++ CX2 K ak u8) ++ CRows K ro u9) ++ CImgs K im u10) ++ CX7 K mo u11)).length get_mid rfl hl.1 rfl rfl (Nat.le_of_ble_eq_true rfl) dL_law_646 (fun r132 u133 H locs h hH => ?_)
                                        have hH : HH F D A ((((((((([] : va_W) ++ CX5 K tp u5) ++ CX0 K ac u6) ++ CX4 K se u7) ++ CX2 K ak u8) ++ CRows K ro u9) ++ CImgs K im u10) ++ CX7 K mo u11) ++ (CX6 K x no tr tp ac se ak ro im u2 ++ CX1 K no u3 ++ CX1 K tr u133)) H locs := hH
                                        have hH : HH F D A (CX6 K x no tr tp ac se ak ro im u2 ++ CX1 K no u3 ++ CX1 K tr u133 ++ CX5 K tp u5 ++ CX0 K ac u6 ++ CX4 K se u7 ++ CX2 K ak u8 ++ CRows K ro u9 ++ CImgs K im u10 ++ CX7 K mo u11) H locs := hH.mix ((pmR (pmR (pmR (pmR (pmR (pmR (pmR (pmC (pmC pm0)))))))))).symm
                                        refine v_aload_n X dL_law_649 rfl (lv_at hl 2 rfl) ?_
                                        refine v_aload_n X dL_law_650 rfl (lv_at hl 0 rfl) ?_
                                        refine v_iload_n X dL_law_651 rfl (lv_at hl 3 rfl) ?_
                                        refine v_iconst (v := (1 : Int32)) X dL_law_652 (by decide) ?_
                                        refine v_iadd X dL_law_653 ?_
                                        have hin := h.1
                                        have h := h.2
                                        refine v_sld X hX hH.2.2 hin dL_law_654 ?_
                                        refine v_aload_n X dL_law_655 rfl (lv_at hl 0 rfl) ?_
                                        refine v_iload_n X dL_law_656 rfl (lv_at hl 3 rfl) ?_
                                        refine v_iconst (v := (2 : Int32)) X dL_law_657 (by decide) ?_
                                        refine v_iadd X dL_law_658 ?_
                                        have hin := h.1
                                        have h := h.2
                                        refine v_sld X hX hH.2.2 hin dL_law_659 ?_
                                        refine wrVI (As := [.int (xs (x1 + (1 : Int32)).toNatClampNeg), .int (xs (x1 + (2 : Int32)).toNatClampNeg)]) (rest := [.int r132]) (wr := (((((((((([] : va_W) ++ CX6 K x no tr tp ac se ak ro im u2) ++ CX1 K no u3) ++ CX1 K tr u133) ++ CX5 K tp u5) ++ CX0 K ac u6) ++ CX4 K se u7) ++ CX2 K ak u8) ++ CRows K ro u9) ++ CImgs K im u10)) X mv_L_81 (c_X7_earned F.2.1 D K t mo u11 (xs (x1 + (1 : Int32)).toNatClampNeg) (xs (x1 + (2 : Int32)).toNatClampNeg) _ h) hF ⟨rfl, rfl, Nat.le_of_ble_eq_true rfl, Nat.le_of_ble_eq_true rfl⟩ hT hA (hH.mix (pme (pme (pme (pme (pme (pme (pme (pme (pme pm0)))))))))) _ _ cut_app ((((((((((([] : va_W) ++ CX6 K x no tr tp ac se ak ro im u2) ++ CX1 K no u3) ++ CX1 K tr u133) ++ CX5 K tp u5) ++ CX0 K ac u6) ++ CX4 K se u7) ++ CX2 K ak u8) ++ CRows K ro u9) ++ CImgs K im u10)).length get_mid rfl hl.1 rfl rfl (Nat.le_of_ble_eq_true rfl) dL_law_660 (fun r134 u135 H locs h hH => ?_)
                                        have hH : HH F D A ((((((((((([] : va_W) ++ CX6 K x no tr tp ac se ak ro im u2) ++ CX1 K no u3) ++ CX1 K tr u133) ++ CX5 K tp u5) ++ CX0 K ac u6) ++ CX4 K se u7) ++ CX2 K ak u8) ++ CRows K ro u9) ++ CImgs K im u10) ++ (CX7 K mo u135)) H locs := hH
                                        have hH : HH F D A (CX6 K x no tr tp ac se ak ro im u2 ++ CX1 K no u3 ++ CX1 K tr u133 ++ CX5 K tp u5 ++ CX0 K ac u6 ++ CX4 K se u7 ++ CX2 K ak u8 ++ CRows K ro u9 ++ CImgs K im u10 ++ CX7 K mo u135) H locs := hH.mix ((pme (pme (pme (pme (pme (pme (pme (pme (pme pm0)))))))))).symm
                                        refine v_icmp_eq (tgt := 1169) X dL_law_663 (by decide) (fun c136 => ?_) (fun c136 => ?_)
                                        · have h := h.1 c136
                                          refine v_iinc (v := (x1 + (6 : Int32))) (lv' := [(3, .int (x1 + (6 : Int32))), (0, .ref b), (1, .ref (x 0)), (2, .ref (mo 0))]) X dL_law_1169 hl (k := 3) rfl rfl (by decide) rfl (fun ls hl => ?_)
                                          refine v_goto (tgt := 18) X dL_law_1172 (by decide) ?_
                                          exact ih18 (x1 + (6 : Int32)) u2 u3 u133 u5 u6 u7 u8 u9 u10 u135 ls H locs h (lv_sub hl [1, 2, 3, 0] rfl) hH
                                        · have h := h.2 c136
                                          refine v_iconst (v := (0 : Int32)) X dL_law_666 (by decide) ?_
                                          exact h.elim
                                      · have h := h.2 c131
                                        by_cases c137 : x23 = (16 : Int32)
                                        · have h := h.1 c137
                                          refine v_tableIn (tgt := 668) (off := 635) X dL_law_33 (by rw [c137]; decide) (by rw [c137]; decide) (by rw [c137]; rfl) (by decide) ?_
                                          refine v_aload_n X dL_law_668 rfl (lv_at hl 1 rfl) ?_
                                          refine v_aload_n X dL_law_669 rfl (lv_at hl 0 rfl) ?_
                                          refine v_iload_n X dL_law_670 rfl (lv_at hl 3 rfl) ?_
                                          refine v_iconst (v := (1 : Int32)) X dL_law_671 (by decide) ?_
                                          refine v_iadd X dL_law_672 ?_
                                          have hin := h.1
                                          have h := h.2
                                          refine v_sld X hX hH.2.2 hin dL_law_673 ?_
                                          refine wrVI (As := [.int (xs (x1 + (1 : Int32)).toNatClampNeg)]) (rest := []) (wr := (((((((([] : va_W) ++ CX5 K tp u5) ++ CX0 K ac u6) ++ CX4 K se u7) ++ CX2 K ak u8) ++ CRows K ro u9) ++ CImgs K im u10) ++ CX7 K mo u11)) X mv_L_82 (c_X6_rests F.2.1 D K t x no tr tp ac se ak ro im u2 u3 u4 (xs (x1 + (1 : Int32)).toNatClampNeg) _ h) hF ⟨rfl, rfl, Nat.le_of_ble_eq_true rfl, Nat.le_of_ble_eq_true rfl⟩ hT hA (hH.mix (pmR (pmR (pmR (pmR (pmR (pmR (pmR (pmC (pmC pm0)))))))))) _ _ cut_app ((((((((([] : va_W) ++ CX5 K tp u5) ++ CX0 K ac u6) ++ CX4 K se u7) ++ CX2 K ak u8) ++ CRows K ro u9) ++ CImgs K im u10) ++ CX7 K mo u11)).length get_mid rfl hl.1 rfl rfl (Nat.le_of_ble_eq_true rfl) dL_law_674 (fun r138 u139 H locs h hH => ?_)
                                          have hH : HH F D A ((((((((([] : va_W) ++ CX5 K tp u5) ++ CX0 K ac u6) ++ CX4 K se u7) ++ CX2 K ak u8) ++ CRows K ro u9) ++ CImgs K im u10) ++ CX7 K mo u11) ++ (CX6 K x no tr tp ac se ak ro im u2 ++ CX1 K no u3 ++ CX1 K tr u139)) H locs := hH
                                          have hH : HH F D A (CX6 K x no tr tp ac se ak ro im u2 ++ CX1 K no u3 ++ CX1 K tr u139 ++ CX5 K tp u5 ++ CX0 K ac u6 ++ CX4 K se u7 ++ CX2 K ak u8 ++ CRows K ro u9 ++ CImgs K im u10 ++ CX7 K mo u11) H locs := hH.mix ((pmR (pmR (pmR (pmR (pmR (pmR (pmR (pmC (pmC pm0)))))))))).symm
                                          refine v_aload_n X dL_law_677 rfl (lv_at hl 2 rfl) ?_
                                          refine v_aload_n X dL_law_678 rfl (lv_at hl 0 rfl) ?_
                                          refine v_iload_n X dL_law_679 rfl (lv_at hl 3 rfl) ?_
                                          refine v_iconst (v := (1 : Int32)) X dL_law_680 (by decide) ?_
                                          refine v_iadd X dL_law_681 ?_
                                          have hin := h.1
                                          have h := h.2
                                          refine v_sld X hX hH.2.2 hin dL_law_682 ?_
                                          refine wrVI (As := [.int (xs (x1 + (1 : Int32)).toNatClampNeg)]) (rest := [.int r138]) (wr := (((((((((([] : va_W) ++ CX6 K x no tr tp ac se ak ro im u2) ++ CX1 K no u3) ++ CX1 K tr u139) ++ CX5 K tp u5) ++ CX0 K ac u6) ++ CX4 K se u7) ++ CX2 K ak u8) ++ CRows K ro u9) ++ CImgs K im u10)) X mv_L_85 (c_X7_rests F.2.1 D K t mo u11 (xs (x1 + (1 : Int32)).toNatClampNeg) _ h) hF ⟨rfl, rfl, Nat.le_of_ble_eq_true rfl, Nat.le_of_ble_eq_true rfl⟩ hT hA (hH.mix (pme (pme (pme (pme (pme (pme (pme (pme (pme pm0)))))))))) _ _ cut_app ((((((((((([] : va_W) ++ CX6 K x no tr tp ac se ak ro im u2) ++ CX1 K no u3) ++ CX1 K tr u139) ++ CX5 K tp u5) ++ CX0 K ac u6) ++ CX4 K se u7) ++ CX2 K ak u8) ++ CRows K ro u9) ++ CImgs K im u10)).length get_mid rfl hl.1 rfl rfl (Nat.le_of_ble_eq_true rfl) dL_law_683 (fun r140 u141 H locs h hH => ?_)
                                          have hH : HH F D A ((((((((((([] : va_W) ++ CX6 K x no tr tp ac se ak ro im u2) ++ CX1 K no u3) ++ CX1 K tr u139) ++ CX5 K tp u5) ++ CX0 K ac u6) ++ CX4 K se u7) ++ CX2 K ak u8) ++ CRows K ro u9) ++ CImgs K im u10) ++ (CX7 K mo u141)) H locs := hH
                                          have hH : HH F D A (CX6 K x no tr tp ac se ak ro im u2 ++ CX1 K no u3 ++ CX1 K tr u139 ++ CX5 K tp u5 ++ CX0 K ac u6 ++ CX4 K se u7 ++ CX2 K ak u8 ++ CRows K ro u9 ++ CImgs K im u10 ++ CX7 K mo u141) H locs := hH.mix ((pme (pme (pme (pme (pme (pme (pme (pme (pme pm0)))))))))).symm
                                          refine v_icmp_eq (tgt := 1169) X dL_law_686 (by decide) (fun c142 => ?_) (fun c142 => ?_)
                                          · have h := h.1 c142
                                            refine v_iinc (v := (x1 + (6 : Int32))) (lv' := [(3, .int (x1 + (6 : Int32))), (0, .ref b), (1, .ref (x 0)), (2, .ref (mo 0))]) X dL_law_1169 hl (k := 3) rfl rfl (by decide) rfl (fun ls hl => ?_)
                                            refine v_goto (tgt := 18) X dL_law_1172 (by decide) ?_
                                            exact ih18 (x1 + (6 : Int32)) u2 u3 u139 u5 u6 u7 u8 u9 u10 u141 ls H locs h (lv_sub hl [1, 2, 3, 0] rfl) hH
                                          · have h := h.2 c142
                                            refine v_iconst (v := (0 : Int32)) X dL_law_689 (by decide) ?_
                                            exact h.elim
                                        · have h := h.2 c137
                                          by_cases c143 : x23 = (17 : Int32)
                                          · have h := h.1 c143
                                            refine v_tableIn (tgt := 691) (off := 658) X dL_law_33 (by rw [c143]; decide) (by rw [c143]; decide) (by rw [c143]; rfl) (by decide) ?_
                                            refine v_aload_n X dL_law_691 rfl (lv_at hl 1 rfl) ?_
                                            refine v_aload_n X dL_law_692 rfl (lv_at hl 0 rfl) ?_
                                            refine v_iload_n X dL_law_693 rfl (lv_at hl 3 rfl) ?_
                                            refine v_iconst (v := (1 : Int32)) X dL_law_694 (by decide) ?_
                                            refine v_iadd X dL_law_695 ?_
                                            have hin := h.1
                                            have h := h.2
                                            refine v_sld X hX hH.2.2 hin dL_law_696 ?_
                                            refine wrVI (As := [.int (xs (x1 + (1 : Int32)).toNatClampNeg)]) (rest := []) (wr := (((((((([] : va_W) ++ CX5 K tp u5) ++ CX0 K ac u6) ++ CX4 K se u7) ++ CX2 K ak u8) ++ CRows K ro u9) ++ CImgs K im u10) ++ CX7 K mo u11)) X mv_L_86 (c_X6_when F.2.1 D K t x no tr tp ac se ak ro im u2 u3 u4 (xs (x1 + (1 : Int32)).toNatClampNeg) _ h) hF ⟨rfl, rfl, Nat.le_of_ble_eq_true rfl, Nat.le_of_ble_eq_true rfl⟩ hT hA (hH.mix (pmR (pmR (pmR (pmR (pmR (pmR (pmR (pmC (pmC pm0)))))))))) _ _ cut_app ((((((((([] : va_W) ++ CX5 K tp u5) ++ CX0 K ac u6) ++ CX4 K se u7) ++ CX2 K ak u8) ++ CRows K ro u9) ++ CImgs K im u10) ++ CX7 K mo u11)).length get_mid rfl hl.1 rfl rfl (Nat.le_of_ble_eq_true rfl) dL_law_697 (fun r144 u145 H locs h hH => ?_)
                                            have hH : HH F D A ((((((((([] : va_W) ++ CX5 K tp u5) ++ CX0 K ac u6) ++ CX4 K se u7) ++ CX2 K ak u8) ++ CRows K ro u9) ++ CImgs K im u10) ++ CX7 K mo u11) ++ (CX6 K x no tr tp ac se ak ro im u2 ++ CX1 K no u3 ++ CX1 K tr u145)) H locs := hH
                                            have hH : HH F D A (CX6 K x no tr tp ac se ak ro im u2 ++ CX1 K no u3 ++ CX1 K tr u145 ++ CX5 K tp u5 ++ CX0 K ac u6 ++ CX4 K se u7 ++ CX2 K ak u8 ++ CRows K ro u9 ++ CImgs K im u10 ++ CX7 K mo u11) H locs := hH.mix ((pmR (pmR (pmR (pmR (pmR (pmR (pmR (pmC (pmC pm0)))))))))).symm
                                            refine v_aload_n X dL_law_700 rfl (lv_at hl 2 rfl) ?_
                                            refine v_aload_n X dL_law_701 rfl (lv_at hl 0 rfl) ?_
                                            refine v_iload_n X dL_law_702 rfl (lv_at hl 3 rfl) ?_
                                            refine v_iconst (v := (1 : Int32)) X dL_law_703 (by decide) ?_
                                            refine v_iadd X dL_law_704 ?_
                                            have hin := h.1
                                            have h := h.2
                                            refine v_sld X hX hH.2.2 hin dL_law_705 ?_
                                            refine wrVI (As := [.int (xs (x1 + (1 : Int32)).toNatClampNeg)]) (rest := [.int r144]) (wr := (((((((((([] : va_W) ++ CX6 K x no tr tp ac se ak ro im u2) ++ CX1 K no u3) ++ CX1 K tr u145) ++ CX5 K tp u5) ++ CX0 K ac u6) ++ CX4 K se u7) ++ CX2 K ak u8) ++ CRows K ro u9) ++ CImgs K im u10)) X mv_L_89 (c_X7_when F.2.1 D K t mo u11 (xs (x1 + (1 : Int32)).toNatClampNeg) _ h) hF ⟨rfl, rfl, Nat.le_of_ble_eq_true rfl, Nat.le_of_ble_eq_true rfl⟩ hT hA (hH.mix (pme (pme (pme (pme (pme (pme (pme (pme (pme pm0)))))))))) _ _ cut_app ((((((((((([] : va_W) ++ CX6 K x no tr tp ac se ak ro im u2) ++ CX1 K no u3) ++ CX1 K tr u145) ++ CX5 K tp u5) ++ CX0 K ac u6) ++ CX4 K se u7) ++ CX2 K ak u8) ++ CRows K ro u9) ++ CImgs K im u10)).length get_mid rfl hl.1 rfl rfl (Nat.le_of_ble_eq_true rfl) dL_law_706 (fun r146 u147 H locs h hH => ?_)
                                            have hH : HH F D A ((((((((((([] : va_W) ++ CX6 K x no tr tp ac se ak ro im u2) ++ CX1 K no u3) ++ CX1 K tr u145) ++ CX5 K tp u5) ++ CX0 K ac u6) ++ CX4 K se u7) ++ CX2 K ak u8) ++ CRows K ro u9) ++ CImgs K im u10) ++ (CX7 K mo u147)) H locs := hH
                                            have hH : HH F D A (CX6 K x no tr tp ac se ak ro im u2 ++ CX1 K no u3 ++ CX1 K tr u145 ++ CX5 K tp u5 ++ CX0 K ac u6 ++ CX4 K se u7 ++ CX2 K ak u8 ++ CRows K ro u9 ++ CImgs K im u10 ++ CX7 K mo u147) H locs := hH.mix ((pme (pme (pme (pme (pme (pme (pme (pme (pme pm0)))))))))).symm
                                            refine v_icmp_eq (tgt := 1169) X dL_law_709 (by decide) (fun c148 => ?_) (fun c148 => ?_)
                                            · have h := h.1 c148
                                              refine v_iinc (v := (x1 + (6 : Int32))) (lv' := [(3, .int (x1 + (6 : Int32))), (0, .ref b), (1, .ref (x 0)), (2, .ref (mo 0))]) X dL_law_1169 hl (k := 3) rfl rfl (by decide) rfl (fun ls hl => ?_)
                                              refine v_goto (tgt := 18) X dL_law_1172 (by decide) ?_
                                              exact ih18 (x1 + (6 : Int32)) u2 u3 u145 u5 u6 u7 u8 u9 u10 u147 ls H locs h (lv_sub hl [1, 2, 3, 0] rfl) hH
                                            · have h := h.2 c148
                                              refine v_iconst (v := (0 : Int32)) X dL_law_712 (by decide) ?_
                                              exact h.elim
                                          · have h := h.2 c143
                                            by_cases c149 : x23 = (18 : Int32)
                                            · have h := h.1 c149
                                              refine v_tableIn (tgt := 714) (off := 681) X dL_law_33 (by rw [c149]; decide) (by rw [c149]; decide) (by rw [c149]; rfl) (by decide) ?_
                                              refine v_aload_n X dL_law_714 rfl (lv_at hl 1 rfl) ?_
                                              refine v_aload_n X dL_law_715 rfl (lv_at hl 0 rfl) ?_
                                              refine v_iload_n X dL_law_716 rfl (lv_at hl 3 rfl) ?_
                                              refine v_iconst (v := (1 : Int32)) X dL_law_717 (by decide) ?_
                                              refine v_iadd X dL_law_718 ?_
                                              have hin := h.1
                                              have h := h.2
                                              refine v_sld X hX hH.2.2 hin dL_law_719 ?_
                                              refine wrVI (As := [.int (xs (x1 + (1 : Int32)).toNatClampNeg)]) (rest := []) (wr := (((((((([] : va_W) ++ CX5 K tp u5) ++ CX0 K ac u6) ++ CX4 K se u7) ++ CX2 K ak u8) ++ CRows K ro u9) ++ CImgs K im u10) ++ CX7 K mo u11)) X mv_L_90 (c_X6_all F.2.1 D K t x no tr tp ac se ak ro im u2 u3 u4 (xs (x1 + (1 : Int32)).toNatClampNeg) _ h) hF ⟨rfl, rfl, Nat.le_of_ble_eq_true rfl, Nat.le_of_ble_eq_true rfl⟩ hT hA (hH.mix (pmR (pmR (pmR (pmR (pmR (pmR (pmR (pmC (pmC pm0)))))))))) _ _ cut_app ((((((((([] : va_W) ++ CX5 K tp u5) ++ CX0 K ac u6) ++ CX4 K se u7) ++ CX2 K ak u8) ++ CRows K ro u9) ++ CImgs K im u10) ++ CX7 K mo u11)).length get_mid rfl hl.1 rfl rfl (Nat.le_of_ble_eq_true rfl) dL_law_720 (fun r150 u151 H locs h hH => ?_)
                                              have hH : HH F D A ((((((((([] : va_W) ++ CX5 K tp u5) ++ CX0 K ac u6) ++ CX4 K se u7) ++ CX2 K ak u8) ++ CRows K ro u9) ++ CImgs K im u10) ++ CX7 K mo u11) ++ (CX6 K x no tr tp ac se ak ro im u2 ++ CX1 K no u3 ++ CX1 K tr u151)) H locs := hH
                                              have hH : HH F D A (CX6 K x no tr tp ac se ak ro im u2 ++ CX1 K no u3 ++ CX1 K tr u151 ++ CX5 K tp u5 ++ CX0 K ac u6 ++ CX4 K se u7 ++ CX2 K ak u8 ++ CRows K ro u9 ++ CImgs K im u10 ++ CX7 K mo u11) H locs := hH.mix ((pmR (pmR (pmR (pmR (pmR (pmR (pmR (pmC (pmC pm0)))))))))).symm
                                              refine v_aload_n X dL_law_723 rfl (lv_at hl 2 rfl) ?_
                                              refine v_aload_n X dL_law_724 rfl (lv_at hl 0 rfl) ?_
                                              refine v_iload_n X dL_law_725 rfl (lv_at hl 3 rfl) ?_
                                              refine v_iconst (v := (1 : Int32)) X dL_law_726 (by decide) ?_
                                              refine v_iadd X dL_law_727 ?_
                                              have hin := h.1
                                              have h := h.2
                                              refine v_sld X hX hH.2.2 hin dL_law_728 ?_
                                              refine wrVI (As := [.int (xs (x1 + (1 : Int32)).toNatClampNeg)]) (rest := [.int r150]) (wr := (((((((((([] : va_W) ++ CX6 K x no tr tp ac se ak ro im u2) ++ CX1 K no u3) ++ CX1 K tr u151) ++ CX5 K tp u5) ++ CX0 K ac u6) ++ CX4 K se u7) ++ CX2 K ak u8) ++ CRows K ro u9) ++ CImgs K im u10)) X mv_L_93 (c_X7_all F.2.1 D K t mo u11 (xs (x1 + (1 : Int32)).toNatClampNeg) _ h) hF ⟨rfl, rfl, Nat.le_of_ble_eq_true rfl, Nat.le_of_ble_eq_true rfl⟩ hT hA (hH.mix (pme (pme (pme (pme (pme (pme (pme (pme (pme pm0)))))))))) _ _ cut_app ((((((((((([] : va_W) ++ CX6 K x no tr tp ac se ak ro im u2) ++ CX1 K no u3) ++ CX1 K tr u151) ++ CX5 K tp u5) ++ CX0 K ac u6) ++ CX4 K se u7) ++ CX2 K ak u8) ++ CRows K ro u9) ++ CImgs K im u10)).length get_mid rfl hl.1 rfl rfl (Nat.le_of_ble_eq_true rfl) dL_law_729 (fun r152 u153 H locs h hH => ?_)
                                              have hH : HH F D A ((((((((((([] : va_W) ++ CX6 K x no tr tp ac se ak ro im u2) ++ CX1 K no u3) ++ CX1 K tr u151) ++ CX5 K tp u5) ++ CX0 K ac u6) ++ CX4 K se u7) ++ CX2 K ak u8) ++ CRows K ro u9) ++ CImgs K im u10) ++ (CX7 K mo u153)) H locs := hH
                                              have hH : HH F D A (CX6 K x no tr tp ac se ak ro im u2 ++ CX1 K no u3 ++ CX1 K tr u151 ++ CX5 K tp u5 ++ CX0 K ac u6 ++ CX4 K se u7 ++ CX2 K ak u8 ++ CRows K ro u9 ++ CImgs K im u10 ++ CX7 K mo u153) H locs := hH.mix ((pme (pme (pme (pme (pme (pme (pme (pme (pme pm0)))))))))).symm
                                              refine v_icmp_eq (tgt := 1169) X dL_law_732 (by decide) (fun c154 => ?_) (fun c154 => ?_)
                                              · have h := h.1 c154
                                                refine v_iinc (v := (x1 + (6 : Int32))) (lv' := [(3, .int (x1 + (6 : Int32))), (0, .ref b), (1, .ref (x 0)), (2, .ref (mo 0))]) X dL_law_1169 hl (k := 3) rfl rfl (by decide) rfl (fun ls hl => ?_)
                                                refine v_goto (tgt := 18) X dL_law_1172 (by decide) ?_
                                                exact ih18 (x1 + (6 : Int32)) u2 u3 u151 u5 u6 u7 u8 u9 u10 u153 ls H locs h (lv_sub hl [1, 2, 3, 0] rfl) hH
                                              · have h := h.2 c154
                                                refine v_iconst (v := (0 : Int32)) X dL_law_735 (by decide) ?_
                                                exact h.elim
                                            · have h := h.2 c149
                                              by_cases c155 : x23 = (19 : Int32)
                                              · have h := h.1 c155
                                                refine v_tableIn (tgt := 737) (off := 704) X dL_law_33 (by rw [c155]; decide) (by rw [c155]; decide) (by rw [c155]; rfl) (by decide) ?_
                                                refine v_aload_n X dL_law_737 rfl (lv_at hl 1 rfl) ?_
                                                refine wrVI (As := []) (rest := []) (wr := (((((((([] : va_W) ++ CX5 K tp u5) ++ CX0 K ac u6) ++ CX4 K se u7) ++ CX2 K ak u8) ++ CRows K ro u9) ++ CImgs K im u10) ++ CX7 K mo u11)) X mv_L_94 (c_X6_never F.2.1 D K t x no tr tp ac se ak ro im u2 u3 u4 _ h) hF ⟨rfl, rfl, Nat.le_of_ble_eq_true rfl, Nat.le_of_ble_eq_true rfl⟩ hT hA (hH.mix (pmR (pmR (pmR (pmR (pmR (pmR (pmR (pmC (pmC pm0)))))))))) _ _ cut_app ((((((((([] : va_W) ++ CX5 K tp u5) ++ CX0 K ac u6) ++ CX4 K se u7) ++ CX2 K ak u8) ++ CRows K ro u9) ++ CImgs K im u10) ++ CX7 K mo u11)).length get_mid rfl hl.1 rfl rfl (Nat.le_of_ble_eq_true rfl) dL_law_738 (fun r156 u157 H locs h hH => ?_)
                                                have hH : HH F D A ((((((((([] : va_W) ++ CX5 K tp u5) ++ CX0 K ac u6) ++ CX4 K se u7) ++ CX2 K ak u8) ++ CRows K ro u9) ++ CImgs K im u10) ++ CX7 K mo u11) ++ (CX6 K x no tr tp ac se ak ro im u2 ++ CX1 K no u3 ++ CX1 K tr u157)) H locs := hH
                                                have hH : HH F D A (CX6 K x no tr tp ac se ak ro im u2 ++ CX1 K no u3 ++ CX1 K tr u157 ++ CX5 K tp u5 ++ CX0 K ac u6 ++ CX4 K se u7 ++ CX2 K ak u8 ++ CRows K ro u9 ++ CImgs K im u10 ++ CX7 K mo u11) H locs := hH.mix ((pmR (pmR (pmR (pmR (pmR (pmR (pmR (pmC (pmC pm0)))))))))).symm
                                                refine v_aload_n X dL_law_741 rfl (lv_at hl 2 rfl) ?_
                                                refine wrVI (As := []) (rest := [.int r156]) (wr := (((((((((([] : va_W) ++ CX6 K x no tr tp ac se ak ro im u2) ++ CX1 K no u3) ++ CX1 K tr u157) ++ CX5 K tp u5) ++ CX0 K ac u6) ++ CX4 K se u7) ++ CX2 K ak u8) ++ CRows K ro u9) ++ CImgs K im u10)) X mv_L_97 (c_X7_never F.2.1 D K t mo u11 _ h) hF ⟨rfl, rfl, Nat.le_of_ble_eq_true rfl, Nat.le_of_ble_eq_true rfl⟩ hT hA (hH.mix (pme (pme (pme (pme (pme (pme (pme (pme (pme pm0)))))))))) _ _ cut_app ((((((((((([] : va_W) ++ CX6 K x no tr tp ac se ak ro im u2) ++ CX1 K no u3) ++ CX1 K tr u157) ++ CX5 K tp u5) ++ CX0 K ac u6) ++ CX4 K se u7) ++ CX2 K ak u8) ++ CRows K ro u9) ++ CImgs K im u10)).length get_mid rfl hl.1 rfl rfl (Nat.le_of_ble_eq_true rfl) dL_law_742 (fun r158 u159 H locs h hH => ?_)
                                                have hH : HH F D A ((((((((((([] : va_W) ++ CX6 K x no tr tp ac se ak ro im u2) ++ CX1 K no u3) ++ CX1 K tr u157) ++ CX5 K tp u5) ++ CX0 K ac u6) ++ CX4 K se u7) ++ CX2 K ak u8) ++ CRows K ro u9) ++ CImgs K im u10) ++ (CX7 K mo u159)) H locs := hH
                                                have hH : HH F D A (CX6 K x no tr tp ac se ak ro im u2 ++ CX1 K no u3 ++ CX1 K tr u157 ++ CX5 K tp u5 ++ CX0 K ac u6 ++ CX4 K se u7 ++ CX2 K ak u8 ++ CRows K ro u9 ++ CImgs K im u10 ++ CX7 K mo u159) H locs := hH.mix ((pme (pme (pme (pme (pme (pme (pme (pme (pme pm0)))))))))).symm
                                                refine v_icmp_eq (tgt := 1169) X dL_law_745 (by decide) (fun c160 => ?_) (fun c160 => ?_)
                                                · have h := h.1 c160
                                                  refine v_iinc (v := (x1 + (6 : Int32))) (lv' := [(3, .int (x1 + (6 : Int32))), (0, .ref b), (1, .ref (x 0)), (2, .ref (mo 0))]) X dL_law_1169 hl (k := 3) rfl rfl (by decide) rfl (fun ls hl => ?_)
                                                  refine v_goto (tgt := 18) X dL_law_1172 (by decide) ?_
                                                  exact ih18 (x1 + (6 : Int32)) u2 u3 u157 u5 u6 u7 u8 u9 u10 u159 ls H locs h (lv_sub hl [1, 2, 3, 0] rfl) hH
                                                · have h := h.2 c160
                                                  refine v_iconst (v := (0 : Int32)) X dL_law_748 (by decide) ?_
                                                  exact h.elim
                                              · have h := h.2 c155
                                                by_cases c161 : x23 = (20 : Int32)
                                                · have h := h.1 c161
                                                  refine v_tableIn (tgt := 750) (off := 717) X dL_law_33 (by rw [c161]; decide) (by rw [c161]; decide) (by rw [c161]; rfl) (by decide) ?_
                                                  refine v_aload_n X dL_law_750 rfl (lv_at hl 1 rfl) ?_
                                                  refine v_aload_n X dL_law_751 rfl (lv_at hl 0 rfl) ?_
                                                  refine v_iload_n X dL_law_752 rfl (lv_at hl 3 rfl) ?_
                                                  refine v_iconst (v := (1 : Int32)) X dL_law_753 (by decide) ?_
                                                  refine v_iadd X dL_law_754 ?_
                                                  have hin := h.1
                                                  have h := h.2
                                                  refine v_sld X hX hH.2.2 hin dL_law_755 ?_
                                                  refine v_aload_n X dL_law_756 rfl (lv_at hl 0 rfl) ?_
                                                  refine v_iload_n X dL_law_757 rfl (lv_at hl 3 rfl) ?_
                                                  refine v_iconst (v := (2 : Int32)) X dL_law_758 (by decide) ?_
                                                  refine v_iadd X dL_law_759 ?_
                                                  have hin := h.1
                                                  have h := h.2
                                                  refine v_sld X hX hH.2.2 hin dL_law_760 ?_
                                                  refine wrVI (As := [.int (xs (x1 + (1 : Int32)).toNatClampNeg), .int (xs (x1 + (2 : Int32)).toNatClampNeg)]) (rest := []) (wr := (((((((([] : va_W) ++ CX1 K tr u4) ++ CX5 K tp u5) ++ CX0 K ac u6) ++ CX2 K ak u8) ++ CRows K ro u9) ++ CImgs K im u10) ++ CX7 K mo u11)) X mv_L_98 (c_X6_best F.2.1 D K t x no tr tp ac se ak ro im u2 u3 u7 (xs (x1 + (1 : Int32)).toNatClampNeg) (xs (x1 + (2 : Int32)).toNatClampNeg) _ h) hF ⟨rfl, rfl, Nat.le_of_ble_eq_true rfl, Nat.le_of_ble_eq_true rfl⟩ hT hA (hH.mix (pmR (pmR (pmR (pmR (pmC (pmR (pmR (pmR (pmC pm0)))))))))) _ _ cut_app ((((((((([] : va_W) ++ CX1 K tr u4) ++ CX5 K tp u5) ++ CX0 K ac u6) ++ CX2 K ak u8) ++ CRows K ro u9) ++ CImgs K im u10) ++ CX7 K mo u11)).length get_mid rfl hl.1 rfl rfl (Nat.le_of_ble_eq_true rfl) dL_law_761 (fun r162 u163 H locs h hH => ?_)
                                                  have hH : HH F D A ((((((((([] : va_W) ++ CX1 K tr u4) ++ CX5 K tp u5) ++ CX0 K ac u6) ++ CX2 K ak u8) ++ CRows K ro u9) ++ CImgs K im u10) ++ CX7 K mo u11) ++ (CX6 K x no tr tp ac se ak ro im u2 ++ CX1 K no u3 ++ CX4 K se u163)) H locs := hH
                                                  have hH : HH F D A (CX6 K x no tr tp ac se ak ro im u2 ++ CX1 K no u3 ++ CX1 K tr u4 ++ CX5 K tp u5 ++ CX0 K ac u6 ++ CX4 K se u163 ++ CX2 K ak u8 ++ CRows K ro u9 ++ CImgs K im u10 ++ CX7 K mo u11) H locs := hH.mix ((pmR (pmR (pmR (pmR (pmC (pmR (pmR (pmR (pmC pm0)))))))))).symm
                                                  refine v_aload_n X dL_law_764 rfl (lv_at hl 2 rfl) ?_
                                                  refine v_aload_n X dL_law_765 rfl (lv_at hl 0 rfl) ?_
                                                  refine v_iload_n X dL_law_766 rfl (lv_at hl 3 rfl) ?_
                                                  refine v_iconst (v := (1 : Int32)) X dL_law_767 (by decide) ?_
                                                  refine v_iadd X dL_law_768 ?_
                                                  have hin := h.1
                                                  have h := h.2
                                                  refine v_sld X hX hH.2.2 hin dL_law_769 ?_
                                                  refine v_aload_n X dL_law_770 rfl (lv_at hl 0 rfl) ?_
                                                  refine v_iload_n X dL_law_771 rfl (lv_at hl 3 rfl) ?_
                                                  refine v_iconst (v := (2 : Int32)) X dL_law_772 (by decide) ?_
                                                  refine v_iadd X dL_law_773 ?_
                                                  have hin := h.1
                                                  have h := h.2
                                                  refine v_sld X hX hH.2.2 hin dL_law_774 ?_
                                                  refine wrVI (As := [.int (xs (x1 + (1 : Int32)).toNatClampNeg), .int (xs (x1 + (2 : Int32)).toNatClampNeg)]) (rest := [.int r162]) (wr := (((((((((([] : va_W) ++ CX6 K x no tr tp ac se ak ro im u2) ++ CX1 K no u3) ++ CX1 K tr u4) ++ CX5 K tp u5) ++ CX0 K ac u6) ++ CX4 K se u163) ++ CX2 K ak u8) ++ CRows K ro u9) ++ CImgs K im u10)) X mv_L_101 (c_X7_best F.2.1 D K t mo u11 (xs (x1 + (1 : Int32)).toNatClampNeg) (xs (x1 + (2 : Int32)).toNatClampNeg) _ h) hF ⟨rfl, rfl, Nat.le_of_ble_eq_true rfl, Nat.le_of_ble_eq_true rfl⟩ hT hA (hH.mix (pme (pme (pme (pme (pme (pme (pme (pme (pme pm0)))))))))) _ _ cut_app ((((((((((([] : va_W) ++ CX6 K x no tr tp ac se ak ro im u2) ++ CX1 K no u3) ++ CX1 K tr u4) ++ CX5 K tp u5) ++ CX0 K ac u6) ++ CX4 K se u163) ++ CX2 K ak u8) ++ CRows K ro u9) ++ CImgs K im u10)).length get_mid rfl hl.1 rfl rfl (Nat.le_of_ble_eq_true rfl) dL_law_775 (fun r164 u165 H locs h hH => ?_)
                                                  have hH : HH F D A ((((((((((([] : va_W) ++ CX6 K x no tr tp ac se ak ro im u2) ++ CX1 K no u3) ++ CX1 K tr u4) ++ CX5 K tp u5) ++ CX0 K ac u6) ++ CX4 K se u163) ++ CX2 K ak u8) ++ CRows K ro u9) ++ CImgs K im u10) ++ (CX7 K mo u165)) H locs := hH
                                                  have hH : HH F D A (CX6 K x no tr tp ac se ak ro im u2 ++ CX1 K no u3 ++ CX1 K tr u4 ++ CX5 K tp u5 ++ CX0 K ac u6 ++ CX4 K se u163 ++ CX2 K ak u8 ++ CRows K ro u9 ++ CImgs K im u10 ++ CX7 K mo u165) H locs := hH.mix ((pme (pme (pme (pme (pme (pme (pme (pme (pme pm0)))))))))).symm
                                                  refine v_icmp_eq (tgt := 1169) X dL_law_778 (by decide) (fun c166 => ?_) (fun c166 => ?_)
                                                  · have h := h.1 c166
                                                    refine v_iinc (v := (x1 + (6 : Int32))) (lv' := [(3, .int (x1 + (6 : Int32))), (0, .ref b), (1, .ref (x 0)), (2, .ref (mo 0))]) X dL_law_1169 hl (k := 3) rfl rfl (by decide) rfl (fun ls hl => ?_)
                                                    refine v_goto (tgt := 18) X dL_law_1172 (by decide) ?_
                                                    exact ih18 (x1 + (6 : Int32)) u2 u3 u4 u5 u6 u163 u8 u9 u10 u165 ls H locs h (lv_sub hl [1, 2, 3, 0] rfl) hH
                                                  · have h := h.2 c166
                                                    refine v_iconst (v := (0 : Int32)) X dL_law_781 (by decide) ?_
                                                    exact h.elim
                                                · have h := h.2 c161
                                                  by_cases c167 : x23 = (21 : Int32)
                                                  · have h := h.1 c167
                                                    refine v_tableIn (tgt := 783) (off := 750) X dL_law_33 (by rw [c167]; decide) (by rw [c167]; decide) (by rw [c167]; rfl) (by decide) ?_
                                                    refine v_aload_n X dL_law_783 rfl (lv_at hl 1 rfl) ?_
                                                    refine v_aload_n X dL_law_784 rfl (lv_at hl 0 rfl) ?_
                                                    refine v_iload_n X dL_law_785 rfl (lv_at hl 3 rfl) ?_
                                                    refine v_iconst (v := (1 : Int32)) X dL_law_786 (by decide) ?_
                                                    refine v_iadd X dL_law_787 ?_
                                                    have hin := h.1
                                                    have h := h.2
                                                    refine v_sld X hX hH.2.2 hin dL_law_788 ?_
                                                    refine v_aload_n X dL_law_789 rfl (lv_at hl 0 rfl) ?_
                                                    refine v_iload_n X dL_law_790 rfl (lv_at hl 3 rfl) ?_
                                                    refine v_iconst (v := (2 : Int32)) X dL_law_791 (by decide) ?_
                                                    refine v_iadd X dL_law_792 ?_
                                                    have hin := h.1
                                                    have h := h.2
                                                    refine v_sld X hX hH.2.2 hin dL_law_793 ?_
                                                    refine v_aload_n X dL_law_794 rfl (lv_at hl 0 rfl) ?_
                                                    refine v_iload_n X dL_law_795 rfl (lv_at hl 3 rfl) ?_
                                                    refine v_iconst (v := (3 : Int32)) X dL_law_796 (by decide) ?_
                                                    refine v_iadd X dL_law_797 ?_
                                                    have hin := h.1
                                                    have h := h.2
                                                    refine v_sld X hX hH.2.2 hin dL_law_798 ?_
                                                    refine wrVI (As := [.int (xs (x1 + (1 : Int32)).toNatClampNeg), .int (xs (x1 + (2 : Int32)).toNatClampNeg), .int (xs (x1 + (3 : Int32)).toNatClampNeg)]) (rest := []) (wr := (((((((([] : va_W) ++ CX1 K tr u4) ++ CX5 K tp u5) ++ CX0 K ac u6) ++ CX2 K ak u8) ++ CRows K ro u9) ++ CImgs K im u10) ++ CX7 K mo u11)) X mv_L_102 (c_X6_fewest F.2.1 D K t x no tr tp ac se ak ro im u2 u3 u7 (xs (x1 + (1 : Int32)).toNatClampNeg) (xs (x1 + (2 : Int32)).toNatClampNeg) (xs (x1 + (3 : Int32)).toNatClampNeg) _ h) hF ⟨rfl, rfl, Nat.le_of_ble_eq_true rfl, Nat.le_of_ble_eq_true rfl⟩ hT hA (hH.mix (pmR (pmR (pmR (pmR (pmC (pmR (pmR (pmR (pmC pm0)))))))))) _ _ cut_app ((((((((([] : va_W) ++ CX1 K tr u4) ++ CX5 K tp u5) ++ CX0 K ac u6) ++ CX2 K ak u8) ++ CRows K ro u9) ++ CImgs K im u10) ++ CX7 K mo u11)).length get_mid rfl hl.1 rfl rfl (Nat.le_of_ble_eq_true rfl) dL_law_799 (fun r168 u169 H locs h hH => ?_)
                                                    have hH : HH F D A ((((((((([] : va_W) ++ CX1 K tr u4) ++ CX5 K tp u5) ++ CX0 K ac u6) ++ CX2 K ak u8) ++ CRows K ro u9) ++ CImgs K im u10) ++ CX7 K mo u11) ++ (CX6 K x no tr tp ac se ak ro im u2 ++ CX1 K no u3 ++ CX4 K se u169)) H locs := hH
                                                    have hH : HH F D A (CX6 K x no tr tp ac se ak ro im u2 ++ CX1 K no u3 ++ CX1 K tr u4 ++ CX5 K tp u5 ++ CX0 K ac u6 ++ CX4 K se u169 ++ CX2 K ak u8 ++ CRows K ro u9 ++ CImgs K im u10 ++ CX7 K mo u11) H locs := hH.mix ((pmR (pmR (pmR (pmR (pmC (pmR (pmR (pmR (pmC pm0)))))))))).symm
                                                    refine v_aload_n X dL_law_802 rfl (lv_at hl 2 rfl) ?_
                                                    refine v_aload_n X dL_law_803 rfl (lv_at hl 0 rfl) ?_
                                                    refine v_iload_n X dL_law_804 rfl (lv_at hl 3 rfl) ?_
                                                    refine v_iconst (v := (1 : Int32)) X dL_law_805 (by decide) ?_
                                                    refine v_iadd X dL_law_806 ?_
                                                    have hin := h.1
                                                    have h := h.2
                                                    refine v_sld X hX hH.2.2 hin dL_law_807 ?_
                                                    refine v_aload_n X dL_law_808 rfl (lv_at hl 0 rfl) ?_
                                                    refine v_iload_n X dL_law_809 rfl (lv_at hl 3 rfl) ?_
                                                    refine v_iconst (v := (2 : Int32)) X dL_law_810 (by decide) ?_
                                                    refine v_iadd X dL_law_811 ?_
                                                    have hin := h.1
                                                    have h := h.2
                                                    refine v_sld X hX hH.2.2 hin dL_law_812 ?_
                                                    refine v_aload_n X dL_law_813 rfl (lv_at hl 0 rfl) ?_
                                                    refine v_iload_n X dL_law_814 rfl (lv_at hl 3 rfl) ?_
                                                    refine v_iconst (v := (3 : Int32)) X dL_law_815 (by decide) ?_
                                                    refine v_iadd X dL_law_816 ?_
                                                    have hin := h.1
                                                    have h := h.2
                                                    refine v_sld X hX hH.2.2 hin dL_law_817 ?_
                                                    refine wrVI (As := [.int (xs (x1 + (1 : Int32)).toNatClampNeg), .int (xs (x1 + (2 : Int32)).toNatClampNeg), .int (xs (x1 + (3 : Int32)).toNatClampNeg)]) (rest := [.int r168]) (wr := (((((((((([] : va_W) ++ CX6 K x no tr tp ac se ak ro im u2) ++ CX1 K no u3) ++ CX1 K tr u4) ++ CX5 K tp u5) ++ CX0 K ac u6) ++ CX4 K se u169) ++ CX2 K ak u8) ++ CRows K ro u9) ++ CImgs K im u10)) X mv_L_105 (c_X7_fewest F.2.1 D K t mo u11 (xs (x1 + (1 : Int32)).toNatClampNeg) (xs (x1 + (2 : Int32)).toNatClampNeg) (xs (x1 + (3 : Int32)).toNatClampNeg) _ h) hF ⟨rfl, rfl, Nat.le_of_ble_eq_true rfl, Nat.le_of_ble_eq_true rfl⟩ hT hA (hH.mix (pme (pme (pme (pme (pme (pme (pme (pme (pme pm0)))))))))) _ _ cut_app ((((((((((([] : va_W) ++ CX6 K x no tr tp ac se ak ro im u2) ++ CX1 K no u3) ++ CX1 K tr u4) ++ CX5 K tp u5) ++ CX0 K ac u6) ++ CX4 K se u169) ++ CX2 K ak u8) ++ CRows K ro u9) ++ CImgs K im u10)).length get_mid rfl hl.1 rfl rfl (Nat.le_of_ble_eq_true rfl) dL_law_818 (fun r170 u171 H locs h hH => ?_)
                                                    have hH : HH F D A ((((((((((([] : va_W) ++ CX6 K x no tr tp ac se ak ro im u2) ++ CX1 K no u3) ++ CX1 K tr u4) ++ CX5 K tp u5) ++ CX0 K ac u6) ++ CX4 K se u169) ++ CX2 K ak u8) ++ CRows K ro u9) ++ CImgs K im u10) ++ (CX7 K mo u171)) H locs := hH
                                                    have hH : HH F D A (CX6 K x no tr tp ac se ak ro im u2 ++ CX1 K no u3 ++ CX1 K tr u4 ++ CX5 K tp u5 ++ CX0 K ac u6 ++ CX4 K se u169 ++ CX2 K ak u8 ++ CRows K ro u9 ++ CImgs K im u10 ++ CX7 K mo u171) H locs := hH.mix ((pme (pme (pme (pme (pme (pme (pme (pme (pme pm0)))))))))).symm
                                                    refine v_icmp_eq (tgt := 1169) X dL_law_821 (by decide) (fun c172 => ?_) (fun c172 => ?_)
                                                    · have h := h.1 c172
                                                      refine v_iinc (v := (x1 + (6 : Int32))) (lv' := [(3, .int (x1 + (6 : Int32))), (0, .ref b), (1, .ref (x 0)), (2, .ref (mo 0))]) X dL_law_1169 hl (k := 3) rfl rfl (by decide) rfl (fun ls hl => ?_)
                                                      refine v_goto (tgt := 18) X dL_law_1172 (by decide) ?_
                                                      exact ih18 (x1 + (6 : Int32)) u2 u3 u4 u5 u6 u169 u8 u9 u10 u171 ls H locs h (lv_sub hl [1, 2, 3, 0] rfl) hH
                                                    · have h := h.2 c172
                                                      refine v_iconst (v := (0 : Int32)) X dL_law_824 (by decide) ?_
                                                      exact h.elim
                                                  · have h := h.2 c167
                                                    by_cases c173 : x23 = (22 : Int32)
                                                    · have h := h.1 c173
                                                      refine v_tableIn (tgt := 826) (off := 793) X dL_law_33 (by rw [c173]; decide) (by rw [c173]; decide) (by rw [c173]; rfl) (by decide) ?_
                                                      refine v_aload_n X dL_law_826 rfl (lv_at hl 1 rfl) ?_
                                                      refine v_aload_n X dL_law_827 rfl (lv_at hl 0 rfl) ?_
                                                      refine v_iload_n X dL_law_828 rfl (lv_at hl 3 rfl) ?_
                                                      refine v_iconst (v := (1 : Int32)) X dL_law_829 (by decide) ?_
                                                      refine v_iadd X dL_law_830 ?_
                                                      have hin := h.1
                                                      have h := h.2
                                                      refine v_sld X hX hH.2.2 hin dL_law_831 ?_
                                                      refine v_aload_n X dL_law_832 rfl (lv_at hl 0 rfl) ?_
                                                      refine v_iload_n X dL_law_833 rfl (lv_at hl 3 rfl) ?_
                                                      refine v_iconst (v := (2 : Int32)) X dL_law_834 (by decide) ?_
                                                      refine v_iadd X dL_law_835 ?_
                                                      have hin := h.1
                                                      have h := h.2
                                                      refine v_sld X hX hH.2.2 hin dL_law_836 ?_
                                                      refine v_aload_n X dL_law_837 rfl (lv_at hl 0 rfl) ?_
                                                      refine v_iload_n X dL_law_838 rfl (lv_at hl 3 rfl) ?_
                                                      refine v_iconst (v := (3 : Int32)) X dL_law_839 (by decide) ?_
                                                      refine v_iadd X dL_law_840 ?_
                                                      have hin := h.1
                                                      have h := h.2
                                                      refine v_sld X hX hH.2.2 hin dL_law_841 ?_
                                                      refine v_aload_n X dL_law_842 rfl (lv_at hl 0 rfl) ?_
                                                      refine v_iload_n X dL_law_843 rfl (lv_at hl 3 rfl) ?_
                                                      refine v_iconst (v := (4 : Int32)) X dL_law_844 (by decide) ?_
                                                      refine v_iadd X dL_law_845 ?_
                                                      have hin := h.1
                                                      have h := h.2
                                                      refine v_sld X hX hH.2.2 hin dL_law_846 ?_
                                                      refine v_aload_n X dL_law_847 rfl (lv_at hl 0 rfl) ?_
                                                      refine v_iload_n X dL_law_848 rfl (lv_at hl 3 rfl) ?_
                                                      refine v_iconst (v := (5 : Int32)) X dL_law_849 (by decide) ?_
                                                      refine v_iadd X dL_law_850 ?_
                                                      have hin := h.1
                                                      have h := h.2
                                                      refine v_sld X hX hH.2.2 hin dL_law_851 ?_
                                                      refine wrVI (As := [.int (xs (x1 + (1 : Int32)).toNatClampNeg), .int (xs (x1 + (2 : Int32)).toNatClampNeg), .int (xs (x1 + (3 : Int32)).toNatClampNeg), .int (xs (x1 + (4 : Int32)).toNatClampNeg), .int (xs (x1 + (5 : Int32)).toNatClampNeg)]) (rest := []) (wr := ((((((([] : va_W) ++ CX5 K tp u5) ++ CX0 K ac u6) ++ CX4 K se u7) ++ CX2 K ak u8) ++ CImgs K im u10) ++ CX7 K mo u11)) X mv_L_106 (C_X6_fits F.2.1 D K t x no tr tp ac se ak ro im u2 u3 u4 u9 (xs (x1 + (1 : Int32)).toNatClampNeg) (xs (x1 + (2 : Int32)).toNatClampNeg) (xs (x1 + (3 : Int32)).toNatClampNeg) (xs (x1 + (4 : Int32)).toNatClampNeg) (xs (x1 + (5 : Int32)).toNatClampNeg) _ h) hF ⟨rfl, rfl, Nat.le_of_ble_eq_true rfl, Nat.le_of_ble_eq_true rfl⟩ hT hA (hH.mix (pmR (pmR (pmC (pmR (pmR (pmR (pmR (pmC (pmC pm0)))))))))) _ _ cut_app (((((((([] : va_W) ++ CX5 K tp u5) ++ CX0 K ac u6) ++ CX4 K se u7) ++ CX2 K ak u8) ++ CImgs K im u10) ++ CX7 K mo u11)).length get_mid rfl hl.1 rfl rfl (Nat.le_of_ble_eq_true rfl) dL_law_852 (fun r174 u177 H locs h hH => ?_)
                                                      obtain ⟨u175, u176⟩ := u177
                                                      have hH : HH F D A (((((((([] : va_W) ++ CX5 K tp u5) ++ CX0 K ac u6) ++ CX4 K se u7) ++ CX2 K ak u8) ++ CImgs K im u10) ++ CX7 K mo u11) ++ (CX6 K x no tr tp ac se ak ro im u175 ++ CX1 K no u3 ++ CX1 K tr u176 ++ CRows K ro u9)) H locs := hH
                                                      have hH : HH F D A (CX6 K x no tr tp ac se ak ro im u175 ++ CX1 K no u3 ++ CX1 K tr u176 ++ CX5 K tp u5 ++ CX0 K ac u6 ++ CX4 K se u7 ++ CX2 K ak u8 ++ CRows K ro u9 ++ CImgs K im u10 ++ CX7 K mo u11) H locs := hH.mix ((pmR (pmR (pmC (pmR (pmR (pmR (pmR (pmC (pmC pm0)))))))))).symm
                                                      refine v_aload_n X dL_law_855 rfl (lv_at hl 2 rfl) ?_
                                                      refine v_aload_n X dL_law_856 rfl (lv_at hl 0 rfl) ?_
                                                      refine v_iload_n X dL_law_857 rfl (lv_at hl 3 rfl) ?_
                                                      refine v_iconst (v := (1 : Int32)) X dL_law_858 (by decide) ?_
                                                      refine v_iadd X dL_law_859 ?_
                                                      have hin := h.1
                                                      have h := h.2
                                                      refine v_sld X hX hH.2.2 hin dL_law_860 ?_
                                                      refine v_aload_n X dL_law_861 rfl (lv_at hl 0 rfl) ?_
                                                      refine v_iload_n X dL_law_862 rfl (lv_at hl 3 rfl) ?_
                                                      refine v_iconst (v := (2 : Int32)) X dL_law_863 (by decide) ?_
                                                      refine v_iadd X dL_law_864 ?_
                                                      have hin := h.1
                                                      have h := h.2
                                                      refine v_sld X hX hH.2.2 hin dL_law_865 ?_
                                                      refine v_aload_n X dL_law_866 rfl (lv_at hl 0 rfl) ?_
                                                      refine v_iload_n X dL_law_867 rfl (lv_at hl 3 rfl) ?_
                                                      refine v_iconst (v := (3 : Int32)) X dL_law_868 (by decide) ?_
                                                      refine v_iadd X dL_law_869 ?_
                                                      have hin := h.1
                                                      have h := h.2
                                                      refine v_sld X hX hH.2.2 hin dL_law_870 ?_
                                                      refine v_aload_n X dL_law_871 rfl (lv_at hl 0 rfl) ?_
                                                      refine v_iload_n X dL_law_872 rfl (lv_at hl 3 rfl) ?_
                                                      refine v_iconst (v := (4 : Int32)) X dL_law_873 (by decide) ?_
                                                      refine v_iadd X dL_law_874 ?_
                                                      have hin := h.1
                                                      have h := h.2
                                                      refine v_sld X hX hH.2.2 hin dL_law_875 ?_
                                                      refine v_aload_n X dL_law_876 rfl (lv_at hl 0 rfl) ?_
                                                      refine v_iload_n X dL_law_877 rfl (lv_at hl 3 rfl) ?_
                                                      refine v_iconst (v := (5 : Int32)) X dL_law_878 (by decide) ?_
                                                      refine v_iadd X dL_law_879 ?_
                                                      have hin := h.1
                                                      have h := h.2
                                                      refine v_sld X hX hH.2.2 hin dL_law_880 ?_
                                                      refine wrVI (As := [.int (xs (x1 + (1 : Int32)).toNatClampNeg), .int (xs (x1 + (2 : Int32)).toNatClampNeg), .int (xs (x1 + (3 : Int32)).toNatClampNeg), .int (xs (x1 + (4 : Int32)).toNatClampNeg), .int (xs (x1 + (5 : Int32)).toNatClampNeg)]) (rest := [.int r174]) (wr := (((((((((([] : va_W) ++ CX6 K x no tr tp ac se ak ro im u175) ++ CX1 K no u3) ++ CX1 K tr u176) ++ CX5 K tp u5) ++ CX0 K ac u6) ++ CX4 K se u7) ++ CX2 K ak u8) ++ CRows K ro u9) ++ CImgs K im u10)) X mv_L_109 (c_X7_fits F.2.1 D K t mo u11 (xs (x1 + (1 : Int32)).toNatClampNeg) (xs (x1 + (2 : Int32)).toNatClampNeg) (xs (x1 + (3 : Int32)).toNatClampNeg) (xs (x1 + (4 : Int32)).toNatClampNeg) (xs (x1 + (5 : Int32)).toNatClampNeg) _ h) hF ⟨rfl, rfl, Nat.le_of_ble_eq_true rfl, Nat.le_of_ble_eq_true rfl⟩ hT hA (hH.mix (pme (pme (pme (pme (pme (pme (pme (pme (pme pm0)))))))))) _ _ cut_app ((((((((((([] : va_W) ++ CX6 K x no tr tp ac se ak ro im u175) ++ CX1 K no u3) ++ CX1 K tr u176) ++ CX5 K tp u5) ++ CX0 K ac u6) ++ CX4 K se u7) ++ CX2 K ak u8) ++ CRows K ro u9) ++ CImgs K im u10)).length get_mid rfl hl.1 rfl rfl (Nat.le_of_ble_eq_true rfl) dL_law_881 (fun r178 u179 H locs h hH => ?_)
                                                      have hH : HH F D A ((((((((((([] : va_W) ++ CX6 K x no tr tp ac se ak ro im u175) ++ CX1 K no u3) ++ CX1 K tr u176) ++ CX5 K tp u5) ++ CX0 K ac u6) ++ CX4 K se u7) ++ CX2 K ak u8) ++ CRows K ro u9) ++ CImgs K im u10) ++ (CX7 K mo u179)) H locs := hH
                                                      have hH : HH F D A (CX6 K x no tr tp ac se ak ro im u175 ++ CX1 K no u3 ++ CX1 K tr u176 ++ CX5 K tp u5 ++ CX0 K ac u6 ++ CX4 K se u7 ++ CX2 K ak u8 ++ CRows K ro u9 ++ CImgs K im u10 ++ CX7 K mo u179) H locs := hH.mix ((pme (pme (pme (pme (pme (pme (pme (pme (pme pm0)))))))))).symm
                                                      refine v_icmp_eq (tgt := 1169) X dL_law_884 (by decide) (fun c180 => ?_) (fun c180 => ?_)
                                                      · have h := h.1 c180
                                                        refine v_iinc (v := (x1 + (6 : Int32))) (lv' := [(3, .int (x1 + (6 : Int32))), (0, .ref b), (1, .ref (x 0)), (2, .ref (mo 0))]) X dL_law_1169 hl (k := 3) rfl rfl (by decide) rfl (fun ls hl => ?_)
                                                        refine v_goto (tgt := 18) X dL_law_1172 (by decide) ?_
                                                        exact ih18 (x1 + (6 : Int32)) u175 u3 u176 u5 u6 u7 u8 u9 u10 u179 ls H locs h (lv_sub hl [1, 2, 3, 0] rfl) hH
                                                      · have h := h.2 c180
                                                        refine v_iconst (v := (0 : Int32)) X dL_law_887 (by decide) ?_
                                                        exact h.elim
                                                    · have h := h.2 c173
                                                      by_cases c181 : x23 = (23 : Int32)
                                                      · have h := h.1 c181
                                                        refine v_tableIn (tgt := 889) (off := 856) X dL_law_33 (by rw [c181]; decide) (by rw [c181]; decide) (by rw [c181]; rfl) (by decide) ?_
                                                        refine v_aload_n X dL_law_889 rfl (lv_at hl 1 rfl) ?_
                                                        refine v_aload_n X dL_law_890 rfl (lv_at hl 0 rfl) ?_
                                                        refine v_iload_n X dL_law_891 rfl (lv_at hl 3 rfl) ?_
                                                        refine v_iconst (v := (1 : Int32)) X dL_law_892 (by decide) ?_
                                                        refine v_iadd X dL_law_893 ?_
                                                        have hin := h.1
                                                        have h := h.2
                                                        refine v_sld X hX hH.2.2 hin dL_law_894 ?_
                                                        refine v_aload_n X dL_law_895 rfl (lv_at hl 0 rfl) ?_
                                                        refine v_iload_n X dL_law_896 rfl (lv_at hl 3 rfl) ?_
                                                        refine v_iconst (v := (2 : Int32)) X dL_law_897 (by decide) ?_
                                                        refine v_iadd X dL_law_898 ?_
                                                        have hin := h.1
                                                        have h := h.2
                                                        refine v_sld X hX hH.2.2 hin dL_law_899 ?_
                                                        refine v_aload_n X dL_law_900 rfl (lv_at hl 0 rfl) ?_
                                                        refine v_iload_n X dL_law_901 rfl (lv_at hl 3 rfl) ?_
                                                        refine v_iconst (v := (3 : Int32)) X dL_law_902 (by decide) ?_
                                                        refine v_iadd X dL_law_903 ?_
                                                        have hin := h.1
                                                        have h := h.2
                                                        refine v_sld X hX hH.2.2 hin dL_law_904 ?_
                                                        refine wrVI (As := [.int (xs (x1 + (1 : Int32)).toNatClampNeg), .int (xs (x1 + (2 : Int32)).toNatClampNeg), .int (xs (x1 + (3 : Int32)).toNatClampNeg)]) (rest := []) (wr := (((((((([] : va_W) ++ CX5 K tp u5) ++ CX0 K ac u6) ++ CX4 K se u7) ++ CX2 K ak u8) ++ CRows K ro u9) ++ CImgs K im u10) ++ CX7 K mo u11)) X mv_L_110 (c_X6_nods F.2.1 D K t x no tr tp ac se ak ro im u2 u3 u4 (xs (x1 + (1 : Int32)).toNatClampNeg) (xs (x1 + (2 : Int32)).toNatClampNeg) (xs (x1 + (3 : Int32)).toNatClampNeg) _ h) hF ⟨rfl, rfl, Nat.le_of_ble_eq_true rfl, Nat.le_of_ble_eq_true rfl⟩ hT hA (hH.mix (pmR (pmR (pmR (pmR (pmR (pmR (pmR (pmC (pmC pm0)))))))))) _ _ cut_app ((((((((([] : va_W) ++ CX5 K tp u5) ++ CX0 K ac u6) ++ CX4 K se u7) ++ CX2 K ak u8) ++ CRows K ro u9) ++ CImgs K im u10) ++ CX7 K mo u11)).length get_mid rfl hl.1 rfl rfl (Nat.le_of_ble_eq_true rfl) dL_law_905 (fun r182 u183 H locs h hH => ?_)
                                                        have hH : HH F D A ((((((((([] : va_W) ++ CX5 K tp u5) ++ CX0 K ac u6) ++ CX4 K se u7) ++ CX2 K ak u8) ++ CRows K ro u9) ++ CImgs K im u10) ++ CX7 K mo u11) ++ (CX6 K x no tr tp ac se ak ro im u2 ++ CX1 K no u3 ++ CX1 K tr u183)) H locs := hH
                                                        have hH : HH F D A (CX6 K x no tr tp ac se ak ro im u2 ++ CX1 K no u3 ++ CX1 K tr u183 ++ CX5 K tp u5 ++ CX0 K ac u6 ++ CX4 K se u7 ++ CX2 K ak u8 ++ CRows K ro u9 ++ CImgs K im u10 ++ CX7 K mo u11) H locs := hH.mix ((pmR (pmR (pmR (pmR (pmR (pmR (pmR (pmC (pmC pm0)))))))))).symm
                                                        refine v_aload_n X dL_law_908 rfl (lv_at hl 2 rfl) ?_
                                                        refine v_aload_n X dL_law_909 rfl (lv_at hl 0 rfl) ?_
                                                        refine v_iload_n X dL_law_910 rfl (lv_at hl 3 rfl) ?_
                                                        refine v_iconst (v := (1 : Int32)) X dL_law_911 (by decide) ?_
                                                        refine v_iadd X dL_law_912 ?_
                                                        have hin := h.1
                                                        have h := h.2
                                                        refine v_sld X hX hH.2.2 hin dL_law_913 ?_
                                                        refine v_aload_n X dL_law_914 rfl (lv_at hl 0 rfl) ?_
                                                        refine v_iload_n X dL_law_915 rfl (lv_at hl 3 rfl) ?_
                                                        refine v_iconst (v := (2 : Int32)) X dL_law_916 (by decide) ?_
                                                        refine v_iadd X dL_law_917 ?_
                                                        have hin := h.1
                                                        have h := h.2
                                                        refine v_sld X hX hH.2.2 hin dL_law_918 ?_
                                                        refine v_aload_n X dL_law_919 rfl (lv_at hl 0 rfl) ?_
                                                        refine v_iload_n X dL_law_920 rfl (lv_at hl 3 rfl) ?_
                                                        refine v_iconst (v := (3 : Int32)) X dL_law_921 (by decide) ?_
                                                        refine v_iadd X dL_law_922 ?_
                                                        have hin := h.1
                                                        have h := h.2
                                                        refine v_sld X hX hH.2.2 hin dL_law_923 ?_
                                                        refine wrVI (As := [.int (xs (x1 + (1 : Int32)).toNatClampNeg), .int (xs (x1 + (2 : Int32)).toNatClampNeg), .int (xs (x1 + (3 : Int32)).toNatClampNeg)]) (rest := [.int r182]) (wr := (((((((((([] : va_W) ++ CX6 K x no tr tp ac se ak ro im u2) ++ CX1 K no u3) ++ CX1 K tr u183) ++ CX5 K tp u5) ++ CX0 K ac u6) ++ CX4 K se u7) ++ CX2 K ak u8) ++ CRows K ro u9) ++ CImgs K im u10)) X mv_L_113 (c_X7_nods F.2.1 D K t mo u11 (xs (x1 + (1 : Int32)).toNatClampNeg) (xs (x1 + (2 : Int32)).toNatClampNeg) (xs (x1 + (3 : Int32)).toNatClampNeg) _ h) hF ⟨rfl, rfl, Nat.le_of_ble_eq_true rfl, Nat.le_of_ble_eq_true rfl⟩ hT hA (hH.mix (pme (pme (pme (pme (pme (pme (pme (pme (pme pm0)))))))))) _ _ cut_app ((((((((((([] : va_W) ++ CX6 K x no tr tp ac se ak ro im u2) ++ CX1 K no u3) ++ CX1 K tr u183) ++ CX5 K tp u5) ++ CX0 K ac u6) ++ CX4 K se u7) ++ CX2 K ak u8) ++ CRows K ro u9) ++ CImgs K im u10)).length get_mid rfl hl.1 rfl rfl (Nat.le_of_ble_eq_true rfl) dL_law_924 (fun r184 u185 H locs h hH => ?_)
                                                        have hH : HH F D A ((((((((((([] : va_W) ++ CX6 K x no tr tp ac se ak ro im u2) ++ CX1 K no u3) ++ CX1 K tr u183) ++ CX5 K tp u5) ++ CX0 K ac u6) ++ CX4 K se u7) ++ CX2 K ak u8) ++ CRows K ro u9) ++ CImgs K im u10) ++ (CX7 K mo u185)) H locs := hH
                                                        have hH : HH F D A (CX6 K x no tr tp ac se ak ro im u2 ++ CX1 K no u3 ++ CX1 K tr u183 ++ CX5 K tp u5 ++ CX0 K ac u6 ++ CX4 K se u7 ++ CX2 K ak u8 ++ CRows K ro u9 ++ CImgs K im u10 ++ CX7 K mo u185) H locs := hH.mix ((pme (pme (pme (pme (pme (pme (pme (pme (pme pm0)))))))))).symm
                                                        refine v_icmp_eq (tgt := 1169) X dL_law_927 (by decide) (fun c186 => ?_) (fun c186 => ?_)
                                                        · have h := h.1 c186
                                                          refine v_iinc (v := (x1 + (6 : Int32))) (lv' := [(3, .int (x1 + (6 : Int32))), (0, .ref b), (1, .ref (x 0)), (2, .ref (mo 0))]) X dL_law_1169 hl (k := 3) rfl rfl (by decide) rfl (fun ls hl => ?_)
                                                          refine v_goto (tgt := 18) X dL_law_1172 (by decide) ?_
                                                          exact ih18 (x1 + (6 : Int32)) u2 u3 u183 u5 u6 u7 u8 u9 u10 u185 ls H locs h (lv_sub hl [1, 2, 3, 0] rfl) hH
                                                        · have h := h.2 c186
                                                          refine v_iconst (v := (0 : Int32)) X dL_law_930 (by decide) ?_
                                                          exact h.elim
                                                      · have h := h.2 c181
                                                        by_cases c187 : x23 = (24 : Int32)
                                                        · have h := h.1 c187
                                                          refine v_tableIn (tgt := 932) (off := 899) X dL_law_33 (by rw [c187]; decide) (by rw [c187]; decide) (by rw [c187]; rfl) (by decide) ?_
                                                          refine v_aload_n X dL_law_932 rfl (lv_at hl 1 rfl) ?_
                                                          refine v_aload_n X dL_law_933 rfl (lv_at hl 0 rfl) ?_
                                                          refine v_iload_n X dL_law_934 rfl (lv_at hl 3 rfl) ?_
                                                          refine v_iconst (v := (1 : Int32)) X dL_law_935 (by decide) ?_
                                                          refine v_iadd X dL_law_936 ?_
                                                          have hin := h.1
                                                          have h := h.2
                                                          refine v_sld X hX hH.2.2 hin dL_law_937 ?_
                                                          refine v_aload_n X dL_law_938 rfl (lv_at hl 0 rfl) ?_
                                                          refine v_iload_n X dL_law_939 rfl (lv_at hl 3 rfl) ?_
                                                          refine v_iconst (v := (2 : Int32)) X dL_law_940 (by decide) ?_
                                                          refine v_iadd X dL_law_941 ?_
                                                          have hin := h.1
                                                          have h := h.2
                                                          refine v_sld X hX hH.2.2 hin dL_law_942 ?_
                                                          refine v_aload_n X dL_law_943 rfl (lv_at hl 0 rfl) ?_
                                                          refine v_iload_n X dL_law_944 rfl (lv_at hl 3 rfl) ?_
                                                          refine v_iconst (v := (3 : Int32)) X dL_law_945 (by decide) ?_
                                                          refine v_iadd X dL_law_946 ?_
                                                          have hin := h.1
                                                          have h := h.2
                                                          refine v_sld X hX hH.2.2 hin dL_law_947 ?_
                                                          refine wrVI (As := [.int (xs (x1 + (1 : Int32)).toNatClampNeg), .int (xs (x1 + (2 : Int32)).toNatClampNeg), .int (xs (x1 + (3 : Int32)).toNatClampNeg)]) (rest := []) (wr := (((((((([] : va_W) ++ CX5 K tp u5) ++ CX0 K ac u6) ++ CX4 K se u7) ++ CX2 K ak u8) ++ CRows K ro u9) ++ CImgs K im u10) ++ CX7 K mo u11)) X mv_L_114 (c_X6_drawn F.2.1 D K t x no tr tp ac se ak ro im u2 u3 u4 (xs (x1 + (1 : Int32)).toNatClampNeg) (xs (x1 + (2 : Int32)).toNatClampNeg) (xs (x1 + (3 : Int32)).toNatClampNeg) _ h) hF ⟨rfl, rfl, Nat.le_of_ble_eq_true rfl, Nat.le_of_ble_eq_true rfl⟩ hT hA (hH.mix (pmR (pmR (pmR (pmR (pmR (pmR (pmR (pmC (pmC pm0)))))))))) _ _ cut_app ((((((((([] : va_W) ++ CX5 K tp u5) ++ CX0 K ac u6) ++ CX4 K se u7) ++ CX2 K ak u8) ++ CRows K ro u9) ++ CImgs K im u10) ++ CX7 K mo u11)).length get_mid rfl hl.1 rfl rfl (Nat.le_of_ble_eq_true rfl) dL_law_948 (fun r188 u189 H locs h hH => ?_)
                                                          have hH : HH F D A ((((((((([] : va_W) ++ CX5 K tp u5) ++ CX0 K ac u6) ++ CX4 K se u7) ++ CX2 K ak u8) ++ CRows K ro u9) ++ CImgs K im u10) ++ CX7 K mo u11) ++ (CX6 K x no tr tp ac se ak ro im u2 ++ CX1 K no u3 ++ CX1 K tr u189)) H locs := hH
                                                          have hH : HH F D A (CX6 K x no tr tp ac se ak ro im u2 ++ CX1 K no u3 ++ CX1 K tr u189 ++ CX5 K tp u5 ++ CX0 K ac u6 ++ CX4 K se u7 ++ CX2 K ak u8 ++ CRows K ro u9 ++ CImgs K im u10 ++ CX7 K mo u11) H locs := hH.mix ((pmR (pmR (pmR (pmR (pmR (pmR (pmR (pmC (pmC pm0)))))))))).symm
                                                          refine v_aload_n X dL_law_951 rfl (lv_at hl 2 rfl) ?_
                                                          refine v_aload_n X dL_law_952 rfl (lv_at hl 0 rfl) ?_
                                                          refine v_iload_n X dL_law_953 rfl (lv_at hl 3 rfl) ?_
                                                          refine v_iconst (v := (1 : Int32)) X dL_law_954 (by decide) ?_
                                                          refine v_iadd X dL_law_955 ?_
                                                          have hin := h.1
                                                          have h := h.2
                                                          refine v_sld X hX hH.2.2 hin dL_law_956 ?_
                                                          refine v_aload_n X dL_law_957 rfl (lv_at hl 0 rfl) ?_
                                                          refine v_iload_n X dL_law_958 rfl (lv_at hl 3 rfl) ?_
                                                          refine v_iconst (v := (2 : Int32)) X dL_law_959 (by decide) ?_
                                                          refine v_iadd X dL_law_960 ?_
                                                          have hin := h.1
                                                          have h := h.2
                                                          refine v_sld X hX hH.2.2 hin dL_law_961 ?_
                                                          refine v_aload_n X dL_law_962 rfl (lv_at hl 0 rfl) ?_
                                                          refine v_iload_n X dL_law_963 rfl (lv_at hl 3 rfl) ?_
                                                          refine v_iconst (v := (3 : Int32)) X dL_law_964 (by decide) ?_
                                                          refine v_iadd X dL_law_965 ?_
                                                          have hin := h.1
                                                          have h := h.2
                                                          refine v_sld X hX hH.2.2 hin dL_law_966 ?_
                                                          refine wrVI (As := [.int (xs (x1 + (1 : Int32)).toNatClampNeg), .int (xs (x1 + (2 : Int32)).toNatClampNeg), .int (xs (x1 + (3 : Int32)).toNatClampNeg)]) (rest := [.int r188]) (wr := (((((((((([] : va_W) ++ CX6 K x no tr tp ac se ak ro im u2) ++ CX1 K no u3) ++ CX1 K tr u189) ++ CX5 K tp u5) ++ CX0 K ac u6) ++ CX4 K se u7) ++ CX2 K ak u8) ++ CRows K ro u9) ++ CImgs K im u10)) X mv_L_117 (c_X7_drawn F.2.1 D K t mo u11 (xs (x1 + (1 : Int32)).toNatClampNeg) (xs (x1 + (2 : Int32)).toNatClampNeg) (xs (x1 + (3 : Int32)).toNatClampNeg) _ h) hF ⟨rfl, rfl, Nat.le_of_ble_eq_true rfl, Nat.le_of_ble_eq_true rfl⟩ hT hA (hH.mix (pme (pme (pme (pme (pme (pme (pme (pme (pme pm0)))))))))) _ _ cut_app ((((((((((([] : va_W) ++ CX6 K x no tr tp ac se ak ro im u2) ++ CX1 K no u3) ++ CX1 K tr u189) ++ CX5 K tp u5) ++ CX0 K ac u6) ++ CX4 K se u7) ++ CX2 K ak u8) ++ CRows K ro u9) ++ CImgs K im u10)).length get_mid rfl hl.1 rfl rfl (Nat.le_of_ble_eq_true rfl) dL_law_967 (fun r190 u191 H locs h hH => ?_)
                                                          have hH : HH F D A ((((((((((([] : va_W) ++ CX6 K x no tr tp ac se ak ro im u2) ++ CX1 K no u3) ++ CX1 K tr u189) ++ CX5 K tp u5) ++ CX0 K ac u6) ++ CX4 K se u7) ++ CX2 K ak u8) ++ CRows K ro u9) ++ CImgs K im u10) ++ (CX7 K mo u191)) H locs := hH
                                                          have hH : HH F D A (CX6 K x no tr tp ac se ak ro im u2 ++ CX1 K no u3 ++ CX1 K tr u189 ++ CX5 K tp u5 ++ CX0 K ac u6 ++ CX4 K se u7 ++ CX2 K ak u8 ++ CRows K ro u9 ++ CImgs K im u10 ++ CX7 K mo u191) H locs := hH.mix ((pme (pme (pme (pme (pme (pme (pme (pme (pme pm0)))))))))).symm
                                                          refine v_icmp_eq (tgt := 1169) X dL_law_970 (by decide) (fun c192 => ?_) (fun c192 => ?_)
                                                          · have h := h.1 c192
                                                            refine v_iinc (v := (x1 + (6 : Int32))) (lv' := [(3, .int (x1 + (6 : Int32))), (0, .ref b), (1, .ref (x 0)), (2, .ref (mo 0))]) X dL_law_1169 hl (k := 3) rfl rfl (by decide) rfl (fun ls hl => ?_)
                                                            refine v_goto (tgt := 18) X dL_law_1172 (by decide) ?_
                                                            exact ih18 (x1 + (6 : Int32)) u2 u3 u189 u5 u6 u7 u8 u9 u10 u191 ls H locs h (lv_sub hl [1, 2, 3, 0] rfl) hH
                                                          · have h := h.2 c192
                                                            refine v_iconst (v := (0 : Int32)) X dL_law_973 (by decide) ?_
                                                            exact h.elim
                                                        · have h := h.2 c187
                                                          by_cases c193 : x23 = (25 : Int32)
                                                          · have h := h.1 c193
                                                            refine v_tableIn (tgt := 975) (off := 942) X dL_law_33 (by rw [c193]; decide) (by rw [c193]; decide) (by rw [c193]; rfl) (by decide) ?_
                                                            refine v_aload_n X dL_law_975 rfl (lv_at hl 1 rfl) ?_
                                                            refine v_aload_n X dL_law_976 rfl (lv_at hl 0 rfl) ?_
                                                            refine v_iload_n X dL_law_977 rfl (lv_at hl 3 rfl) ?_
                                                            refine v_iconst (v := (1 : Int32)) X dL_law_978 (by decide) ?_
                                                            refine v_iadd X dL_law_979 ?_
                                                            have hin := h.1
                                                            have h := h.2
                                                            refine v_sld X hX hH.2.2 hin dL_law_980 ?_
                                                            refine wrVI (As := [.int (xs (x1 + (1 : Int32)).toNatClampNeg)]) (rest := []) (wr := (((((((([] : va_W) ++ CX1 K tr u4) ++ CX5 K tp u5) ++ CX0 K ac u6) ++ CX4 K se u7) ++ CX2 K ak u8) ++ CRows K ro u9) ++ CX7 K mo u11)) X mv_L_118 (C_X6_image F.2.1 D K t x no tr tp ac se ak ro im u2 u3 u10 (xs (x1 + (1 : Int32)).toNatClampNeg) _ h) hF ⟨rfl, rfl, Nat.le_of_ble_eq_true rfl, Nat.le_of_ble_eq_true rfl⟩ hT hA (hH.mix (pmR (pmC (pmR (pmR (pmR (pmR (pmR (pmR (pmC pm0)))))))))) _ _ cut_app ((((((((([] : va_W) ++ CX1 K tr u4) ++ CX5 K tp u5) ++ CX0 K ac u6) ++ CX4 K se u7) ++ CX2 K ak u8) ++ CRows K ro u9) ++ CX7 K mo u11)).length get_mid rfl hl.1 rfl rfl (Nat.le_of_ble_eq_true rfl) dL_law_981 (fun r194 u195 H locs h hH => ?_)
                                                            have hH : HH F D A ((((((((([] : va_W) ++ CX1 K tr u4) ++ CX5 K tp u5) ++ CX0 K ac u6) ++ CX4 K se u7) ++ CX2 K ak u8) ++ CRows K ro u9) ++ CX7 K mo u11) ++ (CX6 K x no tr tp ac se ak ro im u2 ++ CX1 K no u3 ++ CImgs K im u195)) H locs := hH
                                                            have hH : HH F D A (CX6 K x no tr tp ac se ak ro im u2 ++ CX1 K no u3 ++ CX1 K tr u4 ++ CX5 K tp u5 ++ CX0 K ac u6 ++ CX4 K se u7 ++ CX2 K ak u8 ++ CRows K ro u9 ++ CImgs K im u195 ++ CX7 K mo u11) H locs := hH.mix ((pmR (pmC (pmR (pmR (pmR (pmR (pmR (pmR (pmC pm0)))))))))).symm
                                                            refine v_aload_n X dL_law_984 rfl (lv_at hl 2 rfl) ?_
                                                            refine v_aload_n X dL_law_985 rfl (lv_at hl 0 rfl) ?_
                                                            refine v_iload_n X dL_law_986 rfl (lv_at hl 3 rfl) ?_
                                                            refine v_iconst (v := (1 : Int32)) X dL_law_987 (by decide) ?_
                                                            refine v_iadd X dL_law_988 ?_
                                                            have hin := h.1
                                                            have h := h.2
                                                            refine v_sld X hX hH.2.2 hin dL_law_989 ?_
                                                            refine wrVI (As := [.int (xs (x1 + (1 : Int32)).toNatClampNeg)]) (rest := [.int r194]) (wr := (((((((((([] : va_W) ++ CX6 K x no tr tp ac se ak ro im u2) ++ CX1 K no u3) ++ CX1 K tr u4) ++ CX5 K tp u5) ++ CX0 K ac u6) ++ CX4 K se u7) ++ CX2 K ak u8) ++ CRows K ro u9) ++ CImgs K im u195)) X mv_L_121 (c_X7_image F.2.1 D K t mo u11 (xs (x1 + (1 : Int32)).toNatClampNeg) _ h) hF ⟨rfl, rfl, Nat.le_of_ble_eq_true rfl, Nat.le_of_ble_eq_true rfl⟩ hT hA (hH.mix (pme (pme (pme (pme (pme (pme (pme (pme (pme pm0)))))))))) _ _ cut_app ((((((((((([] : va_W) ++ CX6 K x no tr tp ac se ak ro im u2) ++ CX1 K no u3) ++ CX1 K tr u4) ++ CX5 K tp u5) ++ CX0 K ac u6) ++ CX4 K se u7) ++ CX2 K ak u8) ++ CRows K ro u9) ++ CImgs K im u195)).length get_mid rfl hl.1 rfl rfl (Nat.le_of_ble_eq_true rfl) dL_law_990 (fun r196 u197 H locs h hH => ?_)
                                                            have hH : HH F D A ((((((((((([] : va_W) ++ CX6 K x no tr tp ac se ak ro im u2) ++ CX1 K no u3) ++ CX1 K tr u4) ++ CX5 K tp u5) ++ CX0 K ac u6) ++ CX4 K se u7) ++ CX2 K ak u8) ++ CRows K ro u9) ++ CImgs K im u195) ++ (CX7 K mo u197)) H locs := hH
                                                            have hH : HH F D A (CX6 K x no tr tp ac se ak ro im u2 ++ CX1 K no u3 ++ CX1 K tr u4 ++ CX5 K tp u5 ++ CX0 K ac u6 ++ CX4 K se u7 ++ CX2 K ak u8 ++ CRows K ro u9 ++ CImgs K im u195 ++ CX7 K mo u197) H locs := hH.mix ((pme (pme (pme (pme (pme (pme (pme (pme (pme pm0)))))))))).symm
                                                            refine v_icmp_eq (tgt := 1169) X dL_law_993 (by decide) (fun c198 => ?_) (fun c198 => ?_)
                                                            · have h := h.1 c198
                                                              refine v_iinc (v := (x1 + (6 : Int32))) (lv' := [(3, .int (x1 + (6 : Int32))), (0, .ref b), (1, .ref (x 0)), (2, .ref (mo 0))]) X dL_law_1169 hl (k := 3) rfl rfl (by decide) rfl (fun ls hl => ?_)
                                                              refine v_goto (tgt := 18) X dL_law_1172 (by decide) ?_
                                                              exact ih18 (x1 + (6 : Int32)) u2 u3 u4 u5 u6 u7 u8 u9 u195 u197 ls H locs h (lv_sub hl [1, 2, 3, 0] rfl) hH
                                                            · have h := h.2 c198
                                                              refine v_iconst (v := (0 : Int32)) X dL_law_996 (by decide) ?_
                                                              exact h.elim
                                                          · have h := h.2 c193
                                                            by_cases c199 : x23 = (26 : Int32)
                                                            · have h := h.1 c199
                                                              refine v_tableIn (tgt := 998) (off := 965) X dL_law_33 (by rw [c199]; decide) (by rw [c199]; decide) (by rw [c199]; rfl) (by decide) ?_
                                                              refine v_aload_n X dL_law_998 rfl (lv_at hl 1 rfl) ?_
                                                              refine v_aload_n X dL_law_999 rfl (lv_at hl 0 rfl) ?_
                                                              refine v_iload_n X dL_law_1000 rfl (lv_at hl 3 rfl) ?_
                                                              refine v_iconst (v := (1 : Int32)) X dL_law_1001 (by decide) ?_
                                                              refine v_iadd X dL_law_1002 ?_
                                                              have hin := h.1
                                                              have h := h.2
                                                              refine v_sld X hX hH.2.2 hin dL_law_1003 ?_
                                                              refine wrVI (As := [.int (xs (x1 + (1 : Int32)).toNatClampNeg)]) (rest := []) (wr := ((((((([] : va_W) ++ CX1 K tr u4) ++ CX5 K tp u5) ++ CX4 K se u7) ++ CX2 K ak u8) ++ CRows K ro u9) ++ CX7 K mo u11)) X mv_L_122 (C_X6_restore F.2.1 D K t x no tr tp ac se ak ro im u2 u3 u6 u10 (xs (x1 + (1 : Int32)).toNatClampNeg) _ h) hF ⟨rfl, rfl, Nat.le_of_ble_eq_true rfl, Nat.le_of_ble_eq_true rfl⟩ hT hA (hH.mix (pmR (pmC (pmR (pmR (pmR (pmC (pmR (pmR (pmC pm0)))))))))) _ _ cut_app (((((((([] : va_W) ++ CX1 K tr u4) ++ CX5 K tp u5) ++ CX4 K se u7) ++ CX2 K ak u8) ++ CRows K ro u9) ++ CX7 K mo u11)).length get_mid rfl hl.1 rfl rfl (Nat.le_of_ble_eq_true rfl) dL_law_1004 (fun r200 u203 H locs h hH => ?_)
                                                              obtain ⟨u201, u202⟩ := u203
                                                              have hH : HH F D A (((((((([] : va_W) ++ CX1 K tr u4) ++ CX5 K tp u5) ++ CX4 K se u7) ++ CX2 K ak u8) ++ CRows K ro u9) ++ CX7 K mo u11) ++ (CX6 K x no tr tp ac se ak ro im u2 ++ CX1 K no u201 ++ CX0 K ac u202 ++ CImgs K im u10)) H locs := hH
                                                              have hH : HH F D A (CX6 K x no tr tp ac se ak ro im u2 ++ CX1 K no u201 ++ CX1 K tr u4 ++ CX5 K tp u5 ++ CX0 K ac u202 ++ CX4 K se u7 ++ CX2 K ak u8 ++ CRows K ro u9 ++ CImgs K im u10 ++ CX7 K mo u11) H locs := hH.mix ((pmR (pmC (pmR (pmR (pmR (pmC (pmR (pmR (pmC pm0)))))))))).symm
                                                              refine v_aload_n X dL_law_1007 rfl (lv_at hl 2 rfl) ?_
                                                              refine v_aload_n X dL_law_1008 rfl (lv_at hl 0 rfl) ?_
                                                              refine v_iload_n X dL_law_1009 rfl (lv_at hl 3 rfl) ?_
                                                              refine v_iconst (v := (1 : Int32)) X dL_law_1010 (by decide) ?_
                                                              refine v_iadd X dL_law_1011 ?_
                                                              have hin := h.1
                                                              have h := h.2
                                                              refine v_sld X hX hH.2.2 hin dL_law_1012 ?_
                                                              refine wrVI (As := [.int (xs (x1 + (1 : Int32)).toNatClampNeg)]) (rest := [.int r200]) (wr := (((((((((([] : va_W) ++ CX6 K x no tr tp ac se ak ro im u2) ++ CX1 K no u201) ++ CX1 K tr u4) ++ CX5 K tp u5) ++ CX0 K ac u202) ++ CX4 K se u7) ++ CX2 K ak u8) ++ CRows K ro u9) ++ CImgs K im u10)) X mv_L_125 (c_X7_restore F.2.1 D K t mo u11 (xs (x1 + (1 : Int32)).toNatClampNeg) _ h) hF ⟨rfl, rfl, Nat.le_of_ble_eq_true rfl, Nat.le_of_ble_eq_true rfl⟩ hT hA (hH.mix (pme (pme (pme (pme (pme (pme (pme (pme (pme pm0)))))))))) _ _ cut_app ((((((((((([] : va_W) ++ CX6 K x no tr tp ac se ak ro im u2) ++ CX1 K no u201) ++ CX1 K tr u4) ++ CX5 K tp u5) ++ CX0 K ac u202) ++ CX4 K se u7) ++ CX2 K ak u8) ++ CRows K ro u9) ++ CImgs K im u10)).length get_mid rfl hl.1 rfl rfl (Nat.le_of_ble_eq_true rfl) dL_law_1013 (fun r204 u205 H locs h hH => ?_)
                                                              have hH : HH F D A ((((((((((([] : va_W) ++ CX6 K x no tr tp ac se ak ro im u2) ++ CX1 K no u201) ++ CX1 K tr u4) ++ CX5 K tp u5) ++ CX0 K ac u202) ++ CX4 K se u7) ++ CX2 K ak u8) ++ CRows K ro u9) ++ CImgs K im u10) ++ (CX7 K mo u205)) H locs := hH
                                                              have hH : HH F D A (CX6 K x no tr tp ac se ak ro im u2 ++ CX1 K no u201 ++ CX1 K tr u4 ++ CX5 K tp u5 ++ CX0 K ac u202 ++ CX4 K se u7 ++ CX2 K ak u8 ++ CRows K ro u9 ++ CImgs K im u10 ++ CX7 K mo u205) H locs := hH.mix ((pme (pme (pme (pme (pme (pme (pme (pme (pme pm0)))))))))).symm
                                                              refine v_icmp_eq (tgt := 1169) X dL_law_1016 (by decide) (fun c206 => ?_) (fun c206 => ?_)
                                                              · have h := h.1 c206
                                                                refine v_iinc (v := (x1 + (6 : Int32))) (lv' := [(3, .int (x1 + (6 : Int32))), (0, .ref b), (1, .ref (x 0)), (2, .ref (mo 0))]) X dL_law_1169 hl (k := 3) rfl rfl (by decide) rfl (fun ls hl => ?_)
                                                                refine v_goto (tgt := 18) X dL_law_1172 (by decide) ?_
                                                                exact ih18 (x1 + (6 : Int32)) u2 u201 u4 u5 u202 u7 u8 u9 u10 u205 ls H locs h (lv_sub hl [1, 2, 3, 0] rfl) hH
                                                              · have h := h.2 c206
                                                                refine v_iconst (v := (0 : Int32)) X dL_law_1019 (by decide) ?_
                                                                exact h.elim
                                                            · have h := h.2 c199
                                                              by_cases c207 : x23 = (27 : Int32)
                                                              · have h := h.1 c207
                                                                refine v_tableIn (tgt := 1021) (off := 988) X dL_law_33 (by rw [c207]; decide) (by rw [c207]; decide) (by rw [c207]; rfl) (by decide) ?_
                                                                refine v_aload_n X dL_law_1021 rfl (lv_at hl 1 rfl) ?_
                                                                refine v_aload_n X dL_law_1022 rfl (lv_at hl 0 rfl) ?_
                                                                refine v_iload_n X dL_law_1023 rfl (lv_at hl 3 rfl) ?_
                                                                refine v_iconst (v := (1 : Int32)) X dL_law_1024 (by decide) ?_
                                                                refine v_iadd X dL_law_1025 ?_
                                                                have hin := h.1
                                                                have h := h.2
                                                                refine v_sld X hX hH.2.2 hin dL_law_1026 ?_
                                                                have hQ := hH.mix (ws' := ((((((((([] : va_W) ++ CX1 K tr u4) ++ CX5 K tp u5) ++ CX0 K ac u6) ++ CX4 K se u7) ++ CX2 K ak u8) ++ CRows K ro u9) ++ CImgs K im u10) ++ CX7 K mo u11) ++ (CX6 K x no tr tp ac se ak ro im u2 ++ CX1 K no u3)) (pmR (pmR (pmR (pmR (pmR (pmR (pmR (pmR (pmC pm0)))))))))
                                                                refine rdV (As := [.int (xs (x1 + (1 : Int32)).toNatClampNeg)]) (rest := []) X mv_L_126 (c_X6_kind F.2.1 D K t x no tr tp ac se ak ro im u2 u3 (xs (x1 + (1 : Int32)).toNatClampNeg) _ h) hF ⟨rfl, rfl, Nat.le_of_ble_eq_true rfl, Nat.le_of_ble_eq_true rfl⟩ (stW hT hQ) hQ.1 _ (Cut.sub cut_app) (((((((((([] : va_W) ++ CX1 K tr u4) ++ CX5 K tp u5) ++ CX0 K ac u6) ++ CX4 K se u7) ++ CX2 K ak u8) ++ CRows K ro u9) ++ CImgs K im u10) ++ CX7 K mo u11)).length get_mid rfl hl.1 rfl rfl (Nat.le_of_ble_eq_true rfl) dL_law_1027 (fun r208 h => ?_)
                                                                refine v_aload_n X dL_law_1030 rfl (lv_at hl 2 rfl) ?_
                                                                refine v_aload_n X dL_law_1031 rfl (lv_at hl 0 rfl) ?_
                                                                refine v_iload_n X dL_law_1032 rfl (lv_at hl 3 rfl) ?_
                                                                refine v_iconst (v := (1 : Int32)) X dL_law_1033 (by decide) ?_
                                                                refine v_iadd X dL_law_1034 ?_
                                                                have hin := h.1
                                                                have h := h.2
                                                                refine v_sld X hX hH.2.2 hin dL_law_1035 ?_
                                                                have hQ := hH.mix (ws' := (((((((((([] : va_W) ++ CX6 K x no tr tp ac se ak ro im u2) ++ CX1 K no u3) ++ CX1 K tr u4) ++ CX5 K tp u5) ++ CX0 K ac u6) ++ CX4 K se u7) ++ CX2 K ak u8) ++ CRows K ro u9) ++ CImgs K im u10) ++ (CX7 K mo u11)) (pme (pme (pme (pme (pme (pme (pme (pme (pme pm0)))))))))
                                                                refine rdV (As := [.int (xs (x1 + (1 : Int32)).toNatClampNeg)]) (rest := [.int r208]) X mv_L_129 (c_X7_kind F.2.1 D K t mo u11 (xs (x1 + (1 : Int32)).toNatClampNeg) _ h) hF ⟨rfl, rfl, Nat.le_of_ble_eq_true rfl, Nat.le_of_ble_eq_true rfl⟩ (stW hT hQ) hQ.1 _ (Cut.sub cut_app) ((((((((((([] : va_W) ++ CX6 K x no tr tp ac se ak ro im u2) ++ CX1 K no u3) ++ CX1 K tr u4) ++ CX5 K tp u5) ++ CX0 K ac u6) ++ CX4 K se u7) ++ CX2 K ak u8) ++ CRows K ro u9) ++ CImgs K im u10)).length get_mid rfl hl.1 rfl rfl (Nat.le_of_ble_eq_true rfl) dL_law_1036 (fun r209 h => ?_)
                                                                refine v_icmp_eq (tgt := 1169) X dL_law_1039 (by decide) (fun c210 => ?_) (fun c210 => ?_)
                                                                · have h := h.1 c210
                                                                  refine v_iinc (v := (x1 + (6 : Int32))) (lv' := [(3, .int (x1 + (6 : Int32))), (0, .ref b), (1, .ref (x 0)), (2, .ref (mo 0))]) X dL_law_1169 hl (k := 3) rfl rfl (by decide) rfl (fun ls hl => ?_)
                                                                  refine v_goto (tgt := 18) X dL_law_1172 (by decide) ?_
                                                                  exact ih18 (x1 + (6 : Int32)) u2 u3 u4 u5 u6 u7 u8 u9 u10 u11 ls H locs h (lv_sub hl [1, 2, 3, 0] rfl) hH
                                                                · have h := h.2 c210
                                                                  refine v_iconst (v := (0 : Int32)) X dL_law_1042 (by decide) ?_
                                                                  exact h.elim
                                                              · have h := h.2 c207
                                                                by_cases c211 : x23 = (28 : Int32)
                                                                · have h := h.1 c211
                                                                  refine v_tableIn (tgt := 1044) (off := 1011) X dL_law_33 (by rw [c211]; decide) (by rw [c211]; decide) (by rw [c211]; rfl) (by decide) ?_
                                                                  refine v_aload_n X dL_law_1044 rfl (lv_at hl 1 rfl) ?_
                                                                  refine v_aload_n X dL_law_1045 rfl (lv_at hl 0 rfl) ?_
                                                                  refine v_iload_n X dL_law_1046 rfl (lv_at hl 3 rfl) ?_
                                                                  refine v_iconst (v := (1 : Int32)) X dL_law_1047 (by decide) ?_
                                                                  refine v_iadd X dL_law_1048 ?_
                                                                  have hin := h.1
                                                                  have h := h.2
                                                                  refine v_sld X hX hH.2.2 hin dL_law_1049 ?_
                                                                  refine v_aload_n X dL_law_1050 rfl (lv_at hl 0 rfl) ?_
                                                                  refine v_iload_n X dL_law_1051 rfl (lv_at hl 3 rfl) ?_
                                                                  refine v_iconst (v := (2 : Int32)) X dL_law_1052 (by decide) ?_
                                                                  refine v_iadd X dL_law_1053 ?_
                                                                  have hin := h.1
                                                                  have h := h.2
                                                                  refine v_sld X hX hH.2.2 hin dL_law_1054 ?_
                                                                  refine wrVI (As := [.int (xs (x1 + (1 : Int32)).toNatClampNeg), .int (xs (x1 + (2 : Int32)).toNatClampNeg)]) (rest := []) (wr := ((((((((([] : va_W) ++ CX1 K tr u4) ++ CX5 K tp u5) ++ CX0 K ac u6) ++ CX4 K se u7) ++ CX2 K ak u8) ++ CRows K ro u9) ++ CImgs K im u10) ++ CX7 K mo u11)) X mv_L_130 (c_X6_as F.2.1 D K t x no tr tp ac se ak ro im u2 u3 (xs (x1 + (1 : Int32)).toNatClampNeg) (xs (x1 + (2 : Int32)).toNatClampNeg) _ h) hF ⟨rfl, rfl, Nat.le_of_ble_eq_true rfl, Nat.le_of_ble_eq_true rfl⟩ hT hA (hH.mix (pmR (pmR (pmR (pmR (pmR (pmR (pmR (pmR (pmC pm0)))))))))) _ _ cut_app (((((((((([] : va_W) ++ CX1 K tr u4) ++ CX5 K tp u5) ++ CX0 K ac u6) ++ CX4 K se u7) ++ CX2 K ak u8) ++ CRows K ro u9) ++ CImgs K im u10) ++ CX7 K mo u11)).length get_mid rfl hl.1 rfl rfl (Nat.le_of_ble_eq_true rfl) dL_law_1055 (fun r212 u213 H locs h hH => ?_)
                                                                  have hH : HH F D A (((((((((([] : va_W) ++ CX1 K tr u4) ++ CX5 K tp u5) ++ CX0 K ac u6) ++ CX4 K se u7) ++ CX2 K ak u8) ++ CRows K ro u9) ++ CImgs K im u10) ++ CX7 K mo u11) ++ (CX6 K x no tr tp ac se ak ro im u213 ++ CX1 K no u3)) H locs := hH
                                                                  have hH : HH F D A (CX6 K x no tr tp ac se ak ro im u213 ++ CX1 K no u3 ++ CX1 K tr u4 ++ CX5 K tp u5 ++ CX0 K ac u6 ++ CX4 K se u7 ++ CX2 K ak u8 ++ CRows K ro u9 ++ CImgs K im u10 ++ CX7 K mo u11) H locs := hH.mix ((pmR (pmR (pmR (pmR (pmR (pmR (pmR (pmR (pmC pm0)))))))))).symm
                                                                  refine v_aload_n X dL_law_1058 rfl (lv_at hl 2 rfl) ?_
                                                                  refine v_aload_n X dL_law_1059 rfl (lv_at hl 0 rfl) ?_
                                                                  refine v_iload_n X dL_law_1060 rfl (lv_at hl 3 rfl) ?_
                                                                  refine v_iconst (v := (1 : Int32)) X dL_law_1061 (by decide) ?_
                                                                  refine v_iadd X dL_law_1062 ?_
                                                                  have hin := h.1
                                                                  have h := h.2
                                                                  refine v_sld X hX hH.2.2 hin dL_law_1063 ?_
                                                                  refine v_aload_n X dL_law_1064 rfl (lv_at hl 0 rfl) ?_
                                                                  refine v_iload_n X dL_law_1065 rfl (lv_at hl 3 rfl) ?_
                                                                  refine v_iconst (v := (2 : Int32)) X dL_law_1066 (by decide) ?_
                                                                  refine v_iadd X dL_law_1067 ?_
                                                                  have hin := h.1
                                                                  have h := h.2
                                                                  refine v_sld X hX hH.2.2 hin dL_law_1068 ?_
                                                                  refine wrVI (As := [.int (xs (x1 + (1 : Int32)).toNatClampNeg), .int (xs (x1 + (2 : Int32)).toNatClampNeg)]) (rest := [.int r212]) (wr := (((((((((([] : va_W) ++ CX6 K x no tr tp ac se ak ro im u213) ++ CX1 K no u3) ++ CX1 K tr u4) ++ CX5 K tp u5) ++ CX0 K ac u6) ++ CX4 K se u7) ++ CX2 K ak u8) ++ CRows K ro u9) ++ CImgs K im u10)) X mv_L_133 (c_X7_as F.2.1 D K t mo u11 (xs (x1 + (1 : Int32)).toNatClampNeg) (xs (x1 + (2 : Int32)).toNatClampNeg) _ h) hF ⟨rfl, rfl, Nat.le_of_ble_eq_true rfl, Nat.le_of_ble_eq_true rfl⟩ hT hA (hH.mix (pme (pme (pme (pme (pme (pme (pme (pme (pme pm0)))))))))) _ _ cut_app ((((((((((([] : va_W) ++ CX6 K x no tr tp ac se ak ro im u213) ++ CX1 K no u3) ++ CX1 K tr u4) ++ CX5 K tp u5) ++ CX0 K ac u6) ++ CX4 K se u7) ++ CX2 K ak u8) ++ CRows K ro u9) ++ CImgs K im u10)).length get_mid rfl hl.1 rfl rfl (Nat.le_of_ble_eq_true rfl) dL_law_1069 (fun r214 u215 H locs h hH => ?_)
                                                                  have hH : HH F D A ((((((((((([] : va_W) ++ CX6 K x no tr tp ac se ak ro im u213) ++ CX1 K no u3) ++ CX1 K tr u4) ++ CX5 K tp u5) ++ CX0 K ac u6) ++ CX4 K se u7) ++ CX2 K ak u8) ++ CRows K ro u9) ++ CImgs K im u10) ++ (CX7 K mo u215)) H locs := hH
                                                                  have hH : HH F D A (CX6 K x no tr tp ac se ak ro im u213 ++ CX1 K no u3 ++ CX1 K tr u4 ++ CX5 K tp u5 ++ CX0 K ac u6 ++ CX4 K se u7 ++ CX2 K ak u8 ++ CRows K ro u9 ++ CImgs K im u10 ++ CX7 K mo u215) H locs := hH.mix ((pme (pme (pme (pme (pme (pme (pme (pme (pme pm0)))))))))).symm
                                                                  refine v_icmp_eq (tgt := 1169) X dL_law_1072 (by decide) (fun c216 => ?_) (fun c216 => ?_)
                                                                  · have h := h.1 c216
                                                                    refine v_iinc (v := (x1 + (6 : Int32))) (lv' := [(3, .int (x1 + (6 : Int32))), (0, .ref b), (1, .ref (x 0)), (2, .ref (mo 0))]) X dL_law_1169 hl (k := 3) rfl rfl (by decide) rfl (fun ls hl => ?_)
                                                                    refine v_goto (tgt := 18) X dL_law_1172 (by decide) ?_
                                                                    exact ih18 (x1 + (6 : Int32)) u213 u3 u4 u5 u6 u7 u8 u9 u10 u215 ls H locs h (lv_sub hl [1, 2, 3, 0] rfl) hH
                                                                  · have h := h.2 c216
                                                                    refine v_iconst (v := (0 : Int32)) X dL_law_1075 (by decide) ?_
                                                                    exact h.elim
                                                                · have h := h.2 c211
                                                                  by_cases c217 : x23 = (29 : Int32)
                                                                  · have h := h.1 c217
                                                                    refine v_tableIn (tgt := 1077) (off := 1044) X dL_law_33 (by rw [c217]; decide) (by rw [c217]; decide) (by rw [c217]; rfl) (by decide) ?_
                                                                    refine v_aload_n X dL_law_1077 rfl (lv_at hl 1 rfl) ?_
                                                                    refine v_aload_n X dL_law_1078 rfl (lv_at hl 0 rfl) ?_
                                                                    refine v_iload_n X dL_law_1079 rfl (lv_at hl 3 rfl) ?_
                                                                    refine v_iconst (v := (1 : Int32)) X dL_law_1080 (by decide) ?_
                                                                    refine v_iadd X dL_law_1081 ?_
                                                                    have hin := h.1
                                                                    have h := h.2
                                                                    refine v_sld X hX hH.2.2 hin dL_law_1082 ?_
                                                                    refine v_aload_n X dL_law_1083 rfl (lv_at hl 0 rfl) ?_
                                                                    refine v_iload_n X dL_law_1084 rfl (lv_at hl 3 rfl) ?_
                                                                    refine v_iconst (v := (2 : Int32)) X dL_law_1085 (by decide) ?_
                                                                    refine v_iadd X dL_law_1086 ?_
                                                                    have hin := h.1
                                                                    have h := h.2
                                                                    refine v_sld X hX hH.2.2 hin dL_law_1087 ?_
                                                                    refine wrVI (As := [.int (xs (x1 + (1 : Int32)).toNatClampNeg), .int (xs (x1 + (2 : Int32)).toNatClampNeg)]) (rest := []) (wr := (((((((([] : va_W) ++ CX1 K tr u4) ++ CX5 K tp u5) ++ CX0 K ac u6) ++ CX4 K se u7) ++ CRows K ro u9) ++ CImgs K im u10) ++ CX7 K mo u11)) X mv_L_134 (c_X6_ask F.2.1 D K t x no tr tp ac se ak ro im u2 u3 u8 (xs (x1 + (1 : Int32)).toNatClampNeg) (xs (x1 + (2 : Int32)).toNatClampNeg) _ h) hF ⟨rfl, rfl, Nat.le_of_ble_eq_true rfl, Nat.le_of_ble_eq_true rfl⟩ hT hA (hH.mix (pmR (pmR (pmR (pmC (pmR (pmR (pmR (pmR (pmC pm0)))))))))) _ _ cut_app ((((((((([] : va_W) ++ CX1 K tr u4) ++ CX5 K tp u5) ++ CX0 K ac u6) ++ CX4 K se u7) ++ CRows K ro u9) ++ CImgs K im u10) ++ CX7 K mo u11)).length get_mid rfl hl.1 rfl rfl (Nat.le_of_ble_eq_true rfl) dL_law_1088 (fun r218 u219 H locs h hH => ?_)
                                                                    have hH : HH F D A ((((((((([] : va_W) ++ CX1 K tr u4) ++ CX5 K tp u5) ++ CX0 K ac u6) ++ CX4 K se u7) ++ CRows K ro u9) ++ CImgs K im u10) ++ CX7 K mo u11) ++ (CX6 K x no tr tp ac se ak ro im u2 ++ CX1 K no u3 ++ CX2 K ak u219)) H locs := hH
                                                                    have hH : HH F D A (CX6 K x no tr tp ac se ak ro im u2 ++ CX1 K no u3 ++ CX1 K tr u4 ++ CX5 K tp u5 ++ CX0 K ac u6 ++ CX4 K se u7 ++ CX2 K ak u219 ++ CRows K ro u9 ++ CImgs K im u10 ++ CX7 K mo u11) H locs := hH.mix ((pmR (pmR (pmR (pmC (pmR (pmR (pmR (pmR (pmC pm0)))))))))).symm
                                                                    refine v_aload_n X dL_law_1091 rfl (lv_at hl 2 rfl) ?_
                                                                    refine v_aload_n X dL_law_1092 rfl (lv_at hl 0 rfl) ?_
                                                                    refine v_iload_n X dL_law_1093 rfl (lv_at hl 3 rfl) ?_
                                                                    refine v_iconst (v := (1 : Int32)) X dL_law_1094 (by decide) ?_
                                                                    refine v_iadd X dL_law_1095 ?_
                                                                    have hin := h.1
                                                                    have h := h.2
                                                                    refine v_sld X hX hH.2.2 hin dL_law_1096 ?_
                                                                    refine v_aload_n X dL_law_1097 rfl (lv_at hl 0 rfl) ?_
                                                                    refine v_iload_n X dL_law_1098 rfl (lv_at hl 3 rfl) ?_
                                                                    refine v_iconst (v := (2 : Int32)) X dL_law_1099 (by decide) ?_
                                                                    refine v_iadd X dL_law_1100 ?_
                                                                    have hin := h.1
                                                                    have h := h.2
                                                                    refine v_sld X hX hH.2.2 hin dL_law_1101 ?_
                                                                    refine wrVI (As := [.int (xs (x1 + (1 : Int32)).toNatClampNeg), .int (xs (x1 + (2 : Int32)).toNatClampNeg)]) (rest := [.int r218]) (wr := (((((((((([] : va_W) ++ CX6 K x no tr tp ac se ak ro im u2) ++ CX1 K no u3) ++ CX1 K tr u4) ++ CX5 K tp u5) ++ CX0 K ac u6) ++ CX4 K se u7) ++ CX2 K ak u219) ++ CRows K ro u9) ++ CImgs K im u10)) X mv_L_137 (c_X7_ask F.2.1 D K t mo u11 (xs (x1 + (1 : Int32)).toNatClampNeg) (xs (x1 + (2 : Int32)).toNatClampNeg) _ h) hF ⟨rfl, rfl, Nat.le_of_ble_eq_true rfl, Nat.le_of_ble_eq_true rfl⟩ hT hA (hH.mix (pme (pme (pme (pme (pme (pme (pme (pme (pme pm0)))))))))) _ _ cut_app ((((((((((([] : va_W) ++ CX6 K x no tr tp ac se ak ro im u2) ++ CX1 K no u3) ++ CX1 K tr u4) ++ CX5 K tp u5) ++ CX0 K ac u6) ++ CX4 K se u7) ++ CX2 K ak u219) ++ CRows K ro u9) ++ CImgs K im u10)).length get_mid rfl hl.1 rfl rfl (Nat.le_of_ble_eq_true rfl) dL_law_1102 (fun r220 u221 H locs h hH => ?_)
                                                                    have hH : HH F D A ((((((((((([] : va_W) ++ CX6 K x no tr tp ac se ak ro im u2) ++ CX1 K no u3) ++ CX1 K tr u4) ++ CX5 K tp u5) ++ CX0 K ac u6) ++ CX4 K se u7) ++ CX2 K ak u219) ++ CRows K ro u9) ++ CImgs K im u10) ++ (CX7 K mo u221)) H locs := hH
                                                                    have hH : HH F D A (CX6 K x no tr tp ac se ak ro im u2 ++ CX1 K no u3 ++ CX1 K tr u4 ++ CX5 K tp u5 ++ CX0 K ac u6 ++ CX4 K se u7 ++ CX2 K ak u219 ++ CRows K ro u9 ++ CImgs K im u10 ++ CX7 K mo u221) H locs := hH.mix ((pme (pme (pme (pme (pme (pme (pme (pme (pme pm0)))))))))).symm
                                                                    refine v_icmp_eq (tgt := 1169) X dL_law_1105 (by decide) (fun c222 => ?_) (fun c222 => ?_)
                                                                    · have h := h.1 c222
                                                                      refine v_iinc (v := (x1 + (6 : Int32))) (lv' := [(3, .int (x1 + (6 : Int32))), (0, .ref b), (1, .ref (x 0)), (2, .ref (mo 0))]) X dL_law_1169 hl (k := 3) rfl rfl (by decide) rfl (fun ls hl => ?_)
                                                                      refine v_goto (tgt := 18) X dL_law_1172 (by decide) ?_
                                                                      exact ih18 (x1 + (6 : Int32)) u2 u3 u4 u5 u6 u7 u219 u9 u10 u221 ls H locs h (lv_sub hl [1, 2, 3, 0] rfl) hH
                                                                    · have h := h.2 c222
                                                                      refine v_iconst (v := (0 : Int32)) X dL_law_1108 (by decide) ?_
                                                                      exact h.elim
                                                                  · have h := h.2 c217
                                                                    by_cases c223 : x23 = (30 : Int32)
                                                                    · have h := h.1 c223
                                                                      refine v_tableIn (tgt := 1110) (off := 1077) X dL_law_33 (by rw [c223]; decide) (by rw [c223]; decide) (by rw [c223]; rfl) (by decide) ?_
                                                                      refine v_aload_n X dL_law_1110 rfl (lv_at hl 1 rfl) ?_
                                                                      refine v_aload_n X dL_law_1111 rfl (lv_at hl 0 rfl) ?_
                                                                      refine v_iload_n X dL_law_1112 rfl (lv_at hl 3 rfl) ?_
                                                                      refine v_iconst (v := (1 : Int32)) X dL_law_1113 (by decide) ?_
                                                                      refine v_iadd X dL_law_1114 ?_
                                                                      have hin := h.1
                                                                      have h := h.2
                                                                      refine v_sld X hX hH.2.2 hin dL_law_1115 ?_
                                                                      have hQ := hH.mix (ws' := ((((((((([] : va_W) ++ CX1 K no u3) ++ CX1 K tr u4) ++ CX5 K tp u5) ++ CX0 K ac u6) ++ CX4 K se u7) ++ CRows K ro u9) ++ CImgs K im u10) ++ CX7 K mo u11) ++ (CX6 K x no tr tp ac se ak ro im u2 ++ CX2 K ak u8)) (pmR (pmR (pmR (pmC (pmR (pmR (pmR (pmR (pmR pm0)))))))))
                                                                      refine rdV (As := [.int (xs (x1 + (1 : Int32)).toNatClampNeg)]) (rest := []) X mv_L_138 (c_X6_trace F.2.1 D K t x no tr tp ac se ak ro im u2 u8 (xs (x1 + (1 : Int32)).toNatClampNeg) _ h) hF ⟨rfl, rfl, Nat.le_of_ble_eq_true rfl, Nat.le_of_ble_eq_true rfl⟩ (stW hT hQ) hQ.1 _ (Cut.sub cut_app) (((((((((([] : va_W) ++ CX1 K no u3) ++ CX1 K tr u4) ++ CX5 K tp u5) ++ CX0 K ac u6) ++ CX4 K se u7) ++ CRows K ro u9) ++ CImgs K im u10) ++ CX7 K mo u11)).length get_mid rfl hl.1 rfl rfl (Nat.le_of_ble_eq_true rfl) dL_law_1116 (fun r224 h => ?_)
                                                                      refine v_aload_n X dL_law_1119 rfl (lv_at hl 2 rfl) ?_
                                                                      refine v_aload_n X dL_law_1120 rfl (lv_at hl 0 rfl) ?_
                                                                      refine v_iload_n X dL_law_1121 rfl (lv_at hl 3 rfl) ?_
                                                                      refine v_iconst (v := (1 : Int32)) X dL_law_1122 (by decide) ?_
                                                                      refine v_iadd X dL_law_1123 ?_
                                                                      have hin := h.1
                                                                      have h := h.2
                                                                      refine v_sld X hX hH.2.2 hin dL_law_1124 ?_
                                                                      have hQ := hH.mix (ws' := (((((((((([] : va_W) ++ CX6 K x no tr tp ac se ak ro im u2) ++ CX1 K no u3) ++ CX1 K tr u4) ++ CX5 K tp u5) ++ CX0 K ac u6) ++ CX4 K se u7) ++ CX2 K ak u8) ++ CRows K ro u9) ++ CImgs K im u10) ++ (CX7 K mo u11)) (pme (pme (pme (pme (pme (pme (pme (pme (pme pm0)))))))))
                                                                      refine rdV (As := [.int (xs (x1 + (1 : Int32)).toNatClampNeg)]) (rest := [.int r224]) X mv_L_141 (c_X7_trace F.2.1 D K t mo u11 (xs (x1 + (1 : Int32)).toNatClampNeg) _ h) hF ⟨rfl, rfl, Nat.le_of_ble_eq_true rfl, Nat.le_of_ble_eq_true rfl⟩ (stW hT hQ) hQ.1 _ (Cut.sub cut_app) ((((((((((([] : va_W) ++ CX6 K x no tr tp ac se ak ro im u2) ++ CX1 K no u3) ++ CX1 K tr u4) ++ CX5 K tp u5) ++ CX0 K ac u6) ++ CX4 K se u7) ++ CX2 K ak u8) ++ CRows K ro u9) ++ CImgs K im u10)).length get_mid rfl hl.1 rfl rfl (Nat.le_of_ble_eq_true rfl) dL_law_1125 (fun r225 h => ?_)
                                                                      refine v_icmp_eq (tgt := 1169) X dL_law_1128 (by decide) (fun c226 => ?_) (fun c226 => ?_)
                                                                      · have h := h.1 c226
                                                                        refine v_iinc (v := (x1 + (6 : Int32))) (lv' := [(3, .int (x1 + (6 : Int32))), (0, .ref b), (1, .ref (x 0)), (2, .ref (mo 0))]) X dL_law_1169 hl (k := 3) rfl rfl (by decide) rfl (fun ls hl => ?_)
                                                                        refine v_goto (tgt := 18) X dL_law_1172 (by decide) ?_
                                                                        exact ih18 (x1 + (6 : Int32)) u2 u3 u4 u5 u6 u7 u8 u9 u10 u11 ls H locs h (lv_sub hl [1, 2, 3, 0] rfl) hH
                                                                      · have h := h.2 c226
                                                                        refine v_iconst (v := (0 : Int32)) X dL_law_1131 (by decide) ?_
                                                                        exact h.elim
                                                                    · have h := h.2 c223
                                                                      by_cases c227 : x23 = (31 : Int32)
                                                                      · have h := h.1 c227
                                                                        refine v_tableIn (tgt := 1133) (off := 1100) X dL_law_33 (by rw [c227]; decide) (by rw [c227]; decide) (by rw [c227]; rfl) (by decide) ?_
                                                                        refine v_aload_n X dL_law_1133 rfl (lv_at hl 1 rfl) ?_
                                                                        refine v_aload_n X dL_law_1134 rfl (lv_at hl 0 rfl) ?_
                                                                        refine v_iload_n X dL_law_1135 rfl (lv_at hl 3 rfl) ?_
                                                                        refine v_iconst (v := (1 : Int32)) X dL_law_1136 (by decide) ?_
                                                                        refine v_iadd X dL_law_1137 ?_
                                                                        have hin := h.1
                                                                        have h := h.2
                                                                        refine v_sld X hX hH.2.2 hin dL_law_1138 ?_
                                                                        have hQ := hH.mix (ws' := (((((([] : va_W) ++ CX1 K tr u4) ++ CX4 K se u7) ++ CX2 K ak u8) ++ CImgs K im u10) ++ CX7 K mo u11) ++ (CX6 K x no tr tp ac se ak ro im u2 ++ CX1 K no u3 ++ CX5 K tp u5 ++ CX0 K ac u6 ++ CRows K ro u9)) (pmR (pmR (pmC (pmR (pmR (pmC (pmC (pmR (pmC pm0)))))))))
                                                                        refine rdV (As := [.int (xs (x1 + (1 : Int32)).toNatClampNeg)]) (rest := []) X mv_L_142 (c_X6_count F.2.1 D K t x no tr tp ac se ak ro im u2 u3 u5 u6 (u9 0) (u9 1) (u9 2) (u9 3) (u9 4) (u9 5) (u9 6) (u9 7) (xs (x1 + (1 : Int32)).toNatClampNeg) _ h) hF ⟨rfl, rfl, Nat.le_of_ble_eq_true rfl, Nat.le_of_ble_eq_true rfl⟩ (stW hT hQ) (hQ.1.sub _ (Cut.sub cut_app)) [0, 1, 2, 3, 4, 5, 6, 7, 8, 9, 10, 11, 12, 13, 14, 15, 16, 17, 18, 19, 20, 21, 22, 23, 24, 25, 26, 27, 28, 29, 30] rfl 0 rfl rfl hl.1 rfl rfl (Nat.le_of_ble_eq_true rfl) dL_law_1139 (fun r228 h => ?_)
                                                                        refine v_aload_n X dL_law_1142 rfl (lv_at hl 2 rfl) ?_
                                                                        refine v_aload_n X dL_law_1143 rfl (lv_at hl 0 rfl) ?_
                                                                        refine v_iload_n X dL_law_1144 rfl (lv_at hl 3 rfl) ?_
                                                                        refine v_iconst (v := (1 : Int32)) X dL_law_1145 (by decide) ?_
                                                                        refine v_iadd X dL_law_1146 ?_
                                                                        have hin := h.1
                                                                        have h := h.2
                                                                        refine v_sld X hX hH.2.2 hin dL_law_1147 ?_
                                                                        have hQ := hH.mix (ws' := (((((((((([] : va_W) ++ CX6 K x no tr tp ac se ak ro im u2) ++ CX1 K no u3) ++ CX1 K tr u4) ++ CX5 K tp u5) ++ CX0 K ac u6) ++ CX4 K se u7) ++ CX2 K ak u8) ++ CRows K ro u9) ++ CImgs K im u10) ++ (CX7 K mo u11)) (pme (pme (pme (pme (pme (pme (pme (pme (pme pm0)))))))))
                                                                        refine rdV (As := [.int (xs (x1 + (1 : Int32)).toNatClampNeg)]) (rest := [.int r228]) X mv_L_145 (c_X7_count F.2.1 D K t mo u11 (xs (x1 + (1 : Int32)).toNatClampNeg) _ h) hF ⟨rfl, rfl, Nat.le_of_ble_eq_true rfl, Nat.le_of_ble_eq_true rfl⟩ (stW hT hQ) hQ.1 _ (Cut.sub cut_app) ((((((((((([] : va_W) ++ CX6 K x no tr tp ac se ak ro im u2) ++ CX1 K no u3) ++ CX1 K tr u4) ++ CX5 K tp u5) ++ CX0 K ac u6) ++ CX4 K se u7) ++ CX2 K ak u8) ++ CRows K ro u9) ++ CImgs K im u10)).length get_mid rfl hl.1 rfl rfl (Nat.le_of_ble_eq_true rfl) dL_law_1148 (fun r229 h => ?_)
                                                                        refine v_icmp_eq (tgt := 1169) X dL_law_1151 (by decide) (fun c230 => ?_) (fun c230 => ?_)
                                                                        · have h := h.1 c230
                                                                          refine v_iinc (v := (x1 + (6 : Int32))) (lv' := [(3, .int (x1 + (6 : Int32))), (0, .ref b), (1, .ref (x 0)), (2, .ref (mo 0))]) X dL_law_1169 hl (k := 3) rfl rfl (by decide) rfl (fun ls hl => ?_)
                                                                          refine v_goto (tgt := 18) X dL_law_1172 (by decide) ?_
                                                                          exact ih18 (x1 + (6 : Int32)) u2 u3 u4 u5 u6 u7 u8 u9 u10 u11 ls H locs h (lv_sub hl [1, 2, 3, 0] rfl) hH
                                                                        · have h := h.2 c230
                                                                          refine v_iconst (v := (0 : Int32)) X dL_law_1154 (by decide) ?_
                                                                          exact h.elim
                                                                      · have h := h.2 c227
                                                                        by_cases c231 : x23 = (32 : Int32)
                                                                        · have h := h.1 c231
                                                                          refine v_tableIn (tgt := 1156) (off := 1123) X dL_law_33 (by rw [c231]; decide) (by rw [c231]; decide) (by rw [c231]; rfl) (by decide) ?_
                                                                          refine v_aload_n X dL_law_1156 rfl (lv_at hl 1 rfl) ?_
                                                                          have hQ := hH.mix (ws' := (((((((((([] : va_W) ++ CX1 K no u3) ++ CX1 K tr u4) ++ CX5 K tp u5) ++ CX0 K ac u6) ++ CX4 K se u7) ++ CX2 K ak u8) ++ CRows K ro u9) ++ CImgs K im u10) ++ CX7 K mo u11) ++ (CX6 K x no tr tp ac se ak ro im u2)) (pmR (pmR (pmR (pmR (pmR (pmR (pmR (pmR (pmR pm0)))))))))
                                                                          refine rdV (As := []) (rest := []) X mv_L_146 (c_X6_status F.2.1 D K t x no tr tp ac se ak ro im u2 _ h) hF ⟨rfl, rfl, Nat.le_of_ble_eq_true rfl, Nat.le_of_ble_eq_true rfl⟩ (stW hT hQ) hQ.1 _ (Cut.sub cut_app) ((((((((((([] : va_W) ++ CX1 K no u3) ++ CX1 K tr u4) ++ CX5 K tp u5) ++ CX0 K ac u6) ++ CX4 K se u7) ++ CX2 K ak u8) ++ CRows K ro u9) ++ CImgs K im u10) ++ CX7 K mo u11)).length get_mid rfl hl.1 rfl rfl (Nat.le_of_ble_eq_true rfl) dL_law_1157 (fun r232 h => ?_)
                                                                          refine v_aload_n X dL_law_1160 rfl (lv_at hl 2 rfl) ?_
                                                                          have hQ := hH.mix (ws' := (((((((((([] : va_W) ++ CX6 K x no tr tp ac se ak ro im u2) ++ CX1 K no u3) ++ CX1 K tr u4) ++ CX5 K tp u5) ++ CX0 K ac u6) ++ CX4 K se u7) ++ CX2 K ak u8) ++ CRows K ro u9) ++ CImgs K im u10) ++ (CX7 K mo u11)) (pme (pme (pme (pme (pme (pme (pme (pme (pme pm0)))))))))
                                                                          refine rdV (As := []) (rest := [.int r232]) X mv_L_149 (c_X7_status F.2.1 D K t mo u11 _ h) hF ⟨rfl, rfl, Nat.le_of_ble_eq_true rfl, Nat.le_of_ble_eq_true rfl⟩ (stW hT hQ) hQ.1 _ (Cut.sub cut_app) ((((((((((([] : va_W) ++ CX6 K x no tr tp ac se ak ro im u2) ++ CX1 K no u3) ++ CX1 K tr u4) ++ CX5 K tp u5) ++ CX0 K ac u6) ++ CX4 K se u7) ++ CX2 K ak u8) ++ CRows K ro u9) ++ CImgs K im u10)).length get_mid rfl hl.1 rfl rfl (Nat.le_of_ble_eq_true rfl) dL_law_1161 (fun r233 h => ?_)
                                                                          refine v_icmp_eq (tgt := 1169) X dL_law_1164 (by decide) (fun c234 => ?_) (fun c234 => ?_)
                                                                          · have h := h.1 c234
                                                                            refine v_iinc (v := (x1 + (6 : Int32))) (lv' := [(3, .int (x1 + (6 : Int32))), (0, .ref b), (1, .ref (x 0)), (2, .ref (mo 0))]) X dL_law_1169 hl (k := 3) rfl rfl (by decide) rfl (fun ls hl => ?_)
                                                                            refine v_goto (tgt := 18) X dL_law_1172 (by decide) ?_
                                                                            exact ih18 (x1 + (6 : Int32)) u2 u3 u4 u5 u6 u7 u8 u9 u10 u11 ls H locs h (lv_sub hl [1, 2, 3, 0] rfl) hH
                                                                          · have h := h.2 c234
                                                                            refine v_iconst (v := (0 : Int32)) X dL_law_1167 (by decide) ?_
                                                                            exact h.elim
                                                                        · have h := h.2 c231
                                                                          refine v_tableOut (tgt := 1169) X dL_law_33 (by have e0 : x23.toInt ≠ 0 := fun q => c24 (Int32.toInt_inj.mp (by rw [q]; rfl)); have e1 : x23.toInt ≠ 1 := fun q => c32 (Int32.toInt_inj.mp (by rw [q]; rfl)); have e2 : x23.toInt ≠ 2 := fun q => c40 (Int32.toInt_inj.mp (by rw [q]; rfl)); have e3 : x23.toInt ≠ 3 := fun q => c48 (Int32.toInt_inj.mp (by rw [q]; rfl)); have e4 : x23.toInt ≠ 4 := fun q => c56 (Int32.toInt_inj.mp (by rw [q]; rfl)); have e5 : x23.toInt ≠ 5 := fun q => c62 (Int32.toInt_inj.mp (by rw [q]; rfl)); have e6 : x23.toInt ≠ 6 := fun q => c73 (Int32.toInt_inj.mp (by rw [q]; rfl)); have e7 : x23.toInt ≠ 7 := fun q => c77 (Int32.toInt_inj.mp (by rw [q]; rfl)); have e8 : x23.toInt ≠ 8 := fun q => c85 (Int32.toInt_inj.mp (by rw [q]; rfl)); have e9 : x23.toInt ≠ 9 := fun q => c93 (Int32.toInt_inj.mp (by rw [q]; rfl)); have e10 : x23.toInt ≠ 10 := fun q => c101 (Int32.toInt_inj.mp (by rw [q]; rfl)); have e11 : x23.toInt ≠ 11 := fun q => c109 (Int32.toInt_inj.mp (by rw [q]; rfl)); have e12 : x23.toInt ≠ 12 := fun q => c117 (Int32.toInt_inj.mp (by rw [q]; rfl)); have e13 : x23.toInt ≠ 13 := fun q => c121 (Int32.toInt_inj.mp (by rw [q]; rfl)); have e14 : x23.toInt ≠ 14 := fun q => c125 (Int32.toInt_inj.mp (by rw [q]; rfl)); have e15 : x23.toInt ≠ 15 := fun q => c131 (Int32.toInt_inj.mp (by rw [q]; rfl)); have e16 : x23.toInt ≠ 16 := fun q => c137 (Int32.toInt_inj.mp (by rw [q]; rfl)); have e17 : x23.toInt ≠ 17 := fun q => c143 (Int32.toInt_inj.mp (by rw [q]; rfl)); have e18 : x23.toInt ≠ 18 := fun q => c149 (Int32.toInt_inj.mp (by rw [q]; rfl)); have e19 : x23.toInt ≠ 19 := fun q => c155 (Int32.toInt_inj.mp (by rw [q]; rfl)); have e20 : x23.toInt ≠ 20 := fun q => c161 (Int32.toInt_inj.mp (by rw [q]; rfl)); have e21 : x23.toInt ≠ 21 := fun q => c167 (Int32.toInt_inj.mp (by rw [q]; rfl)); have e22 : x23.toInt ≠ 22 := fun q => c173 (Int32.toInt_inj.mp (by rw [q]; rfl)); have e23 : x23.toInt ≠ 23 := fun q => c181 (Int32.toInt_inj.mp (by rw [q]; rfl)); have e24 : x23.toInt ≠ 24 := fun q => c187 (Int32.toInt_inj.mp (by rw [q]; rfl)); have e25 : x23.toInt ≠ 25 := fun q => c193 (Int32.toInt_inj.mp (by rw [q]; rfl)); have e26 : x23.toInt ≠ 26 := fun q => c199 (Int32.toInt_inj.mp (by rw [q]; rfl)); have e27 : x23.toInt ≠ 27 := fun q => c207 (Int32.toInt_inj.mp (by rw [q]; rfl)); have e28 : x23.toInt ≠ 28 := fun q => c211 (Int32.toInt_inj.mp (by rw [q]; rfl)); have e29 : x23.toInt ≠ 29 := fun q => c217 (Int32.toInt_inj.mp (by rw [q]; rfl)); have e30 : x23.toInt ≠ 30 := fun q => c223 (Int32.toInt_inj.mp (by rw [q]; rfl)); have e31 : x23.toInt ≠ 31 := fun q => c227 (Int32.toInt_inj.mp (by rw [q]; rfl)); have e32 : x23.toInt ≠ 32 := fun q => c231 (Int32.toInt_inj.mp (by rw [q]; rfl)); omega) (by decide) ?_
                                                                          refine v_iinc (v := (x1 + (6 : Int32))) (lv' := [(3, .int (x1 + (6 : Int32))), (0, .ref b), (1, .ref (x 0)), (2, .ref (mo 0))]) X dL_law_1169 hl (k := 3) rfl rfl (by decide) rfl (fun ls hl => ?_)
                                                                          refine v_goto (tgt := 18) X dL_law_1172 (by decide) ?_
                                                                          exact ih18 (x1 + (6 : Int32)) u2 u3 u4 u5 u6 u7 u8 u9 u10 u11 ls H locs h (lv_sub hl [1, 2, 3, 0] rfl) hH
  obtain ⟨n18, h⟩ := h
  have h : wL_L_law_18 xs L post Kx18 n18 a3 ux un ut up ua us uk rs ms um := by rw [hK18]; exact h
  exact lp18 n18 a3 ux un ut up ua us uk rs ms um ls H locs h (lv_sub hl [0, 1, 2, 3] rfl) hH
