theorem ko_X6_3 : KO RX6 3 := gk_1_17
theorem kl_X6_9 : Cond.classLink RX6 9 RX3 ∈ gw := gk_1_20
theorem nk_X6_9 : NK RX6 9 3 3 [.null, .int 0, .int 0] := ⟨RX3, TX3, tyX3, rfl, uin_X3, tyX3_ok, fun j hj => by rcases (show j = 0 ∨ j = 1 ∨ j = 2 by omega) with rfl | rfl | rfl <;> rfl, gk_1_20, gk_1_193, gk_1_7⟩
theorem ff_X6_11 : FF RX6 11 6 0 (.array (.object "WakeLet$Row")) := ⟨RX6, TX6, 10, tyX6, rfl, uin_X6, by decide, gk_1_210, tyX6_ok, nmX6, rfl, rfl, by decide +kernel⟩
theorem kl_X6_15 : Cond.classLink RX6 15 RX1 ∈ gw := gk_1_22
theorem nk_X6_15 : NK RX6 15 1 12 [.null, .null, .null, .null, .null, .null, .null, .int 0, .int 0, .int 0, .int 0, .int 0] := ⟨RX1, TX1, tyX1, rfl, uin_X1, tyX1_ok, fun j hj => by rcases (show j = 0 ∨ j = 1 ∨ j = 2 ∨ j = 3 ∨ j = 4 ∨ j = 5 ∨ j = 6 ∨ j = 7 ∨ j = 8 ∨ j = 9 ∨ j = 10 ∨ j = 11 by omega) with rfl | rfl | rfl | rfl | rfl | rfl | rfl | rfl | rfl | rfl | rfl | rfl <;> rfl, gk_1_22, gk_1_24, gk_1_2⟩
theorem ff_X6_17 : FF RX6 17 6 1 (.array (.object "WakeLet$Agency")) := ⟨RX6, TX6, 10, tyX6, rfl, uin_X6, by decide, gk_1_211, tyX6_ok, nmX6, rfl, rfl, by decide +kernel⟩
theorem ff_X6_22 : FF RX6 22 6 2 (.object "WakeLet$Agency") := ⟨RX6, TX6, 10, tyX6, rfl, uin_X6, by decide, gk_1_212, tyX6_ok, nmX6, rfl, rfl, by decide +kernel⟩
theorem ff_X6_26 : FF RX6 26 6 3 (.object "WakeLet$Agency") := ⟨RX6, TX6, 10, tyX6, rfl, uin_X6, by decide, gk_1_213, tyX6_ok, nmX6, rfl, rfl, by decide +kernel⟩
theorem kl_X6_29 : Cond.classLink RX6 29 RX5 ∈ gw := gk_1_101
theorem nk_X6_29 : NK RX6 29 5 5 [.null, .int 0, .int 0, .int 0, .int 0] := ⟨RX5, TX5, tyX5, rfl, uin_X5, tyX5_ok, fun j hj => by rcases (show j = 0 ∨ j = 1 ∨ j = 2 ∨ j = 3 ∨ j = 4 by omega) with rfl | rfl | rfl | rfl | rfl <;> rfl, gk_1_101, gk_1_102, gk_1_3⟩
theorem ff_X6_32 : FF RX6 32 6 4 (.object "WakeLet$Tape") := ⟨RX6, TX6, 10, tyX6, rfl, uin_X6, by decide, gk_1_214, tyX6_ok, nmX6, rfl, rfl, by decide +kernel⟩
theorem kl_X6_36 : Cond.classLink RX6 36 RX0 ∈ gw := gk_1_126
theorem nk_X6_36 : NK RX6 36 0 3 [.null, .int 0, .int 0] := ⟨RX0, TX0, tyX0, rfl, uin_X0, tyX0_ok, fun j hj => by rcases (show j = 0 ∨ j = 1 ∨ j = 2 by omega) with rfl | rfl | rfl <;> rfl, gk_1_126, gk_1_127, gk_1_4⟩
theorem ff_X6_39 : FF RX6 39 6 5 (.object "WakeLet$Acts") := ⟨RX6, TX6, 10, tyX6, rfl, uin_X6, by decide, gk_1_215, tyX6_ok, nmX6, rfl, rfl, by decide +kernel⟩
theorem kl_X6_43 : Cond.classLink RX6 43 RX4 ∈ gw := gk_1_143
theorem nk_X6_43 : NK RX6 43 4 8 [.null, .null, .null, .null, .null, .int 0, .int 0, .int 0] := ⟨RX4, TX4, tyX4, rfl, uin_X4, tyX4_ok, fun j hj => by rcases (show j = 0 ∨ j = 1 ∨ j = 2 ∨ j = 3 ∨ j = 4 ∨ j = 5 ∨ j = 6 ∨ j = 7 by omega) with rfl | rfl | rfl | rfl | rfl | rfl | rfl | rfl <;> rfl, gk_1_143, gk_1_144, gk_1_5⟩
theorem ff_X6_46 : FF RX6 46 6 6 (.object "WakeLet$Search") := ⟨RX6, TX6, 10, tyX6, rfl, uin_X6, by decide, gk_1_216, tyX6_ok, nmX6, rfl, rfl, by decide +kernel⟩
theorem kl_X6_50 : Cond.classLink RX6 50 RX2 ∈ gw := gk_1_178
theorem nk_X6_50 : NK RX6 50 2 2 [.null, .int 0] := ⟨RX2, TX2, tyX2, rfl, uin_X2, tyX2_ok, fun j hj => by rcases (show j = 0 ∨ j = 1 by omega) with rfl | rfl <;> rfl, gk_1_178, gk_1_179, gk_1_6⟩
theorem ff_X6_53 : FF RX6 53 6 7 (.object "WakeLet$Asks") := ⟨RX6, TX6, 10, tyX6, rfl, uin_X6, by decide, gk_1_217, tyX6_ok, nmX6, rfl, rfl, by decide +kernel⟩
theorem ko_X0_3 : KO RX0 3 := gk_1_131
theorem ff_X0_11 : FF RX0 11 0 0 (.array .int) := ⟨RX0, TX0, 3, tyX0, rfl, uin_X0, by decide, gk_1_132, tyX0_ok, nmX0, rfl, rfl, by decide +kernel⟩
theorem ko_X1_3 : KO RX1 3 := gk_1_28
theorem ff_X1_9 : FF RX1 9 1 0 (.array .int) := ⟨RX1, TX1, 12, tyX1, rfl, uin_X1, by decide, gk_1_29, tyX1_ok, nmX1, rfl, rfl, by decide +kernel⟩
theorem ff_X1_15 : FF RX1 15 1 1 (.array .int) := ⟨RX1, TX1, 12, tyX1, rfl, uin_X1, by decide, gk_1_34, tyX1_ok, nmX1, rfl, rfl, by decide +kernel⟩
theorem ff_X1_18 : FF RX1 18 1 2 (.array .int) := ⟨RX1, TX1, 12, tyX1, rfl, uin_X1, by decide, gk_1_37, tyX1_ok, nmX1, rfl, rfl, by decide +kernel⟩
theorem ff_X1_21 : FF RX1 21 1 3 (.array .int) := ⟨RX1, TX1, 12, tyX1, rfl, uin_X1, by decide, gk_1_41, tyX1_ok, nmX1, rfl, rfl, by decide +kernel⟩
theorem ff_X1_24 : FF RX1 24 1 4 (.array .int) := ⟨RX1, TX1, 12, tyX1, rfl, uin_X1, by decide, gk_1_45, tyX1_ok, nmX1, rfl, rfl, by decide +kernel⟩
theorem ff_X1_27 : FF RX1 27 1 5 (.array .int) := ⟨RX1, TX1, 12, tyX1, rfl, uin_X1, by decide, gk_1_49, tyX1_ok, nmX1, rfl, rfl, by decide +kernel⟩
theorem ff_X1_30 : FF RX1 30 1 6 (.array .int) := ⟨RX1, TX1, 12, tyX1, rfl, uin_X1, by decide, gk_1_53, tyX1_ok, nmX1, rfl, rfl, by decide +kernel⟩
theorem ko_X2_3 : KO RX2 3 := gk_1_183
theorem ff_X2_11 : FF RX2 11 2 0 (.array .int) := ⟨RX2, TX2, 2, tyX2, rfl, uin_X2, by decide, gk_1_184, tyX2_ok, nmX2, rfl, rfl, by decide +kernel⟩
theorem ko_X3_3 : KO RX3 3 := gk_1_197
theorem ff_X3_9 : FF RX3 9 3 0 (.array .int) := ⟨RX3, TX3, 3, tyX3, rfl, uin_X3, by decide, gk_1_198, tyX3_ok, nmX3, rfl, rfl, by decide +kernel⟩
theorem ko_X4_3 : KO RX4 3 := gk_1_148
theorem ff_X4_9 : FF RX4 9 4 0 (.array .int) := ⟨RX4, TX4, 8, tyX4, rfl, uin_X4, by decide, gk_1_149, tyX4_ok, nmX4, rfl, rfl, by decide +kernel⟩
theorem ff_X4_15 : FF RX4 15 4 1 (.array .int) := ⟨RX4, TX4, 8, tyX4, rfl, uin_X4, by decide, gk_1_150, tyX4_ok, nmX4, rfl, rfl, by decide +kernel⟩
theorem ff_X4_18 : FF RX4 18 4 2 (.array .int) := ⟨RX4, TX4, 8, tyX4, rfl, uin_X4, by decide, gk_1_151, tyX4_ok, nmX4, rfl, rfl, by decide +kernel⟩
theorem ff_X4_21 : FF RX4 21 4 3 (.array .int) := ⟨RX4, TX4, 8, tyX4, rfl, uin_X4, by decide, gk_1_152, tyX4_ok, nmX4, rfl, rfl, by decide +kernel⟩
theorem ff_X4_24 : FF RX4 24 4 4 (.array .int) := ⟨RX4, TX4, 8, tyX4, rfl, uin_X4, by decide, gk_1_153, tyX4_ok, nmX4, rfl, rfl, by decide +kernel⟩
theorem ko_X5_3 : KO RX5 3 := gk_1_106
theorem ff_X5_9 : FF RX5 9 5 0 (.array .int) := ⟨RX5, TX5, 5, tyX5, rfl, uin_X5, by decide, gk_1_107, tyX5_ok, nmX5, rfl, rfl, by decide +kernel⟩
theorem kl_L_7 : Cond.classLink RL 7 RX6 ∈ gw := gk_1_12
theorem nk_L_7 : NK RL 7 6 10 [.null, .null, .null, .null, .null, .null, .null, .null, .int 0, .int 0] := ⟨RX6, TX6, tyX6, rfl, uin_X6, tyX6_ok, fun j hj => by rcases (show j = 0 ∨ j = 1 ∨ j = 2 ∨ j = 3 ∨ j = 4 ∨ j = 5 ∨ j = 6 ∨ j = 7 ∨ j = 8 ∨ j = 9 by omega) with rfl | rfl | rfl | rfl | rfl | rfl | rfl | rfl | rfl | rfl <;> rfl, gk_1_12, gk_1_13, gk_1_1⟩
theorem kl_L_10 : Cond.classLink RL 10 RX7 ∈ gw := gk_3_206
theorem nk_L_10 : NK RL 10 7 17 [.null, .null, .null, .int 0, .null, .null, .null, .int 0, .null, .int 0, .int 0, .null, .int 0, .null, .int 0, .int 0, .int 0] := ⟨RX7, TX7, tyX7, rfl, uin_X7, tyX7_ok, fun j hj => by rcases (show j = 0 ∨ j = 1 ∨ j = 2 ∨ j = 3 ∨ j = 4 ∨ j = 5 ∨ j = 6 ∨ j = 7 ∨ j = 8 ∨ j = 9 ∨ j = 10 ∨ j = 11 ∨ j = 12 ∨ j = 13 ∨ j = 14 ∨ j = 15 ∨ j = 16 by omega) with rfl | rfl | rfl | rfl | rfl | rfl | rfl | rfl | rfl | rfl | rfl | rfl | rfl | rfl | rfl | rfl | rfl <;> rfl, gk_3_206, gk_3_207, gk_1_8⟩
theorem ko_X7_1 : KO RX7 1 := gk_3_211
theorem ff_X7_7 : FF RX7 7 7 0 (.array .int) := ⟨RX7, TX7, 17, tyX7, rfl, uin_X7, by decide, gk_3_212, tyX7_ok, nmX7, rfl, rfl, by decide +kernel⟩
theorem ff_X7_13 : FF RX7 13 7 1 (.array .boolean) := ⟨RX7, TX7, 17, tyX7, rfl, uin_X7, by decide, gk_3_213, tyX7_ok, nmX7, rfl, rfl, by decide +kernel⟩
theorem ff_X7_17 : FF RX7 17 7 2 (.array .int) := ⟨RX7, TX7, 17, tyX7, rfl, uin_X7, by decide, gk_3_214, tyX7_ok, nmX7, rfl, rfl, by decide +kernel⟩
theorem ff_X7_20 : FF RX7 20 7 4 (.array .int) := ⟨RX7, TX7, 17, tyX7, rfl, uin_X7, by decide, gk_3_216, tyX7_ok, nmX7, rfl, rfl, by decide +kernel⟩
theorem ff_X7_23 : FF RX7 23 7 5 (.array .int) := ⟨RX7, TX7, 17, tyX7, rfl, uin_X7, by decide, gk_3_217, tyX7_ok, nmX7, rfl, rfl, by decide +kernel⟩
theorem ff_X7_26 : FF RX7 26 7 6 (.array .int) := ⟨RX7, TX7, 17, tyX7, rfl, uin_X7, by decide, gk_3_218, tyX7_ok, nmX7, rfl, rfl, by decide +kernel⟩
theorem ff_X7_29 : FF RX7 29 7 8 (.array .int) := ⟨RX7, TX7, 17, tyX7, rfl, uin_X7, by decide, gk_3_220, tyX7_ok, nmX7, rfl, rfl, by decide +kernel⟩
theorem ff_X7_32 : FF RX7 32 7 11 (.array .int) := ⟨RX7, TX7, 17, tyX7, rfl, uin_X7, by decide, gk_3_223, tyX7_ok, nmX7, rfl, rfl, by decide +kernel⟩
theorem ff_X7_35 : FF RX7 35 7 13 (.array .int) := ⟨RX7, TX7, 17, tyX7, rfl, uin_X7, by decide, gk_3_225, tyX7_ok, nmX7, rfl, rfl, by decide +kernel⟩
def zX0 : BX0 := ((fun _ => 0), 0, 0)
set_option maxHeartbeats 8000000 in
set_option maxRecDepth 100000 in
theorem c_X0_init (l : Launch) (D : va_G) (K : Nat → ClassId) (q : Nat) : CtM l yX0_init cX0_init 1 ({ frames := 1, cells := 1, slots := 432, locals := 40 } : Room) D K q 0 [.null, .int 0, .int 0] (fun _ => True) (fun o : Nat → Nat => CX0 K o zX0) (fun o : Nat → Nat => q = o 0) := by
  refine CtM.mk rfl rfl (by decide) ?_
  intro G ls A _ hF hin hr hk X hH hA hl hE
  have hin0 := hin
  have X : Cx G cX0_init 1 RX0 D (TY K) := X
  suffices go : ∀ (F : FX) (H : Heap) (locs : List Loc), FA F G ({ frames := 1, cells := 1, slots := 432, locals := 40 } : Room) 0 0 → F.2.2.2.2.2.2.2.2.1.name = "<init>" → Cx F cX0_init 1 RX0 D (TY K) → HH F D A ([(q, .inr (0, [.null, .int 0, .int 0]))] : va_W) H locs → (∀ q : Nat, (fxS F).heap.size ≤ q → A q) → fxS F = fxS G → V F (CQ G D K A (fun o : Nat → Nat => CX0 K o zX0) (fun o : Nat → Nat => q = o 0)) H locs 0 ls [] from go G _ _ hF hin X hH hA rfl
  clear hH hA X hF
  intro F H locs hF hin X hH hA hs
  refine v_aload_n X dX0_init_0 rfl (lv_at hl 0 rfl) ?_
  refine v_objI (rm := ({ frames := 1, cells := 1, slots := 432, locals := 40 } : Room)) X hl.1 ko_X0_3 (by rw [hF.1]; exact hF.2) ⟨by decide, Nat.le_of_ble_eq_true rfl⟩ dX0_init_1 ?_
  refine v_aload_n X dX0_init_4 rfl (lv_at hl 0 rfl) ?_
  refine v_sipush (v := (432 : Int32)) X dX0_init_5 (by decide) ?_
  refine v_newI (N := 432) X hF hH hA (by decide) (by decide) (by decide) (by decide) (by decide) dX0_init_8 (fun F q1 H hF X hH hA => ?_)
  have hH : HH F D A ((([(q, .inr (0, [.null, .int 0, .int 0]))] : va_W) ++ [(q1, .inl (K 0, 432, .inl (fun _ => 0)))])) H locs := hH
  refine v_putF X (by rw [hF.1]; exact hin0) hH 0 rfl ff_X0_11 rfl rfl (Nat.le_of_ble_eq_true rfl) dX0_init_10 (fun H locs hH => ?_)
  have hH : HH F D A ((([(q, .inr (0, [.ref q1, .int 0, .int 0]))] : va_W) ++ [(q1, .inl (K 0, 432, .inl (fun _ => 0)))])) H locs := hH
  exact v_cret X hF hr hk (fun j => ([q, q1] : List Nat).getD j 0) (hH.perm [0, 1] rfl rfl) rfl (by decide) (by decide) dX0_init_13
def zX1 : BX1 := ((fun _ => 0), (fun _ => 0), (fun _ => 0), (fun _ => 0), (fun _ => 0), (fun _ => 0), (fun _ => 0), 0, 0, 0, 0, 0)
set_option maxHeartbeats 8000000 in
set_option maxRecDepth 100000 in
theorem c_X1_init (l : Launch) (D : va_G) (K : Nat → ClassId) (q : Nat) : CtM l yX1_init cX1_init 1 ({ frames := 1, cells := 7, slots := 30, locals := 40 } : Room) D K q 1 [.null, .null, .null, .null, .null, .null, .null, .int 0, .int 0, .int 0, .int 0, .int 0] (fun _ => True) (fun o : Nat → Nat => CX1 K o zX1) (fun o : Nat → Nat => q = o 0) := by
  refine CtM.mk rfl rfl (by decide) ?_
  intro G ls A _ hF hin hr hk X hH hA hl hE
  have hin0 := hin
  have X : Cx G cX1_init 1 RX1 D (TY K) := X
  suffices go : ∀ (F : FX) (H : Heap) (locs : List Loc), FA F G ({ frames := 1, cells := 7, slots := 30, locals := 40 } : Room) 0 0 → F.2.2.2.2.2.2.2.2.1.name = "<init>" → Cx F cX1_init 1 RX1 D (TY K) → HH F D A ([(q, .inr (1, [.null, .null, .null, .null, .null, .null, .null, .int 0, .int 0, .int 0, .int 0, .int 0]))] : va_W) H locs → (∀ q : Nat, (fxS F).heap.size ≤ q → A q) → fxS F = fxS G → V F (CQ G D K A (fun o : Nat → Nat => CX1 K o zX1) (fun o : Nat → Nat => q = o 0)) H locs 0 ls [] from go G _ _ hF hin X hH hA rfl
  clear hH hA X hF
  intro F H locs hF hin X hH hA hs
  refine v_aload_n X dX1_init_0 rfl (lv_at hl 0 rfl) ?_
  refine v_objI (rm := ({ frames := 1, cells := 7, slots := 30, locals := 40 } : Room)) X hl.1 ko_X1_3 (by rw [hF.1]; exact hF.2) ⟨by decide, Nat.le_of_ble_eq_true rfl⟩ dX1_init_1 ?_
  refine v_aload_n X dX1_init_4 rfl (lv_at hl 0 rfl) ?_
  refine v_iconst (v := (5 : Int32)) X dX1_init_5 (by decide) ?_
  refine v_newI (N := 5) X hF hH hA (by decide) (by decide) (by decide) (by decide) (by decide) dX1_init_6 (fun F q1 H hF X hH hA => ?_)
  have hH : HH F D A ((([(q, .inr (1, [.null, .null, .null, .null, .null, .null, .null, .int 0, .int 0, .int 0, .int 0, .int 0]))] : va_W) ++ [(q1, .inl (K 0, 5, .inl (fun _ => 0)))])) H locs := hH
  refine v_putF X (by rw [hF.1]; exact hin0) hH 0 rfl ff_X1_9 rfl rfl (Nat.le_of_ble_eq_true rfl) dX1_init_8 (fun H locs hH => ?_)
  have hH : HH F D A ((([(q, .inr (1, [.ref q1, .null, .null, .null, .null, .null, .null, .int 0, .int 0, .int 0, .int 0, .int 0]))] : va_W) ++ [(q1, .inl (K 0, 5, .inl (fun _ => 0)))])) H locs := hH
  refine v_aload_n X dX1_init_11 rfl (lv_at hl 0 rfl) ?_
  refine v_iconst (v := (5 : Int32)) X dX1_init_12 (by decide) ?_
  refine v_newI (N := 5) X hF hH hA (by decide) (by decide) (by decide) (by decide) (by decide) dX1_init_13 (fun F q2 H hF X hH hA => ?_)
  have hH : HH F D A ((([(q, .inr (1, [.ref q1, .null, .null, .null, .null, .null, .null, .int 0, .int 0, .int 0, .int 0, .int 0]))] : va_W) ++ [(q1, .inl (K 0, 5, .inl (fun _ => 0)))] ++ [(q2, .inl (K 0, 5, .inl (fun _ => 0)))])) H locs := hH
  refine v_putF X (by rw [hF.1]; exact hin0) hH 0 rfl ff_X1_15 rfl rfl (Nat.le_of_ble_eq_true rfl) dX1_init_15 (fun H locs hH => ?_)
  have hH : HH F D A ((([(q, .inr (1, [.ref q1, .ref q2, .null, .null, .null, .null, .null, .int 0, .int 0, .int 0, .int 0, .int 0]))] : va_W) ++ [(q1, .inl (K 0, 5, .inl (fun _ => 0)))] ++ [(q2, .inl (K 0, 5, .inl (fun _ => 0)))])) H locs := hH
  refine v_aload_n X dX1_init_18 rfl (lv_at hl 0 rfl) ?_
  refine v_iconst (v := (4 : Int32)) X dX1_init_19 (by decide) ?_
  refine v_newI (N := 4) X hF hH hA (by decide) (by decide) (by decide) (by decide) (by decide) dX1_init_20 (fun F q3 H hF X hH hA => ?_)
  have hH : HH F D A ((([(q, .inr (1, [.ref q1, .ref q2, .null, .null, .null, .null, .null, .int 0, .int 0, .int 0, .int 0, .int 0]))] : va_W) ++ [(q1, .inl (K 0, 5, .inl (fun _ => 0)))] ++ [(q2, .inl (K 0, 5, .inl (fun _ => 0)))] ++ [(q3, .inl (K 0, 4, .inl (fun _ => 0)))])) H locs := hH
  refine v_putF X (by rw [hF.1]; exact hin0) hH 0 rfl ff_X1_18 rfl rfl (Nat.le_of_ble_eq_true rfl) dX1_init_22 (fun H locs hH => ?_)
  have hH : HH F D A ((([(q, .inr (1, [.ref q1, .ref q2, .ref q3, .null, .null, .null, .null, .int 0, .int 0, .int 0, .int 0, .int 0]))] : va_W) ++ [(q1, .inl (K 0, 5, .inl (fun _ => 0)))] ++ [(q2, .inl (K 0, 5, .inl (fun _ => 0)))] ++ [(q3, .inl (K 0, 4, .inl (fun _ => 0)))])) H locs := hH
  refine v_aload_n X dX1_init_25 rfl (lv_at hl 0 rfl) ?_
  refine v_iconst (v := (4 : Int32)) X dX1_init_26 (by decide) ?_
  refine v_newI (N := 4) X hF hH hA (by decide) (by decide) (by decide) (by decide) (by decide) dX1_init_27 (fun F q4 H hF X hH hA => ?_)
  have hH : HH F D A ((([(q, .inr (1, [.ref q1, .ref q2, .ref q3, .null, .null, .null, .null, .int 0, .int 0, .int 0, .int 0, .int 0]))] : va_W) ++ [(q1, .inl (K 0, 5, .inl (fun _ => 0)))] ++ [(q2, .inl (K 0, 5, .inl (fun _ => 0)))] ++ [(q3, .inl (K 0, 4, .inl (fun _ => 0)))] ++ [(q4, .inl (K 0, 4, .inl (fun _ => 0)))])) H locs := hH
  refine v_putF X (by rw [hF.1]; exact hin0) hH 0 rfl ff_X1_21 rfl rfl (Nat.le_of_ble_eq_true rfl) dX1_init_29 (fun H locs hH => ?_)
  have hH : HH F D A ((([(q, .inr (1, [.ref q1, .ref q2, .ref q3, .ref q4, .null, .null, .null, .int 0, .int 0, .int 0, .int 0, .int 0]))] : va_W) ++ [(q1, .inl (K 0, 5, .inl (fun _ => 0)))] ++ [(q2, .inl (K 0, 5, .inl (fun _ => 0)))] ++ [(q3, .inl (K 0, 4, .inl (fun _ => 0)))] ++ [(q4, .inl (K 0, 4, .inl (fun _ => 0)))])) H locs := hH
  refine v_aload_n X dX1_init_32 rfl (lv_at hl 0 rfl) ?_
  refine v_iconst (v := (4 : Int32)) X dX1_init_33 (by decide) ?_
  refine v_newI (N := 4) X hF hH hA (by decide) (by decide) (by decide) (by decide) (by decide) dX1_init_34 (fun F q5 H hF X hH hA => ?_)
  have hH : HH F D A ((([(q, .inr (1, [.ref q1, .ref q2, .ref q3, .ref q4, .null, .null, .null, .int 0, .int 0, .int 0, .int 0, .int 0]))] : va_W) ++ [(q1, .inl (K 0, 5, .inl (fun _ => 0)))] ++ [(q2, .inl (K 0, 5, .inl (fun _ => 0)))] ++ [(q3, .inl (K 0, 4, .inl (fun _ => 0)))] ++ [(q4, .inl (K 0, 4, .inl (fun _ => 0)))] ++ [(q5, .inl (K 0, 4, .inl (fun _ => 0)))])) H locs := hH
  refine v_putF X (by rw [hF.1]; exact hin0) hH 0 rfl ff_X1_24 rfl rfl (Nat.le_of_ble_eq_true rfl) dX1_init_36 (fun H locs hH => ?_)
  have hH : HH F D A ((([(q, .inr (1, [.ref q1, .ref q2, .ref q3, .ref q4, .ref q5, .null, .null, .int 0, .int 0, .int 0, .int 0, .int 0]))] : va_W) ++ [(q1, .inl (K 0, 5, .inl (fun _ => 0)))] ++ [(q2, .inl (K 0, 5, .inl (fun _ => 0)))] ++ [(q3, .inl (K 0, 4, .inl (fun _ => 0)))] ++ [(q4, .inl (K 0, 4, .inl (fun _ => 0)))] ++ [(q5, .inl (K 0, 4, .inl (fun _ => 0)))])) H locs := hH
  refine v_aload_n X dX1_init_39 rfl (lv_at hl 0 rfl) ?_
  refine v_iconst (v := (4 : Int32)) X dX1_init_40 (by decide) ?_
  refine v_newI (N := 4) X hF hH hA (by decide) (by decide) (by decide) (by decide) (by decide) dX1_init_41 (fun F q6 H hF X hH hA => ?_)
  have hH : HH F D A ((([(q, .inr (1, [.ref q1, .ref q2, .ref q3, .ref q4, .ref q5, .null, .null, .int 0, .int 0, .int 0, .int 0, .int 0]))] : va_W) ++ [(q1, .inl (K 0, 5, .inl (fun _ => 0)))] ++ [(q2, .inl (K 0, 5, .inl (fun _ => 0)))] ++ [(q3, .inl (K 0, 4, .inl (fun _ => 0)))] ++ [(q4, .inl (K 0, 4, .inl (fun _ => 0)))] ++ [(q5, .inl (K 0, 4, .inl (fun _ => 0)))] ++ [(q6, .inl (K 0, 4, .inl (fun _ => 0)))])) H locs := hH
  refine v_putF X (by rw [hF.1]; exact hin0) hH 0 rfl ff_X1_27 rfl rfl (Nat.le_of_ble_eq_true rfl) dX1_init_43 (fun H locs hH => ?_)
  have hH : HH F D A ((([(q, .inr (1, [.ref q1, .ref q2, .ref q3, .ref q4, .ref q5, .ref q6, .null, .int 0, .int 0, .int 0, .int 0, .int 0]))] : va_W) ++ [(q1, .inl (K 0, 5, .inl (fun _ => 0)))] ++ [(q2, .inl (K 0, 5, .inl (fun _ => 0)))] ++ [(q3, .inl (K 0, 4, .inl (fun _ => 0)))] ++ [(q4, .inl (K 0, 4, .inl (fun _ => 0)))] ++ [(q5, .inl (K 0, 4, .inl (fun _ => 0)))] ++ [(q6, .inl (K 0, 4, .inl (fun _ => 0)))])) H locs := hH
  refine v_aload_n X dX1_init_46 rfl (lv_at hl 0 rfl) ?_
  refine v_iconst (v := (4 : Int32)) X dX1_init_47 (by decide) ?_
  refine v_newI (N := 4) X hF hH hA (by decide) (by decide) (by decide) (by decide) (by decide) dX1_init_48 (fun F q7 H hF X hH hA => ?_)
  have hH : HH F D A ((([(q, .inr (1, [.ref q1, .ref q2, .ref q3, .ref q4, .ref q5, .ref q6, .null, .int 0, .int 0, .int 0, .int 0, .int 0]))] : va_W) ++ [(q1, .inl (K 0, 5, .inl (fun _ => 0)))] ++ [(q2, .inl (K 0, 5, .inl (fun _ => 0)))] ++ [(q3, .inl (K 0, 4, .inl (fun _ => 0)))] ++ [(q4, .inl (K 0, 4, .inl (fun _ => 0)))] ++ [(q5, .inl (K 0, 4, .inl (fun _ => 0)))] ++ [(q6, .inl (K 0, 4, .inl (fun _ => 0)))] ++ [(q7, .inl (K 0, 4, .inl (fun _ => 0)))])) H locs := hH
  refine v_putF X (by rw [hF.1]; exact hin0) hH 0 rfl ff_X1_30 rfl rfl (Nat.le_of_ble_eq_true rfl) dX1_init_50 (fun H locs hH => ?_)
  have hH : HH F D A ((([(q, .inr (1, [.ref q1, .ref q2, .ref q3, .ref q4, .ref q5, .ref q6, .ref q7, .int 0, .int 0, .int 0, .int 0, .int 0]))] : va_W) ++ [(q1, .inl (K 0, 5, .inl (fun _ => 0)))] ++ [(q2, .inl (K 0, 5, .inl (fun _ => 0)))] ++ [(q3, .inl (K 0, 4, .inl (fun _ => 0)))] ++ [(q4, .inl (K 0, 4, .inl (fun _ => 0)))] ++ [(q5, .inl (K 0, 4, .inl (fun _ => 0)))] ++ [(q6, .inl (K 0, 4, .inl (fun _ => 0)))] ++ [(q7, .inl (K 0, 4, .inl (fun _ => 0)))])) H locs := hH
  exact v_cret X hF hr hk (fun j => ([q, q1, q2, q3, q4, q5, q6, q7] : List Nat).getD j 0) (hH.perm [0, 1, 2, 3, 4, 5, 6, 7] rfl rfl) rfl (by decide) (by decide) dX1_init_53
def zX2 : BX2 := ((fun _ => 0), 0)
set_option maxHeartbeats 8000000 in
set_option maxRecDepth 100000 in
theorem c_X2_init (l : Launch) (D : va_G) (K : Nat → ClassId) (q : Nat) : CtM l yX2_init cX2_init 1 ({ frames := 1, cells := 1, slots := 16, locals := 40 } : Room) D K q 2 [.null, .int 0] (fun _ => True) (fun o : Nat → Nat => CX2 K o zX2) (fun o : Nat → Nat => q = o 0) := by
  refine CtM.mk rfl rfl (by decide) ?_
  intro G ls A _ hF hin hr hk X hH hA hl hE
  have hin0 := hin
  have X : Cx G cX2_init 1 RX2 D (TY K) := X
  suffices go : ∀ (F : FX) (H : Heap) (locs : List Loc), FA F G ({ frames := 1, cells := 1, slots := 16, locals := 40 } : Room) 0 0 → F.2.2.2.2.2.2.2.2.1.name = "<init>" → Cx F cX2_init 1 RX2 D (TY K) → HH F D A ([(q, .inr (2, [.null, .int 0]))] : va_W) H locs → (∀ q : Nat, (fxS F).heap.size ≤ q → A q) → fxS F = fxS G → V F (CQ G D K A (fun o : Nat → Nat => CX2 K o zX2) (fun o : Nat → Nat => q = o 0)) H locs 0 ls [] from go G _ _ hF hin X hH hA rfl
  clear hH hA X hF
  intro F H locs hF hin X hH hA hs
  refine v_aload_n X dX2_init_0 rfl (lv_at hl 0 rfl) ?_
  refine v_objI (rm := ({ frames := 1, cells := 1, slots := 16, locals := 40 } : Room)) X hl.1 ko_X2_3 (by rw [hF.1]; exact hF.2) ⟨by decide, Nat.le_of_ble_eq_true rfl⟩ dX2_init_1 ?_
  refine v_aload_n X dX2_init_4 rfl (lv_at hl 0 rfl) ?_
  refine v_bipush (v := (16 : Int32)) X dX2_init_5 (by decide) ?_
  refine v_newI (N := 16) X hF hH hA (by decide) (by decide) (by decide) (by decide) (by decide) dX2_init_7 (fun F q1 H hF X hH hA => ?_)
  have hH : HH F D A ((([(q, .inr (2, [.null, .int 0]))] : va_W) ++ [(q1, .inl (K 0, 16, .inl (fun _ => 0)))])) H locs := hH
  refine v_putF X (by rw [hF.1]; exact hin0) hH 0 rfl ff_X2_11 rfl rfl (Nat.le_of_ble_eq_true rfl) dX2_init_9 (fun H locs hH => ?_)
  have hH : HH F D A ((([(q, .inr (2, [.ref q1, .int 0]))] : va_W) ++ [(q1, .inl (K 0, 16, .inl (fun _ => 0)))])) H locs := hH
  exact v_cret X hF hr hk (fun j => ([q, q1] : List Nat).getD j 0) (hH.perm [0, 1] rfl rfl) rfl (by decide) (by decide) dX2_init_12
def zX3 : BX3 := ((fun _ => 0), 0, (-1 : Int32))
set_option maxHeartbeats 8000000 in
set_option maxRecDepth 100000 in
theorem c_X3_init (l : Launch) (D : va_G) (K : Nat → ClassId) (q : Nat) : CtM l yX3_init cX3_init 1 ({ frames := 1, cells := 1, slots := 40, locals := 40 } : Room) D K q 3 [.null, .int 0, .int 0] (fun _ => True) (fun o : Nat → Nat => CX3 K o zX3) (fun o : Nat → Nat => q = o 0) := by
  refine CtM.mk rfl rfl (by decide) ?_
  intro G ls A _ hF hin hr hk X hH hA hl hE
  have hin0 := hin
  have X : Cx G cX3_init 1 RX3 D (TY K) := X
  suffices go : ∀ (F : FX) (H : Heap) (locs : List Loc), FA F G ({ frames := 1, cells := 1, slots := 40, locals := 40 } : Room) 0 0 → F.2.2.2.2.2.2.2.2.1.name = "<init>" → Cx F cX3_init 1 RX3 D (TY K) → HH F D A ([(q, .inr (3, [.null, .int 0, .int 0]))] : va_W) H locs → (∀ q : Nat, (fxS F).heap.size ≤ q → A q) → fxS F = fxS G → V F (CQ G D K A (fun o : Nat → Nat => CX3 K o zX3) (fun o : Nat → Nat => q = o 0)) H locs 0 ls [] from go G _ _ hF hin X hH hA rfl
  clear hH hA X hF
  intro F H locs hF hin X hH hA hs
  refine v_aload_n X dX3_init_0 rfl (lv_at hl 0 rfl) ?_
  refine v_objI (rm := ({ frames := 1, cells := 1, slots := 40, locals := 40 } : Room)) X hl.1 ko_X3_3 (by rw [hF.1]; exact hF.2) ⟨by decide, Nat.le_of_ble_eq_true rfl⟩ dX3_init_1 ?_
  refine v_aload_n X dX3_init_4 rfl (lv_at hl 0 rfl) ?_
  refine v_bipush (v := (40 : Int32)) X dX3_init_5 (by decide) ?_
  refine v_newI (N := 40) X hF hH hA (by decide) (by decide) (by decide) (by decide) (by decide) dX3_init_7 (fun F q1 H hF X hH hA => ?_)
  have hH : HH F D A ((([(q, .inr (3, [.null, .int 0, .int 0]))] : va_W) ++ [(q1, .inl (K 0, 40, .inl (fun _ => 0)))])) H locs := hH
  refine v_putF X (by rw [hF.1]; exact hin0) hH 0 rfl ff_X3_9 rfl rfl (Nat.le_of_ble_eq_true rfl) dX3_init_9 (fun H locs hH => ?_)
  have hH : HH F D A ((([(q, .inr (3, [.ref q1, .int 0, .int 0]))] : va_W) ++ [(q1, .inl (K 0, 40, .inl (fun _ => 0)))])) H locs := hH
  refine v_aload_n X dX3_init_12 rfl (lv_at hl 0 rfl) ?_
  refine v_iconst (v := (-1 : Int32)) X dX3_init_13 (by decide) ?_
  refine v_put X hH 0 rfl fi_X3_15 (Nat.le_of_ble_eq_true rfl) dX3_init_14 (fun H locs hH => ?_)
  have hH : HH F D A ((([(q, .inr (3, [.ref q1, .int 0, .int (-1 : Int32)]))] : va_W) ++ [(q1, .inl (K 0, 40, .inl (fun _ => 0)))])) H locs := hH
  exact v_cret X hF hr hk (fun j => ([q, q1] : List Nat).getD j 0) (hH.perm [0, 1] rfl rfl) rfl (by decide) (by decide) dX3_init_17
def zX4 : BX4 := ((fun _ => 0), (fun _ => 0), (fun _ => 0), (fun _ => 0), (fun _ => 0), 0, 0, 0)
set_option maxHeartbeats 8000000 in
set_option maxRecDepth 100000 in
theorem c_X4_init (l : Launch) (D : va_G) (K : Nat → ClassId) (q : Nat) : CtM l yX4_init cX4_init 1 ({ frames := 1, cells := 5, slots := 109, locals := 40 } : Room) D K q 4 [.null, .null, .null, .null, .null, .int 0, .int 0, .int 0] (fun _ => True) (fun o : Nat → Nat => CX4 K o zX4) (fun o : Nat → Nat => q = o 0) := by
  refine CtM.mk rfl rfl (by decide) ?_
  intro G ls A _ hF hin hr hk X hH hA hl hE
  have hin0 := hin
  have X : Cx G cX4_init 1 RX4 D (TY K) := X
  suffices go : ∀ (F : FX) (H : Heap) (locs : List Loc), FA F G ({ frames := 1, cells := 5, slots := 109, locals := 40 } : Room) 0 0 → F.2.2.2.2.2.2.2.2.1.name = "<init>" → Cx F cX4_init 1 RX4 D (TY K) → HH F D A ([(q, .inr (4, [.null, .null, .null, .null, .null, .int 0, .int 0, .int 0]))] : va_W) H locs → (∀ q : Nat, (fxS F).heap.size ≤ q → A q) → fxS F = fxS G → V F (CQ G D K A (fun o : Nat → Nat => CX4 K o zX4) (fun o : Nat → Nat => q = o 0)) H locs 0 ls [] from go G _ _ hF hin X hH hA rfl
  clear hH hA X hF
  intro F H locs hF hin X hH hA hs
  refine v_aload_n X dX4_init_0 rfl (lv_at hl 0 rfl) ?_
  refine v_objI (rm := ({ frames := 1, cells := 5, slots := 109, locals := 40 } : Room)) X hl.1 ko_X4_3 (by rw [hF.1]; exact hF.2) ⟨by decide, Nat.le_of_ble_eq_true rfl⟩ dX4_init_1 ?_
  refine v_aload_n X dX4_init_4 rfl (lv_at hl 0 rfl) ?_
  refine v_bipush (v := (80 : Int32)) X dX4_init_5 (by decide) ?_
  refine v_newI (N := 80) X hF hH hA (by decide) (by decide) (by decide) (by decide) (by decide) dX4_init_7 (fun F q1 H hF X hH hA => ?_)
  have hH : HH F D A ((([(q, .inr (4, [.null, .null, .null, .null, .null, .int 0, .int 0, .int 0]))] : va_W) ++ [(q1, .inl (K 0, 80, .inl (fun _ => 0)))])) H locs := hH
  refine v_putF X (by rw [hF.1]; exact hin0) hH 0 rfl ff_X4_9 rfl rfl (Nat.le_of_ble_eq_true rfl) dX4_init_9 (fun H locs hH => ?_)
  have hH : HH F D A ((([(q, .inr (4, [.ref q1, .null, .null, .null, .null, .int 0, .int 0, .int 0]))] : va_W) ++ [(q1, .inl (K 0, 80, .inl (fun _ => 0)))])) H locs := hH
  refine v_aload_n X dX4_init_12 rfl (lv_at hl 0 rfl) ?_
  refine v_bipush (v := (16 : Int32)) X dX4_init_13 (by decide) ?_
  refine v_newI (N := 16) X hF hH hA (by decide) (by decide) (by decide) (by decide) (by decide) dX4_init_15 (fun F q2 H hF X hH hA => ?_)
  have hH : HH F D A ((([(q, .inr (4, [.ref q1, .null, .null, .null, .null, .int 0, .int 0, .int 0]))] : va_W) ++ [(q1, .inl (K 0, 80, .inl (fun _ => 0)))] ++ [(q2, .inl (K 0, 16, .inl (fun _ => 0)))])) H locs := hH
  refine v_putF X (by rw [hF.1]; exact hin0) hH 0 rfl ff_X4_15 rfl rfl (Nat.le_of_ble_eq_true rfl) dX4_init_17 (fun H locs hH => ?_)
  have hH : HH F D A ((([(q, .inr (4, [.ref q1, .ref q2, .null, .null, .null, .int 0, .int 0, .int 0]))] : va_W) ++ [(q1, .inl (K 0, 80, .inl (fun _ => 0)))] ++ [(q2, .inl (K 0, 16, .inl (fun _ => 0)))])) H locs := hH
  refine v_aload_n X dX4_init_20 rfl (lv_at hl 0 rfl) ?_
  refine v_iconst (v := (5 : Int32)) X dX4_init_21 (by decide) ?_
  refine v_newI (N := 5) X hF hH hA (by decide) (by decide) (by decide) (by decide) (by decide) dX4_init_22 (fun F q3 H hF X hH hA => ?_)
  have hH : HH F D A ((([(q, .inr (4, [.ref q1, .ref q2, .null, .null, .null, .int 0, .int 0, .int 0]))] : va_W) ++ [(q1, .inl (K 0, 80, .inl (fun _ => 0)))] ++ [(q2, .inl (K 0, 16, .inl (fun _ => 0)))] ++ [(q3, .inl (K 0, 5, .inl (fun _ => 0)))])) H locs := hH
  refine v_putF X (by rw [hF.1]; exact hin0) hH 0 rfl ff_X4_18 rfl rfl (Nat.le_of_ble_eq_true rfl) dX4_init_24 (fun H locs hH => ?_)
  have hH : HH F D A ((([(q, .inr (4, [.ref q1, .ref q2, .ref q3, .null, .null, .int 0, .int 0, .int 0]))] : va_W) ++ [(q1, .inl (K 0, 80, .inl (fun _ => 0)))] ++ [(q2, .inl (K 0, 16, .inl (fun _ => 0)))] ++ [(q3, .inl (K 0, 5, .inl (fun _ => 0)))])) H locs := hH
  refine v_aload_n X dX4_init_27 rfl (lv_at hl 0 rfl) ?_
  refine v_iconst (v := (4 : Int32)) X dX4_init_28 (by decide) ?_
  refine v_newI (N := 4) X hF hH hA (by decide) (by decide) (by decide) (by decide) (by decide) dX4_init_29 (fun F q4 H hF X hH hA => ?_)
  have hH : HH F D A ((([(q, .inr (4, [.ref q1, .ref q2, .ref q3, .null, .null, .int 0, .int 0, .int 0]))] : va_W) ++ [(q1, .inl (K 0, 80, .inl (fun _ => 0)))] ++ [(q2, .inl (K 0, 16, .inl (fun _ => 0)))] ++ [(q3, .inl (K 0, 5, .inl (fun _ => 0)))] ++ [(q4, .inl (K 0, 4, .inl (fun _ => 0)))])) H locs := hH
  refine v_putF X (by rw [hF.1]; exact hin0) hH 0 rfl ff_X4_21 rfl rfl (Nat.le_of_ble_eq_true rfl) dX4_init_31 (fun H locs hH => ?_)
  have hH : HH F D A ((([(q, .inr (4, [.ref q1, .ref q2, .ref q3, .ref q4, .null, .int 0, .int 0, .int 0]))] : va_W) ++ [(q1, .inl (K 0, 80, .inl (fun _ => 0)))] ++ [(q2, .inl (K 0, 16, .inl (fun _ => 0)))] ++ [(q3, .inl (K 0, 5, .inl (fun _ => 0)))] ++ [(q4, .inl (K 0, 4, .inl (fun _ => 0)))])) H locs := hH
  refine v_aload_n X dX4_init_34 rfl (lv_at hl 0 rfl) ?_
  refine v_iconst (v := (4 : Int32)) X dX4_init_35 (by decide) ?_
  refine v_newI (N := 4) X hF hH hA (by decide) (by decide) (by decide) (by decide) (by decide) dX4_init_36 (fun F q5 H hF X hH hA => ?_)
  have hH : HH F D A ((([(q, .inr (4, [.ref q1, .ref q2, .ref q3, .ref q4, .null, .int 0, .int 0, .int 0]))] : va_W) ++ [(q1, .inl (K 0, 80, .inl (fun _ => 0)))] ++ [(q2, .inl (K 0, 16, .inl (fun _ => 0)))] ++ [(q3, .inl (K 0, 5, .inl (fun _ => 0)))] ++ [(q4, .inl (K 0, 4, .inl (fun _ => 0)))] ++ [(q5, .inl (K 0, 4, .inl (fun _ => 0)))])) H locs := hH
  refine v_putF X (by rw [hF.1]; exact hin0) hH 0 rfl ff_X4_24 rfl rfl (Nat.le_of_ble_eq_true rfl) dX4_init_38 (fun H locs hH => ?_)
  have hH : HH F D A ((([(q, .inr (4, [.ref q1, .ref q2, .ref q3, .ref q4, .ref q5, .int 0, .int 0, .int 0]))] : va_W) ++ [(q1, .inl (K 0, 80, .inl (fun _ => 0)))] ++ [(q2, .inl (K 0, 16, .inl (fun _ => 0)))] ++ [(q3, .inl (K 0, 5, .inl (fun _ => 0)))] ++ [(q4, .inl (K 0, 4, .inl (fun _ => 0)))] ++ [(q5, .inl (K 0, 4, .inl (fun _ => 0)))])) H locs := hH
  exact v_cret X hF hr hk (fun j => ([q, q1, q2, q3, q4, q5] : List Nat).getD j 0) (hH.perm [0, 1, 2, 3, 4, 5] rfl rfl) rfl (by decide) (by decide) dX4_init_41
def zX5 : BX5 := ((fun _ => 0), 0, 0, 0, 0)
set_option maxHeartbeats 8000000 in
set_option maxRecDepth 100000 in
theorem c_X5_init (l : Launch) (D : va_G) (K : Nat → ClassId) (q : Nat) : CtM l yX5_init cX5_init 1 ({ frames := 1, cells := 1, slots := 100, locals := 40 } : Room) D K q 5 [.null, .int 0, .int 0, .int 0, .int 0] (fun _ => True) (fun o : Nat → Nat => CX5 K o zX5) (fun o : Nat → Nat => q = o 0) := by
  refine CtM.mk rfl rfl (by decide) ?_
  intro G ls A _ hF hin hr hk X hH hA hl hE
  have hin0 := hin
  have X : Cx G cX5_init 1 RX5 D (TY K) := X
  suffices go : ∀ (F : FX) (H : Heap) (locs : List Loc), FA F G ({ frames := 1, cells := 1, slots := 100, locals := 40 } : Room) 0 0 → F.2.2.2.2.2.2.2.2.1.name = "<init>" → Cx F cX5_init 1 RX5 D (TY K) → HH F D A ([(q, .inr (5, [.null, .int 0, .int 0, .int 0, .int 0]))] : va_W) H locs → (∀ q : Nat, (fxS F).heap.size ≤ q → A q) → fxS F = fxS G → V F (CQ G D K A (fun o : Nat → Nat => CX5 K o zX5) (fun o : Nat → Nat => q = o 0)) H locs 0 ls [] from go G _ _ hF hin X hH hA rfl
  clear hH hA X hF
  intro F H locs hF hin X hH hA hs
  refine v_aload_n X dX5_init_0 rfl (lv_at hl 0 rfl) ?_
  refine v_objI (rm := ({ frames := 1, cells := 1, slots := 100, locals := 40 } : Room)) X hl.1 ko_X5_3 (by rw [hF.1]; exact hF.2) ⟨by decide, Nat.le_of_ble_eq_true rfl⟩ dX5_init_1 ?_
  refine v_aload_n X dX5_init_4 rfl (lv_at hl 0 rfl) ?_
  refine v_bipush (v := (100 : Int32)) X dX5_init_5 (by decide) ?_
  refine v_newI (N := 100) X hF hH hA (by decide) (by decide) (by decide) (by decide) (by decide) dX5_init_7 (fun F q1 H hF X hH hA => ?_)
  have hH : HH F D A ((([(q, .inr (5, [.null, .int 0, .int 0, .int 0, .int 0]))] : va_W) ++ [(q1, .inl (K 0, 100, .inl (fun _ => 0)))])) H locs := hH
  refine v_putF X (by rw [hF.1]; exact hin0) hH 0 rfl ff_X5_9 rfl rfl (Nat.le_of_ble_eq_true rfl) dX5_init_9 (fun H locs hH => ?_)
  have hH : HH F D A ((([(q, .inr (5, [.ref q1, .int 0, .int 0, .int 0, .int 0]))] : va_W) ++ [(q1, .inl (K 0, 100, .inl (fun _ => 0)))])) H locs := hH
  exact v_cret X hF hr hk (fun j => ([q, q1] : List Nat).getD j 0) (hH.perm [0, 1] rfl rfl) rfl (by decide) (by decide) dX5_init_12
def zX7 : BX7 := ((fun _ => 0), (fun _ => 0), (fun _ => 0), 0, (fun _ => 0), (upd (upd (upd (upd (upd (upd (upd (upd (fun _ => 0) (0 : Int32).toNatClampNeg (-1 : Int32)) (1 : Int32).toNatClampNeg (-1 : Int32)) (2 : Int32).toNatClampNeg (-1 : Int32)) (3 : Int32).toNatClampNeg (-1 : Int32)) (4 : Int32).toNatClampNeg (-1 : Int32)) (5 : Int32).toNatClampNeg (-1 : Int32)) (6 : Int32).toNatClampNeg (-1 : Int32)) (7 : Int32).toNatClampNeg (-1 : Int32)), (fun _ => 0), 0, (fun _ => 0), 0, 0, (fun _ => 0), 0, (fun _ => 0), 0, 0, 0)
set_option maxHeartbeats 8000000 in
set_option maxRecDepth 100000 in
theorem c_X7_init (l : Launch) (D : va_G) (K : Nat → ClassId) (q : Nat) : CtM l yX7_init cX7_init 2 ({ frames := 1, cells := 9, slots := 1070, locals := 40 } : Room) D K q 7 [.null, .null, .null, .int 0, .null, .null, .null, .int 0, .null, .int 0, .int 0, .null, .int 0, .null, .int 0, .int 0, .int 0] (fun _ => True) (fun o : Nat → Nat => CX7 K o zX7) (fun o : Nat → Nat => q = o 0) := by
  refine CtM.mk rfl rfl (by decide) ?_
  intro G ls A _ hF hin hr hk X hH hA hl hE
  have hin0 := hin
  have X : Cx G cX7_init 2 RX7 D (TY K) := X
  suffices go : ∀ (F : FX) (H : Heap) (locs : List Loc), FA F G ({ frames := 1, cells := 9, slots := 1070, locals := 40 } : Room) 0 0 → F.2.2.2.2.2.2.2.2.1.name = "<init>" → Cx F cX7_init 2 RX7 D (TY K) → HH F D A ([(q, .inr (7, [.null, .null, .null, .int 0, .null, .null, .null, .int 0, .null, .int 0, .int 0, .null, .int 0, .null, .int 0, .int 0, .int 0]))] : va_W) H locs → (∀ q : Nat, (fxS F).heap.size ≤ q → A q) → fxS F = fxS G → V F (CQ G D K A (fun o : Nat → Nat => CX7 K o zX7) (fun o : Nat → Nat => q = o 0)) H locs 0 ls [] from go G _ _ hF hin X hH hA rfl
  clear hH hA X hF
  intro F H locs hF hin X hH hA hs
  refine v_aload_n X dX7_init_0 rfl (lv_at hl 0 rfl) ?_
  refine v_objI (rm := ({ frames := 1, cells := 9, slots := 1070, locals := 40 } : Room)) X hl.1 ko_X7_1 (by rw [hF.1]; exact hF.2) ⟨by decide, Nat.le_of_ble_eq_true rfl⟩ dX7_init_1 ?_
  refine v_aload_n X dX7_init_4 rfl (lv_at hl 0 rfl) ?_
  refine v_sipush (v := (144 : Int32)) X dX7_init_5 (by decide) ?_
  refine v_newI (N := 144) X hF hH hA (by decide) (by decide) (by decide) (by decide) (by decide) dX7_init_8 (fun F q1 H hF X hH hA => ?_)
  have hH : HH F D A ((([(q, .inr (7, [.null, .null, .null, .int 0, .null, .null, .null, .int 0, .null, .int 0, .int 0, .null, .int 0, .null, .int 0, .int 0, .int 0]))] : va_W) ++ [(q1, .inl (K 0, 144, .inl (fun _ => 0)))])) H locs := hH
  refine v_putF X (by rw [hF.1]; exact hin0) hH 0 rfl ff_X7_7 rfl rfl (Nat.le_of_ble_eq_true rfl) dX7_init_10 (fun H locs hH => ?_)
  have hH : HH F D A ((([(q, .inr (7, [.ref q1, .null, .null, .int 0, .null, .null, .null, .int 0, .null, .int 0, .int 0, .null, .int 0, .null, .int 0, .int 0, .int 0]))] : va_W) ++ [(q1, .inl (K 0, 144, .inl (fun _ => 0)))])) H locs := hH
  refine v_aload_n X dX7_init_13 rfl (lv_at hl 0 rfl) ?_
  refine v_iconst (v := (2 : Int32)) X dX7_init_14 (by decide) ?_
  refine v_newZ (N := 2) X hF hH hA (by decide) (by decide) (by decide) (by decide) (by decide) dX7_init_15 (fun F q2 H hF X hH hA => ?_)
  have hH : HH F D A ((([(q, .inr (7, [.ref q1, .null, .null, .int 0, .null, .null, .null, .int 0, .null, .int 0, .int 0, .null, .int 0, .null, .int 0, .int 0, .int 0]))] : va_W) ++ [(q1, .inl (K 0, 144, .inl (fun _ => 0)))] ++ [(q2, .inl (K 1, 2, .inl (fun _ => 0)))])) H locs := hH
  refine v_putF X (by rw [hF.1]; exact hin0) hH 0 rfl ff_X7_13 rfl rfl (Nat.le_of_ble_eq_true rfl) dX7_init_17 (fun H locs hH => ?_)
  have hH : HH F D A ((([(q, .inr (7, [.ref q1, .ref q2, .null, .int 0, .null, .null, .null, .int 0, .null, .int 0, .int 0, .null, .int 0, .null, .int 0, .int 0, .int 0]))] : va_W) ++ [(q1, .inl (K 0, 144, .inl (fun _ => 0)))] ++ [(q2, .inl (K 1, 2, .inl (fun _ => 0)))])) H locs := hH
  refine v_aload_n X dX7_init_20 rfl (lv_at hl 0 rfl) ?_
  refine v_sipush (v := (432 : Int32)) X dX7_init_21 (by decide) ?_
  refine v_newI (N := 432) X hF hH hA (by decide) (by decide) (by decide) (by decide) (by decide) dX7_init_24 (fun F q3 H hF X hH hA => ?_)
  have hH : HH F D A ((([(q, .inr (7, [.ref q1, .ref q2, .null, .int 0, .null, .null, .null, .int 0, .null, .int 0, .int 0, .null, .int 0, .null, .int 0, .int 0, .int 0]))] : va_W) ++ [(q1, .inl (K 0, 144, .inl (fun _ => 0)))] ++ [(q2, .inl (K 1, 2, .inl (fun _ => 0)))] ++ [(q3, .inl (K 0, 432, .inl (fun _ => 0)))])) H locs := hH
  refine v_putF X (by rw [hF.1]; exact hin0) hH 0 rfl ff_X7_17 rfl rfl (Nat.le_of_ble_eq_true rfl) dX7_init_26 (fun H locs hH => ?_)
  have hH : HH F D A ((([(q, .inr (7, [.ref q1, .ref q2, .ref q3, .int 0, .null, .null, .null, .int 0, .null, .int 0, .int 0, .null, .int 0, .null, .int 0, .int 0, .int 0]))] : va_W) ++ [(q1, .inl (K 0, 144, .inl (fun _ => 0)))] ++ [(q2, .inl (K 1, 2, .inl (fun _ => 0)))] ++ [(q3, .inl (K 0, 432, .inl (fun _ => 0)))])) H locs := hH
  refine v_aload_n X dX7_init_29 rfl (lv_at hl 0 rfl) ?_
  refine v_sipush (v := (320 : Int32)) X dX7_init_30 (by decide) ?_
  refine v_newI (N := 320) X hF hH hA (by decide) (by decide) (by decide) (by decide) (by decide) dX7_init_33 (fun F q4 H hF X hH hA => ?_)
  have hH : HH F D A ((([(q, .inr (7, [.ref q1, .ref q2, .ref q3, .int 0, .null, .null, .null, .int 0, .null, .int 0, .int 0, .null, .int 0, .null, .int 0, .int 0, .int 0]))] : va_W) ++ [(q1, .inl (K 0, 144, .inl (fun _ => 0)))] ++ [(q2, .inl (K 1, 2, .inl (fun _ => 0)))] ++ [(q3, .inl (K 0, 432, .inl (fun _ => 0)))] ++ [(q4, .inl (K 0, 320, .inl (fun _ => 0)))])) H locs := hH
  refine v_putF X (by rw [hF.1]; exact hin0) hH 0 rfl ff_X7_20 rfl rfl (Nat.le_of_ble_eq_true rfl) dX7_init_35 (fun H locs hH => ?_)
  have hH : HH F D A ((([(q, .inr (7, [.ref q1, .ref q2, .ref q3, .int 0, .ref q4, .null, .null, .int 0, .null, .int 0, .int 0, .null, .int 0, .null, .int 0, .int 0, .int 0]))] : va_W) ++ [(q1, .inl (K 0, 144, .inl (fun _ => 0)))] ++ [(q2, .inl (K 1, 2, .inl (fun _ => 0)))] ++ [(q3, .inl (K 0, 432, .inl (fun _ => 0)))] ++ [(q4, .inl (K 0, 320, .inl (fun _ => 0)))])) H locs := hH
  refine v_aload_n X dX7_init_38 rfl (lv_at hl 0 rfl) ?_
  refine v_bipush (v := (8 : Int32)) X dX7_init_39 (by decide) ?_
  refine v_newI (N := 8) X hF hH hA (by decide) (by decide) (by decide) (by decide) (by decide) dX7_init_41 (fun F q5 H hF X hH hA => ?_)
  have hH : HH F D A ((([(q, .inr (7, [.ref q1, .ref q2, .ref q3, .int 0, .ref q4, .null, .null, .int 0, .null, .int 0, .int 0, .null, .int 0, .null, .int 0, .int 0, .int 0]))] : va_W) ++ [(q1, .inl (K 0, 144, .inl (fun _ => 0)))] ++ [(q2, .inl (K 1, 2, .inl (fun _ => 0)))] ++ [(q3, .inl (K 0, 432, .inl (fun _ => 0)))] ++ [(q4, .inl (K 0, 320, .inl (fun _ => 0)))] ++ [(q5, .inl (K 0, 8, .inl (fun _ => 0)))])) H locs := hH
  refine v_putF X (by rw [hF.1]; exact hin0) hH 0 rfl ff_X7_23 rfl rfl (Nat.le_of_ble_eq_true rfl) dX7_init_43 (fun H locs hH => ?_)
  have hH : HH F D A ((([(q, .inr (7, [.ref q1, .ref q2, .ref q3, .int 0, .ref q4, .ref q5, .null, .int 0, .null, .int 0, .int 0, .null, .int 0, .null, .int 0, .int 0, .int 0]))] : va_W) ++ [(q1, .inl (K 0, 144, .inl (fun _ => 0)))] ++ [(q2, .inl (K 1, 2, .inl (fun _ => 0)))] ++ [(q3, .inl (K 0, 432, .inl (fun _ => 0)))] ++ [(q4, .inl (K 0, 320, .inl (fun _ => 0)))] ++ [(q5, .inl (K 0, 8, .inl (fun _ => 0)))])) H locs := hH
  refine v_aload_n X dX7_init_46 rfl (lv_at hl 0 rfl) ?_
  refine v_bipush (v := (8 : Int32)) X dX7_init_47 (by decide) ?_
  refine v_newI (N := 8) X hF hH hA (by decide) (by decide) (by decide) (by decide) (by decide) dX7_init_49 (fun F q6 H hF X hH hA => ?_)
  have hH : HH F D A ((([(q, .inr (7, [.ref q1, .ref q2, .ref q3, .int 0, .ref q4, .ref q5, .null, .int 0, .null, .int 0, .int 0, .null, .int 0, .null, .int 0, .int 0, .int 0]))] : va_W) ++ [(q1, .inl (K 0, 144, .inl (fun _ => 0)))] ++ [(q2, .inl (K 1, 2, .inl (fun _ => 0)))] ++ [(q3, .inl (K 0, 432, .inl (fun _ => 0)))] ++ [(q4, .inl (K 0, 320, .inl (fun _ => 0)))] ++ [(q5, .inl (K 0, 8, .inl (fun _ => 0)))] ++ [(q6, .inl (K 0, 8, .inl (fun _ => 0)))])) H locs := hH
  refine v_putF X (by rw [hF.1]; exact hin0) hH 0 rfl ff_X7_26 rfl rfl (Nat.le_of_ble_eq_true rfl) dX7_init_51 (fun H locs hH => ?_)
  have hH : HH F D A ((([(q, .inr (7, [.ref q1, .ref q2, .ref q3, .int 0, .ref q4, .ref q5, .ref q6, .int 0, .null, .int 0, .int 0, .null, .int 0, .null, .int 0, .int 0, .int 0]))] : va_W) ++ [(q1, .inl (K 0, 144, .inl (fun _ => 0)))] ++ [(q2, .inl (K 1, 2, .inl (fun _ => 0)))] ++ [(q3, .inl (K 0, 432, .inl (fun _ => 0)))] ++ [(q4, .inl (K 0, 320, .inl (fun _ => 0)))] ++ [(q5, .inl (K 0, 8, .inl (fun _ => 0)))] ++ [(q6, .inl (K 0, 8, .inl (fun _ => 0)))])) H locs := hH
  refine v_aload_n X dX7_init_54 rfl (lv_at hl 0 rfl) ?_
  refine v_bipush (v := (100 : Int32)) X dX7_init_55 (by decide) ?_
  refine v_newI (N := 100) X hF hH hA (by decide) (by decide) (by decide) (by decide) (by decide) dX7_init_57 (fun F q7 H hF X hH hA => ?_)
  have hH : HH F D A ((([(q, .inr (7, [.ref q1, .ref q2, .ref q3, .int 0, .ref q4, .ref q5, .ref q6, .int 0, .null, .int 0, .int 0, .null, .int 0, .null, .int 0, .int 0, .int 0]))] : va_W) ++ [(q1, .inl (K 0, 144, .inl (fun _ => 0)))] ++ [(q2, .inl (K 1, 2, .inl (fun _ => 0)))] ++ [(q3, .inl (K 0, 432, .inl (fun _ => 0)))] ++ [(q4, .inl (K 0, 320, .inl (fun _ => 0)))] ++ [(q5, .inl (K 0, 8, .inl (fun _ => 0)))] ++ [(q6, .inl (K 0, 8, .inl (fun _ => 0)))] ++ [(q7, .inl (K 0, 100, .inl (fun _ => 0)))])) H locs := hH
  refine v_putF X (by rw [hF.1]; exact hin0) hH 0 rfl ff_X7_29 rfl rfl (Nat.le_of_ble_eq_true rfl) dX7_init_59 (fun H locs hH => ?_)
  have hH : HH F D A ((([(q, .inr (7, [.ref q1, .ref q2, .ref q3, .int 0, .ref q4, .ref q5, .ref q6, .int 0, .ref q7, .int 0, .int 0, .null, .int 0, .null, .int 0, .int 0, .int 0]))] : va_W) ++ [(q1, .inl (K 0, 144, .inl (fun _ => 0)))] ++ [(q2, .inl (K 1, 2, .inl (fun _ => 0)))] ++ [(q3, .inl (K 0, 432, .inl (fun _ => 0)))] ++ [(q4, .inl (K 0, 320, .inl (fun _ => 0)))] ++ [(q5, .inl (K 0, 8, .inl (fun _ => 0)))] ++ [(q6, .inl (K 0, 8, .inl (fun _ => 0)))] ++ [(q7, .inl (K 0, 100, .inl (fun _ => 0)))])) H locs := hH
  refine v_aload_n X dX7_init_62 rfl (lv_at hl 0 rfl) ?_
  refine v_bipush (v := (16 : Int32)) X dX7_init_63 (by decide) ?_
  refine v_newI (N := 16) X hF hH hA (by decide) (by decide) (by decide) (by decide) (by decide) dX7_init_65 (fun F q8 H hF X hH hA => ?_)
  have hH : HH F D A ((([(q, .inr (7, [.ref q1, .ref q2, .ref q3, .int 0, .ref q4, .ref q5, .ref q6, .int 0, .ref q7, .int 0, .int 0, .null, .int 0, .null, .int 0, .int 0, .int 0]))] : va_W) ++ [(q1, .inl (K 0, 144, .inl (fun _ => 0)))] ++ [(q2, .inl (K 1, 2, .inl (fun _ => 0)))] ++ [(q3, .inl (K 0, 432, .inl (fun _ => 0)))] ++ [(q4, .inl (K 0, 320, .inl (fun _ => 0)))] ++ [(q5, .inl (K 0, 8, .inl (fun _ => 0)))] ++ [(q6, .inl (K 0, 8, .inl (fun _ => 0)))] ++ [(q7, .inl (K 0, 100, .inl (fun _ => 0)))] ++ [(q8, .inl (K 0, 16, .inl (fun _ => 0)))])) H locs := hH
  refine v_putF X (by rw [hF.1]; exact hin0) hH 0 rfl ff_X7_32 rfl rfl (Nat.le_of_ble_eq_true rfl) dX7_init_67 (fun H locs hH => ?_)
  have hH : HH F D A ((([(q, .inr (7, [.ref q1, .ref q2, .ref q3, .int 0, .ref q4, .ref q5, .ref q6, .int 0, .ref q7, .int 0, .int 0, .ref q8, .int 0, .null, .int 0, .int 0, .int 0]))] : va_W) ++ [(q1, .inl (K 0, 144, .inl (fun _ => 0)))] ++ [(q2, .inl (K 1, 2, .inl (fun _ => 0)))] ++ [(q3, .inl (K 0, 432, .inl (fun _ => 0)))] ++ [(q4, .inl (K 0, 320, .inl (fun _ => 0)))] ++ [(q5, .inl (K 0, 8, .inl (fun _ => 0)))] ++ [(q6, .inl (K 0, 8, .inl (fun _ => 0)))] ++ [(q7, .inl (K 0, 100, .inl (fun _ => 0)))] ++ [(q8, .inl (K 0, 16, .inl (fun _ => 0)))])) H locs := hH
  refine v_aload_n X dX7_init_70 rfl (lv_at hl 0 rfl) ?_
  refine v_bipush (v := (40 : Int32)) X dX7_init_71 (by decide) ?_
  refine v_newI (N := 40) X hF hH hA (by decide) (by decide) (by decide) (by decide) (by decide) dX7_init_73 (fun F q9 H hF X hH hA => ?_)
  have hH : HH F D A ((([(q, .inr (7, [.ref q1, .ref q2, .ref q3, .int 0, .ref q4, .ref q5, .ref q6, .int 0, .ref q7, .int 0, .int 0, .ref q8, .int 0, .null, .int 0, .int 0, .int 0]))] : va_W) ++ [(q1, .inl (K 0, 144, .inl (fun _ => 0)))] ++ [(q2, .inl (K 1, 2, .inl (fun _ => 0)))] ++ [(q3, .inl (K 0, 432, .inl (fun _ => 0)))] ++ [(q4, .inl (K 0, 320, .inl (fun _ => 0)))] ++ [(q5, .inl (K 0, 8, .inl (fun _ => 0)))] ++ [(q6, .inl (K 0, 8, .inl (fun _ => 0)))] ++ [(q7, .inl (K 0, 100, .inl (fun _ => 0)))] ++ [(q8, .inl (K 0, 16, .inl (fun _ => 0)))] ++ [(q9, .inl (K 0, 40, .inl (fun _ => 0)))])) H locs := hH
  refine v_putF X (by rw [hF.1]; exact hin0) hH 0 rfl ff_X7_35 rfl rfl (Nat.le_of_ble_eq_true rfl) dX7_init_75 (fun H locs hH => ?_)
  have hH : HH F D A ((([(q, .inr (7, [.ref q1, .ref q2, .ref q3, .int 0, .ref q4, .ref q5, .ref q6, .int 0, .ref q7, .int 0, .int 0, .ref q8, .int 0, .ref q9, .int 0, .int 0, .int 0]))] : va_W) ++ [(q1, .inl (K 0, 144, .inl (fun _ => 0)))] ++ [(q2, .inl (K 1, 2, .inl (fun _ => 0)))] ++ [(q3, .inl (K 0, 432, .inl (fun _ => 0)))] ++ [(q4, .inl (K 0, 320, .inl (fun _ => 0)))] ++ [(q5, .inl (K 0, 8, .inl (fun _ => 0)))] ++ [(q6, .inl (K 0, 8, .inl (fun _ => 0)))] ++ [(q7, .inl (K 0, 100, .inl (fun _ => 0)))] ++ [(q8, .inl (K 0, 16, .inl (fun _ => 0)))] ++ [(q9, .inl (K 0, 40, .inl (fun _ => 0)))])) H locs := hH
  refine v_iconst (v := (0 : Int32)) X dX7_init_78 (by decide) ?_
  refine v_istore_n (lv' := [(1, .int (0 : Int32)), (0, .ref q)]) X dX7_init_79 rfl hl (by decide) rfl (fun ls hl => ?_)
  refine v_iload_n X dX7_init_80 rfl (lv_at hl 0 rfl) ?_
  refine v_bipush (v := (8 : Int32)) X dX7_init_81 (by decide) ?_
  refine v_icmp_ge (tgt := 99) X dX7_init_83 (by decide) (fun c => absurd c (by decide)) (fun _ => ?_)
  refine v_aload_n X dX7_init_86 rfl (lv_at hl 1 rfl) ?_
  refine v_get (v := .ref q5) X hH.1 0 rfl fk_X7_23 rfl dX7_init_87 ?_
  refine v_iload_n X dX7_init_90 rfl (lv_at hl 0 rfl) ?_
  refine v_iconst (v := (-1 : Int32)) X dX7_init_91 (by decide) ?_
  refine v_iast (f := (fun _ => 0)) X hH 5 0 rfl rfl (by unfold vp_in; decide) dX7_init_92 (fun H locs hH => ?_)
  have hH : HH F D A ((([(q, .inr (7, [.ref q1, .ref q2, .ref q3, .int 0, .ref q4, .ref q5, .ref q6, .int 0, .ref q7, .int 0, .int 0, .ref q8, .int 0, .ref q9, .int 0, .int 0, .int 0]))] : va_W) ++ [(q1, .inl (K 0, 144, .inl (fun _ => 0)))] ++ [(q2, .inl (K 1, 2, .inl (fun _ => 0)))] ++ [(q3, .inl (K 0, 432, .inl (fun _ => 0)))] ++ [(q4, .inl (K 0, 320, .inl (fun _ => 0)))] ++ [(q5, .inl (K 0, 8, .inl (upd (fun _ => 0) (0 : Int32).toNatClampNeg (-1 : Int32))))] ++ [(q6, .inl (K 0, 8, .inl (fun _ => 0)))] ++ [(q7, .inl (K 0, 100, .inl (fun _ => 0)))] ++ [(q8, .inl (K 0, 16, .inl (fun _ => 0)))] ++ [(q9, .inl (K 0, 40, .inl (fun _ => 0)))])) H locs := hH
  refine v_iinc (v := (1 : Int32)) (lv' := [(1, .int (1 : Int32)), (0, .ref q)]) X dX7_init_93 hl (k := 0) rfl (by decide) (by decide) rfl (fun ls hl => ?_)
  refine v_goto (tgt := 80) X dX7_init_96 (by decide) ?_
  refine v_iload_n X dX7_init_80 rfl (lv_at hl 0 rfl) ?_
  refine v_bipush (v := (8 : Int32)) X dX7_init_81 (by decide) ?_
  refine v_icmp_ge (tgt := 99) X dX7_init_83 (by decide) (fun c => absurd c (by decide)) (fun _ => ?_)
  refine v_aload_n X dX7_init_86 rfl (lv_at hl 1 rfl) ?_
  refine v_get (v := .ref q5) X hH.1 0 rfl fk_X7_23 rfl dX7_init_87 ?_
  refine v_iload_n X dX7_init_90 rfl (lv_at hl 0 rfl) ?_
  refine v_iconst (v := (-1 : Int32)) X dX7_init_91 (by decide) ?_
  refine v_iast (f := (upd (fun _ => 0) (0 : Int32).toNatClampNeg (-1 : Int32))) X hH 5 0 rfl rfl (by unfold vp_in; decide) dX7_init_92 (fun H locs hH => ?_)
  have hH : HH F D A ((([(q, .inr (7, [.ref q1, .ref q2, .ref q3, .int 0, .ref q4, .ref q5, .ref q6, .int 0, .ref q7, .int 0, .int 0, .ref q8, .int 0, .ref q9, .int 0, .int 0, .int 0]))] : va_W) ++ [(q1, .inl (K 0, 144, .inl (fun _ => 0)))] ++ [(q2, .inl (K 1, 2, .inl (fun _ => 0)))] ++ [(q3, .inl (K 0, 432, .inl (fun _ => 0)))] ++ [(q4, .inl (K 0, 320, .inl (fun _ => 0)))] ++ [(q5, .inl (K 0, 8, .inl (upd (upd (fun _ => 0) (0 : Int32).toNatClampNeg (-1 : Int32)) (1 : Int32).toNatClampNeg (-1 : Int32))))] ++ [(q6, .inl (K 0, 8, .inl (fun _ => 0)))] ++ [(q7, .inl (K 0, 100, .inl (fun _ => 0)))] ++ [(q8, .inl (K 0, 16, .inl (fun _ => 0)))] ++ [(q9, .inl (K 0, 40, .inl (fun _ => 0)))])) H locs := hH
  refine v_iinc (v := (2 : Int32)) (lv' := [(1, .int (2 : Int32)), (0, .ref q)]) X dX7_init_93 hl (k := 0) rfl (by decide) (by decide) rfl (fun ls hl => ?_)
  refine v_goto (tgt := 80) X dX7_init_96 (by decide) ?_
  refine v_iload_n X dX7_init_80 rfl (lv_at hl 0 rfl) ?_
  refine v_bipush (v := (8 : Int32)) X dX7_init_81 (by decide) ?_
  refine v_icmp_ge (tgt := 99) X dX7_init_83 (by decide) (fun c => absurd c (by decide)) (fun _ => ?_)
  refine v_aload_n X dX7_init_86 rfl (lv_at hl 1 rfl) ?_
  refine v_get (v := .ref q5) X hH.1 0 rfl fk_X7_23 rfl dX7_init_87 ?_
  refine v_iload_n X dX7_init_90 rfl (lv_at hl 0 rfl) ?_
  refine v_iconst (v := (-1 : Int32)) X dX7_init_91 (by decide) ?_
  refine v_iast (f := (upd (upd (fun _ => 0) (0 : Int32).toNatClampNeg (-1 : Int32)) (1 : Int32).toNatClampNeg (-1 : Int32))) X hH 5 0 rfl rfl (by unfold vp_in; decide) dX7_init_92 (fun H locs hH => ?_)
  have hH : HH F D A ((([(q, .inr (7, [.ref q1, .ref q2, .ref q3, .int 0, .ref q4, .ref q5, .ref q6, .int 0, .ref q7, .int 0, .int 0, .ref q8, .int 0, .ref q9, .int 0, .int 0, .int 0]))] : va_W) ++ [(q1, .inl (K 0, 144, .inl (fun _ => 0)))] ++ [(q2, .inl (K 1, 2, .inl (fun _ => 0)))] ++ [(q3, .inl (K 0, 432, .inl (fun _ => 0)))] ++ [(q4, .inl (K 0, 320, .inl (fun _ => 0)))] ++ [(q5, .inl (K 0, 8, .inl (upd (upd (upd (fun _ => 0) (0 : Int32).toNatClampNeg (-1 : Int32)) (1 : Int32).toNatClampNeg (-1 : Int32)) (2 : Int32).toNatClampNeg (-1 : Int32))))] ++ [(q6, .inl (K 0, 8, .inl (fun _ => 0)))] ++ [(q7, .inl (K 0, 100, .inl (fun _ => 0)))] ++ [(q8, .inl (K 0, 16, .inl (fun _ => 0)))] ++ [(q9, .inl (K 0, 40, .inl (fun _ => 0)))])) H locs := hH
  refine v_iinc (v := (3 : Int32)) (lv' := [(1, .int (3 : Int32)), (0, .ref q)]) X dX7_init_93 hl (k := 0) rfl (by decide) (by decide) rfl (fun ls hl => ?_)
  refine v_goto (tgt := 80) X dX7_init_96 (by decide) ?_
  refine v_iload_n X dX7_init_80 rfl (lv_at hl 0 rfl) ?_
  refine v_bipush (v := (8 : Int32)) X dX7_init_81 (by decide) ?_
  refine v_icmp_ge (tgt := 99) X dX7_init_83 (by decide) (fun c => absurd c (by decide)) (fun _ => ?_)
  refine v_aload_n X dX7_init_86 rfl (lv_at hl 1 rfl) ?_
  refine v_get (v := .ref q5) X hH.1 0 rfl fk_X7_23 rfl dX7_init_87 ?_
  refine v_iload_n X dX7_init_90 rfl (lv_at hl 0 rfl) ?_
  refine v_iconst (v := (-1 : Int32)) X dX7_init_91 (by decide) ?_
  refine v_iast (f := (upd (upd (upd (fun _ => 0) (0 : Int32).toNatClampNeg (-1 : Int32)) (1 : Int32).toNatClampNeg (-1 : Int32)) (2 : Int32).toNatClampNeg (-1 : Int32))) X hH 5 0 rfl rfl (by unfold vp_in; decide) dX7_init_92 (fun H locs hH => ?_)
  have hH : HH F D A ((([(q, .inr (7, [.ref q1, .ref q2, .ref q3, .int 0, .ref q4, .ref q5, .ref q6, .int 0, .ref q7, .int 0, .int 0, .ref q8, .int 0, .ref q9, .int 0, .int 0, .int 0]))] : va_W) ++ [(q1, .inl (K 0, 144, .inl (fun _ => 0)))] ++ [(q2, .inl (K 1, 2, .inl (fun _ => 0)))] ++ [(q3, .inl (K 0, 432, .inl (fun _ => 0)))] ++ [(q4, .inl (K 0, 320, .inl (fun _ => 0)))] ++ [(q5, .inl (K 0, 8, .inl (upd (upd (upd (upd (fun _ => 0) (0 : Int32).toNatClampNeg (-1 : Int32)) (1 : Int32).toNatClampNeg (-1 : Int32)) (2 : Int32).toNatClampNeg (-1 : Int32)) (3 : Int32).toNatClampNeg (-1 : Int32))))] ++ [(q6, .inl (K 0, 8, .inl (fun _ => 0)))] ++ [(q7, .inl (K 0, 100, .inl (fun _ => 0)))] ++ [(q8, .inl (K 0, 16, .inl (fun _ => 0)))] ++ [(q9, .inl (K 0, 40, .inl (fun _ => 0)))])) H locs := hH
  refine v_iinc (v := (4 : Int32)) (lv' := [(1, .int (4 : Int32)), (0, .ref q)]) X dX7_init_93 hl (k := 0) rfl (by decide) (by decide) rfl (fun ls hl => ?_)
  refine v_goto (tgt := 80) X dX7_init_96 (by decide) ?_
  refine v_iload_n X dX7_init_80 rfl (lv_at hl 0 rfl) ?_
  refine v_bipush (v := (8 : Int32)) X dX7_init_81 (by decide) ?_
  refine v_icmp_ge (tgt := 99) X dX7_init_83 (by decide) (fun c => absurd c (by decide)) (fun _ => ?_)
  refine v_aload_n X dX7_init_86 rfl (lv_at hl 1 rfl) ?_
  refine v_get (v := .ref q5) X hH.1 0 rfl fk_X7_23 rfl dX7_init_87 ?_
  refine v_iload_n X dX7_init_90 rfl (lv_at hl 0 rfl) ?_
  refine v_iconst (v := (-1 : Int32)) X dX7_init_91 (by decide) ?_
  refine v_iast (f := (upd (upd (upd (upd (fun _ => 0) (0 : Int32).toNatClampNeg (-1 : Int32)) (1 : Int32).toNatClampNeg (-1 : Int32)) (2 : Int32).toNatClampNeg (-1 : Int32)) (3 : Int32).toNatClampNeg (-1 : Int32))) X hH 5 0 rfl rfl (by unfold vp_in; decide) dX7_init_92 (fun H locs hH => ?_)
  have hH : HH F D A ((([(q, .inr (7, [.ref q1, .ref q2, .ref q3, .int 0, .ref q4, .ref q5, .ref q6, .int 0, .ref q7, .int 0, .int 0, .ref q8, .int 0, .ref q9, .int 0, .int 0, .int 0]))] : va_W) ++ [(q1, .inl (K 0, 144, .inl (fun _ => 0)))] ++ [(q2, .inl (K 1, 2, .inl (fun _ => 0)))] ++ [(q3, .inl (K 0, 432, .inl (fun _ => 0)))] ++ [(q4, .inl (K 0, 320, .inl (fun _ => 0)))] ++ [(q5, .inl (K 0, 8, .inl (upd (upd (upd (upd (upd (fun _ => 0) (0 : Int32).toNatClampNeg (-1 : Int32)) (1 : Int32).toNatClampNeg (-1 : Int32)) (2 : Int32).toNatClampNeg (-1 : Int32)) (3 : Int32).toNatClampNeg (-1 : Int32)) (4 : Int32).toNatClampNeg (-1 : Int32))))] ++ [(q6, .inl (K 0, 8, .inl (fun _ => 0)))] ++ [(q7, .inl (K 0, 100, .inl (fun _ => 0)))] ++ [(q8, .inl (K 0, 16, .inl (fun _ => 0)))] ++ [(q9, .inl (K 0, 40, .inl (fun _ => 0)))])) H locs := hH
  refine v_iinc (v := (5 : Int32)) (lv' := [(1, .int (5 : Int32)), (0, .ref q)]) X dX7_init_93 hl (k := 0) rfl (by decide) (by decide) rfl (fun ls hl => ?_)
  refine v_goto (tgt := 80) X dX7_init_96 (by decide) ?_
  refine v_iload_n X dX7_init_80 rfl (lv_at hl 0 rfl) ?_
  refine v_bipush (v := (8 : Int32)) X dX7_init_81 (by decide) ?_
  refine v_icmp_ge (tgt := 99) X dX7_init_83 (by decide) (fun c => absurd c (by decide)) (fun _ => ?_)
  refine v_aload_n X dX7_init_86 rfl (lv_at hl 1 rfl) ?_
  refine v_get (v := .ref q5) X hH.1 0 rfl fk_X7_23 rfl dX7_init_87 ?_
  refine v_iload_n X dX7_init_90 rfl (lv_at hl 0 rfl) ?_
  refine v_iconst (v := (-1 : Int32)) X dX7_init_91 (by decide) ?_
  refine v_iast (f := (upd (upd (upd (upd (upd (fun _ => 0) (0 : Int32).toNatClampNeg (-1 : Int32)) (1 : Int32).toNatClampNeg (-1 : Int32)) (2 : Int32).toNatClampNeg (-1 : Int32)) (3 : Int32).toNatClampNeg (-1 : Int32)) (4 : Int32).toNatClampNeg (-1 : Int32))) X hH 5 0 rfl rfl (by unfold vp_in; decide) dX7_init_92 (fun H locs hH => ?_)
  have hH : HH F D A ((([(q, .inr (7, [.ref q1, .ref q2, .ref q3, .int 0, .ref q4, .ref q5, .ref q6, .int 0, .ref q7, .int 0, .int 0, .ref q8, .int 0, .ref q9, .int 0, .int 0, .int 0]))] : va_W) ++ [(q1, .inl (K 0, 144, .inl (fun _ => 0)))] ++ [(q2, .inl (K 1, 2, .inl (fun _ => 0)))] ++ [(q3, .inl (K 0, 432, .inl (fun _ => 0)))] ++ [(q4, .inl (K 0, 320, .inl (fun _ => 0)))] ++ [(q5, .inl (K 0, 8, .inl (upd (upd (upd (upd (upd (upd (fun _ => 0) (0 : Int32).toNatClampNeg (-1 : Int32)) (1 : Int32).toNatClampNeg (-1 : Int32)) (2 : Int32).toNatClampNeg (-1 : Int32)) (3 : Int32).toNatClampNeg (-1 : Int32)) (4 : Int32).toNatClampNeg (-1 : Int32)) (5 : Int32).toNatClampNeg (-1 : Int32))))] ++ [(q6, .inl (K 0, 8, .inl (fun _ => 0)))] ++ [(q7, .inl (K 0, 100, .inl (fun _ => 0)))] ++ [(q8, .inl (K 0, 16, .inl (fun _ => 0)))] ++ [(q9, .inl (K 0, 40, .inl (fun _ => 0)))])) H locs := hH
  refine v_iinc (v := (6 : Int32)) (lv' := [(1, .int (6 : Int32)), (0, .ref q)]) X dX7_init_93 hl (k := 0) rfl (by decide) (by decide) rfl (fun ls hl => ?_)
  refine v_goto (tgt := 80) X dX7_init_96 (by decide) ?_
  refine v_iload_n X dX7_init_80 rfl (lv_at hl 0 rfl) ?_
  refine v_bipush (v := (8 : Int32)) X dX7_init_81 (by decide) ?_
  refine v_icmp_ge (tgt := 99) X dX7_init_83 (by decide) (fun c => absurd c (by decide)) (fun _ => ?_)
  refine v_aload_n X dX7_init_86 rfl (lv_at hl 1 rfl) ?_
  refine v_get (v := .ref q5) X hH.1 0 rfl fk_X7_23 rfl dX7_init_87 ?_
  refine v_iload_n X dX7_init_90 rfl (lv_at hl 0 rfl) ?_
  refine v_iconst (v := (-1 : Int32)) X dX7_init_91 (by decide) ?_
  refine v_iast (f := (upd (upd (upd (upd (upd (upd (fun _ => 0) (0 : Int32).toNatClampNeg (-1 : Int32)) (1 : Int32).toNatClampNeg (-1 : Int32)) (2 : Int32).toNatClampNeg (-1 : Int32)) (3 : Int32).toNatClampNeg (-1 : Int32)) (4 : Int32).toNatClampNeg (-1 : Int32)) (5 : Int32).toNatClampNeg (-1 : Int32))) X hH 5 0 rfl rfl (by unfold vp_in; decide) dX7_init_92 (fun H locs hH => ?_)
  have hH : HH F D A ((([(q, .inr (7, [.ref q1, .ref q2, .ref q3, .int 0, .ref q4, .ref q5, .ref q6, .int 0, .ref q7, .int 0, .int 0, .ref q8, .int 0, .ref q9, .int 0, .int 0, .int 0]))] : va_W) ++ [(q1, .inl (K 0, 144, .inl (fun _ => 0)))] ++ [(q2, .inl (K 1, 2, .inl (fun _ => 0)))] ++ [(q3, .inl (K 0, 432, .inl (fun _ => 0)))] ++ [(q4, .inl (K 0, 320, .inl (fun _ => 0)))] ++ [(q5, .inl (K 0, 8, .inl (upd (upd (upd (upd (upd (upd (upd (fun _ => 0) (0 : Int32).toNatClampNeg (-1 : Int32)) (1 : Int32).toNatClampNeg (-1 : Int32)) (2 : Int32).toNatClampNeg (-1 : Int32)) (3 : Int32).toNatClampNeg (-1 : Int32)) (4 : Int32).toNatClampNeg (-1 : Int32)) (5 : Int32).toNatClampNeg (-1 : Int32)) (6 : Int32).toNatClampNeg (-1 : Int32))))] ++ [(q6, .inl (K 0, 8, .inl (fun _ => 0)))] ++ [(q7, .inl (K 0, 100, .inl (fun _ => 0)))] ++ [(q8, .inl (K 0, 16, .inl (fun _ => 0)))] ++ [(q9, .inl (K 0, 40, .inl (fun _ => 0)))])) H locs := hH
  refine v_iinc (v := (7 : Int32)) (lv' := [(1, .int (7 : Int32)), (0, .ref q)]) X dX7_init_93 hl (k := 0) rfl (by decide) (by decide) rfl (fun ls hl => ?_)
  refine v_goto (tgt := 80) X dX7_init_96 (by decide) ?_
  refine v_iload_n X dX7_init_80 rfl (lv_at hl 0 rfl) ?_
  refine v_bipush (v := (8 : Int32)) X dX7_init_81 (by decide) ?_
  refine v_icmp_ge (tgt := 99) X dX7_init_83 (by decide) (fun c => absurd c (by decide)) (fun _ => ?_)
  refine v_aload_n X dX7_init_86 rfl (lv_at hl 1 rfl) ?_
  refine v_get (v := .ref q5) X hH.1 0 rfl fk_X7_23 rfl dX7_init_87 ?_
  refine v_iload_n X dX7_init_90 rfl (lv_at hl 0 rfl) ?_
  refine v_iconst (v := (-1 : Int32)) X dX7_init_91 (by decide) ?_
  refine v_iast (f := (upd (upd (upd (upd (upd (upd (upd (fun _ => 0) (0 : Int32).toNatClampNeg (-1 : Int32)) (1 : Int32).toNatClampNeg (-1 : Int32)) (2 : Int32).toNatClampNeg (-1 : Int32)) (3 : Int32).toNatClampNeg (-1 : Int32)) (4 : Int32).toNatClampNeg (-1 : Int32)) (5 : Int32).toNatClampNeg (-1 : Int32)) (6 : Int32).toNatClampNeg (-1 : Int32))) X hH 5 0 rfl rfl (by unfold vp_in; decide) dX7_init_92 (fun H locs hH => ?_)
  have hH : HH F D A ((([(q, .inr (7, [.ref q1, .ref q2, .ref q3, .int 0, .ref q4, .ref q5, .ref q6, .int 0, .ref q7, .int 0, .int 0, .ref q8, .int 0, .ref q9, .int 0, .int 0, .int 0]))] : va_W) ++ [(q1, .inl (K 0, 144, .inl (fun _ => 0)))] ++ [(q2, .inl (K 1, 2, .inl (fun _ => 0)))] ++ [(q3, .inl (K 0, 432, .inl (fun _ => 0)))] ++ [(q4, .inl (K 0, 320, .inl (fun _ => 0)))] ++ [(q5, .inl (K 0, 8, .inl (upd (upd (upd (upd (upd (upd (upd (upd (fun _ => 0) (0 : Int32).toNatClampNeg (-1 : Int32)) (1 : Int32).toNatClampNeg (-1 : Int32)) (2 : Int32).toNatClampNeg (-1 : Int32)) (3 : Int32).toNatClampNeg (-1 : Int32)) (4 : Int32).toNatClampNeg (-1 : Int32)) (5 : Int32).toNatClampNeg (-1 : Int32)) (6 : Int32).toNatClampNeg (-1 : Int32)) (7 : Int32).toNatClampNeg (-1 : Int32))))] ++ [(q6, .inl (K 0, 8, .inl (fun _ => 0)))] ++ [(q7, .inl (K 0, 100, .inl (fun _ => 0)))] ++ [(q8, .inl (K 0, 16, .inl (fun _ => 0)))] ++ [(q9, .inl (K 0, 40, .inl (fun _ => 0)))])) H locs := hH
  refine v_iinc (v := (8 : Int32)) (lv' := [(1, .int (8 : Int32)), (0, .ref q)]) X dX7_init_93 hl (k := 0) rfl (by decide) (by decide) rfl (fun ls hl => ?_)
  refine v_goto (tgt := 80) X dX7_init_96 (by decide) ?_
  refine v_iload_n X dX7_init_80 rfl (lv_at hl 0 rfl) ?_
  refine v_bipush (v := (8 : Int32)) X dX7_init_81 (by decide) ?_
  refine v_icmp_ge (tgt := 99) X dX7_init_83 (by decide) (fun _ => ?_) (fun c => absurd (by decide) c)
  exact v_cret X hF hr hk (fun j => ([q, q1, q2, q3, q4, q5, q6, q7, q8, q9] : List Nat).getD j 0) (hH.perm [0, 1, 2, 3, 4, 5, 6, 7, 8, 9] rfl rfl) rfl (by decide) (by decide) dX7_init_99
