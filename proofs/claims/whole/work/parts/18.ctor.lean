abbrev CRows (K : Nat → ClassId) (ro : Nat → Nat → Nat) (rs : Nat → BX3) : va_W := CX3 K (ro 0) (rs 0) ++ CX3 K (ro 1) (rs 1) ++ CX3 K (ro 2) (rs 2) ++ CX3 K (ro 3) (rs 3) ++ CX3 K (ro 4) (rs 4) ++ CX3 K (ro 5) (rs 5) ++ CX3 K (ro 6) (rs 6) ++ CX3 K (ro 7) (rs 7)
abbrev CImgs (K : Nat → ClassId) (im : Nat → Nat → Nat) (ms : Nat → BX1) : va_W := CX1 K (im 0) (ms 0) ++ CX1 K (im 1) (ms 1)
/-- addresses of all that a WakeLet holds -/
abbrev AX : Type := (Nat → Nat) × (Nat → Nat) × (Nat → Nat) × (Nat → Nat) × (Nat → Nat) × (Nat → Nat) × (Nat → Nat) × (Nat → Nat → Nat) × (Nat → Nat → Nat)
abbrev XW (K : Nat → ClassId) (x no tr tp ac se ak : Nat → Nat) (ro im : Nat → Nat → Nat) (ux : BX6) (un ut : BX1) (up : BX5) (ua : BX0) (us : BX4) (uk : BX2) (rs : Nat → BX3) (ms : Nat → BX1) : va_W := CX6 K x no tr tp ac se ak ro im ux ++ CX1 K no un ++ CX1 K tr ut ++ CX5 K tp up ++ CX0 K ac ua ++ CX4 K se us ++ CX2 K ak uk ++ CRows K ro rs ++ CImgs K im ms
abbrev XZ (K : Nat → ClassId) (z : AX) : va_W := XW K z.1 z.2.1 z.2.2.1 z.2.2.2.1 z.2.2.2.2.1 z.2.2.2.2.2.1 z.2.2.2.2.2.2.1 z.2.2.2.2.2.2.2.1 z.2.2.2.2.2.2.2.2 (0, 0) zX1 zX1 zX5 zX0 zX4 zX2 (fun _ => zX3) (fun _ => zX1)
def EX6 (U : State) : Prop := va_AO "WakeLet$Row" U ∧ va_AO "WakeLet$Agency" U ∧ va_Nw (.methodLinkNest RX6 21 ⟨"WakeLet$Agency", "<init>", "()V"⟩ "WakeLet") U ∧ va_Nw (.methodLinkNest RX6 31 ⟨"WakeLet$Tape", "<init>", "()V"⟩ "WakeLet") U ∧ va_Nw (.methodLinkNest RX6 38 ⟨"WakeLet$Acts", "<init>", "()V"⟩ "WakeLet") U ∧ va_Nw (.methodLinkNest RX6 45 ⟨"WakeLet$Search", "<init>", "()V"⟩ "WakeLet") U ∧ va_Nw (.methodLinkNest RX6 52 ⟨"WakeLet$Asks", "<init>", "()V"⟩ "WakeLet") U ∧ va_Nw (.methodLinkNest RX6 57 ⟨"WakeLet$Row", "<init>", "()V"⟩ "WakeLet") U
set_option maxHeartbeats 8000000 in
set_option maxRecDepth 100000 in
theorem c_X6_init (l : Launch) (D : va_G) (K : Nat → ClassId) (q : Nat) : CtM l yX6_init cX6_init 2 ({ frames := 3, cells := 62, slots := 1197, locals := 100 } : Room) D K q 6 [.null, .null, .null, .null, .null, .null, .null, .null, .int 0, .int 0] EX6 (XZ K) (fun z : AX => q = z.1 0) := by
  refine CtM.mk rfl rfl (by decide) ?_
  intro G ls A _ hF hin hr hk X hH hA hl hE
  have hin0 := hin
  have X : Cx G cX6_init 2 RX6 D (TY K) := X
  suffices go : ∀ (F : FX) (H : Heap) (locs : List Loc), FA F G ({ frames := 3, cells := 62, slots := 1197, locals := 100 } : Room) 0 0 → F.2.2.2.2.2.2.2.2.1.name = "<init>" → Cx F cX6_init 2 RX6 D (TY K) → HH F D A ([(q, .inr (6, [.null, .null, .null, .null, .null, .null, .null, .null, .int 0, .int 0]))] : va_W) H locs → (∀ q : Nat, (fxS F).heap.size ≤ q → A q) → fxS F = fxS G → V F (CQ G D K A (XZ K) (fun z : AX => q = z.1 0)) H locs 0 ls [] from go G _ _ hF hin X hH hA rfl
  clear hH hA X hF
  intro F H locs hF hin X hH hA hs
  refine v_aload_n X dX6_init_0 rfl (lv_at hl 0 rfl) ?_
  refine v_objI (rm := ({ frames := 3, cells := 62, slots := 1197, locals := 100 } : Room)) X hl.1 ko_X6_3 (by rw [hF.1]; exact hF.2) ⟨by decide, Nat.le_of_ble_eq_true rfl⟩ dX6_init_1 ?_
  refine v_aload_n X dX6_init_4 rfl (lv_at hl 0 rfl) ?_
  refine v_bipush (v := (8 : Int32)) X dX6_init_5 (by decide) ?_
  refine v_newQ (N := 8) X hF hH hA 2 rfl kl_X6_9 (by rw [hs]; exact hE.1) (by decide) (by decide) (by decide) (by decide) (by decide) dX6_init_7 (fun F q1 H hF X hH hA hs1 => ?_)
  have hs := hs1.trans hs
  have hH : HH F D A (([(q, .inr (6, [.null, .null, .null, .null, .null, .null, .null, .null, .int 0, .int 0])), (q1, .inl (K 2, 8, .inr (.inr (.inr (.inr (fun _ => none))))))] : va_W)) H locs := hH
  refine v_putF X (by rw [hF.1]; exact hin0) hH 0 rfl ff_X6_11 rfl rfl (Nat.le_of_ble_eq_true rfl) dX6_init_10 (fun H locs hH => ?_)
  have hH : HH F D A (([(q, .inr (6, [.ref q1, .null, .null, .null, .null, .null, .null, .null, .int 0, .int 0])), (q1, .inl (K 2, 8, .inr (.inr (.inr (.inr (fun _ => none))))))] : va_W)) H locs := hH
  refine v_aload_n X dX6_init_13 rfl (lv_at hl 0 rfl) ?_
  refine v_iconst (v := (2 : Int32)) X dX6_init_14 (by decide) ?_
  refine v_newQ (N := 2) X hF hH hA 3 rfl kl_X6_15 (by rw [hs]; exact hE.2.1) (by decide) (by decide) (by decide) (by decide) (by decide) dX6_init_15 (fun F q2 H hF X hH hA hs1 => ?_)
  have hs := hs1.trans hs
  have hH : HH F D A (([(q, .inr (6, [.ref q1, .null, .null, .null, .null, .null, .null, .null, .int 0, .int 0])), (q1, .inl (K 2, 8, .inr (.inr (.inr (.inr (fun _ => none)))))), (q2, .inl (K 3, 2, .inr (.inr (.inr (.inr (fun _ => none))))))] : va_W)) H locs := hH
  refine v_putF X (by rw [hF.1]; exact hin0) hH 0 rfl ff_X6_17 rfl rfl (Nat.le_of_ble_eq_true rfl) dX6_init_18 (fun H locs hH => ?_)
  have hH : HH F D A (([(q, .inr (6, [.ref q1, .ref q2, .null, .null, .null, .null, .null, .null, .int 0, .int 0])), (q1, .inl (K 2, 8, .inr (.inr (.inr (.inr (fun _ => none)))))), (q2, .inl (K 3, 2, .inr (.inr (.inr (.inr (fun _ => none))))))] : va_W)) H locs := hH
  refine v_aload_n X dX6_init_21 rfl (lv_at hl 0 rfl) ?_
  obtain ⟨wt0, hwt0⟩ : ∃ w : va_W, w = [] := ⟨_, rfl⟩
  have hH : HH F D A (([(q, .inr (6, [.ref q1, .ref q2, .null, .null, .null, .null, .null, .null, .int 0, .int 0])), (q1, .inl (K 2, 8, .inr (.inr (.inr (.inr (fun _ => none)))))), (q2, .inl (K 3, 2, .inr (.inr (.inr (.inr (fun _ => none))))))] : va_W) ++ wt0) H locs := by rw [hwt0, List.append_nil]; exact hH
  refine v_new X hF hH hA nk_X6_15 (by decide) (by decide) dX6_init_22 (fun F q3 H hF X hH hA hs1 => ?_)
  have hs := hs1.trans hs
  refine v_dup X dX6_init_25 rfl ?_
  refine v_ctorN (wr := (([(q, .inr (6, [.ref q1, .ref q2, .null, .null, .null, .null, .null, .null, .int 0, .int 0])), (q1, .inl (K 2, 8, .inr (.inr (.inr (.inr (fun _ => none)))))), (q2, .inl (K 3, 2, .inr (.inr (.inr (.inr (fun _ => none))))))] : va_W) ++ wt0)) X hF (by rw [hs]; exact hE.2.2.1) ⟨gk_1_2, gk_1_27, gk_1_26⟩ (by decide +kernel) rfl (c_X1_init F.2.1 D K q3) ⟨by decide, by decide, by decide, by decide⟩ hA hH hl.1 (Nat.le_of_ble_eq_true rfl) dX6_init_26 (fun F u4 H locs hF X hu hHn hA hs1 => ?_)
  have hs := hs1.trans hs
  subst hu
  have hH := hHn
  obtain ⟨wt1, hwt1⟩ : ∃ w : va_W, w = wt0 ++ CX1 K u4 zX1 := ⟨_, rfl⟩
  have hH : HH F D A (([(q, .inr (6, [.ref q1, .ref q2, .null, .null, .null, .null, .null, .null, .int 0, .int 0])), (q1, .inl (K 2, 8, .inr (.inr (.inr (.inr (fun _ => none)))))), (q2, .inl (K 3, 2, .inr (.inr (.inr (.inr (fun _ => none))))))] : va_W) ++ wt1) H locs := by rw [hwt1, ← List.append_assoc]; exact hH
  refine v_putF X (by rw [hF.1]; exact hin0) hH 0 rfl ff_X6_22 rfl rfl (Nat.le_of_ble_eq_true rfl) dX6_init_29 (fun H locs hH => ?_)
  have hH : HH F D A (([(q, .inr (6, [.ref q1, .ref q2, .ref (u4 0), .null, .null, .null, .null, .null, .int 0, .int 0])), (q1, .inl (K 2, 8, .inr (.inr (.inr (.inr (fun _ => none)))))), (q2, .inl (K 3, 2, .inr (.inr (.inr (.inr (fun _ => none))))))] : va_W) ++ wt1) H locs := hH
  refine v_aload_n X dX6_init_32 rfl (lv_at hl 0 rfl) ?_
  refine v_new X hF hH hA nk_X6_15 (by decide) (by decide) dX6_init_33 (fun F q5 H hF X hH hA hs1 => ?_)
  have hs := hs1.trans hs
  refine v_dup X dX6_init_36 rfl ?_
  refine v_ctorN (wr := (([(q, .inr (6, [.ref q1, .ref q2, .ref (u4 0), .null, .null, .null, .null, .null, .int 0, .int 0])), (q1, .inl (K 2, 8, .inr (.inr (.inr (.inr (fun _ => none)))))), (q2, .inl (K 3, 2, .inr (.inr (.inr (.inr (fun _ => none))))))] : va_W) ++ wt1)) X hF (by rw [hs]; exact hE.2.2.1) ⟨gk_1_2, gk_1_27, gk_1_26⟩ (by decide +kernel) rfl (c_X1_init F.2.1 D K q5) ⟨by decide, by decide, by decide, by decide⟩ hA hH hl.1 (Nat.le_of_ble_eq_true rfl) dX6_init_37 (fun F u6 H locs hF X hu hHn hA hs1 => ?_)
  have hs := hs1.trans hs
  subst hu
  have hH := hHn
  obtain ⟨wt2, hwt2⟩ : ∃ w : va_W, w = wt1 ++ CX1 K u6 zX1 := ⟨_, rfl⟩
  have hH : HH F D A (([(q, .inr (6, [.ref q1, .ref q2, .ref (u4 0), .null, .null, .null, .null, .null, .int 0, .int 0])), (q1, .inl (K 2, 8, .inr (.inr (.inr (.inr (fun _ => none)))))), (q2, .inl (K 3, 2, .inr (.inr (.inr (.inr (fun _ => none))))))] : va_W) ++ wt2) H locs := by rw [hwt2, ← List.append_assoc]; exact hH
  refine v_putF X (by rw [hF.1]; exact hin0) hH 0 rfl ff_X6_26 rfl rfl (Nat.le_of_ble_eq_true rfl) dX6_init_40 (fun H locs hH => ?_)
  have hH : HH F D A (([(q, .inr (6, [.ref q1, .ref q2, .ref (u4 0), .ref (u6 0), .null, .null, .null, .null, .int 0, .int 0])), (q1, .inl (K 2, 8, .inr (.inr (.inr (.inr (fun _ => none)))))), (q2, .inl (K 3, 2, .inr (.inr (.inr (.inr (fun _ => none))))))] : va_W) ++ wt2) H locs := hH
  refine v_aload_n X dX6_init_43 rfl (lv_at hl 0 rfl) ?_
  refine v_new X hF hH hA nk_X6_29 (by decide) (by decide) dX6_init_44 (fun F q7 H hF X hH hA hs1 => ?_)
  have hs := hs1.trans hs
  refine v_dup X dX6_init_47 rfl ?_
  refine v_ctorN (wr := (([(q, .inr (6, [.ref q1, .ref q2, .ref (u4 0), .ref (u6 0), .null, .null, .null, .null, .int 0, .int 0])), (q1, .inl (K 2, 8, .inr (.inr (.inr (.inr (fun _ => none)))))), (q2, .inl (K 3, 2, .inr (.inr (.inr (.inr (fun _ => none))))))] : va_W) ++ wt2)) X hF (by rw [hs]; exact hE.2.2.2.1) ⟨gk_1_3, gk_1_105, gk_1_104⟩ (by decide +kernel) rfl (c_X5_init F.2.1 D K q7) ⟨by decide, by decide, by decide, by decide⟩ hA hH hl.1 (Nat.le_of_ble_eq_true rfl) dX6_init_48 (fun F u8 H locs hF X hu hHn hA hs1 => ?_)
  have hs := hs1.trans hs
  subst hu
  have hH := hHn
  obtain ⟨wt3, hwt3⟩ : ∃ w : va_W, w = wt2 ++ CX5 K u8 zX5 := ⟨_, rfl⟩
  have hH : HH F D A (([(q, .inr (6, [.ref q1, .ref q2, .ref (u4 0), .ref (u6 0), .null, .null, .null, .null, .int 0, .int 0])), (q1, .inl (K 2, 8, .inr (.inr (.inr (.inr (fun _ => none)))))), (q2, .inl (K 3, 2, .inr (.inr (.inr (.inr (fun _ => none))))))] : va_W) ++ wt3) H locs := by rw [hwt3, ← List.append_assoc]; exact hH
  refine v_putF X (by rw [hF.1]; exact hin0) hH 0 rfl ff_X6_32 rfl rfl (Nat.le_of_ble_eq_true rfl) dX6_init_51 (fun H locs hH => ?_)
  have hH : HH F D A (([(q, .inr (6, [.ref q1, .ref q2, .ref (u4 0), .ref (u6 0), .ref (u8 0), .null, .null, .null, .int 0, .int 0])), (q1, .inl (K 2, 8, .inr (.inr (.inr (.inr (fun _ => none)))))), (q2, .inl (K 3, 2, .inr (.inr (.inr (.inr (fun _ => none))))))] : va_W) ++ wt3) H locs := hH
  refine v_aload_n X dX6_init_54 rfl (lv_at hl 0 rfl) ?_
  refine v_new X hF hH hA nk_X6_36 (by decide) (by decide) dX6_init_55 (fun F q9 H hF X hH hA hs1 => ?_)
  have hs := hs1.trans hs
  refine v_dup X dX6_init_58 rfl ?_
  refine v_ctorN (wr := (([(q, .inr (6, [.ref q1, .ref q2, .ref (u4 0), .ref (u6 0), .ref (u8 0), .null, .null, .null, .int 0, .int 0])), (q1, .inl (K 2, 8, .inr (.inr (.inr (.inr (fun _ => none)))))), (q2, .inl (K 3, 2, .inr (.inr (.inr (.inr (fun _ => none))))))] : va_W) ++ wt3)) X hF (by rw [hs]; exact hE.2.2.2.2.1) ⟨gk_1_4, gk_1_130, gk_1_129⟩ (by decide +kernel) rfl (c_X0_init F.2.1 D K q9) ⟨by decide, by decide, by decide, by decide⟩ hA hH hl.1 (Nat.le_of_ble_eq_true rfl) dX6_init_59 (fun F u10 H locs hF X hu hHn hA hs1 => ?_)
  have hs := hs1.trans hs
  subst hu
  have hH := hHn
  obtain ⟨wt4, hwt4⟩ : ∃ w : va_W, w = wt3 ++ CX0 K u10 zX0 := ⟨_, rfl⟩
  have hH : HH F D A (([(q, .inr (6, [.ref q1, .ref q2, .ref (u4 0), .ref (u6 0), .ref (u8 0), .null, .null, .null, .int 0, .int 0])), (q1, .inl (K 2, 8, .inr (.inr (.inr (.inr (fun _ => none)))))), (q2, .inl (K 3, 2, .inr (.inr (.inr (.inr (fun _ => none))))))] : va_W) ++ wt4) H locs := by rw [hwt4, ← List.append_assoc]; exact hH
  refine v_putF X (by rw [hF.1]; exact hin0) hH 0 rfl ff_X6_39 rfl rfl (Nat.le_of_ble_eq_true rfl) dX6_init_62 (fun H locs hH => ?_)
  have hH : HH F D A (([(q, .inr (6, [.ref q1, .ref q2, .ref (u4 0), .ref (u6 0), .ref (u8 0), .ref (u10 0), .null, .null, .int 0, .int 0])), (q1, .inl (K 2, 8, .inr (.inr (.inr (.inr (fun _ => none)))))), (q2, .inl (K 3, 2, .inr (.inr (.inr (.inr (fun _ => none))))))] : va_W) ++ wt4) H locs := hH
  refine v_aload_n X dX6_init_65 rfl (lv_at hl 0 rfl) ?_
  refine v_new X hF hH hA nk_X6_43 (by decide) (by decide) dX6_init_66 (fun F q11 H hF X hH hA hs1 => ?_)
  have hs := hs1.trans hs
  refine v_dup X dX6_init_69 rfl ?_
  refine v_ctorN (wr := (([(q, .inr (6, [.ref q1, .ref q2, .ref (u4 0), .ref (u6 0), .ref (u8 0), .ref (u10 0), .null, .null, .int 0, .int 0])), (q1, .inl (K 2, 8, .inr (.inr (.inr (.inr (fun _ => none)))))), (q2, .inl (K 3, 2, .inr (.inr (.inr (.inr (fun _ => none))))))] : va_W) ++ wt4)) X hF (by rw [hs]; exact hE.2.2.2.2.2.1) ⟨gk_1_5, gk_1_147, gk_1_146⟩ (by decide +kernel) rfl (c_X4_init F.2.1 D K q11) ⟨by decide, by decide, by decide, by decide⟩ hA hH hl.1 (Nat.le_of_ble_eq_true rfl) dX6_init_70 (fun F u12 H locs hF X hu hHn hA hs1 => ?_)
  have hs := hs1.trans hs
  subst hu
  have hH := hHn
  obtain ⟨wt5, hwt5⟩ : ∃ w : va_W, w = wt4 ++ CX4 K u12 zX4 := ⟨_, rfl⟩
  have hH : HH F D A (([(q, .inr (6, [.ref q1, .ref q2, .ref (u4 0), .ref (u6 0), .ref (u8 0), .ref (u10 0), .null, .null, .int 0, .int 0])), (q1, .inl (K 2, 8, .inr (.inr (.inr (.inr (fun _ => none)))))), (q2, .inl (K 3, 2, .inr (.inr (.inr (.inr (fun _ => none))))))] : va_W) ++ wt5) H locs := by rw [hwt5, ← List.append_assoc]; exact hH
  refine v_putF X (by rw [hF.1]; exact hin0) hH 0 rfl ff_X6_46 rfl rfl (Nat.le_of_ble_eq_true rfl) dX6_init_73 (fun H locs hH => ?_)
  have hH : HH F D A (([(q, .inr (6, [.ref q1, .ref q2, .ref (u4 0), .ref (u6 0), .ref (u8 0), .ref (u10 0), .ref (u12 0), .null, .int 0, .int 0])), (q1, .inl (K 2, 8, .inr (.inr (.inr (.inr (fun _ => none)))))), (q2, .inl (K 3, 2, .inr (.inr (.inr (.inr (fun _ => none))))))] : va_W) ++ wt5) H locs := hH
  refine v_aload_n X dX6_init_76 rfl (lv_at hl 0 rfl) ?_
  refine v_new X hF hH hA nk_X6_50 (by decide) (by decide) dX6_init_77 (fun F q13 H hF X hH hA hs1 => ?_)
  have hs := hs1.trans hs
  refine v_dup X dX6_init_80 rfl ?_
  refine v_ctorN (wr := (([(q, .inr (6, [.ref q1, .ref q2, .ref (u4 0), .ref (u6 0), .ref (u8 0), .ref (u10 0), .ref (u12 0), .null, .int 0, .int 0])), (q1, .inl (K 2, 8, .inr (.inr (.inr (.inr (fun _ => none)))))), (q2, .inl (K 3, 2, .inr (.inr (.inr (.inr (fun _ => none))))))] : va_W) ++ wt5)) X hF (by rw [hs]; exact hE.2.2.2.2.2.2.1) ⟨gk_1_6, gk_1_182, gk_1_181⟩ (by decide +kernel) rfl (c_X2_init F.2.1 D K q13) ⟨by decide, by decide, by decide, by decide⟩ hA hH hl.1 (Nat.le_of_ble_eq_true rfl) dX6_init_81 (fun F u14 H locs hF X hu hHn hA hs1 => ?_)
  have hs := hs1.trans hs
  subst hu
  have hH := hHn
  obtain ⟨wt6, hwt6⟩ : ∃ w : va_W, w = wt5 ++ CX2 K u14 zX2 := ⟨_, rfl⟩
  have hH : HH F D A (([(q, .inr (6, [.ref q1, .ref q2, .ref (u4 0), .ref (u6 0), .ref (u8 0), .ref (u10 0), .ref (u12 0), .null, .int 0, .int 0])), (q1, .inl (K 2, 8, .inr (.inr (.inr (.inr (fun _ => none)))))), (q2, .inl (K 3, 2, .inr (.inr (.inr (.inr (fun _ => none))))))] : va_W) ++ wt6) H locs := by rw [hwt6, ← List.append_assoc]; exact hH
  refine v_putF X (by rw [hF.1]; exact hin0) hH 0 rfl ff_X6_53 rfl rfl (Nat.le_of_ble_eq_true rfl) dX6_init_84 (fun H locs hH => ?_)
  have hH : HH F D A (([(q, .inr (6, [.ref q1, .ref q2, .ref (u4 0), .ref (u6 0), .ref (u8 0), .ref (u10 0), .ref (u12 0), .ref (u14 0), .int 0, .int 0])), (q1, .inl (K 2, 8, .inr (.inr (.inr (.inr (fun _ => none)))))), (q2, .inl (K 3, 2, .inr (.inr (.inr (.inr (fun _ => none))))))] : va_W) ++ wt6) H locs := hH
  refine v_iconst (v := (0 : Int32)) X dX6_init_87 (by decide) ?_
  refine v_istore_n (lv' := [(1, .int (0 : Int32)), (0, .ref q)]) X dX6_init_88 rfl hl (by decide) rfl (fun ls hl => ?_)
  refine v_iload_n X dX6_init_89 rfl (lv_at hl 0 rfl) ?_
  refine v_bipush (v := (8 : Int32)) X dX6_init_90 (by decide) ?_
  refine v_icmp_ge (tgt := 114) X dX6_init_92 (by decide) (fun c => absurd c (by decide)) (fun _ => ?_)
  refine v_aload_n X dX6_init_95 rfl (lv_at hl 1 rfl) ?_
  refine v_get (v := .ref q1) X hH.1 0 rfl fk_X6_11 rfl dX6_init_96 ?_
  refine v_iload_n X dX6_init_99 rfl (lv_at hl 0 rfl) ?_
  refine v_new X hF hH hA nk_X6_9 (by decide) (by decide) dX6_init_100 (fun F q15 H hF X hH hA hs1 => ?_)
  have hs := hs1.trans hs
  refine v_dup X dX6_init_103 rfl ?_
  refine v_ctorN (wr := (([(q, .inr (6, [.ref q1, .ref q2, .ref (u4 0), .ref (u6 0), .ref (u8 0), .ref (u10 0), .ref (u12 0), .ref (u14 0), .int 0, .int 0])), (q1, .inl (K 2, 8, .inr (.inr (.inr (.inr (fun _ => none)))))), (q2, .inl (K 3, 2, .inr (.inr (.inr (.inr (fun _ => none))))))] : va_W) ++ wt6)) X hF (by rw [hs]; exact hE.2.2.2.2.2.2.2) ⟨gk_1_7, gk_1_196, gk_1_195⟩ (by decide +kernel) rfl (c_X3_init F.2.1 D K q15) ⟨by decide, by decide, by decide, by decide⟩ hA hH hl.1 (Nat.le_of_ble_eq_true rfl) dX6_init_104 (fun F u16 H locs hF X hu hHn hA hs1 => ?_)
  have hs := hs1.trans hs
  subst hu
  have hH := hHn
  obtain ⟨wt7, hwt7⟩ : ∃ w : va_W, w = wt6 ++ CX3 K u16 zX3 := ⟨_, rfl⟩
  have hH : HH F D A (([(q, .inr (6, [.ref q1, .ref q2, .ref (u4 0), .ref (u6 0), .ref (u8 0), .ref (u10 0), .ref (u12 0), .ref (u14 0), .int 0, .int 0])), (q1, .inl (K 2, 8, .inr (.inr (.inr (.inr (fun _ => none)))))), (q2, .inl (K 3, 2, .inr (.inr (.inr (.inr (fun _ => none))))))] : va_W) ++ wt7) H locs := by rw [hwt7, ← List.append_assoc]; exact hH
  refine v_aast (f := (fun _ => none)) X hH 1 2 (([(q, .inr (6, [.ref q1, .ref q2, .ref (u4 0), .ref (u6 0), .ref (u8 0), .ref (u10 0), .ref (u12 0), .ref (u14 0), .int 0, .int 0])), (q1, .inl (K 2, 8, .inr (.inr (.inr (.inr (fun _ => none)))))), (q2, .inl (K 3, 2, .inr (.inr (.inr (.inr (fun _ => none))))))] : va_W) ++ wt6).length 3 rfl rfl (by rw [hwt7, ← List.append_assoc]; exact get_mid) rfl (by unfold vp_in; decide) dX6_init_107 (fun H locs hH => ?_)
  have hH : HH F D A (([(q, .inr (6, [.ref q1, .ref q2, .ref (u4 0), .ref (u6 0), .ref (u8 0), .ref (u10 0), .ref (u12 0), .ref (u14 0), .int 0, .int 0])), (q1, .inl (K 2, 8, .inr (.inr (.inr (.inr (va_up (fun _ => none) (0 : Int32).toNatClampNeg (some (u16 0)))))))), (q2, .inl (K 3, 2, .inr (.inr (.inr (.inr (fun _ => none))))))] : va_W) ++ wt7) H locs := hH
  refine v_iinc (v := (1 : Int32)) (lv' := [(1, .int (1 : Int32)), (0, .ref q)]) X dX6_init_108 hl (k := 0) rfl (by decide) (by decide) rfl (fun ls hl => ?_)
  refine v_goto (tgt := 89) X dX6_init_111 (by decide) ?_
  refine v_iload_n X dX6_init_89 rfl (lv_at hl 0 rfl) ?_
  refine v_bipush (v := (8 : Int32)) X dX6_init_90 (by decide) ?_
  refine v_icmp_ge (tgt := 114) X dX6_init_92 (by decide) (fun c => absurd c (by decide)) (fun _ => ?_)
  refine v_aload_n X dX6_init_95 rfl (lv_at hl 1 rfl) ?_
  refine v_get (v := .ref q1) X hH.1 0 rfl fk_X6_11 rfl dX6_init_96 ?_
  refine v_iload_n X dX6_init_99 rfl (lv_at hl 0 rfl) ?_
  refine v_new X hF hH hA nk_X6_9 (by decide) (by decide) dX6_init_100 (fun F q17 H hF X hH hA hs1 => ?_)
  have hs := hs1.trans hs
  refine v_dup X dX6_init_103 rfl ?_
  refine v_ctorN (wr := (([(q, .inr (6, [.ref q1, .ref q2, .ref (u4 0), .ref (u6 0), .ref (u8 0), .ref (u10 0), .ref (u12 0), .ref (u14 0), .int 0, .int 0])), (q1, .inl (K 2, 8, .inr (.inr (.inr (.inr (va_up (fun _ => none) (0 : Int32).toNatClampNeg (some (u16 0)))))))), (q2, .inl (K 3, 2, .inr (.inr (.inr (.inr (fun _ => none))))))] : va_W) ++ wt7)) X hF (by rw [hs]; exact hE.2.2.2.2.2.2.2) ⟨gk_1_7, gk_1_196, gk_1_195⟩ (by decide +kernel) rfl (c_X3_init F.2.1 D K q17) ⟨by decide, by decide, by decide, by decide⟩ hA hH hl.1 (Nat.le_of_ble_eq_true rfl) dX6_init_104 (fun F u18 H locs hF X hu hHn hA hs1 => ?_)
  have hs := hs1.trans hs
  subst hu
  have hH := hHn
  obtain ⟨wt8, hwt8⟩ : ∃ w : va_W, w = wt7 ++ CX3 K u18 zX3 := ⟨_, rfl⟩
  have hH : HH F D A (([(q, .inr (6, [.ref q1, .ref q2, .ref (u4 0), .ref (u6 0), .ref (u8 0), .ref (u10 0), .ref (u12 0), .ref (u14 0), .int 0, .int 0])), (q1, .inl (K 2, 8, .inr (.inr (.inr (.inr (va_up (fun _ => none) (0 : Int32).toNatClampNeg (some (u16 0)))))))), (q2, .inl (K 3, 2, .inr (.inr (.inr (.inr (fun _ => none))))))] : va_W) ++ wt8) H locs := by rw [hwt8, ← List.append_assoc]; exact hH
  refine v_aast (f := (va_up (fun _ => none) (0 : Int32).toNatClampNeg (some (u16 0)))) X hH 1 2 (([(q, .inr (6, [.ref q1, .ref q2, .ref (u4 0), .ref (u6 0), .ref (u8 0), .ref (u10 0), .ref (u12 0), .ref (u14 0), .int 0, .int 0])), (q1, .inl (K 2, 8, .inr (.inr (.inr (.inr (va_up (fun _ => none) (0 : Int32).toNatClampNeg (some (u16 0)))))))), (q2, .inl (K 3, 2, .inr (.inr (.inr (.inr (fun _ => none))))))] : va_W) ++ wt7).length 3 rfl rfl (by rw [hwt8, ← List.append_assoc]; exact get_mid) rfl (by unfold vp_in; decide) dX6_init_107 (fun H locs hH => ?_)
  have hH : HH F D A (([(q, .inr (6, [.ref q1, .ref q2, .ref (u4 0), .ref (u6 0), .ref (u8 0), .ref (u10 0), .ref (u12 0), .ref (u14 0), .int 0, .int 0])), (q1, .inl (K 2, 8, .inr (.inr (.inr (.inr (va_up (va_up (fun _ => none) (0 : Int32).toNatClampNeg (some (u16 0))) (1 : Int32).toNatClampNeg (some (u18 0)))))))), (q2, .inl (K 3, 2, .inr (.inr (.inr (.inr (fun _ => none))))))] : va_W) ++ wt8) H locs := hH
  refine v_iinc (v := (2 : Int32)) (lv' := [(1, .int (2 : Int32)), (0, .ref q)]) X dX6_init_108 hl (k := 0) rfl (by decide) (by decide) rfl (fun ls hl => ?_)
  refine v_goto (tgt := 89) X dX6_init_111 (by decide) ?_
  refine v_iload_n X dX6_init_89 rfl (lv_at hl 0 rfl) ?_
  refine v_bipush (v := (8 : Int32)) X dX6_init_90 (by decide) ?_
  refine v_icmp_ge (tgt := 114) X dX6_init_92 (by decide) (fun c => absurd c (by decide)) (fun _ => ?_)
  refine v_aload_n X dX6_init_95 rfl (lv_at hl 1 rfl) ?_
  refine v_get (v := .ref q1) X hH.1 0 rfl fk_X6_11 rfl dX6_init_96 ?_
  refine v_iload_n X dX6_init_99 rfl (lv_at hl 0 rfl) ?_
  refine v_new X hF hH hA nk_X6_9 (by decide) (by decide) dX6_init_100 (fun F q19 H hF X hH hA hs1 => ?_)
  have hs := hs1.trans hs
  refine v_dup X dX6_init_103 rfl ?_
  refine v_ctorN (wr := (([(q, .inr (6, [.ref q1, .ref q2, .ref (u4 0), .ref (u6 0), .ref (u8 0), .ref (u10 0), .ref (u12 0), .ref (u14 0), .int 0, .int 0])), (q1, .inl (K 2, 8, .inr (.inr (.inr (.inr (va_up (va_up (fun _ => none) (0 : Int32).toNatClampNeg (some (u16 0))) (1 : Int32).toNatClampNeg (some (u18 0)))))))), (q2, .inl (K 3, 2, .inr (.inr (.inr (.inr (fun _ => none))))))] : va_W) ++ wt8)) X hF (by rw [hs]; exact hE.2.2.2.2.2.2.2) ⟨gk_1_7, gk_1_196, gk_1_195⟩ (by decide +kernel) rfl (c_X3_init F.2.1 D K q19) ⟨by decide, by decide, by decide, by decide⟩ hA hH hl.1 (Nat.le_of_ble_eq_true rfl) dX6_init_104 (fun F u20 H locs hF X hu hHn hA hs1 => ?_)
  have hs := hs1.trans hs
  subst hu
  have hH := hHn
  obtain ⟨wt9, hwt9⟩ : ∃ w : va_W, w = wt8 ++ CX3 K u20 zX3 := ⟨_, rfl⟩
  have hH : HH F D A (([(q, .inr (6, [.ref q1, .ref q2, .ref (u4 0), .ref (u6 0), .ref (u8 0), .ref (u10 0), .ref (u12 0), .ref (u14 0), .int 0, .int 0])), (q1, .inl (K 2, 8, .inr (.inr (.inr (.inr (va_up (va_up (fun _ => none) (0 : Int32).toNatClampNeg (some (u16 0))) (1 : Int32).toNatClampNeg (some (u18 0)))))))), (q2, .inl (K 3, 2, .inr (.inr (.inr (.inr (fun _ => none))))))] : va_W) ++ wt9) H locs := by rw [hwt9, ← List.append_assoc]; exact hH
  refine v_aast (f := (va_up (va_up (fun _ => none) (0 : Int32).toNatClampNeg (some (u16 0))) (1 : Int32).toNatClampNeg (some (u18 0)))) X hH 1 2 (([(q, .inr (6, [.ref q1, .ref q2, .ref (u4 0), .ref (u6 0), .ref (u8 0), .ref (u10 0), .ref (u12 0), .ref (u14 0), .int 0, .int 0])), (q1, .inl (K 2, 8, .inr (.inr (.inr (.inr (va_up (va_up (fun _ => none) (0 : Int32).toNatClampNeg (some (u16 0))) (1 : Int32).toNatClampNeg (some (u18 0)))))))), (q2, .inl (K 3, 2, .inr (.inr (.inr (.inr (fun _ => none))))))] : va_W) ++ wt8).length 3 rfl rfl (by rw [hwt9, ← List.append_assoc]; exact get_mid) rfl (by unfold vp_in; decide) dX6_init_107 (fun H locs hH => ?_)
  have hH : HH F D A (([(q, .inr (6, [.ref q1, .ref q2, .ref (u4 0), .ref (u6 0), .ref (u8 0), .ref (u10 0), .ref (u12 0), .ref (u14 0), .int 0, .int 0])), (q1, .inl (K 2, 8, .inr (.inr (.inr (.inr (va_up (va_up (va_up (fun _ => none) (0 : Int32).toNatClampNeg (some (u16 0))) (1 : Int32).toNatClampNeg (some (u18 0))) (2 : Int32).toNatClampNeg (some (u20 0)))))))), (q2, .inl (K 3, 2, .inr (.inr (.inr (.inr (fun _ => none))))))] : va_W) ++ wt9) H locs := hH
  refine v_iinc (v := (3 : Int32)) (lv' := [(1, .int (3 : Int32)), (0, .ref q)]) X dX6_init_108 hl (k := 0) rfl (by decide) (by decide) rfl (fun ls hl => ?_)
  refine v_goto (tgt := 89) X dX6_init_111 (by decide) ?_
  refine v_iload_n X dX6_init_89 rfl (lv_at hl 0 rfl) ?_
  refine v_bipush (v := (8 : Int32)) X dX6_init_90 (by decide) ?_
  refine v_icmp_ge (tgt := 114) X dX6_init_92 (by decide) (fun c => absurd c (by decide)) (fun _ => ?_)
  refine v_aload_n X dX6_init_95 rfl (lv_at hl 1 rfl) ?_
  refine v_get (v := .ref q1) X hH.1 0 rfl fk_X6_11 rfl dX6_init_96 ?_
  refine v_iload_n X dX6_init_99 rfl (lv_at hl 0 rfl) ?_
  refine v_new X hF hH hA nk_X6_9 (by decide) (by decide) dX6_init_100 (fun F q21 H hF X hH hA hs1 => ?_)
  have hs := hs1.trans hs
  refine v_dup X dX6_init_103 rfl ?_
  refine v_ctorN (wr := (([(q, .inr (6, [.ref q1, .ref q2, .ref (u4 0), .ref (u6 0), .ref (u8 0), .ref (u10 0), .ref (u12 0), .ref (u14 0), .int 0, .int 0])), (q1, .inl (K 2, 8, .inr (.inr (.inr (.inr (va_up (va_up (va_up (fun _ => none) (0 : Int32).toNatClampNeg (some (u16 0))) (1 : Int32).toNatClampNeg (some (u18 0))) (2 : Int32).toNatClampNeg (some (u20 0)))))))), (q2, .inl (K 3, 2, .inr (.inr (.inr (.inr (fun _ => none))))))] : va_W) ++ wt9)) X hF (by rw [hs]; exact hE.2.2.2.2.2.2.2) ⟨gk_1_7, gk_1_196, gk_1_195⟩ (by decide +kernel) rfl (c_X3_init F.2.1 D K q21) ⟨by decide, by decide, by decide, by decide⟩ hA hH hl.1 (Nat.le_of_ble_eq_true rfl) dX6_init_104 (fun F u22 H locs hF X hu hHn hA hs1 => ?_)
  have hs := hs1.trans hs
  subst hu
  have hH := hHn
  obtain ⟨wt10, hwt10⟩ : ∃ w : va_W, w = wt9 ++ CX3 K u22 zX3 := ⟨_, rfl⟩
  have hH : HH F D A (([(q, .inr (6, [.ref q1, .ref q2, .ref (u4 0), .ref (u6 0), .ref (u8 0), .ref (u10 0), .ref (u12 0), .ref (u14 0), .int 0, .int 0])), (q1, .inl (K 2, 8, .inr (.inr (.inr (.inr (va_up (va_up (va_up (fun _ => none) (0 : Int32).toNatClampNeg (some (u16 0))) (1 : Int32).toNatClampNeg (some (u18 0))) (2 : Int32).toNatClampNeg (some (u20 0)))))))), (q2, .inl (K 3, 2, .inr (.inr (.inr (.inr (fun _ => none))))))] : va_W) ++ wt10) H locs := by rw [hwt10, ← List.append_assoc]; exact hH
  refine v_aast (f := (va_up (va_up (va_up (fun _ => none) (0 : Int32).toNatClampNeg (some (u16 0))) (1 : Int32).toNatClampNeg (some (u18 0))) (2 : Int32).toNatClampNeg (some (u20 0)))) X hH 1 2 (([(q, .inr (6, [.ref q1, .ref q2, .ref (u4 0), .ref (u6 0), .ref (u8 0), .ref (u10 0), .ref (u12 0), .ref (u14 0), .int 0, .int 0])), (q1, .inl (K 2, 8, .inr (.inr (.inr (.inr (va_up (va_up (va_up (fun _ => none) (0 : Int32).toNatClampNeg (some (u16 0))) (1 : Int32).toNatClampNeg (some (u18 0))) (2 : Int32).toNatClampNeg (some (u20 0)))))))), (q2, .inl (K 3, 2, .inr (.inr (.inr (.inr (fun _ => none))))))] : va_W) ++ wt9).length 3 rfl rfl (by rw [hwt10, ← List.append_assoc]; exact get_mid) rfl (by unfold vp_in; decide) dX6_init_107 (fun H locs hH => ?_)
  have hH : HH F D A (([(q, .inr (6, [.ref q1, .ref q2, .ref (u4 0), .ref (u6 0), .ref (u8 0), .ref (u10 0), .ref (u12 0), .ref (u14 0), .int 0, .int 0])), (q1, .inl (K 2, 8, .inr (.inr (.inr (.inr (va_up (va_up (va_up (va_up (fun _ => none) (0 : Int32).toNatClampNeg (some (u16 0))) (1 : Int32).toNatClampNeg (some (u18 0))) (2 : Int32).toNatClampNeg (some (u20 0))) (3 : Int32).toNatClampNeg (some (u22 0)))))))), (q2, .inl (K 3, 2, .inr (.inr (.inr (.inr (fun _ => none))))))] : va_W) ++ wt10) H locs := hH
  refine v_iinc (v := (4 : Int32)) (lv' := [(1, .int (4 : Int32)), (0, .ref q)]) X dX6_init_108 hl (k := 0) rfl (by decide) (by decide) rfl (fun ls hl => ?_)
  refine v_goto (tgt := 89) X dX6_init_111 (by decide) ?_
  refine v_iload_n X dX6_init_89 rfl (lv_at hl 0 rfl) ?_
  refine v_bipush (v := (8 : Int32)) X dX6_init_90 (by decide) ?_
  refine v_icmp_ge (tgt := 114) X dX6_init_92 (by decide) (fun c => absurd c (by decide)) (fun _ => ?_)
  refine v_aload_n X dX6_init_95 rfl (lv_at hl 1 rfl) ?_
  refine v_get (v := .ref q1) X hH.1 0 rfl fk_X6_11 rfl dX6_init_96 ?_
  refine v_iload_n X dX6_init_99 rfl (lv_at hl 0 rfl) ?_
  refine v_new X hF hH hA nk_X6_9 (by decide) (by decide) dX6_init_100 (fun F q23 H hF X hH hA hs1 => ?_)
  have hs := hs1.trans hs
  refine v_dup X dX6_init_103 rfl ?_
  refine v_ctorN (wr := (([(q, .inr (6, [.ref q1, .ref q2, .ref (u4 0), .ref (u6 0), .ref (u8 0), .ref (u10 0), .ref (u12 0), .ref (u14 0), .int 0, .int 0])), (q1, .inl (K 2, 8, .inr (.inr (.inr (.inr (va_up (va_up (va_up (va_up (fun _ => none) (0 : Int32).toNatClampNeg (some (u16 0))) (1 : Int32).toNatClampNeg (some (u18 0))) (2 : Int32).toNatClampNeg (some (u20 0))) (3 : Int32).toNatClampNeg (some (u22 0)))))))), (q2, .inl (K 3, 2, .inr (.inr (.inr (.inr (fun _ => none))))))] : va_W) ++ wt10)) X hF (by rw [hs]; exact hE.2.2.2.2.2.2.2) ⟨gk_1_7, gk_1_196, gk_1_195⟩ (by decide +kernel) rfl (c_X3_init F.2.1 D K q23) ⟨by decide, by decide, by decide, by decide⟩ hA hH hl.1 (Nat.le_of_ble_eq_true rfl) dX6_init_104 (fun F u24 H locs hF X hu hHn hA hs1 => ?_)
  have hs := hs1.trans hs
  subst hu
  have hH := hHn
  obtain ⟨wt11, hwt11⟩ : ∃ w : va_W, w = wt10 ++ CX3 K u24 zX3 := ⟨_, rfl⟩
  have hH : HH F D A (([(q, .inr (6, [.ref q1, .ref q2, .ref (u4 0), .ref (u6 0), .ref (u8 0), .ref (u10 0), .ref (u12 0), .ref (u14 0), .int 0, .int 0])), (q1, .inl (K 2, 8, .inr (.inr (.inr (.inr (va_up (va_up (va_up (va_up (fun _ => none) (0 : Int32).toNatClampNeg (some (u16 0))) (1 : Int32).toNatClampNeg (some (u18 0))) (2 : Int32).toNatClampNeg (some (u20 0))) (3 : Int32).toNatClampNeg (some (u22 0)))))))), (q2, .inl (K 3, 2, .inr (.inr (.inr (.inr (fun _ => none))))))] : va_W) ++ wt11) H locs := by rw [hwt11, ← List.append_assoc]; exact hH
  refine v_aast (f := (va_up (va_up (va_up (va_up (fun _ => none) (0 : Int32).toNatClampNeg (some (u16 0))) (1 : Int32).toNatClampNeg (some (u18 0))) (2 : Int32).toNatClampNeg (some (u20 0))) (3 : Int32).toNatClampNeg (some (u22 0)))) X hH 1 2 (([(q, .inr (6, [.ref q1, .ref q2, .ref (u4 0), .ref (u6 0), .ref (u8 0), .ref (u10 0), .ref (u12 0), .ref (u14 0), .int 0, .int 0])), (q1, .inl (K 2, 8, .inr (.inr (.inr (.inr (va_up (va_up (va_up (va_up (fun _ => none) (0 : Int32).toNatClampNeg (some (u16 0))) (1 : Int32).toNatClampNeg (some (u18 0))) (2 : Int32).toNatClampNeg (some (u20 0))) (3 : Int32).toNatClampNeg (some (u22 0)))))))), (q2, .inl (K 3, 2, .inr (.inr (.inr (.inr (fun _ => none))))))] : va_W) ++ wt10).length 3 rfl rfl (by rw [hwt11, ← List.append_assoc]; exact get_mid) rfl (by unfold vp_in; decide) dX6_init_107 (fun H locs hH => ?_)
  have hH : HH F D A (([(q, .inr (6, [.ref q1, .ref q2, .ref (u4 0), .ref (u6 0), .ref (u8 0), .ref (u10 0), .ref (u12 0), .ref (u14 0), .int 0, .int 0])), (q1, .inl (K 2, 8, .inr (.inr (.inr (.inr (va_up (va_up (va_up (va_up (va_up (fun _ => none) (0 : Int32).toNatClampNeg (some (u16 0))) (1 : Int32).toNatClampNeg (some (u18 0))) (2 : Int32).toNatClampNeg (some (u20 0))) (3 : Int32).toNatClampNeg (some (u22 0))) (4 : Int32).toNatClampNeg (some (u24 0)))))))), (q2, .inl (K 3, 2, .inr (.inr (.inr (.inr (fun _ => none))))))] : va_W) ++ wt11) H locs := hH
  refine v_iinc (v := (5 : Int32)) (lv' := [(1, .int (5 : Int32)), (0, .ref q)]) X dX6_init_108 hl (k := 0) rfl (by decide) (by decide) rfl (fun ls hl => ?_)
  refine v_goto (tgt := 89) X dX6_init_111 (by decide) ?_
  refine v_iload_n X dX6_init_89 rfl (lv_at hl 0 rfl) ?_
  refine v_bipush (v := (8 : Int32)) X dX6_init_90 (by decide) ?_
  refine v_icmp_ge (tgt := 114) X dX6_init_92 (by decide) (fun c => absurd c (by decide)) (fun _ => ?_)
  refine v_aload_n X dX6_init_95 rfl (lv_at hl 1 rfl) ?_
  refine v_get (v := .ref q1) X hH.1 0 rfl fk_X6_11 rfl dX6_init_96 ?_
  refine v_iload_n X dX6_init_99 rfl (lv_at hl 0 rfl) ?_
  refine v_new X hF hH hA nk_X6_9 (by decide) (by decide) dX6_init_100 (fun F q25 H hF X hH hA hs1 => ?_)
  have hs := hs1.trans hs
  refine v_dup X dX6_init_103 rfl ?_
  refine v_ctorN (wr := (([(q, .inr (6, [.ref q1, .ref q2, .ref (u4 0), .ref (u6 0), .ref (u8 0), .ref (u10 0), .ref (u12 0), .ref (u14 0), .int 0, .int 0])), (q1, .inl (K 2, 8, .inr (.inr (.inr (.inr (va_up (va_up (va_up (va_up (va_up (fun _ => none) (0 : Int32).toNatClampNeg (some (u16 0))) (1 : Int32).toNatClampNeg (some (u18 0))) (2 : Int32).toNatClampNeg (some (u20 0))) (3 : Int32).toNatClampNeg (some (u22 0))) (4 : Int32).toNatClampNeg (some (u24 0)))))))), (q2, .inl (K 3, 2, .inr (.inr (.inr (.inr (fun _ => none))))))] : va_W) ++ wt11)) X hF (by rw [hs]; exact hE.2.2.2.2.2.2.2) ⟨gk_1_7, gk_1_196, gk_1_195⟩ (by decide +kernel) rfl (c_X3_init F.2.1 D K q25) ⟨by decide, by decide, by decide, by decide⟩ hA hH hl.1 (Nat.le_of_ble_eq_true rfl) dX6_init_104 (fun F u26 H locs hF X hu hHn hA hs1 => ?_)
  have hs := hs1.trans hs
  subst hu
  have hH := hHn
  obtain ⟨wt12, hwt12⟩ : ∃ w : va_W, w = wt11 ++ CX3 K u26 zX3 := ⟨_, rfl⟩
  have hH : HH F D A (([(q, .inr (6, [.ref q1, .ref q2, .ref (u4 0), .ref (u6 0), .ref (u8 0), .ref (u10 0), .ref (u12 0), .ref (u14 0), .int 0, .int 0])), (q1, .inl (K 2, 8, .inr (.inr (.inr (.inr (va_up (va_up (va_up (va_up (va_up (fun _ => none) (0 : Int32).toNatClampNeg (some (u16 0))) (1 : Int32).toNatClampNeg (some (u18 0))) (2 : Int32).toNatClampNeg (some (u20 0))) (3 : Int32).toNatClampNeg (some (u22 0))) (4 : Int32).toNatClampNeg (some (u24 0)))))))), (q2, .inl (K 3, 2, .inr (.inr (.inr (.inr (fun _ => none))))))] : va_W) ++ wt12) H locs := by rw [hwt12, ← List.append_assoc]; exact hH
  refine v_aast (f := (va_up (va_up (va_up (va_up (va_up (fun _ => none) (0 : Int32).toNatClampNeg (some (u16 0))) (1 : Int32).toNatClampNeg (some (u18 0))) (2 : Int32).toNatClampNeg (some (u20 0))) (3 : Int32).toNatClampNeg (some (u22 0))) (4 : Int32).toNatClampNeg (some (u24 0)))) X hH 1 2 (([(q, .inr (6, [.ref q1, .ref q2, .ref (u4 0), .ref (u6 0), .ref (u8 0), .ref (u10 0), .ref (u12 0), .ref (u14 0), .int 0, .int 0])), (q1, .inl (K 2, 8, .inr (.inr (.inr (.inr (va_up (va_up (va_up (va_up (va_up (fun _ => none) (0 : Int32).toNatClampNeg (some (u16 0))) (1 : Int32).toNatClampNeg (some (u18 0))) (2 : Int32).toNatClampNeg (some (u20 0))) (3 : Int32).toNatClampNeg (some (u22 0))) (4 : Int32).toNatClampNeg (some (u24 0)))))))), (q2, .inl (K 3, 2, .inr (.inr (.inr (.inr (fun _ => none))))))] : va_W) ++ wt11).length 3 rfl rfl (by rw [hwt12, ← List.append_assoc]; exact get_mid) rfl (by unfold vp_in; decide) dX6_init_107 (fun H locs hH => ?_)
  have hH : HH F D A (([(q, .inr (6, [.ref q1, .ref q2, .ref (u4 0), .ref (u6 0), .ref (u8 0), .ref (u10 0), .ref (u12 0), .ref (u14 0), .int 0, .int 0])), (q1, .inl (K 2, 8, .inr (.inr (.inr (.inr (va_up (va_up (va_up (va_up (va_up (va_up (fun _ => none) (0 : Int32).toNatClampNeg (some (u16 0))) (1 : Int32).toNatClampNeg (some (u18 0))) (2 : Int32).toNatClampNeg (some (u20 0))) (3 : Int32).toNatClampNeg (some (u22 0))) (4 : Int32).toNatClampNeg (some (u24 0))) (5 : Int32).toNatClampNeg (some (u26 0)))))))), (q2, .inl (K 3, 2, .inr (.inr (.inr (.inr (fun _ => none))))))] : va_W) ++ wt12) H locs := hH
  refine v_iinc (v := (6 : Int32)) (lv' := [(1, .int (6 : Int32)), (0, .ref q)]) X dX6_init_108 hl (k := 0) rfl (by decide) (by decide) rfl (fun ls hl => ?_)
  refine v_goto (tgt := 89) X dX6_init_111 (by decide) ?_
  refine v_iload_n X dX6_init_89 rfl (lv_at hl 0 rfl) ?_
  refine v_bipush (v := (8 : Int32)) X dX6_init_90 (by decide) ?_
  refine v_icmp_ge (tgt := 114) X dX6_init_92 (by decide) (fun c => absurd c (by decide)) (fun _ => ?_)
  refine v_aload_n X dX6_init_95 rfl (lv_at hl 1 rfl) ?_
  refine v_get (v := .ref q1) X hH.1 0 rfl fk_X6_11 rfl dX6_init_96 ?_
  refine v_iload_n X dX6_init_99 rfl (lv_at hl 0 rfl) ?_
  refine v_new X hF hH hA nk_X6_9 (by decide) (by decide) dX6_init_100 (fun F q27 H hF X hH hA hs1 => ?_)
  have hs := hs1.trans hs
  refine v_dup X dX6_init_103 rfl ?_
  refine v_ctorN (wr := (([(q, .inr (6, [.ref q1, .ref q2, .ref (u4 0), .ref (u6 0), .ref (u8 0), .ref (u10 0), .ref (u12 0), .ref (u14 0), .int 0, .int 0])), (q1, .inl (K 2, 8, .inr (.inr (.inr (.inr (va_up (va_up (va_up (va_up (va_up (va_up (fun _ => none) (0 : Int32).toNatClampNeg (some (u16 0))) (1 : Int32).toNatClampNeg (some (u18 0))) (2 : Int32).toNatClampNeg (some (u20 0))) (3 : Int32).toNatClampNeg (some (u22 0))) (4 : Int32).toNatClampNeg (some (u24 0))) (5 : Int32).toNatClampNeg (some (u26 0)))))))), (q2, .inl (K 3, 2, .inr (.inr (.inr (.inr (fun _ => none))))))] : va_W) ++ wt12)) X hF (by rw [hs]; exact hE.2.2.2.2.2.2.2) ⟨gk_1_7, gk_1_196, gk_1_195⟩ (by decide +kernel) rfl (c_X3_init F.2.1 D K q27) ⟨by decide, by decide, by decide, by decide⟩ hA hH hl.1 (Nat.le_of_ble_eq_true rfl) dX6_init_104 (fun F u28 H locs hF X hu hHn hA hs1 => ?_)
  have hs := hs1.trans hs
  subst hu
  have hH := hHn
  obtain ⟨wt13, hwt13⟩ : ∃ w : va_W, w = wt12 ++ CX3 K u28 zX3 := ⟨_, rfl⟩
  have hH : HH F D A (([(q, .inr (6, [.ref q1, .ref q2, .ref (u4 0), .ref (u6 0), .ref (u8 0), .ref (u10 0), .ref (u12 0), .ref (u14 0), .int 0, .int 0])), (q1, .inl (K 2, 8, .inr (.inr (.inr (.inr (va_up (va_up (va_up (va_up (va_up (va_up (fun _ => none) (0 : Int32).toNatClampNeg (some (u16 0))) (1 : Int32).toNatClampNeg (some (u18 0))) (2 : Int32).toNatClampNeg (some (u20 0))) (3 : Int32).toNatClampNeg (some (u22 0))) (4 : Int32).toNatClampNeg (some (u24 0))) (5 : Int32).toNatClampNeg (some (u26 0)))))))), (q2, .inl (K 3, 2, .inr (.inr (.inr (.inr (fun _ => none))))))] : va_W) ++ wt13) H locs := by rw [hwt13, ← List.append_assoc]; exact hH
  refine v_aast (f := (va_up (va_up (va_up (va_up (va_up (va_up (fun _ => none) (0 : Int32).toNatClampNeg (some (u16 0))) (1 : Int32).toNatClampNeg (some (u18 0))) (2 : Int32).toNatClampNeg (some (u20 0))) (3 : Int32).toNatClampNeg (some (u22 0))) (4 : Int32).toNatClampNeg (some (u24 0))) (5 : Int32).toNatClampNeg (some (u26 0)))) X hH 1 2 (([(q, .inr (6, [.ref q1, .ref q2, .ref (u4 0), .ref (u6 0), .ref (u8 0), .ref (u10 0), .ref (u12 0), .ref (u14 0), .int 0, .int 0])), (q1, .inl (K 2, 8, .inr (.inr (.inr (.inr (va_up (va_up (va_up (va_up (va_up (va_up (fun _ => none) (0 : Int32).toNatClampNeg (some (u16 0))) (1 : Int32).toNatClampNeg (some (u18 0))) (2 : Int32).toNatClampNeg (some (u20 0))) (3 : Int32).toNatClampNeg (some (u22 0))) (4 : Int32).toNatClampNeg (some (u24 0))) (5 : Int32).toNatClampNeg (some (u26 0)))))))), (q2, .inl (K 3, 2, .inr (.inr (.inr (.inr (fun _ => none))))))] : va_W) ++ wt12).length 3 rfl rfl (by rw [hwt13, ← List.append_assoc]; exact get_mid) rfl (by unfold vp_in; decide) dX6_init_107 (fun H locs hH => ?_)
  have hH : HH F D A (([(q, .inr (6, [.ref q1, .ref q2, .ref (u4 0), .ref (u6 0), .ref (u8 0), .ref (u10 0), .ref (u12 0), .ref (u14 0), .int 0, .int 0])), (q1, .inl (K 2, 8, .inr (.inr (.inr (.inr (va_up (va_up (va_up (va_up (va_up (va_up (va_up (fun _ => none) (0 : Int32).toNatClampNeg (some (u16 0))) (1 : Int32).toNatClampNeg (some (u18 0))) (2 : Int32).toNatClampNeg (some (u20 0))) (3 : Int32).toNatClampNeg (some (u22 0))) (4 : Int32).toNatClampNeg (some (u24 0))) (5 : Int32).toNatClampNeg (some (u26 0))) (6 : Int32).toNatClampNeg (some (u28 0)))))))), (q2, .inl (K 3, 2, .inr (.inr (.inr (.inr (fun _ => none))))))] : va_W) ++ wt13) H locs := hH
  refine v_iinc (v := (7 : Int32)) (lv' := [(1, .int (7 : Int32)), (0, .ref q)]) X dX6_init_108 hl (k := 0) rfl (by decide) (by decide) rfl (fun ls hl => ?_)
  refine v_goto (tgt := 89) X dX6_init_111 (by decide) ?_
  refine v_iload_n X dX6_init_89 rfl (lv_at hl 0 rfl) ?_
  refine v_bipush (v := (8 : Int32)) X dX6_init_90 (by decide) ?_
  refine v_icmp_ge (tgt := 114) X dX6_init_92 (by decide) (fun c => absurd c (by decide)) (fun _ => ?_)
  refine v_aload_n X dX6_init_95 rfl (lv_at hl 1 rfl) ?_
  refine v_get (v := .ref q1) X hH.1 0 rfl fk_X6_11 rfl dX6_init_96 ?_
  refine v_iload_n X dX6_init_99 rfl (lv_at hl 0 rfl) ?_
  refine v_new X hF hH hA nk_X6_9 (by decide) (by decide) dX6_init_100 (fun F q29 H hF X hH hA hs1 => ?_)
  have hs := hs1.trans hs
  refine v_dup X dX6_init_103 rfl ?_
  refine v_ctorN (wr := (([(q, .inr (6, [.ref q1, .ref q2, .ref (u4 0), .ref (u6 0), .ref (u8 0), .ref (u10 0), .ref (u12 0), .ref (u14 0), .int 0, .int 0])), (q1, .inl (K 2, 8, .inr (.inr (.inr (.inr (va_up (va_up (va_up (va_up (va_up (va_up (va_up (fun _ => none) (0 : Int32).toNatClampNeg (some (u16 0))) (1 : Int32).toNatClampNeg (some (u18 0))) (2 : Int32).toNatClampNeg (some (u20 0))) (3 : Int32).toNatClampNeg (some (u22 0))) (4 : Int32).toNatClampNeg (some (u24 0))) (5 : Int32).toNatClampNeg (some (u26 0))) (6 : Int32).toNatClampNeg (some (u28 0)))))))), (q2, .inl (K 3, 2, .inr (.inr (.inr (.inr (fun _ => none))))))] : va_W) ++ wt13)) X hF (by rw [hs]; exact hE.2.2.2.2.2.2.2) ⟨gk_1_7, gk_1_196, gk_1_195⟩ (by decide +kernel) rfl (c_X3_init F.2.1 D K q29) ⟨by decide, by decide, by decide, by decide⟩ hA hH hl.1 (Nat.le_of_ble_eq_true rfl) dX6_init_104 (fun F u30 H locs hF X hu hHn hA hs1 => ?_)
  have hs := hs1.trans hs
  subst hu
  have hH := hHn
  obtain ⟨wt14, hwt14⟩ : ∃ w : va_W, w = wt13 ++ CX3 K u30 zX3 := ⟨_, rfl⟩
  have hH : HH F D A (([(q, .inr (6, [.ref q1, .ref q2, .ref (u4 0), .ref (u6 0), .ref (u8 0), .ref (u10 0), .ref (u12 0), .ref (u14 0), .int 0, .int 0])), (q1, .inl (K 2, 8, .inr (.inr (.inr (.inr (va_up (va_up (va_up (va_up (va_up (va_up (va_up (fun _ => none) (0 : Int32).toNatClampNeg (some (u16 0))) (1 : Int32).toNatClampNeg (some (u18 0))) (2 : Int32).toNatClampNeg (some (u20 0))) (3 : Int32).toNatClampNeg (some (u22 0))) (4 : Int32).toNatClampNeg (some (u24 0))) (5 : Int32).toNatClampNeg (some (u26 0))) (6 : Int32).toNatClampNeg (some (u28 0)))))))), (q2, .inl (K 3, 2, .inr (.inr (.inr (.inr (fun _ => none))))))] : va_W) ++ wt14) H locs := by rw [hwt14, ← List.append_assoc]; exact hH
  refine v_aast (f := (va_up (va_up (va_up (va_up (va_up (va_up (va_up (fun _ => none) (0 : Int32).toNatClampNeg (some (u16 0))) (1 : Int32).toNatClampNeg (some (u18 0))) (2 : Int32).toNatClampNeg (some (u20 0))) (3 : Int32).toNatClampNeg (some (u22 0))) (4 : Int32).toNatClampNeg (some (u24 0))) (5 : Int32).toNatClampNeg (some (u26 0))) (6 : Int32).toNatClampNeg (some (u28 0)))) X hH 1 2 (([(q, .inr (6, [.ref q1, .ref q2, .ref (u4 0), .ref (u6 0), .ref (u8 0), .ref (u10 0), .ref (u12 0), .ref (u14 0), .int 0, .int 0])), (q1, .inl (K 2, 8, .inr (.inr (.inr (.inr (va_up (va_up (va_up (va_up (va_up (va_up (va_up (fun _ => none) (0 : Int32).toNatClampNeg (some (u16 0))) (1 : Int32).toNatClampNeg (some (u18 0))) (2 : Int32).toNatClampNeg (some (u20 0))) (3 : Int32).toNatClampNeg (some (u22 0))) (4 : Int32).toNatClampNeg (some (u24 0))) (5 : Int32).toNatClampNeg (some (u26 0))) (6 : Int32).toNatClampNeg (some (u28 0)))))))), (q2, .inl (K 3, 2, .inr (.inr (.inr (.inr (fun _ => none))))))] : va_W) ++ wt13).length 3 rfl rfl (by rw [hwt14, ← List.append_assoc]; exact get_mid) rfl (by unfold vp_in; decide) dX6_init_107 (fun H locs hH => ?_)
  have hH : HH F D A (([(q, .inr (6, [.ref q1, .ref q2, .ref (u4 0), .ref (u6 0), .ref (u8 0), .ref (u10 0), .ref (u12 0), .ref (u14 0), .int 0, .int 0])), (q1, .inl (K 2, 8, .inr (.inr (.inr (.inr (va_up (va_up (va_up (va_up (va_up (va_up (va_up (va_up (fun _ => none) (0 : Int32).toNatClampNeg (some (u16 0))) (1 : Int32).toNatClampNeg (some (u18 0))) (2 : Int32).toNatClampNeg (some (u20 0))) (3 : Int32).toNatClampNeg (some (u22 0))) (4 : Int32).toNatClampNeg (some (u24 0))) (5 : Int32).toNatClampNeg (some (u26 0))) (6 : Int32).toNatClampNeg (some (u28 0))) (7 : Int32).toNatClampNeg (some (u30 0)))))))), (q2, .inl (K 3, 2, .inr (.inr (.inr (.inr (fun _ => none))))))] : va_W) ++ wt14) H locs := hH
  refine v_iinc (v := (8 : Int32)) (lv' := [(1, .int (8 : Int32)), (0, .ref q)]) X dX6_init_108 hl (k := 0) rfl (by decide) (by decide) rfl (fun ls hl => ?_)
  refine v_goto (tgt := 89) X dX6_init_111 (by decide) ?_
  refine v_iload_n X dX6_init_89 rfl (lv_at hl 0 rfl) ?_
  refine v_bipush (v := (8 : Int32)) X dX6_init_90 (by decide) ?_
  refine v_icmp_ge (tgt := 114) X dX6_init_92 (by decide) (fun _ => ?_) (fun c => absurd (by decide) c)
  refine v_iconst (v := (0 : Int32)) X dX6_init_114 (by decide) ?_
  refine v_istore_n (lv' := [(1, .int (0 : Int32)), (0, .ref q)]) X dX6_init_115 rfl hl (by decide) rfl (fun ls hl => ?_)
  refine v_iload_n X dX6_init_116 rfl (lv_at hl 0 rfl) ?_
  refine v_iconst (v := (2 : Int32)) X dX6_init_117 (by decide) ?_
  refine v_icmp_ge (tgt := 140) X dX6_init_118 (by decide) (fun c => absurd c (by decide)) (fun _ => ?_)
  refine v_aload_n X dX6_init_121 rfl (lv_at hl 1 rfl) ?_
  refine v_get (v := .ref q2) X hH.1 0 rfl fk_X6_17 rfl dX6_init_122 ?_
  refine v_iload_n X dX6_init_125 rfl (lv_at hl 0 rfl) ?_
  refine v_new X hF hH hA nk_X6_15 (by decide) (by decide) dX6_init_126 (fun F q31 H hF X hH hA hs1 => ?_)
  have hs := hs1.trans hs
  refine v_dup X dX6_init_129 rfl ?_
  refine v_ctorN (wr := (([(q, .inr (6, [.ref q1, .ref q2, .ref (u4 0), .ref (u6 0), .ref (u8 0), .ref (u10 0), .ref (u12 0), .ref (u14 0), .int 0, .int 0])), (q1, .inl (K 2, 8, .inr (.inr (.inr (.inr (va_up (va_up (va_up (va_up (va_up (va_up (va_up (va_up (fun _ => none) (0 : Int32).toNatClampNeg (some (u16 0))) (1 : Int32).toNatClampNeg (some (u18 0))) (2 : Int32).toNatClampNeg (some (u20 0))) (3 : Int32).toNatClampNeg (some (u22 0))) (4 : Int32).toNatClampNeg (some (u24 0))) (5 : Int32).toNatClampNeg (some (u26 0))) (6 : Int32).toNatClampNeg (some (u28 0))) (7 : Int32).toNatClampNeg (some (u30 0)))))))), (q2, .inl (K 3, 2, .inr (.inr (.inr (.inr (fun _ => none))))))] : va_W) ++ wt14)) X hF (by rw [hs]; exact hE.2.2.1) ⟨gk_1_2, gk_1_27, gk_1_26⟩ (by decide +kernel) rfl (c_X1_init F.2.1 D K q31) ⟨by decide, by decide, by decide, by decide⟩ hA hH hl.1 (Nat.le_of_ble_eq_true rfl) dX6_init_130 (fun F u32 H locs hF X hu hHn hA hs1 => ?_)
  have hs := hs1.trans hs
  subst hu
  have hH := hHn
  obtain ⟨wt15, hwt15⟩ : ∃ w : va_W, w = wt14 ++ CX1 K u32 zX1 := ⟨_, rfl⟩
  have hH : HH F D A (([(q, .inr (6, [.ref q1, .ref q2, .ref (u4 0), .ref (u6 0), .ref (u8 0), .ref (u10 0), .ref (u12 0), .ref (u14 0), .int 0, .int 0])), (q1, .inl (K 2, 8, .inr (.inr (.inr (.inr (va_up (va_up (va_up (va_up (va_up (va_up (va_up (va_up (fun _ => none) (0 : Int32).toNatClampNeg (some (u16 0))) (1 : Int32).toNatClampNeg (some (u18 0))) (2 : Int32).toNatClampNeg (some (u20 0))) (3 : Int32).toNatClampNeg (some (u22 0))) (4 : Int32).toNatClampNeg (some (u24 0))) (5 : Int32).toNatClampNeg (some (u26 0))) (6 : Int32).toNatClampNeg (some (u28 0))) (7 : Int32).toNatClampNeg (some (u30 0)))))))), (q2, .inl (K 3, 2, .inr (.inr (.inr (.inr (fun _ => none))))))] : va_W) ++ wt15) H locs := by rw [hwt15, ← List.append_assoc]; exact hH
  refine v_aast (f := (fun _ => none)) X hH 2 3 (([(q, .inr (6, [.ref q1, .ref q2, .ref (u4 0), .ref (u6 0), .ref (u8 0), .ref (u10 0), .ref (u12 0), .ref (u14 0), .int 0, .int 0])), (q1, .inl (K 2, 8, .inr (.inr (.inr (.inr (va_up (va_up (va_up (va_up (va_up (va_up (va_up (va_up (fun _ => none) (0 : Int32).toNatClampNeg (some (u16 0))) (1 : Int32).toNatClampNeg (some (u18 0))) (2 : Int32).toNatClampNeg (some (u20 0))) (3 : Int32).toNatClampNeg (some (u22 0))) (4 : Int32).toNatClampNeg (some (u24 0))) (5 : Int32).toNatClampNeg (some (u26 0))) (6 : Int32).toNatClampNeg (some (u28 0))) (7 : Int32).toNatClampNeg (some (u30 0)))))))), (q2, .inl (K 3, 2, .inr (.inr (.inr (.inr (fun _ => none))))))] : va_W) ++ wt14).length 1 rfl rfl (by rw [hwt15, ← List.append_assoc]; exact get_mid) rfl (by unfold vp_in; decide) dX6_init_133 (fun H locs hH => ?_)
  have hH : HH F D A (([(q, .inr (6, [.ref q1, .ref q2, .ref (u4 0), .ref (u6 0), .ref (u8 0), .ref (u10 0), .ref (u12 0), .ref (u14 0), .int 0, .int 0])), (q1, .inl (K 2, 8, .inr (.inr (.inr (.inr (va_up (va_up (va_up (va_up (va_up (va_up (va_up (va_up (fun _ => none) (0 : Int32).toNatClampNeg (some (u16 0))) (1 : Int32).toNatClampNeg (some (u18 0))) (2 : Int32).toNatClampNeg (some (u20 0))) (3 : Int32).toNatClampNeg (some (u22 0))) (4 : Int32).toNatClampNeg (some (u24 0))) (5 : Int32).toNatClampNeg (some (u26 0))) (6 : Int32).toNatClampNeg (some (u28 0))) (7 : Int32).toNatClampNeg (some (u30 0)))))))), (q2, .inl (K 3, 2, .inr (.inr (.inr (.inr (va_up (fun _ => none) (0 : Int32).toNatClampNeg (some (u32 0))))))))] : va_W) ++ wt15) H locs := hH
  refine v_iinc (v := (1 : Int32)) (lv' := [(1, .int (1 : Int32)), (0, .ref q)]) X dX6_init_134 hl (k := 0) rfl (by decide) (by decide) rfl (fun ls hl => ?_)
  refine v_goto (tgt := 116) X dX6_init_137 (by decide) ?_
  refine v_iload_n X dX6_init_116 rfl (lv_at hl 0 rfl) ?_
  refine v_iconst (v := (2 : Int32)) X dX6_init_117 (by decide) ?_
  refine v_icmp_ge (tgt := 140) X dX6_init_118 (by decide) (fun c => absurd c (by decide)) (fun _ => ?_)
  refine v_aload_n X dX6_init_121 rfl (lv_at hl 1 rfl) ?_
  refine v_get (v := .ref q2) X hH.1 0 rfl fk_X6_17 rfl dX6_init_122 ?_
  refine v_iload_n X dX6_init_125 rfl (lv_at hl 0 rfl) ?_
  refine v_new X hF hH hA nk_X6_15 (by decide) (by decide) dX6_init_126 (fun F q33 H hF X hH hA hs1 => ?_)
  have hs := hs1.trans hs
  refine v_dup X dX6_init_129 rfl ?_
  refine v_ctorN (wr := (([(q, .inr (6, [.ref q1, .ref q2, .ref (u4 0), .ref (u6 0), .ref (u8 0), .ref (u10 0), .ref (u12 0), .ref (u14 0), .int 0, .int 0])), (q1, .inl (K 2, 8, .inr (.inr (.inr (.inr (va_up (va_up (va_up (va_up (va_up (va_up (va_up (va_up (fun _ => none) (0 : Int32).toNatClampNeg (some (u16 0))) (1 : Int32).toNatClampNeg (some (u18 0))) (2 : Int32).toNatClampNeg (some (u20 0))) (3 : Int32).toNatClampNeg (some (u22 0))) (4 : Int32).toNatClampNeg (some (u24 0))) (5 : Int32).toNatClampNeg (some (u26 0))) (6 : Int32).toNatClampNeg (some (u28 0))) (7 : Int32).toNatClampNeg (some (u30 0)))))))), (q2, .inl (K 3, 2, .inr (.inr (.inr (.inr (va_up (fun _ => none) (0 : Int32).toNatClampNeg (some (u32 0))))))))] : va_W) ++ wt15)) X hF (by rw [hs]; exact hE.2.2.1) ⟨gk_1_2, gk_1_27, gk_1_26⟩ (by decide +kernel) rfl (c_X1_init F.2.1 D K q33) ⟨by decide, by decide, by decide, by decide⟩ hA hH hl.1 (Nat.le_of_ble_eq_true rfl) dX6_init_130 (fun F u34 H locs hF X hu hHn hA hs1 => ?_)
  have hs := hs1.trans hs
  subst hu
  have hH := hHn
  obtain ⟨wt16, hwt16⟩ : ∃ w : va_W, w = wt15 ++ CX1 K u34 zX1 := ⟨_, rfl⟩
  have hH : HH F D A (([(q, .inr (6, [.ref q1, .ref q2, .ref (u4 0), .ref (u6 0), .ref (u8 0), .ref (u10 0), .ref (u12 0), .ref (u14 0), .int 0, .int 0])), (q1, .inl (K 2, 8, .inr (.inr (.inr (.inr (va_up (va_up (va_up (va_up (va_up (va_up (va_up (va_up (fun _ => none) (0 : Int32).toNatClampNeg (some (u16 0))) (1 : Int32).toNatClampNeg (some (u18 0))) (2 : Int32).toNatClampNeg (some (u20 0))) (3 : Int32).toNatClampNeg (some (u22 0))) (4 : Int32).toNatClampNeg (some (u24 0))) (5 : Int32).toNatClampNeg (some (u26 0))) (6 : Int32).toNatClampNeg (some (u28 0))) (7 : Int32).toNatClampNeg (some (u30 0)))))))), (q2, .inl (K 3, 2, .inr (.inr (.inr (.inr (va_up (fun _ => none) (0 : Int32).toNatClampNeg (some (u32 0))))))))] : va_W) ++ wt16) H locs := by rw [hwt16, ← List.append_assoc]; exact hH
  refine v_aast (f := (va_up (fun _ => none) (0 : Int32).toNatClampNeg (some (u32 0)))) X hH 2 3 (([(q, .inr (6, [.ref q1, .ref q2, .ref (u4 0), .ref (u6 0), .ref (u8 0), .ref (u10 0), .ref (u12 0), .ref (u14 0), .int 0, .int 0])), (q1, .inl (K 2, 8, .inr (.inr (.inr (.inr (va_up (va_up (va_up (va_up (va_up (va_up (va_up (va_up (fun _ => none) (0 : Int32).toNatClampNeg (some (u16 0))) (1 : Int32).toNatClampNeg (some (u18 0))) (2 : Int32).toNatClampNeg (some (u20 0))) (3 : Int32).toNatClampNeg (some (u22 0))) (4 : Int32).toNatClampNeg (some (u24 0))) (5 : Int32).toNatClampNeg (some (u26 0))) (6 : Int32).toNatClampNeg (some (u28 0))) (7 : Int32).toNatClampNeg (some (u30 0)))))))), (q2, .inl (K 3, 2, .inr (.inr (.inr (.inr (va_up (fun _ => none) (0 : Int32).toNatClampNeg (some (u32 0))))))))] : va_W) ++ wt15).length 1 rfl rfl (by rw [hwt16, ← List.append_assoc]; exact get_mid) rfl (by unfold vp_in; decide) dX6_init_133 (fun H locs hH => ?_)
  have hH : HH F D A (([(q, .inr (6, [.ref q1, .ref q2, .ref (u4 0), .ref (u6 0), .ref (u8 0), .ref (u10 0), .ref (u12 0), .ref (u14 0), .int 0, .int 0])), (q1, .inl (K 2, 8, .inr (.inr (.inr (.inr (va_up (va_up (va_up (va_up (va_up (va_up (va_up (va_up (fun _ => none) (0 : Int32).toNatClampNeg (some (u16 0))) (1 : Int32).toNatClampNeg (some (u18 0))) (2 : Int32).toNatClampNeg (some (u20 0))) (3 : Int32).toNatClampNeg (some (u22 0))) (4 : Int32).toNatClampNeg (some (u24 0))) (5 : Int32).toNatClampNeg (some (u26 0))) (6 : Int32).toNatClampNeg (some (u28 0))) (7 : Int32).toNatClampNeg (some (u30 0)))))))), (q2, .inl (K 3, 2, .inr (.inr (.inr (.inr (va_up (va_up (fun _ => none) (0 : Int32).toNatClampNeg (some (u32 0))) (1 : Int32).toNatClampNeg (some (u34 0))))))))] : va_W) ++ wt16) H locs := hH
  refine v_iinc (v := (2 : Int32)) (lv' := [(1, .int (2 : Int32)), (0, .ref q)]) X dX6_init_134 hl (k := 0) rfl (by decide) (by decide) rfl (fun ls hl => ?_)
  refine v_goto (tgt := 116) X dX6_init_137 (by decide) ?_
  refine v_iload_n X dX6_init_116 rfl (lv_at hl 0 rfl) ?_
  refine v_iconst (v := (2 : Int32)) X dX6_init_117 (by decide) ?_
  refine v_icmp_ge (tgt := 140) X dX6_init_118 (by decide) (fun _ => ?_) (fun c => absurd (by decide) c)
  have hH := hH.cell (p := 1) (x' := (8, .inr (.inr (.inr (.inr (fun j => some ((fun j => ([u16, u18, u20, u22, u24, u26, u28, u30] : List (Nat → Nat)).getD j (fun _ => 0)) j 0))))))) rfl (cellq_congr (fun j hj => by rcases (show j = 0 ∨ j = 1 ∨ j = 2 ∨ j = 3 ∨ j = 4 ∨ j = 5 ∨ j = 6 ∨ j = 7 by omega) with rfl | rfl | rfl | rfl | rfl | rfl | rfl | rfl <;> rfl))
  have hH := hH.cell (p := 2) (x' := (2, .inr (.inr (.inr (.inr (fun j => some ((fun j => ([u32, u34] : List (Nat → Nat)).getD j (fun _ => 0)) j 0))))))) rfl (cellq_congr (fun j hj => by rcases (show j = 0 ∨ j = 1 by omega) with rfl | rfl <;> rfl))
  have hH : HH F D A (([(q, .inr (6, [.ref q1, .ref q2, .ref (u4 0), .ref (u6 0), .ref (u8 0), .ref (u10 0), .ref (u12 0), .ref (u14 0), .int 0, .int 0])), (q1, .inl (K 2, 8, .inr (.inr (.inr (.inr (fun j => some ((fun j => ([u16, u18, u20, u22, u24, u26, u28, u30] : List (Nat → Nat)).getD j (fun _ => 0)) j 0))))))), (q2, .inl (K 3, 2, .inr (.inr (.inr (.inr (fun j => some ((fun j => ([u32, u34] : List (Nat → Nat)).getD j (fun _ => 0)) j 0)))))))] : va_W) ++ wt16) H locs := hH
  have e : ([(q, .inr (6, [.ref q1, .ref q2, .ref (u4 0), .ref (u6 0), .ref (u8 0), .ref (u10 0), .ref (u12 0), .ref (u14 0), .int 0, .int 0])), (q1, .inl (K 2, 8, .inr (.inr (.inr (.inr (fun j => some ((fun j => ([u16, u18, u20, u22, u24, u26, u28, u30] : List (Nat → Nat)).getD j (fun _ => 0)) j 0))))))), (q2, .inl (K 3, 2, .inr (.inr (.inr (.inr (fun j => some ((fun j => ([u32, u34] : List (Nat → Nat)).getD j (fun _ => 0)) j 0)))))))] : va_W) ++ wt16 = XZ K (((fun j => ([q, q1, q2] : List Nat).getD j 0), u4, u6, u8, u10, u12, u14, (fun j => ([u16, u18, u20, u22, u24, u26, u28, u30] : List (Nat → Nat)).getD j (fun _ => 0)), (fun j => ([u32, u34] : List (Nat → Nat)).getD j (fun _ => 0))) : AX) := by
    rw [hwt16, hwt15, hwt14, hwt13, hwt12, hwt11, hwt10, hwt9, hwt8, hwt7, hwt6, hwt5, hwt4, hwt3, hwt2, hwt1, hwt0]
    simp only [List.nil_append, List.append_assoc]
    rfl
  exact v_cret X hF hr hk (((fun j => ([q, q1, q2] : List Nat).getD j 0), u4, u6, u8, u10, u12, u14, (fun j => ([u16, u18, u20, u22, u24, u26, u28, u30] : List (Nat → Nat)).getD j (fun _ => 0)), (fun j => ([u32, u34] : List (Nat → Nat)).getD j (fun _ => 0))) : AX) (by rw [← e]; exact hH) rfl (by decide) (by decide) dX6_init_140
