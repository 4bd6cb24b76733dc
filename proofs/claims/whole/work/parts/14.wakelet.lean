def w_X6_isWithin (a0 : Int32) (a1 : Int32) (a2 : Int32) (post : Int32 → Prop) : Prop := (a0 < a1 → post (0 : Int32)) ∧ (¬ a0 < a1 → (a2 < a0 → post (0 : Int32)) ∧ (¬ a2 < a0 → post (1 : Int32)))
set_option maxHeartbeats 4000000 in
set_option maxRecDepth 100000 in
theorem c_X6_isWithin (l : Launch) (D : va_G) (K : Nat → ClassId) (t : Nat → Nat) (a0 : Int32) (a1 : Int32) (a2 : Int32) (post : Int32 → Prop) (h : w_X6_isWithin a0 a1 a2 post) : RdM l yX6_isWithin cX6_isWithin 3 (some .boolean) ({ frames := 0, cells := 0, slots := 0, locals := 0 } : Room) D (TY K) t ([] : va_W) [.int a0, .int a1, .int a2] post := by
  refine RdM.mk rfl (Nat.le_of_ble_eq_true rfl) ?_
  intro F ls _ hF X hP hl hT
  have X : Cx F cX6_isWithin 3 RX6 D (TY K) := X
  have hl : lv_has ls 3 [(0, .int a0), (1, .int a1), (2, .int a2)] := hl
  unfold w_X6_isWithin at h
  refine v_iload_n X dX6_isWithin_0 rfl (lv_at hl 0 rfl) ?_
  refine v_iload_n X dX6_isWithin_1 rfl (lv_at hl 1 rfl) ?_
  refine v_icmp_lt (tgt := 14) X dX6_isWithin_2 (by decide) (fun c2 => ?_) (fun c2 => ?_)
  · have h := h.1 c2
    refine v_iconst (v := (0 : Int32)) X dX6_isWithin_14 (by decide) ?_
    exact v_rzret X hF rfl h dX6_isWithin_15
  · have h := h.2 c2
    refine v_iload_n X dX6_isWithin_5 rfl (lv_at hl 0 rfl) ?_
    refine v_iload_n X dX6_isWithin_6 rfl (lv_at hl 2 rfl) ?_
    refine v_icmp_gt (tgt := 14) X dX6_isWithin_7 (by decide) (fun c1 => ?_) (fun c1 => ?_)
    · have h := h.1 c1
      refine v_iconst (v := (0 : Int32)) X dX6_isWithin_14 (by decide) ?_
      exact v_rzret X hF rfl h dX6_isWithin_15
    · have h := h.2 c1
      refine v_iconst (v := (1 : Int32)) X dX6_isWithin_10 (by decide) ?_
      refine v_goto (tgt := 15) X dX6_isWithin_11 (by decide) ?_
      exact v_rzret X hF rfl h dX6_isWithin_15
def w_X6_found (ux : BX6) (a0 : Int32) (post : Int32 → BX6 → Prop) : Prop := post ((-1000010 : Int32) - a0) (ux.1, a0)
set_option maxHeartbeats 4000000 in
set_option maxRecDepth 100000 in
theorem c_X6_found (l : Launch) (D : va_G) (K : Nat → ClassId) (t : Nat → Nat) (x no tr tp ac se ak : Nat → Nat) (ro im : Nat → Nat → Nat) (ux : BX6) (a0 : Int32) (post : Int32 → BX6 → Prop) (h : w_X6_found ux a0 post) : WrI l yX6_found cX6_found 2 (some .int) ({ frames := 0, cells := 0, slots := 0, locals := 0 } : Room) D (TY K) t (CX6 K x no tr tp ac se ak ro im ux) [.ref (x 0), .int a0] (fun z : BX6 => CX6 K x no tr tp ac se ak ro im z) (fun (r : Int32) (z : BX6) => post r z) := by
  refine WrI.mk rfl (Nat.le_of_ble_eq_true rfl) ?_
  intro F ls A _ hF X hH hA hl hT
  obtain ⟨H, hH0⟩ : ∃ z : Heap, z = (fxS F).heap := ⟨_, rfl⟩
  obtain ⟨locs, hL0⟩ : ∃ z : List Loc, z = [] := ⟨_, rfl⟩
  have hH : HH F D A (CX6 K x no tr tp ac se ak ro im ux) H locs := by rw [hH0, hL0]; exact hH
  suffices goal : V F (WQI F D (TY K) A (fun z : BX6 => CX6 K x no tr tp ac se ak ro im z) (fun (r : Int32) (z : BX6) => post r z)) H locs 0 ls [] by rw [hH0, hL0] at goal; exact goal
  clear hH0 hL0
  have X : Cx F cX6_found 2 RX6 D (TY K) := X
  have hl : lv_has ls 2 [(0, .ref (x 0)), (1, .int a0)] := hl
  unfold w_X6_found at h
  refine v_aload_n X dX6_found_0 rfl (lv_at hl 0 rfl) ?_
  refine v_iload_n X dX6_found_1 rfl (lv_at hl 1 rfl) ?_
  refine v_put X hH 0 rfl fi_X6_283 (Nat.le_of_ble_eq_true rfl) dX6_found_2 (fun H locs hH => ?_)
  have hH : HH F D A (CX6 K x no tr tp ac se ak ro im (ux.1, a0)) H locs := hH
  refine v_ldcw X kc_X6_286 dX6_found_5 ?_
  refine v_iload_n X dX6_found_8 rfl (lv_at hl 1 rfl) ?_
  refine v_isub X dX6_found_9 ?_
  exact v_wiret X hF (ux.1, a0) hH h dX6_found_10
def w_X6_unfound (ux : BX6) (a0 : Int32) (post : Int32 → BX6 → Prop) : Prop := post a0 (ux.1, (0 : Int32))
set_option maxHeartbeats 4000000 in
set_option maxRecDepth 100000 in
theorem c_X6_unfound (l : Launch) (D : va_G) (K : Nat → ClassId) (t : Nat → Nat) (x no tr tp ac se ak : Nat → Nat) (ro im : Nat → Nat → Nat) (ux : BX6) (a0 : Int32) (post : Int32 → BX6 → Prop) (h : w_X6_unfound ux a0 post) : WrI l yX6_unfound cX6_unfound 2 (some .int) ({ frames := 0, cells := 0, slots := 0, locals := 0 } : Room) D (TY K) t (CX6 K x no tr tp ac se ak ro im ux) [.ref (x 0), .int a0] (fun z : BX6 => CX6 K x no tr tp ac se ak ro im z) (fun (r : Int32) (z : BX6) => post r z) := by
  refine WrI.mk rfl (Nat.le_of_ble_eq_true rfl) ?_
  intro F ls A _ hF X hH hA hl hT
  obtain ⟨H, hH0⟩ : ∃ z : Heap, z = (fxS F).heap := ⟨_, rfl⟩
  obtain ⟨locs, hL0⟩ : ∃ z : List Loc, z = [] := ⟨_, rfl⟩
  have hH : HH F D A (CX6 K x no tr tp ac se ak ro im ux) H locs := by rw [hH0, hL0]; exact hH
  suffices goal : V F (WQI F D (TY K) A (fun z : BX6 => CX6 K x no tr tp ac se ak ro im z) (fun (r : Int32) (z : BX6) => post r z)) H locs 0 ls [] by rw [hH0, hL0] at goal; exact goal
  clear hH0 hL0
  have X : Cx F cX6_unfound 2 RX6 D (TY K) := X
  have hl : lv_has ls 2 [(0, .ref (x 0)), (1, .int a0)] := hl
  unfold w_X6_unfound at h
  refine v_aload_n X dX6_unfound_0 rfl (lv_at hl 0 rfl) ?_
  refine v_iconst (v := (0 : Int32)) X dX6_unfound_1 (by decide) ?_
  refine v_put X hH 0 rfl fi_X6_283 (Nat.le_of_ble_eq_true rfl) dX6_unfound_2 (fun H locs hH => ?_)
  have hH : HH F D A (CX6 K x no tr tp ac se ak ro im (ux.1, (0 : Int32))) H locs := hH
  refine v_iload_n X dX6_unfound_5 rfl (lv_at hl 1 rfl) ?_
  exact v_wiret X hF (ux.1, (0 : Int32)) hH h dX6_unfound_6
def w_X6_row (ux : BX6) (ur : BX3) (a0 : Int32) (a1 : Int32) (a2 : Int32) (post : Int32 → BX6 → BX3 → Prop) : Prop := w_X6_isWithin a0 (0 : Int32) (7 : Int32) (fun r1 => (r1 = 0 → post (-1000001 : Int32) ux ur) ∧ (¬ r1 = 0 → w_X6_isWithin a1 (0 : Int32) (2 : Int32) (fun r2 => (r2 = 0 → post (-1000001 : Int32) ux ur) ∧ (¬ r2 = 0 → (a2 ≤ (40 : Int32) → (0 ≤ a2 → vp_in a0 8 ∧ (w_X3_make ur a1 a2 (fun u4 => w_X6_unfound ux a2 (fun r5 u6 => post r5 u6 u4)))) ∧ (¬ 0 ≤ a2 → w_X6_found ux (4 : Int32) (fun r7 u8 => post r7 u8 ur))) ∧ (¬ a2 ≤ (40 : Int32) → post (-1000001 : Int32) ux ur)))))
set_option maxHeartbeats 4000000 in
set_option maxRecDepth 100000 in
theorem c_X6_row (l : Launch) (D : va_G) (K : Nat → ClassId) (t : Nat → Nat) (x no tr tp ac se ak : Nat → Nat) (ro im : Nat → Nat → Nat) (ux : BX6) (ur : BX3) (a0 : Int32) (a1 : Int32) (a2 : Int32) (k1 : Nat) (hk1 : vp_in a0 8 → a0.toNatClampNeg = k1) (post : Int32 → BX6 → BX3 → Prop) (h : w_X6_row ux ur a0 a1 a2 post) : WrI l yX6_row cX6_row 4 (some .int) ({ frames := 1, cells := 0, slots := 0, locals := 23 } : Room) D (TY K) t (CX6 K x no tr tp ac se ak ro im ux ++ CX3 K (ro k1) ur) [.ref (x 0), .int a0, .int a1, .int a2] (fun z : BX6 × BX3 => CX6 K x no tr tp ac se ak ro im z.1 ++ CX3 K (ro k1) z.2) (fun (r : Int32) (z : BX6 × BX3) => post r z.1 z.2) := by
  refine WrI.mk rfl (Nat.le_of_ble_eq_true rfl) ?_
  intro F ls A _ hF X hH hA hl hT
  obtain ⟨H, hH0⟩ : ∃ z : Heap, z = (fxS F).heap := ⟨_, rfl⟩
  obtain ⟨locs, hL0⟩ : ∃ z : List Loc, z = [] := ⟨_, rfl⟩
  have hH : HH F D A (CX6 K x no tr tp ac se ak ro im ux ++ CX3 K (ro k1) ur) H locs := by rw [hH0, hL0]; exact hH
  suffices goal : V F (WQI F D (TY K) A (fun z : BX6 × BX3 => CX6 K x no tr tp ac se ak ro im z.1 ++ CX3 K (ro k1) z.2) (fun (r : Int32) (z : BX6 × BX3) => post r z.1 z.2)) H locs 0 ls [] by rw [hH0, hL0] at goal; exact goal
  clear hH0 hL0
  have X : Cx F cX6_row 4 RX6 D (TY K) := X
  have hl : lv_has ls 4 [(0, .ref (x 0)), (1, .int a0), (2, .int a1), (3, .int a2)] := hl
  unfold w_X6_row at h
  refine v_iload_n X dX6_row_0 rfl (lv_at hl 1 rfl) ?_
  refine v_iconst (v := (0 : Int32)) X dX6_row_1 (by decide) ?_
  refine v_bipush (v := (7 : Int32)) X dX6_row_2 (by decide) ?_
  refine rdS (As := [.int a0, .int (0 : Int32), .int (7 : Int32)]) (rest := []) X ms_X6_58 (c_X6_isWithin F.2.1 D K t a0 (0 : Int32) (7 : Int32) _ h) hF ⟨rfl, rfl, Nat.le_of_ble_eq_true rfl, Nat.le_of_ble_eq_true rfl⟩ (stW hT hH) hH.1 [] rfl hl.1 rfl rfl (Nat.le_of_ble_eq_true rfl) dX6_row_4 (fun r1 h => ?_)
  refine v_if_eq (tgt := 25) X dX6_row_7 (by decide) (fun c12 => ?_) (fun c12 => ?_)
  · have h := h.1 c12
    refine v_ldc X kc_X6_62 dX6_row_25 ?_
    exact v_wiret X hF (ux, ur) hH h dX6_row_27
  · have h := h.2 c12
    refine v_iload_n X dX6_row_10 rfl (lv_at hl 2 rfl) ?_
    refine v_iconst (v := (0 : Int32)) X dX6_row_11 (by decide) ?_
    refine v_iconst (v := (2 : Int32)) X dX6_row_12 (by decide) ?_
    refine rdS (As := [.int a1, .int (0 : Int32), .int (2 : Int32)]) (rest := []) X ms_X6_58 (c_X6_isWithin F.2.1 D K t a1 (0 : Int32) (2 : Int32) _ h) hF ⟨rfl, rfl, Nat.le_of_ble_eq_true rfl, Nat.le_of_ble_eq_true rfl⟩ (stW hT hH) hH.1 [] rfl hl.1 rfl rfl (Nat.le_of_ble_eq_true rfl) dX6_row_13 (fun r2 h => ?_)
    refine v_if_eq (tgt := 25) X dX6_row_16 (by decide) (fun c11 => ?_) (fun c11 => ?_)
    · have h := h.1 c11
      refine v_ldc X kc_X6_62 dX6_row_25 ?_
      exact v_wiret X hF (ux, ur) hH h dX6_row_27
    · have h := h.2 c11
      refine v_iload_n X dX6_row_19 rfl (lv_at hl 3 rfl) ?_
      refine v_bipush (v := (40 : Int32)) X dX6_row_20 (by decide) ?_
      refine v_icmp_le (tgt := 28) X dX6_row_22 (by decide) (fun c10 => ?_) (fun c10 => ?_)
      · have h := h.1 c10
        refine v_iload_n X dX6_row_28 rfl (lv_at hl 3 rfl) ?_
        refine v_if_ge (tgt := 38) X dX6_row_29 (by decide) (fun c9 => ?_) (fun c9 => ?_)
        · have h := h.1 c9
          refine v_aload_n X dX6_row_38 rfl (lv_at hl 0 rfl) ?_
          refine v_get (v := .ref (x 1)) X hH.1 0 rfl fk_X6_11 rfl dX6_row_39 ?_
          refine v_iload_n X dX6_row_42 rfl (lv_at hl 1 rfl) ?_
          have hin := h.1
          have h := h.2
          refine v_aald X hH.1 1 2 rfl rfl hin (congrArg (fun j => some (ro j 0)) (hk1 hin)) dX6_row_43 ?_
          refine v_iload_n X dX6_row_44 rfl (lv_at hl 2 rfl) ?_
          refine v_iload_n X dX6_row_45 rfl (lv_at hl 3 rfl) ?_
          refine wrVV (As := [.int a1, .int a2]) (rest := []) (wr := (CX6 K x no tr tp ac se ak ro im ux)) X mv_X6_67 (c_X3_make F.2.1 D K t (ro k1) ur a1 a2 _ h) hF ⟨rfl, rfl, Nat.le_of_ble_eq_true rfl, Nat.le_of_ble_eq_true rfl⟩ hT hA hH [3, 4] [0, 1, 2] ⟨rfl, rfl, rfl, rfl, by decide⟩ 3 rfl rfl hl.1 rfl rfl (Nat.le_of_ble_eq_true rfl) dX6_row_46 (fun u4 H locs h hH => ?_)
          have hH : HH F D A (CX6 K x no tr tp ac se ak ro im ux ++ CX3 K (ro k1) u4) H locs := hH
          refine v_aload_n X dX6_row_49 rfl (lv_at hl 0 rfl) ?_
          refine v_iload_n X dX6_row_50 rfl (lv_at hl 3 rfl) ?_
          refine wrVI (As := [.int a2]) (rest := []) (wr := (CX3 K (ro k1) u4)) X mv_X6_71 (c_X6_unfound F.2.1 D K t x no tr tp ac se ak ro im ux a2 _ h) hF ⟨rfl, rfl, Nat.le_of_ble_eq_true rfl, Nat.le_of_ble_eq_true rfl⟩ hT hA hH [0, 1, 2] [3, 4] ⟨rfl, rfl, rfl, rfl, by decide⟩ 0 rfl rfl hl.1 rfl rfl (Nat.le_of_ble_eq_true rfl) dX6_row_51 (fun r5 u6 H locs h hH => ?_)
          have hH : HH F D A (CX3 K (ro k1) u4 ++ CX6 K x no tr tp ac se ak ro im u6) H locs := hH
          exact v_wiret X hF (u6, u4) (hH.perm [2, 3, 4, 0, 1] rfl rfl) h dX6_row_54
        · have h := h.2 c9
          refine v_aload_n X dX6_row_32 rfl (lv_at hl 0 rfl) ?_
          refine v_iconst (v := (4 : Int32)) X dX6_row_33 (by decide) ?_
          refine wrVI (As := [.int (4 : Int32)]) (rest := []) (wr := (CX3 K (ro k1) ur)) X mv_X6_63 (c_X6_found F.2.1 D K t x no tr tp ac se ak ro im ux (4 : Int32) _ h) hF ⟨rfl, rfl, Nat.le_of_ble_eq_true rfl, Nat.le_of_ble_eq_true rfl⟩ hT hA hH [0, 1, 2] [3, 4] ⟨rfl, rfl, rfl, rfl, by decide⟩ 0 rfl rfl hl.1 rfl rfl (Nat.le_of_ble_eq_true rfl) dX6_row_34 (fun r7 u8 H locs h hH => ?_)
          have hH : HH F D A (CX3 K (ro k1) ur ++ CX6 K x no tr tp ac se ak ro im u8) H locs := hH
          exact v_wiret X hF (u8, ur) (hH.perm [2, 3, 4, 0, 1] rfl rfl) h dX6_row_37
      · have h := h.2 c10
        refine v_ldc X kc_X6_62 dX6_row_25 ?_
        exact v_wiret X hF (ux, ur) hH h dX6_row_27
def w_X6_set (ux : BX6) (ur : BX3) (a0 : Int32) (a1 : Int32) (a2 : Int32) (post : Int32 → BX6 → BX3 → Prop) : Prop := w_X6_isWithin a0 (0 : Int32) (7 : Int32) (fun r1 => (r1 = 0 → post (-1000001 : Int32) ux ur) ∧ (¬ r1 = 0 → vp_in a0 8 ∧ (w_X3_isMissing ur (fun r2 => (r2 = 0 → w_X3_holds ur a1 (1 : Int32) (fun r3 => (r3 = 0 → w_X6_found ux (2 : Int32) (fun r8 u9 => post r8 u9 ur)) ∧ (¬ r3 = 0 → w_X3_put ur a1 a2 (fun r4 u5 => w_X6_unfound ux r4 (fun r6 u7 => post r6 u7 u5))))) ∧ (¬ r2 = 0 → w_X6_found ux (1 : Int32) (fun r11 u12 => post r11 u12 ur))))))
set_option maxHeartbeats 4000000 in
set_option maxRecDepth 100000 in
theorem c_X6_set (l : Launch) (D : va_G) (K : Nat → ClassId) (t : Nat → Nat) (x no tr tp ac se ak : Nat → Nat) (ro im : Nat → Nat → Nat) (ux : BX6) (ur : BX3) (a0 : Int32) (a1 : Int32) (a2 : Int32) (k1 : Nat) (hk1 : vp_in a0 8 → a0.toNatClampNeg = k1) (post : Int32 → BX6 → BX3 → Prop) (h : w_X6_set ux ur a0 a1 a2 post) : WrI l yX6_set cX6_set 5 (some .int) ({ frames := 1, cells := 0, slots := 0, locals := 22 } : Room) D (TY K) t (CX6 K x no tr tp ac se ak ro im ux ++ CX3 K (ro k1) ur) [.ref (x 0), .int a0, .int a1, .int a2] (fun z : BX6 × BX3 => CX6 K x no tr tp ac se ak ro im z.1 ++ CX3 K (ro k1) z.2) (fun (r : Int32) (z : BX6 × BX3) => post r z.1 z.2) := by
  refine WrI.mk rfl (Nat.le_of_ble_eq_true rfl) ?_
  intro F ls A _ hF X hH hA hl hT
  obtain ⟨H, hH0⟩ : ∃ z : Heap, z = (fxS F).heap := ⟨_, rfl⟩
  obtain ⟨locs, hL0⟩ : ∃ z : List Loc, z = [] := ⟨_, rfl⟩
  have hH : HH F D A (CX6 K x no tr tp ac se ak ro im ux ++ CX3 K (ro k1) ur) H locs := by rw [hH0, hL0]; exact hH
  suffices goal : V F (WQI F D (TY K) A (fun z : BX6 × BX3 => CX6 K x no tr tp ac se ak ro im z.1 ++ CX3 K (ro k1) z.2) (fun (r : Int32) (z : BX6 × BX3) => post r z.1 z.2)) H locs 0 ls [] by rw [hH0, hL0] at goal; exact goal
  clear hH0 hL0
  have X : Cx F cX6_set 5 RX6 D (TY K) := X
  have hl : lv_has ls 5 [(0, .ref (x 0)), (1, .int a0), (2, .int a1), (3, .int a2)] := hl
  unfold w_X6_set at h
  refine v_iload_n X dX6_set_0 rfl (lv_at hl 1 rfl) ?_
  refine v_iconst (v := (0 : Int32)) X dX6_set_1 (by decide) ?_
  refine v_bipush (v := (7 : Int32)) X dX6_set_2 (by decide) ?_
  refine rdS (As := [.int a0, .int (0 : Int32), .int (7 : Int32)]) (rest := []) X ms_X6_58 (c_X6_isWithin F.2.1 D K t a0 (0 : Int32) (7 : Int32) _ h) hF ⟨rfl, rfl, Nat.le_of_ble_eq_true rfl, Nat.le_of_ble_eq_true rfl⟩ (stW hT hH) hH.1 [] rfl hl.1 rfl rfl (Nat.le_of_ble_eq_true rfl) dX6_set_4 (fun r1 h => ?_)
  refine v_if_ne (tgt := 13) X dX6_set_7 (by decide) (fun c14 => ?_) (fun c14 => ?_)
  · have h := h.2 c14
    refine v_aload_n X dX6_set_13 rfl (lv_at hl 0 rfl) ?_
    refine v_get (v := .ref (x 1)) X hH.1 0 rfl fk_X6_11 rfl dX6_set_14 ?_
    refine v_iload_n X dX6_set_17 rfl (lv_at hl 1 rfl) ?_
    have hin := h.1
    have h := h.2
    refine v_aald X hH.1 1 2 rfl rfl hin (congrArg (fun j => some (ro j 0)) (hk1 hin)) dX6_set_18 ?_
    refine v_astore (lv' := [(4, .ref ((ro k1) 0)), (0, .ref (x 0)), (1, .int a0), (2, .int a1), (3, .int a2)]) X dX6_set_19 hl (by decide) rfl (fun ls hl => ?_)
    refine v_aload X dX6_set_21 (lv_at hl 0 rfl) ?_
    refine rdV (As := []) (rest := []) X mv_X6_74 (c_X3_isMissing F.2.1 D K t (ro k1) ur _ h) hF ⟨rfl, rfl, Nat.le_of_ble_eq_true rfl, Nat.le_of_ble_eq_true rfl⟩ (stW hT hH) hH.1 [3, 4] rfl 3 rfl rfl hl.1 rfl rfl (Nat.le_of_ble_eq_true rfl) dX6_set_23 (fun r2 h => ?_)
    refine v_if_eq (tgt := 35) X dX6_set_26 (by decide) (fun c13 => ?_) (fun c13 => ?_)
    · have h := h.1 c13
      refine v_aload X dX6_set_35 (lv_at hl 0 rfl) ?_
      refine v_iload_n X dX6_set_37 rfl (lv_at hl 3 rfl) ?_
      refine v_iconst (v := (1 : Int32)) X dX6_set_38 (by decide) ?_
      refine rdV (As := [.int a1, .int (1 : Int32)]) (rest := []) X mv_X6_78 (c_X3_holds F.2.1 D K t (ro k1) ur a1 (1 : Int32) _ h) hF ⟨rfl, rfl, Nat.le_of_ble_eq_true rfl, Nat.le_of_ble_eq_true rfl⟩ (stW hT hH) hH.1 [3, 4] rfl 3 rfl rfl hl.1 rfl rfl (Nat.le_of_ble_eq_true rfl) dX6_set_39 (fun r3 h => ?_)
      refine v_if_ne (tgt := 51) X dX6_set_42 (by decide) (fun c10 => ?_) (fun c10 => ?_)
      · have h := h.2 c10
        refine v_aload_n X dX6_set_51 rfl (lv_at hl 1 rfl) ?_
        refine v_aload X dX6_set_52 (lv_at hl 0 rfl) ?_
        refine v_iload_n X dX6_set_54 rfl (lv_at hl 3 rfl) ?_
        refine v_iload_n X dX6_set_55 rfl (lv_at hl 4 rfl) ?_
        refine wrVI (As := [.int a1, .int a2]) (rest := [.ref (x 0)]) (wr := (CX6 K x no tr tp ac se ak ro im ux)) X mv_X6_82 (c_X3_put F.2.1 D K t (ro k1) ur a1 a2 _ h) hF ⟨rfl, rfl, Nat.le_of_ble_eq_true rfl, Nat.le_of_ble_eq_true rfl⟩ hT hA hH [3, 4] [0, 1, 2] ⟨rfl, rfl, rfl, rfl, by decide⟩ 3 rfl rfl hl.1 rfl rfl (Nat.le_of_ble_eq_true rfl) dX6_set_56 (fun r4 u5 H locs h hH => ?_)
        have hH : HH F D A (CX6 K x no tr tp ac se ak ro im ux ++ CX3 K (ro k1) u5) H locs := hH
        refine wrVI (As := [.int r4]) (rest := []) (wr := (CX3 K (ro k1) u5)) X mv_X6_71 (c_X6_unfound F.2.1 D K t x no tr tp ac se ak ro im ux r4 _ h) hF ⟨rfl, rfl, Nat.le_of_ble_eq_true rfl, Nat.le_of_ble_eq_true rfl⟩ hT hA hH [0, 1, 2] [3, 4] ⟨rfl, rfl, rfl, rfl, by decide⟩ 0 rfl rfl hl.1 rfl rfl (Nat.le_of_ble_eq_true rfl) dX6_set_59 (fun r6 u7 H locs h hH => ?_)
        have hH : HH F D A (CX3 K (ro k1) u5 ++ CX6 K x no tr tp ac se ak ro im u7) H locs := hH
        exact v_wiret X hF (u7, u5) (hH.perm [2, 3, 4, 0, 1] rfl rfl) h dX6_set_62
      · have h := h.1 c10
        refine v_aload_n X dX6_set_45 rfl (lv_at hl 1 rfl) ?_
        refine v_iconst (v := (2 : Int32)) X dX6_set_46 (by decide) ?_
        refine wrVI (As := [.int (2 : Int32)]) (rest := []) (wr := (CX3 K (ro k1) ur)) X mv_X6_63 (c_X6_found F.2.1 D K t x no tr tp ac se ak ro im ux (2 : Int32) _ h) hF ⟨rfl, rfl, Nat.le_of_ble_eq_true rfl, Nat.le_of_ble_eq_true rfl⟩ hT hA hH [0, 1, 2] [3, 4] ⟨rfl, rfl, rfl, rfl, by decide⟩ 0 rfl rfl hl.1 rfl rfl (Nat.le_of_ble_eq_true rfl) dX6_set_47 (fun r8 u9 H locs h hH => ?_)
        have hH : HH F D A (CX3 K (ro k1) ur ++ CX6 K x no tr tp ac se ak ro im u9) H locs := hH
        exact v_wiret X hF (u9, ur) (hH.perm [2, 3, 4, 0, 1] rfl rfl) h dX6_set_50
    · have h := h.2 c13
      refine v_aload_n X dX6_set_29 rfl (lv_at hl 1 rfl) ?_
      refine v_iconst (v := (1 : Int32)) X dX6_set_30 (by decide) ?_
      refine wrVI (As := [.int (1 : Int32)]) (rest := []) (wr := (CX3 K (ro k1) ur)) X mv_X6_63 (c_X6_found F.2.1 D K t x no tr tp ac se ak ro im ux (1 : Int32) _ h) hF ⟨rfl, rfl, Nat.le_of_ble_eq_true rfl, Nat.le_of_ble_eq_true rfl⟩ hT hA hH [0, 1, 2] [3, 4] ⟨rfl, rfl, rfl, rfl, by decide⟩ 0 rfl rfl hl.1 rfl rfl (Nat.le_of_ble_eq_true rfl) dX6_set_31 (fun r11 u12 H locs h hH => ?_)
      have hH : HH F D A (CX3 K (ro k1) ur ++ CX6 K x no tr tp ac se ak ro im u12) H locs := hH
      exact v_wiret X hF (u12, ur) (hH.perm [2, 3, 4, 0, 1] rfl rfl) h dX6_set_34
  · have h := h.1 c14
    refine v_ldc X kc_X6_62 dX6_set_10 ?_
    exact v_wiret X hF (ux, ur) hH h dX6_set_12
def w_X6_copy (ux : BX6) (ur : BX3) (uq : BX3) (a0 : Int32) (a1 : Int32) (a2 : Int32) (a3 : Int32) (a4 : Int32) (post : Int32 → BX6 → BX3 → Prop) : Prop := w_X6_isWithin a0 (0 : Int32) (7 : Int32) (fun r1 => (r1 = 0 → post (-1000001 : Int32) ux uq) ∧ (¬ r1 = 0 → w_X6_isWithin a2 (0 : Int32) (7 : Int32) (fun r2 => (r2 = 0 → post (-1000001 : Int32) ux uq) ∧ (¬ r2 = 0 → vp_in a0 8 ∧ (vp_in a2 8 ∧ (w_X3_isMissing ur (fun r3 => (r3 = 0 → w_X3_isMissing uq (fun r6 => (r6 = 0 → (ur.2.1 = uq.2.1 → w_X3_holds ur a1 a4 (fun r7 => (r7 = 0 → w_X6_found ux (2 : Int32) (fun r8 u9 => post r8 u9 uq)) ∧ (¬ r7 = 0 → w_X3_holds uq a3 a4 (fun r10 => (r10 = 0 → w_X6_found ux (2 : Int32) (fun r13 u14 => post r13 u14 uq)) ∧ (¬ r10 = 0 → ((¬ a1 < 0 ∧ ¬ a3 < 0 ∧ ¬ a4 < 0) ∧ a1.toNatClampNeg + a4.toNatClampNeg ≤ 40 ∧ a3.toNatClampNeg + a4.toNatClampNeg ≤ 40) ∧ (w_X6_unfound ux a4 (fun r11 u12 => post r11 u12 ((va_cpy ur.1 uq.1 a1.toNatClampNeg a3.toNatClampNeg a4.toNatClampNeg), uq.2.1, uq.2.2)))))))) ∧ (¬ ur.2.1 = uq.2.1 → w_X6_found ux (5 : Int32) (fun r17 u18 => post r17 u18 uq))) ∧ (¬ r6 = 0 → w_X6_found ux (1 : Int32) (fun r20 u21 => post r20 u21 uq)))) ∧ (¬ r3 = 0 → w_X6_found ux (1 : Int32) (fun r4 u5 => post r4 u5 uq)))))))))
set_option maxHeartbeats 4000000 in
set_option maxRecDepth 100000 in
theorem c_X6_copy (l : Launch) (D : va_G) (K : Nat → ClassId) (t : Nat → Nat) (x no tr tp ac se ak : Nat → Nat) (ro im : Nat → Nat → Nat) (ux : BX6) (ur : BX3) (uq : BX3) (a0 : Int32) (a1 : Int32) (a2 : Int32) (a3 : Int32) (a4 : Int32) (k1 : Nat) (hk1 : vp_in a0 8 → a0.toNatClampNeg = k1) (k2 : Nat) (hk2 : vp_in a2 8 → a2.toNatClampNeg = k2) (post : Int32 → BX6 → BX3 → Prop) (h : w_X6_copy ux ur uq a0 a1 a2 a3 a4 post) : WrI l yX6_copy cX6_copy 8 (some .int) ({ frames := 1, cells := 0, slots := 0, locals := 60 } : Room) D (TY K) t (CX6 K x no tr tp ac se ak ro im ux ++ CX3 K (ro k1) ur ++ CX3 K (ro k2) uq) [.ref (x 0), .int a0, .int a1, .int a2, .int a3, .int a4] (fun z : BX6 × BX3 => CX6 K x no tr tp ac se ak ro im z.1 ++ CX3 K (ro k1) ur ++ CX3 K (ro k2) z.2) (fun (r : Int32) (z : BX6 × BX3) => post r z.1 z.2) := by
  refine WrI.mk rfl (Nat.le_of_ble_eq_true rfl) ?_
  intro F ls A _ hF X hH hA hl hT
  obtain ⟨H, hH0⟩ : ∃ z : Heap, z = (fxS F).heap := ⟨_, rfl⟩
  obtain ⟨locs, hL0⟩ : ∃ z : List Loc, z = [] := ⟨_, rfl⟩
  have hH : HH F D A (CX6 K x no tr tp ac se ak ro im ux ++ CX3 K (ro k1) ur ++ CX3 K (ro k2) uq) H locs := by rw [hH0, hL0]; exact hH
  suffices goal : V F (WQI F D (TY K) A (fun z : BX6 × BX3 => CX6 K x no tr tp ac se ak ro im z.1 ++ CX3 K (ro k1) ur ++ CX3 K (ro k2) z.2) (fun (r : Int32) (z : BX6 × BX3) => post r z.1 z.2)) H locs 0 ls [] by rw [hH0, hL0] at goal; exact goal
  clear hH0 hL0
  have X : Cx F cX6_copy 8 RX6 D (TY K) := X
  have hl : lv_has ls 8 [(0, .ref (x 0)), (1, .int a0), (2, .int a1), (3, .int a2), (4, .int a3), (5, .int a4)] := hl
  unfold w_X6_copy at h
  refine v_iload_n X dX6_copy_0 rfl (lv_at hl 1 rfl) ?_
  refine v_iconst (v := (0 : Int32)) X dX6_copy_1 (by decide) ?_
  refine v_bipush (v := (7 : Int32)) X dX6_copy_2 (by decide) ?_
  refine rdS (As := [.int a0, .int (0 : Int32), .int (7 : Int32)]) (rest := []) X ms_X6_58 (c_X6_isWithin F.2.1 D K t a0 (0 : Int32) (7 : Int32) _ h) hF ⟨rfl, rfl, Nat.le_of_ble_eq_true rfl, Nat.le_of_ble_eq_true rfl⟩ (stW hT hH) hH.1 [] rfl hl.1 rfl rfl (Nat.le_of_ble_eq_true rfl) dX6_copy_4 (fun r1 h => ?_)
  refine v_if_eq (tgt := 20) X dX6_copy_7 (by decide) (fun c25 => ?_) (fun c25 => ?_)
  · have h := h.1 c25
    refine v_ldc X kc_X6_62 dX6_copy_20 ?_
    exact v_wiret X hF (ux, uq) hH h dX6_copy_22
  · have h := h.2 c25
    refine v_iload_n X dX6_copy_10 rfl (lv_at hl 3 rfl) ?_
    refine v_iconst (v := (0 : Int32)) X dX6_copy_11 (by decide) ?_
    refine v_bipush (v := (7 : Int32)) X dX6_copy_12 (by decide) ?_
    refine rdS (As := [.int a2, .int (0 : Int32), .int (7 : Int32)]) (rest := []) X ms_X6_58 (c_X6_isWithin F.2.1 D K t a2 (0 : Int32) (7 : Int32) _ h) hF ⟨rfl, rfl, Nat.le_of_ble_eq_true rfl, Nat.le_of_ble_eq_true rfl⟩ (stW hT hH) hH.1 [] rfl hl.1 rfl rfl (Nat.le_of_ble_eq_true rfl) dX6_copy_14 (fun r2 h => ?_)
    refine v_if_ne (tgt := 23) X dX6_copy_17 (by decide) (fun c24 => ?_) (fun c24 => ?_)
    · have h := h.2 c24
      refine v_aload_n X dX6_copy_23 rfl (lv_at hl 0 rfl) ?_
      refine v_get (v := .ref (x 1)) X hH.1 0 rfl fk_X6_11 rfl dX6_copy_24 ?_
      refine v_iload_n X dX6_copy_27 rfl (lv_at hl 1 rfl) ?_
      have hin := h.1
      have h := h.2
      refine v_aald X hH.1 1 2 rfl rfl hin (congrArg (fun j => some (ro j 0)) (hk1 hin)) dX6_copy_28 ?_
      refine v_astore (lv' := [(6, .ref ((ro k1) 0)), (0, .ref (x 0)), (1, .int a0), (2, .int a1), (3, .int a2), (4, .int a3), (5, .int a4)]) X dX6_copy_29 hl (by decide) rfl (fun ls hl => ?_)
      refine v_aload_n X dX6_copy_31 rfl (lv_at hl 1 rfl) ?_
      refine v_get (v := .ref (x 1)) X hH.1 0 rfl fk_X6_11 rfl dX6_copy_32 ?_
      refine v_iload_n X dX6_copy_35 rfl (lv_at hl 4 rfl) ?_
      have hin := h.1
      have h := h.2
      refine v_aald X hH.1 1 2 rfl rfl hin (congrArg (fun j => some (ro j 0)) (hk2 hin)) dX6_copy_36 ?_
      refine v_astore (lv' := [(7, .ref ((ro k2) 0)), (6, .ref ((ro k1) 0)), (0, .ref (x 0)), (1, .int a0), (2, .int a1), (3, .int a2), (4, .int a3), (5, .int a4)]) X dX6_copy_37 hl (by decide) rfl (fun ls hl => ?_)
      refine v_aload X dX6_copy_39 (lv_at hl 1 rfl) ?_
      refine rdV (As := []) (rest := []) X mv_X6_74 (c_X3_isMissing F.2.1 D K t (ro k1) ur _ h) hF ⟨rfl, rfl, Nat.le_of_ble_eq_true rfl, Nat.le_of_ble_eq_true rfl⟩ (stW hT hH) hH.1 [3, 4] rfl 3 rfl rfl hl.1 rfl rfl (Nat.le_of_ble_eq_true rfl) dX6_copy_41 (fun r3 h => ?_)
      refine v_if_ne (tgt := 55) X dX6_copy_44 (by decide) (fun c23 => ?_) (fun c23 => ?_)
      · have h := h.2 c23
        refine v_aload_n X dX6_copy_55 rfl (lv_at hl 2 rfl) ?_
        refine v_iconst (v := (1 : Int32)) X dX6_copy_56 (by decide) ?_
        refine wrVI (As := [.int (1 : Int32)]) (rest := []) (wr := (CX3 K (ro k1) ur ++ CX3 K (ro k2) uq)) X mv_X6_63 (c_X6_found F.2.1 D K t x no tr tp ac se ak ro im ux (1 : Int32) _ h) hF ⟨rfl, rfl, Nat.le_of_ble_eq_true rfl, Nat.le_of_ble_eq_true rfl⟩ hT hA hH [0, 1, 2] [3, 4, 5, 6] ⟨rfl, rfl, rfl, rfl, by decide⟩ 0 rfl rfl hl.1 rfl rfl (Nat.le_of_ble_eq_true rfl) dX6_copy_57 (fun r4 u5 H locs h hH => ?_)
        have hH : HH F D A (CX3 K (ro k1) ur ++ CX3 K (ro k2) uq ++ CX6 K x no tr tp ac se ak ro im u5) H locs := hH
        exact v_wiret X hF (u5, uq) (hH.perm [4, 5, 6, 0, 1, 2, 3] rfl rfl) h dX6_copy_60
      · have h := h.1 c23
        refine v_aload X dX6_copy_47 (lv_at hl 0 rfl) ?_
        refine rdV (As := []) (rest := []) X mv_X6_74 (c_X3_isMissing F.2.1 D K t (ro k2) uq _ h) hF ⟨rfl, rfl, Nat.le_of_ble_eq_true rfl, Nat.le_of_ble_eq_true rfl⟩ (stW hT hH) hH.1 [5, 6] rfl 5 rfl rfl hl.1 rfl rfl (Nat.le_of_ble_eq_true rfl) dX6_copy_49 (fun r6 h => ?_)
        refine v_if_eq (tgt := 61) X dX6_copy_52 (by decide) (fun c22 => ?_) (fun c22 => ?_)
        · have h := h.1 c22
          refine v_aload X dX6_copy_61 (lv_at hl 1 rfl) ?_
          refine v_get (v := .int ur.2.1) X hH.1 3 rfl fk_X6_86 rfl dX6_copy_63 ?_
          refine v_aload X dX6_copy_66 (lv_at hl 0 rfl) ?_
          refine v_get (v := .int uq.2.1) X hH.1 5 rfl fk_X6_86 rfl dX6_copy_68 ?_
          refine v_icmp_eq (tgt := 80) X dX6_copy_71 (by decide) (fun c19 => ?_) (fun c19 => ?_)
          · have h := h.1 c19
            refine v_aload X dX6_copy_80 (lv_at hl 1 rfl) ?_
            refine v_iload_n X dX6_copy_82 rfl (lv_at hl 4 rfl) ?_
            refine v_iload X dX6_copy_83 (lv_at hl 7 rfl) ?_
            refine rdV (As := [.int a1, .int a4]) (rest := []) X mv_X6_78 (c_X3_holds F.2.1 D K t (ro k1) ur a1 a4 _ h) hF ⟨rfl, rfl, Nat.le_of_ble_eq_true rfl, Nat.le_of_ble_eq_true rfl⟩ (stW hT hH) hH.1 [3, 4] rfl 3 rfl rfl hl.1 rfl rfl (Nat.le_of_ble_eq_true rfl) dX6_copy_85 (fun r7 h => ?_)
            refine v_if_eq (tgt := 103) X dX6_copy_88 (by decide) (fun c16 => ?_) (fun c16 => ?_)
            · have h := h.1 c16
              refine v_aload_n X dX6_copy_103 rfl (lv_at hl 2 rfl) ?_
              refine v_iconst (v := (2 : Int32)) X dX6_copy_104 (by decide) ?_
              refine wrVI (As := [.int (2 : Int32)]) (rest := []) (wr := (CX3 K (ro k1) ur ++ CX3 K (ro k2) uq)) X mv_X6_63 (c_X6_found F.2.1 D K t x no tr tp ac se ak ro im ux (2 : Int32) _ h) hF ⟨rfl, rfl, Nat.le_of_ble_eq_true rfl, Nat.le_of_ble_eq_true rfl⟩ hT hA hH [0, 1, 2] [3, 4, 5, 6] ⟨rfl, rfl, rfl, rfl, by decide⟩ 0 rfl rfl hl.1 rfl rfl (Nat.le_of_ble_eq_true rfl) dX6_copy_105 (fun r8 u9 H locs h hH => ?_)
              have hH : HH F D A (CX3 K (ro k1) ur ++ CX3 K (ro k2) uq ++ CX6 K x no tr tp ac se ak ro im u9) H locs := hH
              exact v_wiret X hF (u9, uq) (hH.perm [4, 5, 6, 0, 1, 2, 3] rfl rfl) h dX6_copy_108
            · have h := h.2 c16
              refine v_aload X dX6_copy_91 (lv_at hl 0 rfl) ?_
              refine v_iload X dX6_copy_93 (lv_at hl 6 rfl) ?_
              refine v_iload X dX6_copy_95 (lv_at hl 7 rfl) ?_
              refine rdV (As := [.int a3, .int a4]) (rest := []) X mv_X6_78 (c_X3_holds F.2.1 D K t (ro k2) uq a3 a4 _ h) hF ⟨rfl, rfl, Nat.le_of_ble_eq_true rfl, Nat.le_of_ble_eq_true rfl⟩ (stW hT hH) hH.1 [5, 6] rfl 5 rfl rfl hl.1 rfl rfl (Nat.le_of_ble_eq_true rfl) dX6_copy_97 (fun r10 h => ?_)
              refine v_if_ne (tgt := 109) X dX6_copy_100 (by decide) (fun c15 => ?_) (fun c15 => ?_)
              · have h := h.2 c15
                refine v_aload X dX6_copy_109 (lv_at hl 1 rfl) ?_
                refine v_get (v := .ref ((ro k1) 1)) X hH.1 3 rfl fk_X6_90 rfl dX6_copy_111 ?_
                refine v_iload_n X dX6_copy_114 rfl (lv_at hl 4 rfl) ?_
                refine v_aload X dX6_copy_115 (lv_at hl 0 rfl) ?_
                refine v_get (v := .ref ((ro k2) 1)) X hH.1 5 rfl fk_X6_90 rfl dX6_copy_117 ?_
                refine v_iload X dX6_copy_120 (lv_at hl 6 rfl) ?_
                refine v_iload X dX6_copy_122 (lv_at hl 7 rfl) ?_
                have hin := h.1
                have h := h.2
                refine v_copy (f := ur.1) (g := uq.1) X hl.1 hF ka_X6_94 hH 4 6 0 rfl rfl rfl hin ⟨Nat.le_of_ble_eq_true rfl, Nat.le_of_ble_eq_true rfl⟩ dX6_copy_124 (fun H locs hH => ?_)
                have hH : HH F D A (CX6 K x no tr tp ac se ak ro im ux ++ CX3 K (ro k1) ur ++ CX3 K (ro k2) ((va_cpy ur.1 uq.1 a1.toNatClampNeg a3.toNatClampNeg a4.toNatClampNeg), uq.2.1, uq.2.2)) H locs := hH
                refine v_aload_n X dX6_copy_127 rfl (lv_at hl 2 rfl) ?_
                refine v_iload X dX6_copy_128 (lv_at hl 7 rfl) ?_
                refine wrVI (As := [.int a4]) (rest := []) (wr := (CX3 K (ro k1) ur ++ CX3 K (ro k2) ((va_cpy ur.1 uq.1 a1.toNatClampNeg a3.toNatClampNeg a4.toNatClampNeg), uq.2.1, uq.2.2))) X mv_X6_71 (c_X6_unfound F.2.1 D K t x no tr tp ac se ak ro im ux a4 _ h) hF ⟨rfl, rfl, Nat.le_of_ble_eq_true rfl, Nat.le_of_ble_eq_true rfl⟩ hT hA hH [0, 1, 2] [3, 4, 5, 6] ⟨rfl, rfl, rfl, rfl, by decide⟩ 0 rfl rfl hl.1 rfl rfl (Nat.le_of_ble_eq_true rfl) dX6_copy_130 (fun r11 u12 H locs h hH => ?_)
                have hH : HH F D A (CX3 K (ro k1) ur ++ CX3 K (ro k2) ((va_cpy ur.1 uq.1 a1.toNatClampNeg a3.toNatClampNeg a4.toNatClampNeg), uq.2.1, uq.2.2) ++ CX6 K x no tr tp ac se ak ro im u12) H locs := hH
                exact v_wiret X hF (u12, ((va_cpy ur.1 uq.1 a1.toNatClampNeg a3.toNatClampNeg a4.toNatClampNeg), uq.2.1, uq.2.2)) (hH.perm [4, 5, 6, 0, 1, 2, 3] rfl rfl) h dX6_copy_133
              · have h := h.1 c15
                refine v_aload_n X dX6_copy_103 rfl (lv_at hl 2 rfl) ?_
                refine v_iconst (v := (2 : Int32)) X dX6_copy_104 (by decide) ?_
                refine wrVI (As := [.int (2 : Int32)]) (rest := []) (wr := (CX3 K (ro k1) ur ++ CX3 K (ro k2) uq)) X mv_X6_63 (c_X6_found F.2.1 D K t x no tr tp ac se ak ro im ux (2 : Int32) _ h) hF ⟨rfl, rfl, Nat.le_of_ble_eq_true rfl, Nat.le_of_ble_eq_true rfl⟩ hT hA hH [0, 1, 2] [3, 4, 5, 6] ⟨rfl, rfl, rfl, rfl, by decide⟩ 0 rfl rfl hl.1 rfl rfl (Nat.le_of_ble_eq_true rfl) dX6_copy_105 (fun r13 u14 H locs h hH => ?_)
                have hH : HH F D A (CX3 K (ro k1) ur ++ CX3 K (ro k2) uq ++ CX6 K x no tr tp ac se ak ro im u14) H locs := hH
                exact v_wiret X hF (u14, uq) (hH.perm [4, 5, 6, 0, 1, 2, 3] rfl rfl) h dX6_copy_108
          · have h := h.2 c19
            refine v_aload_n X dX6_copy_74 rfl (lv_at hl 2 rfl) ?_
            refine v_iconst (v := (5 : Int32)) X dX6_copy_75 (by decide) ?_
            refine wrVI (As := [.int (5 : Int32)]) (rest := []) (wr := (CX3 K (ro k1) ur ++ CX3 K (ro k2) uq)) X mv_X6_63 (c_X6_found F.2.1 D K t x no tr tp ac se ak ro im ux (5 : Int32) _ h) hF ⟨rfl, rfl, Nat.le_of_ble_eq_true rfl, Nat.le_of_ble_eq_true rfl⟩ hT hA hH [0, 1, 2] [3, 4, 5, 6] ⟨rfl, rfl, rfl, rfl, by decide⟩ 0 rfl rfl hl.1 rfl rfl (Nat.le_of_ble_eq_true rfl) dX6_copy_76 (fun r17 u18 H locs h hH => ?_)
            have hH : HH F D A (CX3 K (ro k1) ur ++ CX3 K (ro k2) uq ++ CX6 K x no tr tp ac se ak ro im u18) H locs := hH
            exact v_wiret X hF (u18, uq) (hH.perm [4, 5, 6, 0, 1, 2, 3] rfl rfl) h dX6_copy_79
        · have h := h.2 c22
          refine v_aload_n X dX6_copy_55 rfl (lv_at hl 2 rfl) ?_
          refine v_iconst (v := (1 : Int32)) X dX6_copy_56 (by decide) ?_
          refine wrVI (As := [.int (1 : Int32)]) (rest := []) (wr := (CX3 K (ro k1) ur ++ CX3 K (ro k2) uq)) X mv_X6_63 (c_X6_found F.2.1 D K t x no tr tp ac se ak ro im ux (1 : Int32) _ h) hF ⟨rfl, rfl, Nat.le_of_ble_eq_true rfl, Nat.le_of_ble_eq_true rfl⟩ hT hA hH [0, 1, 2] [3, 4, 5, 6] ⟨rfl, rfl, rfl, rfl, by decide⟩ 0 rfl rfl hl.1 rfl rfl (Nat.le_of_ble_eq_true rfl) dX6_copy_57 (fun r20 u21 H locs h hH => ?_)
          have hH : HH F D A (CX3 K (ro k1) ur ++ CX3 K (ro k2) uq ++ CX6 K x no tr tp ac se ak ro im u21) H locs := hH
          exact v_wiret X hF (u21, uq) (hH.perm [4, 5, 6, 0, 1, 2, 3] rfl rfl) h dX6_copy_60
    · have h := h.1 c24
      refine v_ldc X kc_X6_62 dX6_copy_20 ?_
      exact v_wiret X hF (ux, uq) hH h dX6_copy_22
def w_X6_drop (ux : BX6) (ur : BX3) (a0 : Int32) (post : Int32 → BX6 → BX3 → Prop) : Prop := w_X6_isWithin a0 (0 : Int32) (7 : Int32) (fun r1 => (r1 = 0 → post (-1000001 : Int32) ux ur) ∧ (¬ r1 = 0 → vp_in a0 8 ∧ (w_X3_isMissing ur (fun r2 => (r2 = 0 → w_X3_lose ur (fun r3 u4 => w_X6_unfound ux r3 (fun r5 u6 => post r5 u6 u4))) ∧ (¬ r2 = 0 → w_X6_found ux (1 : Int32) (fun r7 u8 => post r7 u8 ur))))))
set_option maxHeartbeats 4000000 in
set_option maxRecDepth 100000 in
theorem c_X6_drop (l : Launch) (D : va_G) (K : Nat → ClassId) (t : Nat → Nat) (x no tr tp ac se ak : Nat → Nat) (ro im : Nat → Nat → Nat) (ux : BX6) (ur : BX3) (a0 : Int32) (k1 : Nat) (hk1 : vp_in a0 8 → a0.toNatClampNeg = k1) (post : Int32 → BX6 → BX3 → Prop) (h : w_X6_drop ux ur a0 post) : WrI l yX6_drop cX6_drop 3 (some .int) ({ frames := 1, cells := 0, slots := 0, locals := 22 } : Room) D (TY K) t (CX6 K x no tr tp ac se ak ro im ux ++ CX3 K (ro k1) ur) [.ref (x 0), .int a0] (fun z : BX6 × BX3 => CX6 K x no tr tp ac se ak ro im z.1 ++ CX3 K (ro k1) z.2) (fun (r : Int32) (z : BX6 × BX3) => post r z.1 z.2) := by
  refine WrI.mk rfl (Nat.le_of_ble_eq_true rfl) ?_
  intro F ls A _ hF X hH hA hl hT
  obtain ⟨H, hH0⟩ : ∃ z : Heap, z = (fxS F).heap := ⟨_, rfl⟩
  obtain ⟨locs, hL0⟩ : ∃ z : List Loc, z = [] := ⟨_, rfl⟩
  have hH : HH F D A (CX6 K x no tr tp ac se ak ro im ux ++ CX3 K (ro k1) ur) H locs := by rw [hH0, hL0]; exact hH
  suffices goal : V F (WQI F D (TY K) A (fun z : BX6 × BX3 => CX6 K x no tr tp ac se ak ro im z.1 ++ CX3 K (ro k1) z.2) (fun (r : Int32) (z : BX6 × BX3) => post r z.1 z.2)) H locs 0 ls [] by rw [hH0, hL0] at goal; exact goal
  clear hH0 hL0
  have X : Cx F cX6_drop 3 RX6 D (TY K) := X
  have hl : lv_has ls 3 [(0, .ref (x 0)), (1, .int a0)] := hl
  unfold w_X6_drop at h
  refine v_iload_n X dX6_drop_0 rfl (lv_at hl 1 rfl) ?_
  refine v_iconst (v := (0 : Int32)) X dX6_drop_1 (by decide) ?_
  refine v_bipush (v := (7 : Int32)) X dX6_drop_2 (by decide) ?_
  refine rdS (As := [.int a0, .int (0 : Int32), .int (7 : Int32)]) (rest := []) X ms_X6_58 (c_X6_isWithin F.2.1 D K t a0 (0 : Int32) (7 : Int32) _ h) hF ⟨rfl, rfl, Nat.le_of_ble_eq_true rfl, Nat.le_of_ble_eq_true rfl⟩ (stW hT hH) hH.1 [] rfl hl.1 rfl rfl (Nat.le_of_ble_eq_true rfl) dX6_drop_4 (fun r1 h => ?_)
  refine v_if_ne (tgt := 13) X dX6_drop_7 (by decide) (fun c10 => ?_) (fun c10 => ?_)
  · have h := h.2 c10
    refine v_aload_n X dX6_drop_13 rfl (lv_at hl 0 rfl) ?_
    refine v_get (v := .ref (x 1)) X hH.1 0 rfl fk_X6_11 rfl dX6_drop_14 ?_
    refine v_iload_n X dX6_drop_17 rfl (lv_at hl 1 rfl) ?_
    have hin := h.1
    have h := h.2
    refine v_aald X hH.1 1 2 rfl rfl hin (congrArg (fun j => some (ro j 0)) (hk1 hin)) dX6_drop_18 ?_
    refine v_astore_n (lv' := [(2, .ref ((ro k1) 0)), (0, .ref (x 0)), (1, .int a0)]) X dX6_drop_19 rfl hl (by decide) rfl (fun ls hl => ?_)
    refine v_aload_n X dX6_drop_20 rfl (lv_at hl 0 rfl) ?_
    refine rdV (As := []) (rest := []) X mv_X6_74 (c_X3_isMissing F.2.1 D K t (ro k1) ur _ h) hF ⟨rfl, rfl, Nat.le_of_ble_eq_true rfl, Nat.le_of_ble_eq_true rfl⟩ (stW hT hH) hH.1 [3, 4] rfl 3 rfl rfl hl.1 rfl rfl (Nat.le_of_ble_eq_true rfl) dX6_drop_21 (fun r2 h => ?_)
    refine v_if_eq (tgt := 33) X dX6_drop_24 (by decide) (fun c9 => ?_) (fun c9 => ?_)
    · have h := h.1 c9
      refine v_aload_n X dX6_drop_33 rfl (lv_at hl 1 rfl) ?_
      refine v_aload_n X dX6_drop_34 rfl (lv_at hl 0 rfl) ?_
      refine wrVI (As := []) (rest := [.ref (x 0)]) (wr := (CX6 K x no tr tp ac se ak ro im ux)) X mv_X6_100 (c_X3_lose F.2.1 D K t (ro k1) ur _ h) hF ⟨rfl, rfl, Nat.le_of_ble_eq_true rfl, Nat.le_of_ble_eq_true rfl⟩ hT hA hH [3, 4] [0, 1, 2] ⟨rfl, rfl, rfl, rfl, by decide⟩ 3 rfl rfl hl.1 rfl rfl (Nat.le_of_ble_eq_true rfl) dX6_drop_35 (fun r3 u4 H locs h hH => ?_)
      have hH : HH F D A (CX6 K x no tr tp ac se ak ro im ux ++ CX3 K (ro k1) u4) H locs := hH
      refine wrVI (As := [.int r3]) (rest := []) (wr := (CX3 K (ro k1) u4)) X mv_X6_71 (c_X6_unfound F.2.1 D K t x no tr tp ac se ak ro im ux r3 _ h) hF ⟨rfl, rfl, Nat.le_of_ble_eq_true rfl, Nat.le_of_ble_eq_true rfl⟩ hT hA hH [0, 1, 2] [3, 4] ⟨rfl, rfl, rfl, rfl, by decide⟩ 0 rfl rfl hl.1 rfl rfl (Nat.le_of_ble_eq_true rfl) dX6_drop_38 (fun r5 u6 H locs h hH => ?_)
      have hH : HH F D A (CX3 K (ro k1) u4 ++ CX6 K x no tr tp ac se ak ro im u6) H locs := hH
      exact v_wiret X hF (u6, u4) (hH.perm [2, 3, 4, 0, 1] rfl rfl) h dX6_drop_41
    · have h := h.2 c9
      refine v_aload_n X dX6_drop_27 rfl (lv_at hl 1 rfl) ?_
      refine v_iconst (v := (1 : Int32)) X dX6_drop_28 (by decide) ?_
      refine wrVI (As := [.int (1 : Int32)]) (rest := []) (wr := (CX3 K (ro k1) ur)) X mv_X6_63 (c_X6_found F.2.1 D K t x no tr tp ac se ak ro im ux (1 : Int32) _ h) hF ⟨rfl, rfl, Nat.le_of_ble_eq_true rfl, Nat.le_of_ble_eq_true rfl⟩ hT hA hH [0, 1, 2] [3, 4] ⟨rfl, rfl, rfl, rfl, by decide⟩ 0 rfl rfl hl.1 rfl rfl (Nat.le_of_ble_eq_true rfl) dX6_drop_29 (fun r7 u8 H locs h hH => ?_)
      have hH : HH F D A (CX3 K (ro k1) ur ++ CX6 K x no tr tp ac se ak ro im u8) H locs := hH
      exact v_wiret X hF (u8, ur) (hH.perm [2, 3, 4, 0, 1] rfl rfl) h dX6_drop_32
  · have h := h.1 c10
    refine v_ldc X kc_X6_62 dX6_drop_10 ?_
    exact v_wiret X hF (ux, ur) hH h dX6_drop_12
def w_X6_feed (ux : BX6) (up : BX5) (a0 : Int32) (post : Int32 → BX5 → Prop) : Prop := w_X6_isWithin a0 (0 : Int32) (255 : Int32) (fun r1 => (r1 = 0 → post (-1000001 : Int32) up) ∧ (¬ r1 = 0 → w_X5_append up a0 (fun r2 u3 => (r2 = 0 → post (-1000003 : Int32) u3) ∧ (¬ r2 = 0 → post u3.2.1 u3))))
set_option maxHeartbeats 4000000 in
set_option maxRecDepth 100000 in
theorem c_X6_feed (l : Launch) (D : va_G) (K : Nat → ClassId) (t : Nat → Nat) (x no tr tp ac se ak : Nat → Nat) (ro im : Nat → Nat → Nat) (ux : BX6) (up : BX5) (a0 : Int32) (post : Int32 → BX5 → Prop) (h : w_X6_feed ux up a0 post) : WrI l yX6_feed cX6_feed 2 (some .int) ({ frames := 1, cells := 0, slots := 0, locals := 22 } : Room) D (TY K) t (CX6 K x no tr tp ac se ak ro im ux ++ CX5 K tp up) [.ref (x 0), .int a0] (fun z : BX5 => CX6 K x no tr tp ac se ak ro im ux ++ CX5 K tp z) (fun (r : Int32) (z : BX5) => post r z) := by
  refine WrI.mk rfl (Nat.le_of_ble_eq_true rfl) ?_
  intro F ls A _ hF X hH hA hl hT
  obtain ⟨H, hH0⟩ : ∃ z : Heap, z = (fxS F).heap := ⟨_, rfl⟩
  obtain ⟨locs, hL0⟩ : ∃ z : List Loc, z = [] := ⟨_, rfl⟩
  have hH : HH F D A (CX6 K x no tr tp ac se ak ro im ux ++ CX5 K tp up) H locs := by rw [hH0, hL0]; exact hH
  suffices goal : V F (WQI F D (TY K) A (fun z : BX5 => CX6 K x no tr tp ac se ak ro im ux ++ CX5 K tp z) (fun (r : Int32) (z : BX5) => post r z)) H locs 0 ls [] by rw [hH0, hL0] at goal; exact goal
  clear hH0 hL0
  have X : Cx F cX6_feed 2 RX6 D (TY K) := X
  have hl : lv_has ls 2 [(0, .ref (x 0)), (1, .int a0)] := hl
  unfold w_X6_feed at h
  refine v_iload_n X dX6_feed_0 rfl (lv_at hl 1 rfl) ?_
  refine v_iconst (v := (0 : Int32)) X dX6_feed_1 (by decide) ?_
  refine v_sipush (v := (255 : Int32)) X dX6_feed_2 (by decide) ?_
  refine rdS (As := [.int a0, .int (0 : Int32), .int (255 : Int32)]) (rest := []) X ms_X6_58 (c_X6_isWithin F.2.1 D K t a0 (0 : Int32) (255 : Int32) _ h) hF ⟨rfl, rfl, Nat.le_of_ble_eq_true rfl, Nat.le_of_ble_eq_true rfl⟩ (stW hT hH) hH.1 [] rfl hl.1 rfl rfl (Nat.le_of_ble_eq_true rfl) dX6_feed_5 (fun r1 h => ?_)
  refine v_if_ne (tgt := 14) X dX6_feed_8 (by decide) (fun c5 => ?_) (fun c5 => ?_)
  · have h := h.2 c5
    refine v_aload_n X dX6_feed_14 rfl (lv_at hl 0 rfl) ?_
    refine v_get (v := .ref (tp 0)) X hH.1 0 rfl fk_X6_32 rfl dX6_feed_15 ?_
    refine v_iload_n X dX6_feed_18 rfl (lv_at hl 1 rfl) ?_
    refine wrVI (As := [.int a0]) (rest := []) (wr := (CX6 K x no tr tp ac se ak ro im ux)) X mv_X6_104 (c_X5_append F.2.1 D K t tp up a0 _ h) hF ⟨rfl, rfl, Nat.le_of_ble_eq_true rfl, Nat.le_of_ble_eq_true rfl⟩ hT hA hH [3, 4] [0, 1, 2] ⟨rfl, rfl, rfl, rfl, by decide⟩ 3 rfl rfl hl.1 rfl rfl (Nat.le_of_ble_eq_true rfl) dX6_feed_19 (fun r2 u3 H locs h hH => ?_)
    have hH : HH F D A (CX6 K x no tr tp ac se ak ro im ux ++ CX5 K tp u3) H locs := hH
    refine v_if_eq (tgt := 35) X dX6_feed_22 (by decide) (fun c4 => ?_) (fun c4 => ?_)
    · have h := h.1 c4
      refine v_ldc X kc_X6_111 dX6_feed_35 ?_
      exact v_wiret X hF u3 hH h dX6_feed_37
    · have h := h.2 c4
      refine v_aload_n X dX6_feed_25 rfl (lv_at hl 0 rfl) ?_
      refine v_get (v := .ref (tp 0)) X hH.1 0 rfl fk_X6_32 rfl dX6_feed_26 ?_
      refine v_get (v := .int u3.2.1) X hH.1 3 rfl fk_X6_108 rfl dX6_feed_29 ?_
      refine v_goto (tgt := 37) X dX6_feed_32 (by decide) ?_
      exact v_wiret X hF u3 hH h dX6_feed_37
  · have h := h.1 c5
    refine v_ldc X kc_X6_62 dX6_feed_11 ?_
    exact v_wiret X hF up hH h dX6_feed_13
def w_X6_agency (ux : BX6) (un : BX1) (ut : BX1) (up : BX5) (ua : BX0) (post : Int32 → BX6 → BX1 → BX1 → BX5 → BX0 → Prop) : Prop := w_X5_readInto up ut (fun u2 u3 => (u2.2.2.2.1 = 0 → w_X1_copyFrom un u3 (fun u6 => w_X0_forgetAll ua (fun u8 => post u6.2.2.2.2.2.2.2.1 ux u6 u3 u2 u8))) ∧ (¬ u2.2.2.2.1 = 0 → post ((-1000100 : Int32) - u2.2.2.2.2) (u2.2.2.2.1, ux.2) un u3 u2 ua))
set_option maxHeartbeats 4000000 in
set_option maxRecDepth 100000 in
theorem c_X6_agency (l : Launch) (D : va_G) (K : Nat → ClassId) (t : Nat → Nat) (x no tr tp ac se ak : Nat → Nat) (ro im : Nat → Nat → Nat) (ux : BX6) (un : BX1) (ut : BX1) (up : BX5) (ua : BX0) (post : Int32 → BX6 → BX1 → BX1 → BX5 → BX0 → Prop) (h : w_X6_agency ux un ut up ua post) : WrI l yX6_agency cX6_agency 1 (some .int) ({ frames := 6, cells := 0, slots := 0, locals := 152 } : Room) D (TY K) t (CX6 K x no tr tp ac se ak ro im ux ++ CX1 K no un ++ CX1 K tr ut ++ CX5 K tp up ++ CX0 K ac ua) [.ref (x 0)] (fun z : BX6 × BX1 × BX1 × BX5 × BX0 => CX6 K x no tr tp ac se ak ro im z.1 ++ CX1 K no z.2.1 ++ CX1 K tr z.2.2.1 ++ CX5 K tp z.2.2.2.1 ++ CX0 K ac z.2.2.2.2) (fun (r : Int32) (z : BX6 × BX1 × BX1 × BX5 × BX0) => post r z.1 z.2.1 z.2.2.1 z.2.2.2.1 z.2.2.2.2) := by
  refine WrI.mk rfl (Nat.le_of_ble_eq_true rfl) ?_
  intro F ls A _ hF X hH hA hl hT
  obtain ⟨H, hH0⟩ : ∃ z : Heap, z = (fxS F).heap := ⟨_, rfl⟩
  obtain ⟨locs, hL0⟩ : ∃ z : List Loc, z = [] := ⟨_, rfl⟩
  have hH : HH F D A (CX6 K x no tr tp ac se ak ro im ux ++ CX1 K no un ++ CX1 K tr ut ++ CX5 K tp up ++ CX0 K ac ua) H locs := by rw [hH0, hL0]; exact hH
  suffices goal : V F (WQI F D (TY K) A (fun z : BX6 × BX1 × BX1 × BX5 × BX0 => CX6 K x no tr tp ac se ak ro im z.1 ++ CX1 K no z.2.1 ++ CX1 K tr z.2.2.1 ++ CX5 K tp z.2.2.2.1 ++ CX0 K ac z.2.2.2.2) (fun (r : Int32) (z : BX6 × BX1 × BX1 × BX5 × BX0) => post r z.1 z.2.1 z.2.2.1 z.2.2.2.1 z.2.2.2.2)) H locs 0 ls [] by rw [hH0, hL0] at goal; exact goal
  clear hH0 hL0
  have X : Cx F cX6_agency 1 RX6 D (TY K) := X
  have hl : lv_has ls 1 [(0, .ref (x 0))] := hl
  unfold w_X6_agency at h
  refine v_aload_n X dX6_agency_0 rfl (lv_at hl 0 rfl) ?_
  refine v_get (v := .ref (tp 0)) X hH.1 0 rfl fk_X6_32 rfl dX6_agency_1 ?_
  refine v_aload_n X dX6_agency_4 rfl (lv_at hl 0 rfl) ?_
  refine v_get (v := .ref (tr 0)) X hH.1 0 rfl fk_X6_26 rfl dX6_agency_5 ?_
  refine wrVV (As := [.ref (tr 0)]) (rest := []) (wr := (CX6 K x no tr tp ac se ak ro im ux ++ CX1 K no un ++ CX0 K ac ua)) X mv_X6_112 (c_X5_readInto F.2.1 D K t tp tr up ut _ h) hF ⟨rfl, rfl, Nat.le_of_ble_eq_true rfl, Nat.le_of_ble_eq_true rfl⟩ hT hA hH [19, 20, 11, 12, 13, 14, 15, 16, 17, 18] [0, 1, 2, 3, 4, 5, 6, 7, 8, 9, 10, 21, 22] ⟨rfl, rfl, rfl, rfl, by decide⟩ 19 rfl rfl hl.1 rfl rfl (Nat.le_of_ble_eq_true rfl) dX6_agency_8 (fun u4 H locs h hH => ?_)
  obtain ⟨u2, u3⟩ := u4
  have hH : HH F D A (CX6 K x no tr tp ac se ak ro im ux ++ CX1 K no un ++ CX0 K ac ua ++ CX5 K tp u2 ++ CX1 K tr u3) H locs := hH
  refine v_aload_n X dX6_agency_11 rfl (lv_at hl 0 rfl) ?_
  refine v_get (v := .ref (tp 0)) X hH.1 0 rfl fk_X6_32 rfl dX6_agency_12 ?_
  refine v_get (v := .int u2.2.2.2.1) X hH.1 13 rfl fk_X6_116 rfl dX6_agency_15 ?_
  refine v_if_eq (tgt := 43) X dX6_agency_18 (by decide) (fun c9 => ?_) (fun c9 => ?_)
  · have h := h.1 c9
    refine v_aload_n X dX6_agency_43 rfl (lv_at hl 0 rfl) ?_
    refine v_get (v := .ref (no 0)) X hH.1 0 rfl fk_X6_22 rfl dX6_agency_44 ?_
    refine v_aload_n X dX6_agency_47 rfl (lv_at hl 0 rfl) ?_
    refine v_get (v := .ref (tr 0)) X hH.1 0 rfl fk_X6_26 rfl dX6_agency_48 ?_
    refine wrVV (As := [.ref (tr 0)]) (rest := []) (wr := (CX6 K x no tr tp ac se ak ro im ux ++ CX0 K ac ua ++ CX5 K tp u2)) X mv_X6_126 (c_X1_copyFrom F.2.1 D K t no tr un u3 _ h) hF ⟨rfl, rfl, Nat.le_of_ble_eq_true rfl, Nat.le_of_ble_eq_true rfl⟩ hT hA hH [3, 4, 5, 6, 7, 8, 9, 10, 15, 16, 17, 18, 19, 20, 21, 22] [0, 1, 2, 11, 12, 13, 14] ⟨rfl, rfl, rfl, rfl, by decide⟩ 3 rfl rfl hl.1 rfl rfl (Nat.le_of_ble_eq_true rfl) dX6_agency_51 (fun u6 H locs h hH => ?_)
    have hH : HH F D A (CX6 K x no tr tp ac se ak ro im ux ++ CX0 K ac ua ++ CX5 K tp u2 ++ CX1 K no u6 ++ CX1 K tr u3) H locs := hH
    refine v_aload_n X dX6_agency_54 rfl (lv_at hl 0 rfl) ?_
    refine v_get (v := .ref (ac 0)) X hH.1 0 rfl fk_X6_39 rfl dX6_agency_55 ?_
    refine wrVV (As := []) (rest := []) (wr := (CX6 K x no tr tp ac se ak ro im ux ++ CX5 K tp u2 ++ CX1 K no u6 ++ CX1 K tr u3)) X mv_X6_129 (c_X0_forgetAll F.2.1 D K t ac ua _ h) hF ⟨rfl, rfl, Nat.le_of_ble_eq_true rfl, Nat.le_of_ble_eq_true rfl⟩ hT hA hH [3, 4] [0, 1, 2, 5, 6, 7, 8, 9, 10, 11, 12, 13, 14, 15, 16, 17, 18, 19, 20, 21, 22] ⟨rfl, rfl, rfl, rfl, by decide⟩ 3 rfl rfl hl.1 rfl rfl (Nat.le_of_ble_eq_true rfl) dX6_agency_58 (fun u8 H locs h hH => ?_)
    have hH : HH F D A (CX6 K x no tr tp ac se ak ro im ux ++ CX5 K tp u2 ++ CX1 K no u6 ++ CX1 K tr u3 ++ CX0 K ac u8) H locs := hH
    refine v_aload_n X dX6_agency_61 rfl (lv_at hl 0 rfl) ?_
    refine v_get (v := .ref (no 0)) X hH.1 0 rfl fk_X6_22 rfl dX6_agency_62 ?_
    refine v_get (v := .int u6.2.2.2.2.2.2.2.1) X hH.1 5 rfl fk_X6_132 rfl dX6_agency_65 ?_
    exact v_wiret X hF (ux, u6, u3, u2, u8) (hH.perm [0, 1, 2, 5, 6, 7, 8, 9, 10, 11, 12, 13, 14, 15, 16, 17, 18, 19, 20, 3, 4, 21, 22] rfl rfl) h dX6_agency_68
  · have h := h.2 c9
    refine v_aload_n X dX6_agency_21 rfl (lv_at hl 0 rfl) ?_
    refine v_aload_n X dX6_agency_22 rfl (lv_at hl 0 rfl) ?_
    refine v_get (v := .ref (tp 0)) X hH.1 0 rfl fk_X6_32 rfl dX6_agency_23 ?_
    refine v_get (v := .int u2.2.2.2.1) X hH.1 13 rfl fk_X6_116 rfl dX6_agency_26 ?_
    refine v_put X hH 0 rfl fi_X6_119 (Nat.le_of_ble_eq_true rfl) dX6_agency_29 (fun H locs hH => ?_)
    have hH : HH F D A (CX6 K x no tr tp ac se ak ro im (u2.2.2.2.1, ux.2) ++ CX1 K no un ++ CX0 K ac ua ++ CX5 K tp u2 ++ CX1 K tr u3) H locs := hH
    refine v_ldc X kc_X6_122 dX6_agency_32 ?_
    refine v_aload_n X dX6_agency_34 rfl (lv_at hl 0 rfl) ?_
    refine v_get (v := .ref (tp 0)) X hH.1 0 rfl fk_X6_32 rfl dX6_agency_35 ?_
    refine v_get (v := .int u2.2.2.2.2) X hH.1 13 rfl fk_X6_123 rfl dX6_agency_38 ?_
    refine v_isub X dX6_agency_41 ?_
    exact v_wiret X hF ((u2.2.2.2.1, ux.2), un, u3, u2, ua) (hH.perm [0, 1, 2, 3, 4, 5, 6, 7, 8, 9, 10, 15, 16, 17, 18, 19, 20, 21, 22, 13, 14, 11, 12] rfl rfl) h dX6_agency_42
def w_X6_fault (ux : BX6) (post : Int32 → Prop) : Prop := post ux.1
set_option maxHeartbeats 4000000 in
set_option maxRecDepth 100000 in
theorem c_X6_fault (l : Launch) (D : va_G) (K : Nat → ClassId) (t : Nat → Nat) (x no tr tp ac se ak : Nat → Nat) (ro im : Nat → Nat → Nat) (ux : BX6) (post : Int32 → Prop) (h : w_X6_fault ux post) : RdM l yX6_fault cX6_fault 1 (some .int) ({ frames := 0, cells := 0, slots := 0, locals := 0 } : Room) D (TY K) t (CX6 K x no tr tp ac se ak ro im ux) [.ref (x 0)] post := by
  refine RdM.mk rfl (Nat.le_of_ble_eq_true rfl) ?_
  intro F ls _ hF X hP hl hT
  have X : Cx F cX6_fault 1 RX6 D (TY K) := X
  have hl : lv_has ls 1 [(0, .ref (x 0))] := hl
  unfold w_X6_fault at h
  refine v_aload_n X dX6_fault_0 rfl (lv_at hl 0 rfl) ?_
  refine v_get (v := .int ux.1) X hP 0 rfl fk_X6_119 rfl dX6_fault_1 ?_
  exact v_riret X hF h dX6_fault_4
def wL_X6_nights_46 (y6 : Int32) (b7 : BX6) (post : Int32 → BX1 → BX0 → Prop) (Kx46 : BX1 → BX0 → Prop) : Nat → Int32 → BX1 → BX0 → Prop
  | 0, _, _, _ => False
  | n46 + 1, x3, u4, u5 => (y6 ≤ x3 → Kx46 u4 u5) ∧ (¬ y6 ≤ x3 → w_X0_keep u5 u4 (fun u13 => w_X1_passNight u4 (15 : Int32) (fun u15 => wL_X6_nights_46 y6 b7 post Kx46 n46 (x3 + (1 : Int32)) u15 u13)))
def w_X6_nights (ux : BX6) (un : BX1) (ua : BX0) (a0 : Int32) (post : Int32 → BX1 → BX0 → Prop) : Prop := w_X1_isOpen un (fun r1 => (r1 = 0 → post (-1000002 : Int32) un ua) ∧ (¬ r1 = 0 → w_X6_isWithin a0 (1 : Int32) (24 : Int32) (fun r2 => (r2 = 0 → post (-1000001 : Int32) un ua) ∧ (¬ r2 = 0 → ((un.2.2.2.2.2.2.2.2.2.2.2 + a0) ≤ (999 : Int32) → ∃ n46, wL_X6_nights_46 a0 ux post (fun (u8 : BX1) (u9 : BX0) => w_X1_resting u8 (fun r10 => post r10 u8 u9)) n46 (0 : Int32) un ua) ∧ (¬ (un.2.2.2.2.2.2.2.2.2.2.2 + a0) ≤ (999 : Int32) → post (-1000003 : Int32) un ua)))))
set_option maxHeartbeats 4000000 in
set_option maxRecDepth 100000 in
theorem c_X6_nights (l : Launch) (D : va_G) (K : Nat → ClassId) (t : Nat → Nat) (x no tr tp ac se ak : Nat → Nat) (ro im : Nat → Nat → Nat) (ux : BX6) (un : BX1) (ua : BX0) (a0 : Int32) (post : Int32 → BX1 → BX0 → Prop) (h : w_X6_nights ux un ua a0 post) : WrI l yX6_nights cX6_nights 3 (some .int) ({ frames := 5, cells := 0, slots := 0, locals := 135 } : Room) D (TY K) t (CX6 K x no tr tp ac se ak ro im ux ++ CX1 K no un ++ CX0 K ac ua) [.ref (x 0), .int a0] (fun z : BX1 × BX0 => CX6 K x no tr tp ac se ak ro im ux ++ CX1 K no z.1 ++ CX0 K ac z.2) (fun (r : Int32) (z : BX1 × BX0) => post r z.1 z.2) := by
  refine WrI.mk rfl (Nat.le_of_ble_eq_true rfl) ?_
  intro F ls A _ hF X hH hA hl hT
  obtain ⟨H, hH0⟩ : ∃ z : Heap, z = (fxS F).heap := ⟨_, rfl⟩
  obtain ⟨locs, hL0⟩ : ∃ z : List Loc, z = [] := ⟨_, rfl⟩
  have hH : HH F D A (CX6 K x no tr tp ac se ak ro im ux ++ CX1 K no un ++ CX0 K ac ua) H locs := by rw [hH0, hL0]; exact hH
  suffices goal : V F (WQI F D (TY K) A (fun z : BX1 × BX0 => CX6 K x no tr tp ac se ak ro im ux ++ CX1 K no z.1 ++ CX0 K ac z.2) (fun (r : Int32) (z : BX1 × BX0) => post r z.1 z.2)) H locs 0 ls [] by rw [hH0, hL0] at goal; exact goal
  clear hH0 hL0
  have X : Cx F cX6_nights 3 RX6 D (TY K) := X
  have hl : lv_has ls 3 [(0, .ref (x 0)), (1, .int a0)] := hl
  unfold w_X6_nights at h
  refine v_aload_n X dX6_nights_0 rfl (lv_at hl 0 rfl) ?_
  refine v_get (v := .ref (no 0)) X hH.1 0 rfl fk_X6_22 rfl dX6_nights_1 ?_
  refine rdV (As := []) (rest := []) X mv_X6_135 (c_X1_isOpen F.2.1 D K t no un _ h) hF ⟨rfl, rfl, Nat.le_of_ble_eq_true rfl, Nat.le_of_ble_eq_true rfl⟩ (stW hT hH) hH.1 [3, 4, 5, 6, 7, 8, 9, 10] rfl 3 rfl rfl hl.1 rfl rfl (Nat.le_of_ble_eq_true rfl) dX6_nights_4 (fun r1 h => ?_)
  refine v_if_ne (tgt := 13) X dX6_nights_7 (by decide) (fun c19 => ?_) (fun c19 => ?_)
  · have h := h.2 c19
    refine v_iload_n X dX6_nights_13 rfl (lv_at hl 1 rfl) ?_
    refine v_iconst (v := (1 : Int32)) X dX6_nights_14 (by decide) ?_
    refine v_bipush (v := (24 : Int32)) X dX6_nights_15 (by decide) ?_
    refine rdS (As := [.int a0, .int (1 : Int32), .int (24 : Int32)]) (rest := []) X ms_X6_58 (c_X6_isWithin F.2.1 D K t a0 (1 : Int32) (24 : Int32) _ h) hF ⟨rfl, rfl, Nat.le_of_ble_eq_true rfl, Nat.le_of_ble_eq_true rfl⟩ (stW hT hH) hH.1 [] rfl hl.1 rfl rfl (Nat.le_of_ble_eq_true rfl) dX6_nights_17 (fun r2 h => ?_)
    refine v_if_ne (tgt := 26) X dX6_nights_20 (by decide) (fun c18 => ?_) (fun c18 => ?_)
    · have h := h.2 c18
      refine v_aload_n X dX6_nights_26 rfl (lv_at hl 0 rfl) ?_
      refine v_get (v := .ref (no 0)) X hH.1 0 rfl fk_X6_22 rfl dX6_nights_27 ?_
      refine v_get (v := .int un.2.2.2.2.2.2.2.2.2.2.2) X hH.1 3 rfl fk_X6_139 rfl dX6_nights_30 ?_
      refine v_iload_n X dX6_nights_33 rfl (lv_at hl 1 rfl) ?_
      refine v_iadd X dX6_nights_34 ?_
      refine v_sipush (v := (999 : Int32)) X dX6_nights_35 (by decide) ?_
      refine v_icmp_le (tgt := 44) X dX6_nights_38 (by decide) (fun c17 => ?_) (fun c17 => ?_)
      · have h := h.1 c17
        refine v_iconst (v := (0 : Int32)) X dX6_nights_44 (by decide) ?_
        refine v_istore_n (lv' := [(2, .int (0 : Int32)), (0, .ref (x 0)), (1, .int a0)]) X dX6_nights_45 rfl hl (by decide) rfl (fun ls hl => ?_)
        obtain ⟨Kx46, hK46⟩ : ∃ f : BX1 → BX0 → Prop, f = (fun (u8 : BX1) (u9 : BX0) => w_X1_resting u8 (fun r10 => post r10 u8 u9)) := ⟨_, rfl⟩
        have kx11 : ∀ (u8 : BX1) (u9 : BX0) (ls : Array Slot) (H : Heap) (locs : List Loc), (Kx46 u8 u9) → lv_has ls 3 [(0, .ref (x 0))] → HH F D A (CX6 K x no tr tp ac se ak ro im ux ++ CX1 K no u8 ++ CX0 K ac u9) H locs → V F (WQI F D (TY K) A (fun z : BX1 × BX0 => CX6 K x no tr tp ac se ak ro im ux ++ CX1 K no z.1 ++ CX0 K ac z.2) (fun (r : Int32) (z : BX1 × BX0) => post r z.1 z.2)) H locs 77 ls [] := by
          intro u8 u9 ls H locs h hl hH
          have h : w_X1_resting u8 (fun r10 => post r10 u8 u9) := by rw [hK46] at h; exact h
          refine v_aload_n X dX6_nights_77 rfl (lv_at hl 0 rfl) ?_
          refine v_get (v := .ref (no 0)) X hH.1 0 rfl fk_X6_22 rfl dX6_nights_78 ?_
          refine rdV (As := []) (rest := []) X mv_X6_149 (c_X1_resting F.2.1 D K t no u8 _ h) hF ⟨rfl, rfl, Nat.le_of_ble_eq_true rfl, Nat.le_of_ble_eq_true rfl⟩ (stW hT hH) hH.1 [3, 4, 5, 6, 7, 8, 9, 10] rfl 3 rfl rfl hl.1 rfl rfl (Nat.le_of_ble_eq_true rfl) dX6_nights_81 (fun r10 h => ?_)
          exact v_wiret X hF (u8, u9) hH h dX6_nights_84
        have lp46 : ∀ (n46 : Nat) (x3 : Int32) (u4 : BX1) (u5 : BX0) (ls : Array Slot) (H : Heap) (locs : List Loc), wL_X6_nights_46 a0 ux post Kx46 n46 x3 u4 u5 → lv_has ls 3 [(0, .ref (x 0)), (1, .int a0), (2, .int x3)] → HH F D A (CX6 K x no tr tp ac se ak ro im ux ++ CX1 K no u4 ++ CX0 K ac u5) H locs → V F (WQI F D (TY K) A (fun z : BX1 × BX0 => CX6 K x no tr tp ac se ak ro im ux ++ CX1 K no z.1 ++ CX0 K ac z.2) (fun (r : Int32) (z : BX1 × BX0) => post r z.1 z.2)) H locs 46 ls [] := by
          intro n46
          induction n46 with
          | zero => intro x3 u4 u5 ls H locs h hl hH; exact h.elim
          | succ n46 ih46 =>
            intro x3 u4 u5 ls H locs h hl hH
            refine v_iload_n X dX6_nights_46 rfl (lv_at hl 2 rfl) ?_
            refine v_iload_n X dX6_nights_47 rfl (lv_at hl 1 rfl) ?_
            refine v_icmp_ge (tgt := 77) X dX6_nights_48 (by decide) (fun c16 => ?_) (fun c16 => ?_)
            · have h := h.1 c16
              exact kx11 u4 u5 ls H locs h (lv_sub hl [0] rfl) hH
            · have h := h.2 c16
              refine v_aload_n X dX6_nights_51 rfl (lv_at hl 0 rfl) ?_
              refine v_get (v := .ref (ac 0)) X hH.1 0 rfl fk_X6_39 rfl dX6_nights_52 ?_
              refine v_aload_n X dX6_nights_55 rfl (lv_at hl 0 rfl) ?_
              refine v_get (v := .ref (no 0)) X hH.1 0 rfl fk_X6_22 rfl dX6_nights_56 ?_
              refine wrVV (As := [.ref (no 0)]) (rest := []) (wr := (CX6 K x no tr tp ac se ak ro im ux)) X mv_X6_142 (c_X0_keep F.2.1 D K t ac no u5 u4 _ h) hF ⟨rfl, rfl, Nat.le_of_ble_eq_true rfl, Nat.le_of_ble_eq_true rfl⟩ hT hA hH [11, 12, 3, 4, 5, 6, 7, 8, 9, 10] [0, 1, 2] ⟨rfl, rfl, rfl, rfl, by decide⟩ 11 rfl rfl hl.1 rfl rfl (Nat.le_of_ble_eq_true rfl) dX6_nights_59 (fun u13 H locs h hH => ?_)
              have hH : HH F D A (CX6 K x no tr tp ac se ak ro im ux ++ CX0 K ac u13 ++ CX1 K no u4) H locs := hH
              refine v_aload_n X dX6_nights_62 rfl (lv_at hl 0 rfl) ?_
              refine v_get (v := .ref (no 0)) X hH.1 0 rfl fk_X6_22 rfl dX6_nights_63 ?_
              refine v_bipush (v := (15 : Int32)) X dX6_nights_66 (by decide) ?_
              refine wrVV (As := [.int (15 : Int32)]) (rest := []) (wr := (CX6 K x no tr tp ac se ak ro im ux ++ CX0 K ac u13)) X mv_X6_145 (c_X1_passNight F.2.1 D K t no u4 (15 : Int32) _ h) hF ⟨rfl, rfl, Nat.le_of_ble_eq_true rfl, Nat.le_of_ble_eq_true rfl⟩ hT hA hH [5, 6, 7, 8, 9, 10, 11, 12] [0, 1, 2, 3, 4] ⟨rfl, rfl, rfl, rfl, by decide⟩ 5 rfl rfl hl.1 rfl rfl (Nat.le_of_ble_eq_true rfl) dX6_nights_68 (fun u15 H locs h hH => ?_)
              have hH : HH F D A (CX6 K x no tr tp ac se ak ro im ux ++ CX0 K ac u13 ++ CX1 K no u15) H locs := hH
              refine v_iinc (v := (x3 + (1 : Int32))) (lv' := [(2, .int (x3 + (1 : Int32))), (0, .ref (x 0)), (1, .int a0)]) X dX6_nights_71 hl (k := 2) rfl rfl (by decide) rfl (fun ls hl => ?_)
              refine v_goto (tgt := 46) X dX6_nights_74 (by decide) ?_
              exact ih46 (x3 + (1 : Int32)) u15 u13 ls H locs h (lv_sub hl [1, 2, 0] rfl) (hH.perm [0, 1, 2, 5, 6, 7, 8, 9, 10, 11, 12, 3, 4] rfl rfl)
        obtain ⟨n46, h⟩ := h
        have h : wL_X6_nights_46 a0 ux post Kx46 n46 (0 : Int32) un ua := by rw [hK46]; exact h
        exact lp46 n46 (0 : Int32) un ua ls H locs h (lv_sub hl [1, 2, 0] rfl) hH
      · have h := h.2 c17
        refine v_ldc X kc_X6_111 dX6_nights_41 ?_
        exact v_wiret X hF (un, ua) hH h dX6_nights_43
    · have h := h.1 c18
      refine v_ldc X kc_X6_62 dX6_nights_23 ?_
      exact v_wiret X hF (un, ua) hH h dX6_nights_25
  · have h := h.1 c19
    refine v_ldc X kc_X6_138 dX6_nights_10 ?_
    exact v_wiret X hF (un, ua) hH h dX6_nights_12
def w_X6_let (ux : BX6) (un : BX1) (ua : BX0) (a0 : Int32) (a1 : Int32) (post : Int32 → BX1 → BX0 → Prop) : Prop := w_X1_hasWaker un a0 (fun r1 => (r1 = 0 → post (-1000001 : Int32) un ua) ∧ (¬ r1 = 0 → w_X1_hasClient un a1 (fun r2 => wpJ (T := Unit → Prop) (fun (_ : Unit) => vp_in a0 4 ∧ (∀ x4 : Int32, x4 = (un.2.2.2.2.2.1 a0.toNatClampNeg) → (x4 = a1 → post (-1000002 : Int32) un ua) ∧ (¬ x4 = a1 → w_X0_keep ua un (fun u6 => vp_in a0 4 ∧ (post x4 (un.1, un.2.1, un.2.2.1, un.2.2.2.1, un.2.2.2.2.1, (upd un.2.2.2.2.2.1 a0.toNatClampNeg a1), un.2.2.2.2.2.2.1, un.2.2.2.2.2.2.2.1, un.2.2.2.2.2.2.2.2.1, un.2.2.2.2.2.2.2.2.2.1, un.2.2.2.2.2.2.2.2.2.2.1, un.2.2.2.2.2.2.2.2.2.2.2) u6))))) (fun J3 => (r2 = 0 → (a1 = (5 : Int32) → J3 ()) ∧ (¬ a1 = (5 : Int32) → post (-1000001 : Int32) un ua)) ∧ (¬ r2 = 0 → J3 ())))))
set_option maxHeartbeats 4000000 in
set_option maxRecDepth 100000 in
theorem c_X6_let (l : Launch) (D : va_G) (K : Nat → ClassId) (t : Nat → Nat) (x no tr tp ac se ak : Nat → Nat) (ro im : Nat → Nat → Nat) (ux : BX6) (un : BX1) (ua : BX0) (a0 : Int32) (a1 : Int32) (post : Int32 → BX1 → BX0 → Prop) (h : w_X6_let ux un ua a0 a1 post) : WrI l yX6_let cX6_let 4 (some .int) ({ frames := 2, cells := 0, slots := 0, locals := 82 } : Room) D (TY K) t (CX6 K x no tr tp ac se ak ro im ux ++ CX1 K no un ++ CX0 K ac ua) [.ref (x 0), .int a0, .int a1] (fun z : BX1 × BX0 => CX6 K x no tr tp ac se ak ro im ux ++ CX1 K no z.1 ++ CX0 K ac z.2) (fun (r : Int32) (z : BX1 × BX0) => post r z.1 z.2) := by
  refine WrI.mk rfl (Nat.le_of_ble_eq_true rfl) ?_
  intro F ls A _ hF X hH hA hl hT
  obtain ⟨H, hH0⟩ : ∃ z : Heap, z = (fxS F).heap := ⟨_, rfl⟩
  obtain ⟨locs, hL0⟩ : ∃ z : List Loc, z = [] := ⟨_, rfl⟩
  have hH : HH F D A (CX6 K x no tr tp ac se ak ro im ux ++ CX1 K no un ++ CX0 K ac ua) H locs := by rw [hH0, hL0]; exact hH
  suffices goal : V F (WQI F D (TY K) A (fun z : BX1 × BX0 => CX6 K x no tr tp ac se ak ro im ux ++ CX1 K no z.1 ++ CX0 K ac z.2) (fun (r : Int32) (z : BX1 × BX0) => post r z.1 z.2)) H locs 0 ls [] by rw [hH0, hL0] at goal; exact goal
  clear hH0 hL0
  have X : Cx F cX6_let 4 RX6 D (TY K) := X
  have hl : lv_has ls 4 [(0, .ref (x 0)), (1, .int a0), (2, .int a1)] := hl
  unfold w_X6_let at h
  refine v_aload_n X dX6_let_0 rfl (lv_at hl 0 rfl) ?_
  refine v_get (v := .ref (no 0)) X hH.1 0 rfl fk_X6_22 rfl dX6_let_1 ?_
  refine v_iload_n X dX6_let_4 rfl (lv_at hl 1 rfl) ?_
  refine rdV (As := [.int a0]) (rest := []) X mv_X6_152 (c_X1_hasWaker F.2.1 D K t no un a0 _ h) hF ⟨rfl, rfl, Nat.le_of_ble_eq_true rfl, Nat.le_of_ble_eq_true rfl⟩ (stW hT hH) hH.1 [3, 4, 5, 6, 7, 8, 9, 10] rfl 3 rfl rfl hl.1 rfl rfl (Nat.le_of_ble_eq_true rfl) dX6_let_5 (fun r1 h => ?_)
  refine v_if_eq (tgt := 27) X dX6_let_8 (by decide) (fun c10 => ?_) (fun c10 => ?_)
  · have h := h.1 c10
    refine v_ldc X kc_X6_62 dX6_let_27 ?_
    exact v_wiret X hF (un, ua) hH h dX6_let_29
  · have h := h.2 c10
    refine v_aload_n X dX6_let_11 rfl (lv_at hl 0 rfl) ?_
    refine v_get (v := .ref (no 0)) X hH.1 0 rfl fk_X6_22 rfl dX6_let_12 ?_
    refine v_iload_n X dX6_let_15 rfl (lv_at hl 2 rfl) ?_
    refine rdV (As := [.int a1]) (rest := []) X mv_X6_155 (c_X1_hasClient F.2.1 D K t no un a1 _ h) hF ⟨rfl, rfl, Nat.le_of_ble_eq_true rfl, Nat.le_of_ble_eq_true rfl⟩ (stW hT hH) hH.1 [3, 4, 5, 6, 7, 8, 9, 10] rfl 3 rfl rfl hl.1 rfl rfl (Nat.le_of_ble_eq_true rfl) dX6_let_16 (fun r2 h => ?_)
    obtain ⟨J3, hJ3⟩ : ∃ f : Unit → Prop, f = (fun (_ : Unit) => vp_in a0 4 ∧ (∀ x4 : Int32, x4 = (un.2.2.2.2.2.1 a0.toNatClampNeg) → (x4 = a1 → post (-1000002 : Int32) un ua) ∧ (¬ x4 = a1 → w_X0_keep ua un (fun u6 => vp_in a0 4 ∧ (post x4 (un.1, un.2.1, un.2.2.1, un.2.2.2.1, un.2.2.2.2.1, (upd un.2.2.2.2.2.1 a0.toNatClampNeg a1), un.2.2.2.2.2.2.1, un.2.2.2.2.2.2.2.1, un.2.2.2.2.2.2.2.2.1, un.2.2.2.2.2.2.2.2.2.1, un.2.2.2.2.2.2.2.2.2.2.1, un.2.2.2.2.2.2.2.2.2.2.2) u6))))) := ⟨_, rfl⟩
    have kJ3 : ∀ (ls : Array Slot) (H : Heap) (locs : List Loc), (J3 ()) → lv_has ls 4 [(0, .ref (x 0)), (1, .int a0), (2, .int a1)] → HH F D A (CX6 K x no tr tp ac se ak ro im ux ++ CX1 K no un ++ CX0 K ac ua) H locs → V F (WQI F D (TY K) A (fun z : BX1 × BX0 => CX6 K x no tr tp ac se ak ro im ux ++ CX1 K no z.1 ++ CX0 K ac z.2) (fun (r : Int32) (z : BX1 × BX0) => post r z.1 z.2)) H locs 30 ls [] := by
      intro ls H locs h hl hH
      have h : vp_in a0 4 ∧ (∀ x4 : Int32, x4 = (un.2.2.2.2.2.1 a0.toNatClampNeg) → (x4 = a1 → post (-1000002 : Int32) un ua) ∧ (¬ x4 = a1 → w_X0_keep ua un (fun u6 => vp_in a0 4 ∧ (post x4 (un.1, un.2.1, un.2.2.1, un.2.2.2.1, un.2.2.2.2.1, (upd un.2.2.2.2.2.1 a0.toNatClampNeg a1), un.2.2.2.2.2.2.1, un.2.2.2.2.2.2.2.1, un.2.2.2.2.2.2.2.2.1, un.2.2.2.2.2.2.2.2.2.1, un.2.2.2.2.2.2.2.2.2.2.1, un.2.2.2.2.2.2.2.2.2.2.2) u6)))) := by rw [hJ3] at h; exact h
      refine v_aload_n X dX6_let_30 rfl (lv_at hl 0 rfl) ?_
      refine v_get (v := .ref (no 0)) X hH.1 0 rfl fk_X6_22 rfl dX6_let_31 ?_
      refine v_get (v := .ref (no 6)) X hH.1 3 rfl fk_X6_158 rfl dX6_let_34 ?_
      refine v_iload_n X dX6_let_37 rfl (lv_at hl 1 rfl) ?_
      have hin := h.1
      have h := h.2
      refine v_iald (f := un.2.2.2.2.2.1) X hH.1 9 0 rfl rfl hin dX6_let_38 ?_
      refine v_topi (fun x4 ex4 => ?_)
      have h := h x4 ex4
      refine v_istore_n (lv' := [(3, .int x4), (0, .ref (x 0)), (1, .int a0), (2, .int a1)]) X dX6_let_39 rfl hl (by decide) rfl (fun ls hl => ?_)
      refine v_iload_n X dX6_let_40 rfl (lv_at hl 0 rfl) ?_
      refine v_iload_n X dX6_let_41 rfl (lv_at hl 3 rfl) ?_
      refine v_icmp_ne (tgt := 48) X dX6_let_42 (by decide) (fun c7 => ?_) (fun c7 => ?_)
      · have h := h.2 c7
        refine v_aload_n X dX6_let_48 rfl (lv_at hl 1 rfl) ?_
        refine v_get (v := .ref (ac 0)) X hH.1 0 rfl fk_X6_39 rfl dX6_let_49 ?_
        refine v_aload_n X dX6_let_52 rfl (lv_at hl 1 rfl) ?_
        refine v_get (v := .ref (no 0)) X hH.1 0 rfl fk_X6_22 rfl dX6_let_53 ?_
        refine wrVV (As := [.ref (no 0)]) (rest := []) (wr := (CX6 K x no tr tp ac se ak ro im ux)) X mv_X6_142 (c_X0_keep F.2.1 D K t ac no ua un _ h) hF ⟨rfl, rfl, Nat.le_of_ble_eq_true rfl, Nat.le_of_ble_eq_true rfl⟩ hT hA hH [11, 12, 3, 4, 5, 6, 7, 8, 9, 10] [0, 1, 2] ⟨rfl, rfl, rfl, rfl, by decide⟩ 11 rfl rfl hl.1 rfl rfl (Nat.le_of_ble_eq_true rfl) dX6_let_56 (fun u6 H locs h hH => ?_)
        have hH : HH F D A (CX6 K x no tr tp ac se ak ro im ux ++ CX0 K ac u6 ++ CX1 K no un) H locs := hH
        refine v_aload_n X dX6_let_59 rfl (lv_at hl 1 rfl) ?_
        refine v_get (v := .ref (no 0)) X hH.1 0 rfl fk_X6_22 rfl dX6_let_60 ?_
        refine v_get (v := .ref (no 6)) X hH.1 5 rfl fk_X6_158 rfl dX6_let_63 ?_
        refine v_iload_n X dX6_let_66 rfl (lv_at hl 2 rfl) ?_
        refine v_iload_n X dX6_let_67 rfl (lv_at hl 3 rfl) ?_
        have hin := h.1
        have h := h.2
        refine v_iast (f := un.2.2.2.2.2.1) X hH 11 0 rfl rfl hin dX6_let_68 (fun H locs hH => ?_)
        have hH : HH F D A (CX6 K x no tr tp ac se ak ro im ux ++ CX0 K ac u6 ++ CX1 K no (un.1, un.2.1, un.2.2.1, un.2.2.2.1, un.2.2.2.2.1, (upd un.2.2.2.2.2.1 a0.toNatClampNeg a1), un.2.2.2.2.2.2.1, un.2.2.2.2.2.2.2.1, un.2.2.2.2.2.2.2.2.1, un.2.2.2.2.2.2.2.2.2.1, un.2.2.2.2.2.2.2.2.2.2.1, un.2.2.2.2.2.2.2.2.2.2.2)) H locs := hH
        refine v_iload_n X dX6_let_69 rfl (lv_at hl 0 rfl) ?_
        exact v_wiret X hF ((un.1, un.2.1, un.2.2.1, un.2.2.2.1, un.2.2.2.2.1, (upd un.2.2.2.2.2.1 a0.toNatClampNeg a1), un.2.2.2.2.2.2.1, un.2.2.2.2.2.2.2.1, un.2.2.2.2.2.2.2.2.1, un.2.2.2.2.2.2.2.2.2.1, un.2.2.2.2.2.2.2.2.2.2.1, un.2.2.2.2.2.2.2.2.2.2.2), u6) (hH.perm [0, 1, 2, 5, 6, 7, 8, 9, 10, 11, 12, 3, 4] rfl rfl) h dX6_let_70
      · have h := h.1 c7
        refine v_ldc X kc_X6_138 dX6_let_45 ?_
        exact v_wiret X hF (un, ua) hH h dX6_let_47
    have h : (r2 = 0 → (a1 = (5 : Int32) → J3 ()) ∧ (¬ a1 = (5 : Int32) → post (-1000001 : Int32) un ua)) ∧ (¬ r2 = 0 → J3 ()) := by rw [hJ3]; exact h
    refine v_if_ne (tgt := 30) X dX6_let_19 (by decide) (fun c9 => ?_) (fun c9 => ?_)
    · have h := h.2 c9
      exact kJ3  ls H locs h (lv_sub hl [0, 1, 2] rfl) hH
    · have h := h.1 c9
      refine v_iload_n X dX6_let_22 rfl (lv_at hl 2 rfl) ?_
      refine v_iconst (v := (5 : Int32)) X dX6_let_23 (by decide) ?_
      refine v_icmp_eq (tgt := 30) X dX6_let_24 (by decide) (fun c8 => ?_) (fun c8 => ?_)
      · have h := h.1 c8
        exact kJ3  ls H locs h (lv_sub hl [0, 1, 2] rfl) hH
      · have h := h.2 c8
        refine v_ldc X kc_X6_62 dX6_let_27 ?_
        exact v_wiret X hF (un, ua) hH h dX6_let_29
def w_X6_grow (ux : BX6) (un : BX1) (ua : BX0) (a0 : Int32) (a1 : Int32) (post : Int32 → BX1 → BX0 → Prop) : Prop := w_X1_hasClient un a0 (fun r1 => (r1 = 0 → post (-1000001 : Int32) un ua) ∧ (¬ r1 = 0 → w_X6_isWithin a1 (1 : Int32) (20 : Int32) (fun r2 => (r2 = 0 → post (-1000001 : Int32) un ua) ∧ (¬ r2 = 0 → w_X0_keep ua un (fun u4 => w_X1_makeHeavier un a0 a1 (fun u6 => vp_in a0 5 ∧ (post (u6.1 a0.toNatClampNeg) u6 u4)))))))
set_option maxHeartbeats 4000000 in
set_option maxRecDepth 100000 in
theorem c_X6_grow (l : Launch) (D : va_G) (K : Nat → ClassId) (t : Nat → Nat) (x no tr tp ac se ak : Nat → Nat) (ro im : Nat → Nat → Nat) (ux : BX6) (un : BX1) (ua : BX0) (a0 : Int32) (a1 : Int32) (post : Int32 → BX1 → BX0 → Prop) (h : w_X6_grow ux un ua a0 a1 post) : WrI l yX6_grow cX6_grow 3 (some .int) ({ frames := 2, cells := 0, slots := 0, locals := 82 } : Room) D (TY K) t (CX6 K x no tr tp ac se ak ro im ux ++ CX1 K no un ++ CX0 K ac ua) [.ref (x 0), .int a0, .int a1] (fun z : BX1 × BX0 => CX6 K x no tr tp ac se ak ro im ux ++ CX1 K no z.1 ++ CX0 K ac z.2) (fun (r : Int32) (z : BX1 × BX0) => post r z.1 z.2) := by
  refine WrI.mk rfl (Nat.le_of_ble_eq_true rfl) ?_
  intro F ls A _ hF X hH hA hl hT
  obtain ⟨H, hH0⟩ : ∃ z : Heap, z = (fxS F).heap := ⟨_, rfl⟩
  obtain ⟨locs, hL0⟩ : ∃ z : List Loc, z = [] := ⟨_, rfl⟩
  have hH : HH F D A (CX6 K x no tr tp ac se ak ro im ux ++ CX1 K no un ++ CX0 K ac ua) H locs := by rw [hH0, hL0]; exact hH
  suffices goal : V F (WQI F D (TY K) A (fun z : BX1 × BX0 => CX6 K x no tr tp ac se ak ro im ux ++ CX1 K no z.1 ++ CX0 K ac z.2) (fun (r : Int32) (z : BX1 × BX0) => post r z.1 z.2)) H locs 0 ls [] by rw [hH0, hL0] at goal; exact goal
  clear hH0 hL0
  have X : Cx F cX6_grow 3 RX6 D (TY K) := X
  have hl : lv_has ls 3 [(0, .ref (x 0)), (1, .int a0), (2, .int a1)] := hl
  unfold w_X6_grow at h
  refine v_aload_n X dX6_grow_0 rfl (lv_at hl 0 rfl) ?_
  refine v_get (v := .ref (no 0)) X hH.1 0 rfl fk_X6_22 rfl dX6_grow_1 ?_
  refine v_iload_n X dX6_grow_4 rfl (lv_at hl 1 rfl) ?_
  refine rdV (As := [.int a0]) (rest := []) X mv_X6_155 (c_X1_hasClient F.2.1 D K t no un a0 _ h) hF ⟨rfl, rfl, Nat.le_of_ble_eq_true rfl, Nat.le_of_ble_eq_true rfl⟩ (stW hT hH) hH.1 [3, 4, 5, 6, 7, 8, 9, 10] rfl 3 rfl rfl hl.1 rfl rfl (Nat.le_of_ble_eq_true rfl) dX6_grow_5 (fun r1 h => ?_)
  refine v_if_eq (tgt := 21) X dX6_grow_8 (by decide) (fun c8 => ?_) (fun c8 => ?_)
  · have h := h.1 c8
    refine v_ldc X kc_X6_62 dX6_grow_21 ?_
    exact v_wiret X hF (un, ua) hH h dX6_grow_23
  · have h := h.2 c8
    refine v_iload_n X dX6_grow_11 rfl (lv_at hl 2 rfl) ?_
    refine v_iconst (v := (1 : Int32)) X dX6_grow_12 (by decide) ?_
    refine v_bipush (v := (20 : Int32)) X dX6_grow_13 (by decide) ?_
    refine rdS (As := [.int a1, .int (1 : Int32), .int (20 : Int32)]) (rest := []) X ms_X6_58 (c_X6_isWithin F.2.1 D K t a1 (1 : Int32) (20 : Int32) _ h) hF ⟨rfl, rfl, Nat.le_of_ble_eq_true rfl, Nat.le_of_ble_eq_true rfl⟩ (stW hT hH) hH.1 [] rfl hl.1 rfl rfl (Nat.le_of_ble_eq_true rfl) dX6_grow_15 (fun r2 h => ?_)
    refine v_if_ne (tgt := 24) X dX6_grow_18 (by decide) (fun c7 => ?_) (fun c7 => ?_)
    · have h := h.2 c7
      refine v_aload_n X dX6_grow_24 rfl (lv_at hl 0 rfl) ?_
      refine v_get (v := .ref (ac 0)) X hH.1 0 rfl fk_X6_39 rfl dX6_grow_25 ?_
      refine v_aload_n X dX6_grow_28 rfl (lv_at hl 0 rfl) ?_
      refine v_get (v := .ref (no 0)) X hH.1 0 rfl fk_X6_22 rfl dX6_grow_29 ?_
      refine wrVV (As := [.ref (no 0)]) (rest := []) (wr := (CX6 K x no tr tp ac se ak ro im ux)) X mv_X6_142 (c_X0_keep F.2.1 D K t ac no ua un _ h) hF ⟨rfl, rfl, Nat.le_of_ble_eq_true rfl, Nat.le_of_ble_eq_true rfl⟩ hT hA hH [11, 12, 3, 4, 5, 6, 7, 8, 9, 10] [0, 1, 2] ⟨rfl, rfl, rfl, rfl, by decide⟩ 11 rfl rfl hl.1 rfl rfl (Nat.le_of_ble_eq_true rfl) dX6_grow_32 (fun u4 H locs h hH => ?_)
      have hH : HH F D A (CX6 K x no tr tp ac se ak ro im ux ++ CX0 K ac u4 ++ CX1 K no un) H locs := hH
      refine v_aload_n X dX6_grow_35 rfl (lv_at hl 0 rfl) ?_
      refine v_get (v := .ref (no 0)) X hH.1 0 rfl fk_X6_22 rfl dX6_grow_36 ?_
      refine v_iload_n X dX6_grow_39 rfl (lv_at hl 1 rfl) ?_
      refine v_iload_n X dX6_grow_40 rfl (lv_at hl 2 rfl) ?_
      refine wrVV (As := [.int a0, .int a1]) (rest := []) (wr := (CX6 K x no tr tp ac se ak ro im ux ++ CX0 K ac u4)) X mv_X6_161 (c_X1_makeHeavier F.2.1 D K t no un a0 a1 _ h) hF ⟨rfl, rfl, Nat.le_of_ble_eq_true rfl, Nat.le_of_ble_eq_true rfl⟩ hT hA hH [5, 6, 7, 8, 9, 10, 11, 12] [0, 1, 2, 3, 4] ⟨rfl, rfl, rfl, rfl, by decide⟩ 5 rfl rfl hl.1 rfl rfl (Nat.le_of_ble_eq_true rfl) dX6_grow_41 (fun u6 H locs h hH => ?_)
      have hH : HH F D A (CX6 K x no tr tp ac se ak ro im ux ++ CX0 K ac u4 ++ CX1 K no u6) H locs := hH
      refine v_aload_n X dX6_grow_44 rfl (lv_at hl 0 rfl) ?_
      refine v_get (v := .ref (no 0)) X hH.1 0 rfl fk_X6_22 rfl dX6_grow_45 ?_
      refine v_get (v := .ref (no 1)) X hH.1 5 rfl fk_X6_164 rfl dX6_grow_48 ?_
      refine v_iload_n X dX6_grow_51 rfl (lv_at hl 1 rfl) ?_
      have hin := h.1
      have h := h.2
      refine v_iald (f := u6.1) X hH.1 6 0 rfl rfl hin dX6_grow_52 ?_
      exact v_wiret X hF (u6, u4) (hH.perm [0, 1, 2, 5, 6, 7, 8, 9, 10, 11, 12, 3, 4] rfl rfl) h dX6_grow_53
    · have h := h.1 c7
      refine v_ldc X kc_X6_62 dX6_grow_21 ?_
      exact v_wiret X hF (un, ua) hH h dX6_grow_23
def w_X6_learn (ux : BX6) (un : BX1) (ua : BX0) (a0 : Int32) (a1 : Int32) (post : Int32 → BX1 → BX0 → Prop) : Prop := w_X1_hasWaker un a0 (fun r1 => (r1 = 0 → post (-1000001 : Int32) un ua) ∧ (¬ r1 = 0 → w_X6_isWithin a1 (0 : Int32) (5 : Int32) (fun r2 => (r2 = 0 → post (-1000001 : Int32) un ua) ∧ (¬ r2 = 0 → vp_in a0 4 ∧ (∀ x3 : Int32, x3 = (un.2.2.2.2.1 a0.toNatClampNeg) → w_X0_keep ua un (fun u5 => vp_in a0 4 ∧ (post x3 (un.1, un.2.1, un.2.2.1, un.2.2.2.1, (upd un.2.2.2.2.1 a0.toNatClampNeg a1), un.2.2.2.2.2.1, un.2.2.2.2.2.2.1, un.2.2.2.2.2.2.2.1, un.2.2.2.2.2.2.2.2.1, un.2.2.2.2.2.2.2.2.2.1, un.2.2.2.2.2.2.2.2.2.2.1, un.2.2.2.2.2.2.2.2.2.2.2) u5)))))))
set_option maxHeartbeats 4000000 in
set_option maxRecDepth 100000 in
theorem c_X6_learn (l : Launch) (D : va_G) (K : Nat → ClassId) (t : Nat → Nat) (x no tr tp ac se ak : Nat → Nat) (ro im : Nat → Nat → Nat) (ux : BX6) (un : BX1) (ua : BX0) (a0 : Int32) (a1 : Int32) (post : Int32 → BX1 → BX0 → Prop) (h : w_X6_learn ux un ua a0 a1 post) : WrI l yX6_learn cX6_learn 4 (some .int) ({ frames := 2, cells := 0, slots := 0, locals := 82 } : Room) D (TY K) t (CX6 K x no tr tp ac se ak ro im ux ++ CX1 K no un ++ CX0 K ac ua) [.ref (x 0), .int a0, .int a1] (fun z : BX1 × BX0 => CX6 K x no tr tp ac se ak ro im ux ++ CX1 K no z.1 ++ CX0 K ac z.2) (fun (r : Int32) (z : BX1 × BX0) => post r z.1 z.2) := by
  refine WrI.mk rfl (Nat.le_of_ble_eq_true rfl) ?_
  intro F ls A _ hF X hH hA hl hT
  obtain ⟨H, hH0⟩ : ∃ z : Heap, z = (fxS F).heap := ⟨_, rfl⟩
  obtain ⟨locs, hL0⟩ : ∃ z : List Loc, z = [] := ⟨_, rfl⟩
  have hH : HH F D A (CX6 K x no tr tp ac se ak ro im ux ++ CX1 K no un ++ CX0 K ac ua) H locs := by rw [hH0, hL0]; exact hH
  suffices goal : V F (WQI F D (TY K) A (fun z : BX1 × BX0 => CX6 K x no tr tp ac se ak ro im ux ++ CX1 K no z.1 ++ CX0 K ac z.2) (fun (r : Int32) (z : BX1 × BX0) => post r z.1 z.2)) H locs 0 ls [] by rw [hH0, hL0] at goal; exact goal
  clear hH0 hL0
  have X : Cx F cX6_learn 4 RX6 D (TY K) := X
  have hl : lv_has ls 4 [(0, .ref (x 0)), (1, .int a0), (2, .int a1)] := hl
  unfold w_X6_learn at h
  refine v_aload_n X dX6_learn_0 rfl (lv_at hl 0 rfl) ?_
  refine v_get (v := .ref (no 0)) X hH.1 0 rfl fk_X6_22 rfl dX6_learn_1 ?_
  refine v_iload_n X dX6_learn_4 rfl (lv_at hl 1 rfl) ?_
  refine rdV (As := [.int a0]) (rest := []) X mv_X6_152 (c_X1_hasWaker F.2.1 D K t no un a0 _ h) hF ⟨rfl, rfl, Nat.le_of_ble_eq_true rfl, Nat.le_of_ble_eq_true rfl⟩ (stW hT hH) hH.1 [3, 4, 5, 6, 7, 8, 9, 10] rfl 3 rfl rfl hl.1 rfl rfl (Nat.le_of_ble_eq_true rfl) dX6_learn_5 (fun r1 h => ?_)
  refine v_if_eq (tgt := 20) X dX6_learn_8 (by decide) (fun c7 => ?_) (fun c7 => ?_)
  · have h := h.1 c7
    refine v_ldc X kc_X6_62 dX6_learn_20 ?_
    exact v_wiret X hF (un, ua) hH h dX6_learn_22
  · have h := h.2 c7
    refine v_iload_n X dX6_learn_11 rfl (lv_at hl 2 rfl) ?_
    refine v_iconst (v := (0 : Int32)) X dX6_learn_12 (by decide) ?_
    refine v_iconst (v := (5 : Int32)) X dX6_learn_13 (by decide) ?_
    refine rdS (As := [.int a1, .int (0 : Int32), .int (5 : Int32)]) (rest := []) X ms_X6_58 (c_X6_isWithin F.2.1 D K t a1 (0 : Int32) (5 : Int32) _ h) hF ⟨rfl, rfl, Nat.le_of_ble_eq_true rfl, Nat.le_of_ble_eq_true rfl⟩ (stW hT hH) hH.1 [] rfl hl.1 rfl rfl (Nat.le_of_ble_eq_true rfl) dX6_learn_14 (fun r2 h => ?_)
    refine v_if_ne (tgt := 23) X dX6_learn_17 (by decide) (fun c6 => ?_) (fun c6 => ?_)
    · have h := h.2 c6
      refine v_aload_n X dX6_learn_23 rfl (lv_at hl 0 rfl) ?_
      refine v_get (v := .ref (no 0)) X hH.1 0 rfl fk_X6_22 rfl dX6_learn_24 ?_
      refine v_get (v := .ref (no 5)) X hH.1 3 rfl fk_X6_167 rfl dX6_learn_27 ?_
      refine v_iload_n X dX6_learn_30 rfl (lv_at hl 1 rfl) ?_
      have hin := h.1
      have h := h.2
      refine v_iald (f := un.2.2.2.2.1) X hH.1 8 0 rfl rfl hin dX6_learn_31 ?_
      refine v_topi (fun x3 ex3 => ?_)
      have h := h x3 ex3
      refine v_istore_n (lv' := [(3, .int x3), (0, .ref (x 0)), (1, .int a0), (2, .int a1)]) X dX6_learn_32 rfl hl (by decide) rfl (fun ls hl => ?_)
      refine v_aload_n X dX6_learn_33 rfl (lv_at hl 1 rfl) ?_
      refine v_get (v := .ref (ac 0)) X hH.1 0 rfl fk_X6_39 rfl dX6_learn_34 ?_
      refine v_aload_n X dX6_learn_37 rfl (lv_at hl 1 rfl) ?_
      refine v_get (v := .ref (no 0)) X hH.1 0 rfl fk_X6_22 rfl dX6_learn_38 ?_
      refine wrVV (As := [.ref (no 0)]) (rest := []) (wr := (CX6 K x no tr tp ac se ak ro im ux)) X mv_X6_142 (c_X0_keep F.2.1 D K t ac no ua un _ h) hF ⟨rfl, rfl, Nat.le_of_ble_eq_true rfl, Nat.le_of_ble_eq_true rfl⟩ hT hA hH [11, 12, 3, 4, 5, 6, 7, 8, 9, 10] [0, 1, 2] ⟨rfl, rfl, rfl, rfl, by decide⟩ 11 rfl rfl hl.1 rfl rfl (Nat.le_of_ble_eq_true rfl) dX6_learn_41 (fun u5 H locs h hH => ?_)
      have hH : HH F D A (CX6 K x no tr tp ac se ak ro im ux ++ CX0 K ac u5 ++ CX1 K no un) H locs := hH
      refine v_aload_n X dX6_learn_44 rfl (lv_at hl 1 rfl) ?_
      refine v_get (v := .ref (no 0)) X hH.1 0 rfl fk_X6_22 rfl dX6_learn_45 ?_
      refine v_get (v := .ref (no 5)) X hH.1 5 rfl fk_X6_167 rfl dX6_learn_48 ?_
      refine v_iload_n X dX6_learn_51 rfl (lv_at hl 2 rfl) ?_
      refine v_iload_n X dX6_learn_52 rfl (lv_at hl 3 rfl) ?_
      have hin := h.1
      have h := h.2
      refine v_iast (f := un.2.2.2.2.1) X hH 10 0 rfl rfl hin dX6_learn_53 (fun H locs hH => ?_)
      have hH : HH F D A (CX6 K x no tr tp ac se ak ro im ux ++ CX0 K ac u5 ++ CX1 K no (un.1, un.2.1, un.2.2.1, un.2.2.2.1, (upd un.2.2.2.2.1 a0.toNatClampNeg a1), un.2.2.2.2.2.1, un.2.2.2.2.2.2.1, un.2.2.2.2.2.2.2.1, un.2.2.2.2.2.2.2.2.1, un.2.2.2.2.2.2.2.2.2.1, un.2.2.2.2.2.2.2.2.2.2.1, un.2.2.2.2.2.2.2.2.2.2.2)) H locs := hH
      refine v_iload_n X dX6_learn_54 rfl (lv_at hl 0 rfl) ?_
      exact v_wiret X hF ((un.1, un.2.1, un.2.2.1, un.2.2.2.1, (upd un.2.2.2.2.1 a0.toNatClampNeg a1), un.2.2.2.2.2.1, un.2.2.2.2.2.2.1, un.2.2.2.2.2.2.2.1, un.2.2.2.2.2.2.2.2.1, un.2.2.2.2.2.2.2.2.2.1, un.2.2.2.2.2.2.2.2.2.2.1, un.2.2.2.2.2.2.2.2.2.2.2), u5) (hH.perm [0, 1, 2, 5, 6, 7, 8, 9, 10, 11, 12, 3, 4] rfl rfl) h dX6_learn_55
    · have h := h.1 c6
      refine v_ldc X kc_X6_62 dX6_learn_20 ?_
      exact v_wiret X hF (un, ua) hH h dX6_learn_22
def w_X6_undo (ux : BX6) (un : BX1) (ua : BX0) (post : Int32 → BX1 → BX0 → Prop) : Prop := w_X0_takeBack ua un (fun r1 u2 u3 => (r1 = 0 → post (-1000002 : Int32) u3 u2) ∧ (¬ r1 = 0 → post u2.2.2 u3 u2))
set_option maxHeartbeats 4000000 in
set_option maxRecDepth 100000 in
theorem c_X6_undo (l : Launch) (D : va_G) (K : Nat → ClassId) (t : Nat → Nat) (x no tr tp ac se ak : Nat → Nat) (ro im : Nat → Nat → Nat) (ux : BX6) (un : BX1) (ua : BX0) (post : Int32 → BX1 → BX0 → Prop) (h : w_X6_undo ux un ua post) : WrI l yX6_undo cX6_undo 1 (some .int) ({ frames := 2, cells := 0, slots := 0, locals := 82 } : Room) D (TY K) t (CX6 K x no tr tp ac se ak ro im ux ++ CX1 K no un ++ CX0 K ac ua) [.ref (x 0)] (fun z : BX1 × BX0 => CX6 K x no tr tp ac se ak ro im ux ++ CX1 K no z.1 ++ CX0 K ac z.2) (fun (r : Int32) (z : BX1 × BX0) => post r z.1 z.2) := by
  refine WrI.mk rfl (Nat.le_of_ble_eq_true rfl) ?_
  intro F ls A _ hF X hH hA hl hT
  obtain ⟨H, hH0⟩ : ∃ z : Heap, z = (fxS F).heap := ⟨_, rfl⟩
  obtain ⟨locs, hL0⟩ : ∃ z : List Loc, z = [] := ⟨_, rfl⟩
  have hH : HH F D A (CX6 K x no tr tp ac se ak ro im ux ++ CX1 K no un ++ CX0 K ac ua) H locs := by rw [hH0, hL0]; exact hH
  suffices goal : V F (WQI F D (TY K) A (fun z : BX1 × BX0 => CX6 K x no tr tp ac se ak ro im ux ++ CX1 K no z.1 ++ CX0 K ac z.2) (fun (r : Int32) (z : BX1 × BX0) => post r z.1 z.2)) H locs 0 ls [] by rw [hH0, hL0] at goal; exact goal
  clear hH0 hL0
  have X : Cx F cX6_undo 1 RX6 D (TY K) := X
  have hl : lv_has ls 1 [(0, .ref (x 0))] := hl
  unfold w_X6_undo at h
  refine v_aload_n X dX6_undo_0 rfl (lv_at hl 0 rfl) ?_
  refine v_get (v := .ref (ac 0)) X hH.1 0 rfl fk_X6_39 rfl dX6_undo_1 ?_
  refine v_aload_n X dX6_undo_4 rfl (lv_at hl 0 rfl) ?_
  refine v_get (v := .ref (no 0)) X hH.1 0 rfl fk_X6_22 rfl dX6_undo_5 ?_
  refine wrVI (As := [.ref (no 0)]) (rest := []) (wr := (CX6 K x no tr tp ac se ak ro im ux)) X mv_X6_170 (c_X0_takeBack F.2.1 D K t ac no ua un _ h) hF ⟨rfl, rfl, Nat.le_of_ble_eq_true rfl, Nat.le_of_ble_eq_true rfl⟩ hT hA hH [11, 12, 3, 4, 5, 6, 7, 8, 9, 10] [0, 1, 2] ⟨rfl, rfl, rfl, rfl, by decide⟩ 11 rfl rfl hl.1 rfl rfl (Nat.le_of_ble_eq_true rfl) dX6_undo_8 (fun r1 u4 H locs h hH => ?_)
  obtain ⟨u2, u3⟩ := u4
  have hH : HH F D A (CX6 K x no tr tp ac se ak ro im ux ++ CX0 K ac u2 ++ CX1 K no u3) H locs := hH
  refine v_if_eq (tgt := 24) X dX6_undo_11 (by decide) (fun c5 => ?_) (fun c5 => ?_)
  · have h := h.1 c5
    refine v_ldc X kc_X6_138 dX6_undo_24 ?_
    exact v_wiret X hF (u3, u2) (hH.perm [0, 1, 2, 5, 6, 7, 8, 9, 10, 11, 12, 3, 4] rfl rfl) h dX6_undo_26
  · have h := h.2 c5
    refine v_aload_n X dX6_undo_14 rfl (lv_at hl 0 rfl) ?_
    refine v_get (v := .ref (ac 0)) X hH.1 0 rfl fk_X6_39 rfl dX6_undo_15 ?_
    refine v_get (v := .int u2.2.2) X hH.1 3 rfl fk_X6_174 rfl dX6_undo_18 ?_
    refine v_goto (tgt := 26) X dX6_undo_21 (by decide) ?_
    exact v_wiret X hF (u3, u2) (hH.perm [0, 1, 2, 5, 6, 7, 8, 9, 10, 11, 12, 3, 4] rfl rfl) h dX6_undo_26
def w_X6_client (ux : BX6) (un : BX1) (a0 : Int32) (a1 : Int32) (post : Int32 → Prop) : Prop := w_X1_hasClient un a0 (fun r1 => (r1 = 0 → post (-1000001 : Int32)) ∧ (¬ r1 = 0 → (a1 = (0 : Int32) → vp_in a0 5 ∧ (post (un.1 a0.toNatClampNeg))) ∧ (¬ a1 = (0 : Int32) → (a1 = (1 : Int32) → vp_in a0 5 ∧ (post (un.2.1 a0.toNatClampNeg))) ∧ (¬ a1 = (1 : Int32) → (a1 = (2 : Int32) → w_X1_resting un (fun r5 => post ((r5 >>> (a0 &&& 31)) &&& (1 : Int32)))) ∧ (¬ a1 = (2 : Int32) → (a1 = (3 : Int32) → w_X1_hiredBy un a0 (fun r7 => post r7)) ∧ (¬ a1 = (3 : Int32) → (a1 = (4 : Int32) → w_X1_lighterBy un a0 (15 : Int32) (fun r9 => post r9)) ∧ (¬ a1 = (4 : Int32) → post (-1000001 : Int32))))))))
set_option maxHeartbeats 4000000 in
set_option maxRecDepth 100000 in
theorem c_X6_client (l : Launch) (D : va_G) (K : Nat → ClassId) (t : Nat → Nat) (x no tr tp ac se ak : Nat → Nat) (ro im : Nat → Nat → Nat) (ux : BX6) (un : BX1) (a0 : Int32) (a1 : Int32) (post : Int32 → Prop) (h : w_X6_client ux un a0 a1 post) : RdM l yX6_client cX6_client 3 (some .int) ({ frames := 4, cells := 0, slots := 0, locals := 113 } : Room) D (TY K) t (CX6 K x no tr tp ac se ak ro im ux ++ CX1 K no un) [.ref (x 0), .int a0, .int a1] post := by
  refine RdM.mk rfl (Nat.le_of_ble_eq_true rfl) ?_
  intro F ls _ hF X hP hl hT
  have X : Cx F cX6_client 3 RX6 D (TY K) := X
  have hl : lv_has ls 3 [(0, .ref (x 0)), (1, .int a0), (2, .int a1)] := hl
  unfold w_X6_client at h
  refine v_aload_n X dX6_client_0 rfl (lv_at hl 0 rfl) ?_
  refine v_get (v := .ref (no 0)) X hP 0 rfl fk_X6_22 rfl dX6_client_1 ?_
  refine v_iload_n X dX6_client_4 rfl (lv_at hl 1 rfl) ?_
  refine rdV (As := [.int a0]) (rest := []) X mv_X6_155 (c_X1_hasClient F.2.1 D K t no un a0 _ h) hF ⟨rfl, rfl, Nat.le_of_ble_eq_true rfl, Nat.le_of_ble_eq_true rfl⟩ hT hP [3, 4, 5, 6, 7, 8, 9, 10] rfl 3 rfl rfl hl.1 rfl rfl (Nat.le_of_ble_eq_true rfl) dX6_client_5 (fun r1 h => ?_)
  refine v_if_ne (tgt := 14) X dX6_client_8 (by decide) (fun c10 => ?_) (fun c10 => ?_)
  · have h := h.2 c10
    refine v_iload_n X dX6_client_14 rfl (lv_at hl 2 rfl) ?_
    by_cases c2 : a1 = (0 : Int32)
    · have h := h.1 c2
      refine v_tableIn (tgt := 48) (off := 33) X dX6_client_15 (by rw [c2]; decide) (by rw [c2]; decide) (by rw [c2]; rfl) (by decide) ?_
      refine v_aload_n X dX6_client_48 rfl (lv_at hl 0 rfl) ?_
      refine v_get (v := .ref (no 0)) X hP 0 rfl fk_X6_22 rfl dX6_client_49 ?_
      refine v_get (v := .ref (no 1)) X hP 3 rfl fk_X6_164 rfl dX6_client_52 ?_
      refine v_iload_n X dX6_client_55 rfl (lv_at hl 1 rfl) ?_
      have hin := h.1
      have h := h.2
      refine v_iald (f := un.1) X hP 4 0 rfl rfl hin dX6_client_56 ?_
      exact v_riret X hF h dX6_client_57
    · have h := h.2 c2
      by_cases c3 : a1 = (1 : Int32)
      · have h := h.1 c3
        refine v_tableIn (tgt := 58) (off := 43) X dX6_client_15 (by rw [c3]; decide) (by rw [c3]; decide) (by rw [c3]; rfl) (by decide) ?_
        refine v_aload_n X dX6_client_58 rfl (lv_at hl 0 rfl) ?_
        refine v_get (v := .ref (no 0)) X hP 0 rfl fk_X6_22 rfl dX6_client_59 ?_
        refine v_get (v := .ref (no 2)) X hP 3 rfl fk_X6_177 rfl dX6_client_62 ?_
        refine v_iload_n X dX6_client_65 rfl (lv_at hl 1 rfl) ?_
        have hin := h.1
        have h := h.2
        refine v_iald (f := un.2.1) X hP 5 0 rfl rfl hin dX6_client_66 ?_
        exact v_riret X hF h dX6_client_67
      · have h := h.2 c3
        by_cases c4 : a1 = (2 : Int32)
        · have h := h.1 c4
          refine v_tableIn (tgt := 68) (off := 53) X dX6_client_15 (by rw [c4]; decide) (by rw [c4]; decide) (by rw [c4]; rfl) (by decide) ?_
          refine v_aload_n X dX6_client_68 rfl (lv_at hl 0 rfl) ?_
          refine v_get (v := .ref (no 0)) X hP 0 rfl fk_X6_22 rfl dX6_client_69 ?_
          refine rdV (As := []) (rest := []) X mv_X6_149 (c_X1_resting F.2.1 D K t no un _ h) hF ⟨rfl, rfl, Nat.le_of_ble_eq_true rfl, Nat.le_of_ble_eq_true rfl⟩ hT hP [3, 4, 5, 6, 7, 8, 9, 10] rfl 3 rfl rfl hl.1 rfl rfl (Nat.le_of_ble_eq_true rfl) dX6_client_72 (fun r5 h => ?_)
          refine v_iload_n X dX6_client_75 rfl (lv_at hl 1 rfl) ?_
          refine v_ishr X dX6_client_76 ?_
          refine v_iconst (v := (1 : Int32)) X dX6_client_77 (by decide) ?_
          refine v_iand X dX6_client_78 ?_
          exact v_riret X hF h dX6_client_79
        · have h := h.2 c4
          by_cases c6 : a1 = (3 : Int32)
          · have h := h.1 c6
            refine v_tableIn (tgt := 80) (off := 65) X dX6_client_15 (by rw [c6]; decide) (by rw [c6]; decide) (by rw [c6]; rfl) (by decide) ?_
            refine v_aload_n X dX6_client_80 rfl (lv_at hl 0 rfl) ?_
            refine v_get (v := .ref (no 0)) X hP 0 rfl fk_X6_22 rfl dX6_client_81 ?_
            refine v_iload_n X dX6_client_84 rfl (lv_at hl 1 rfl) ?_
            refine rdV (As := [.int a0]) (rest := []) X mv_X6_180 (c_X1_hiredBy F.2.1 D K t no un a0 _ h) hF ⟨rfl, rfl, Nat.le_of_ble_eq_true rfl, Nat.le_of_ble_eq_true rfl⟩ hT hP [3, 4, 5, 6, 7, 8, 9, 10] rfl 3 rfl rfl hl.1 rfl rfl (Nat.le_of_ble_eq_true rfl) dX6_client_85 (fun r7 h => ?_)
            exact v_riret X hF h dX6_client_88
          · have h := h.2 c6
            by_cases c8 : a1 = (4 : Int32)
            · have h := h.1 c8
              refine v_tableIn (tgt := 89) (off := 74) X dX6_client_15 (by rw [c8]; decide) (by rw [c8]; decide) (by rw [c8]; rfl) (by decide) ?_
              refine v_aload_n X dX6_client_89 rfl (lv_at hl 0 rfl) ?_
              refine v_get (v := .ref (no 0)) X hP 0 rfl fk_X6_22 rfl dX6_client_90 ?_
              refine v_iload_n X dX6_client_93 rfl (lv_at hl 1 rfl) ?_
              refine v_bipush (v := (15 : Int32)) X dX6_client_94 (by decide) ?_
              refine rdV (As := [.int a0, .int (15 : Int32)]) (rest := []) X mv_X6_183 (c_X1_lighterBy F.2.1 D K t no un a0 (15 : Int32) _ h) hF ⟨rfl, rfl, Nat.le_of_ble_eq_true rfl, Nat.le_of_ble_eq_true rfl⟩ hT hP [3, 4, 5, 6, 7, 8, 9, 10] rfl 3 rfl rfl hl.1 rfl rfl (Nat.le_of_ble_eq_true rfl) dX6_client_96 (fun r9 h => ?_)
              exact v_riret X hF h dX6_client_99
            · have h := h.2 c8
              refine v_tableOut (tgt := 100) X dX6_client_15 (by have e0 : a1.toInt ≠ 0 := fun q => c2 (Int32.toInt_inj.mp (by rw [q]; rfl)); have e1 : a1.toInt ≠ 1 := fun q => c3 (Int32.toInt_inj.mp (by rw [q]; rfl)); have e2 : a1.toInt ≠ 2 := fun q => c4 (Int32.toInt_inj.mp (by rw [q]; rfl)); have e3 : a1.toInt ≠ 3 := fun q => c6 (Int32.toInt_inj.mp (by rw [q]; rfl)); have e4 : a1.toInt ≠ 4 := fun q => c8 (Int32.toInt_inj.mp (by rw [q]; rfl)); omega) (by decide) ?_
              refine v_ldc X kc_X6_62 dX6_client_100 ?_
              exact v_riret X hF h dX6_client_102
  · have h := h.1 c10
    refine v_ldc X kc_X6_62 dX6_client_11 ?_
    exact v_riret X hF h dX6_client_13
def w_X6_waker (ux : BX6) (un : BX1) (a0 : Int32) (a1 : Int32) (post : Int32 → Prop) : Prop := w_X1_hasWaker un a0 (fun r1 => (r1 = 0 → post (-1000001 : Int32)) ∧ (¬ r1 = 0 → (a1 = (0 : Int32) → vp_in a0 4 ∧ (post (un.2.2.2.1 a0.toNatClampNeg))) ∧ (¬ a1 = (0 : Int32) → (a1 = (1 : Int32) → vp_in a0 4 ∧ (post (un.2.2.2.2.1 a0.toNatClampNeg))) ∧ (¬ a1 = (1 : Int32) → (a1 = (2 : Int32) → vp_in a0 4 ∧ (post (un.2.2.2.2.2.1 a0.toNatClampNeg))) ∧ (¬ a1 = (2 : Int32) → (a1 = (3 : Int32) → vp_in a0 4 ∧ (w_X1_lying un a0 (un.2.2.2.2.2.1 a0.toNatClampNeg) un.2.2.2.2.2.2.2.2.2.2.2 (fun r6 => post r6))) ∧ (¬ a1 = (3 : Int32) → (a1 = (4 : Int32) → vp_in a0 4 ∧ (post (un.2.2.2.2.2.2.1 a0.toNatClampNeg))) ∧ (¬ a1 = (4 : Int32) → post (-1000001 : Int32))))))))
set_option maxHeartbeats 4000000 in
set_option maxRecDepth 100000 in
theorem c_X6_waker (l : Launch) (D : va_G) (K : Nat → ClassId) (t : Nat → Nat) (x no tr tp ac se ak : Nat → Nat) (ro im : Nat → Nat → Nat) (ux : BX6) (un : BX1) (a0 : Int32) (a1 : Int32) (post : Int32 → Prop) (h : w_X6_waker ux un a0 a1 post) : RdM l yX6_waker cX6_waker 3 (some .int) ({ frames := 2, cells := 0, slots := 0, locals := 64 } : Room) D (TY K) t (CX6 K x no tr tp ac se ak ro im ux ++ CX1 K no un) [.ref (x 0), .int a0, .int a1] post := by
  refine RdM.mk rfl (Nat.le_of_ble_eq_true rfl) ?_
  intro F ls _ hF X hP hl hT
  have X : Cx F cX6_waker 3 RX6 D (TY K) := X
  have hl : lv_has ls 3 [(0, .ref (x 0)), (1, .int a0), (2, .int a1)] := hl
  unfold w_X6_waker at h
  refine v_aload_n X dX6_waker_0 rfl (lv_at hl 0 rfl) ?_
  refine v_get (v := .ref (no 0)) X hP 0 rfl fk_X6_22 rfl dX6_waker_1 ?_
  refine v_iload_n X dX6_waker_4 rfl (lv_at hl 1 rfl) ?_
  refine rdV (As := [.int a0]) (rest := []) X mv_X6_152 (c_X1_hasWaker F.2.1 D K t no un a0 _ h) hF ⟨rfl, rfl, Nat.le_of_ble_eq_true rfl, Nat.le_of_ble_eq_true rfl⟩ hT hP [3, 4, 5, 6, 7, 8, 9, 10] rfl 3 rfl rfl hl.1 rfl rfl (Nat.le_of_ble_eq_true rfl) dX6_waker_5 (fun r1 h => ?_)
  refine v_if_ne (tgt := 14) X dX6_waker_8 (by decide) (fun c8 => ?_) (fun c8 => ?_)
  · have h := h.2 c8
    refine v_iload_n X dX6_waker_14 rfl (lv_at hl 2 rfl) ?_
    by_cases c2 : a1 = (0 : Int32)
    · have h := h.1 c2
      refine v_tableIn (tgt := 48) (off := 33) X dX6_waker_15 (by rw [c2]; decide) (by rw [c2]; decide) (by rw [c2]; rfl) (by decide) ?_
      refine v_aload_n X dX6_waker_48 rfl (lv_at hl 0 rfl) ?_
      refine v_get (v := .ref (no 0)) X hP 0 rfl fk_X6_22 rfl dX6_waker_49 ?_
      refine v_get (v := .ref (no 4)) X hP 3 rfl fk_X6_186 rfl dX6_waker_52 ?_
      refine v_iload_n X dX6_waker_55 rfl (lv_at hl 1 rfl) ?_
      have hin := h.1
      have h := h.2
      refine v_iald (f := un.2.2.2.1) X hP 7 0 rfl rfl hin dX6_waker_56 ?_
      exact v_riret X hF h dX6_waker_57
    · have h := h.2 c2
      by_cases c3 : a1 = (1 : Int32)
      · have h := h.1 c3
        refine v_tableIn (tgt := 58) (off := 43) X dX6_waker_15 (by rw [c3]; decide) (by rw [c3]; decide) (by rw [c3]; rfl) (by decide) ?_
        refine v_aload_n X dX6_waker_58 rfl (lv_at hl 0 rfl) ?_
        refine v_get (v := .ref (no 0)) X hP 0 rfl fk_X6_22 rfl dX6_waker_59 ?_
        refine v_get (v := .ref (no 5)) X hP 3 rfl fk_X6_167 rfl dX6_waker_62 ?_
        refine v_iload_n X dX6_waker_65 rfl (lv_at hl 1 rfl) ?_
        have hin := h.1
        have h := h.2
        refine v_iald (f := un.2.2.2.2.1) X hP 8 0 rfl rfl hin dX6_waker_66 ?_
        exact v_riret X hF h dX6_waker_67
      · have h := h.2 c3
        by_cases c4 : a1 = (2 : Int32)
        · have h := h.1 c4
          refine v_tableIn (tgt := 68) (off := 53) X dX6_waker_15 (by rw [c4]; decide) (by rw [c4]; decide) (by rw [c4]; rfl) (by decide) ?_
          refine v_aload_n X dX6_waker_68 rfl (lv_at hl 0 rfl) ?_
          refine v_get (v := .ref (no 0)) X hP 0 rfl fk_X6_22 rfl dX6_waker_69 ?_
          refine v_get (v := .ref (no 6)) X hP 3 rfl fk_X6_158 rfl dX6_waker_72 ?_
          refine v_iload_n X dX6_waker_75 rfl (lv_at hl 1 rfl) ?_
          have hin := h.1
          have h := h.2
          refine v_iald (f := un.2.2.2.2.2.1) X hP 9 0 rfl rfl hin dX6_waker_76 ?_
          exact v_riret X hF h dX6_waker_77
        · have h := h.2 c4
          by_cases c5 : a1 = (3 : Int32)
          · have h := h.1 c5
            refine v_tableIn (tgt := 78) (off := 63) X dX6_waker_15 (by rw [c5]; decide) (by rw [c5]; decide) (by rw [c5]; rfl) (by decide) ?_
            refine v_aload_n X dX6_waker_78 rfl (lv_at hl 0 rfl) ?_
            refine v_get (v := .ref (no 0)) X hP 0 rfl fk_X6_22 rfl dX6_waker_79 ?_
            refine v_iload_n X dX6_waker_82 rfl (lv_at hl 1 rfl) ?_
            refine v_aload_n X dX6_waker_83 rfl (lv_at hl 0 rfl) ?_
            refine v_get (v := .ref (no 0)) X hP 0 rfl fk_X6_22 rfl dX6_waker_84 ?_
            refine v_get (v := .ref (no 6)) X hP 3 rfl fk_X6_158 rfl dX6_waker_87 ?_
            refine v_iload_n X dX6_waker_90 rfl (lv_at hl 1 rfl) ?_
            have hin := h.1
            have h := h.2
            refine v_iald (f := un.2.2.2.2.2.1) X hP 9 0 rfl rfl hin dX6_waker_91 ?_
            refine v_aload_n X dX6_waker_92 rfl (lv_at hl 0 rfl) ?_
            refine v_get (v := .ref (no 0)) X hP 0 rfl fk_X6_22 rfl dX6_waker_93 ?_
            refine v_get (v := .int un.2.2.2.2.2.2.2.2.2.2.2) X hP 3 rfl fk_X6_139 rfl dX6_waker_96 ?_
            refine rdV (As := [.int a0, .int (un.2.2.2.2.2.1 a0.toNatClampNeg), .int un.2.2.2.2.2.2.2.2.2.2.2]) (rest := []) X mv_X6_189 (c_X1_lying F.2.1 D K t no un a0 (un.2.2.2.2.2.1 a0.toNatClampNeg) un.2.2.2.2.2.2.2.2.2.2.2 _ h) hF ⟨rfl, rfl, Nat.le_of_ble_eq_true rfl, Nat.le_of_ble_eq_true rfl⟩ hT hP [3, 4, 5, 6, 7, 8, 9, 10] rfl 3 rfl rfl hl.1 rfl rfl (Nat.le_of_ble_eq_true rfl) dX6_waker_99 (fun r6 h => ?_)
            exact v_riret X hF h dX6_waker_102
          · have h := h.2 c5
            by_cases c7 : a1 = (4 : Int32)
            · have h := h.1 c7
              refine v_tableIn (tgt := 103) (off := 88) X dX6_waker_15 (by rw [c7]; decide) (by rw [c7]; decide) (by rw [c7]; rfl) (by decide) ?_
              refine v_aload_n X dX6_waker_103 rfl (lv_at hl 0 rfl) ?_
              refine v_get (v := .ref (no 0)) X hP 0 rfl fk_X6_22 rfl dX6_waker_104 ?_
              refine v_get (v := .ref (no 7)) X hP 3 rfl fk_X6_193 rfl dX6_waker_107 ?_
              refine v_iload_n X dX6_waker_110 rfl (lv_at hl 1 rfl) ?_
              have hin := h.1
              have h := h.2
              refine v_iald (f := un.2.2.2.2.2.2.1) X hP 10 0 rfl rfl hin dX6_waker_111 ?_
              exact v_riret X hF h dX6_waker_112
            · have h := h.2 c7
              refine v_tableOut (tgt := 113) X dX6_waker_15 (by have e0 : a1.toInt ≠ 0 := fun q => c2 (Int32.toInt_inj.mp (by rw [q]; rfl)); have e1 : a1.toInt ≠ 1 := fun q => c3 (Int32.toInt_inj.mp (by rw [q]; rfl)); have e2 : a1.toInt ≠ 2 := fun q => c4 (Int32.toInt_inj.mp (by rw [q]; rfl)); have e3 : a1.toInt ≠ 3 := fun q => c5 (Int32.toInt_inj.mp (by rw [q]; rfl)); have e4 : a1.toInt ≠ 4 := fun q => c7 (Int32.toInt_inj.mp (by rw [q]; rfl)); omega) (by decide) ?_
              refine v_ldc X kc_X6_62 dX6_waker_113 ?_
              exact v_riret X hF h dX6_waker_115
  · have h := h.1 c8
    refine v_ldc X kc_X6_62 dX6_waker_11 ?_
    exact v_riret X hF h dX6_waker_13
def wL_X6_foretell_13 (y5 : Int32) (b6 : BX6) (b7 : BX1) (post : BX1 → Prop) (Kx13 : BX1 → Prop) : Nat → Int32 → BX1 → Prop
  | 0, _, _ => False
  | n13 + 1, x3, u4 => (y5 ≤ x3 → Kx13 u4) ∧ (¬ y5 ≤ x3 → w_X1_passNight u4 (15 : Int32) (fun u11 => wL_X6_foretell_13 y5 b6 b7 post Kx13 n13 (x3 + (1 : Int32)) u11))
def w_X6_foretell (ux : BX6) (un : BX1) (ut : BX1) (a0 : Int32) (post : BX1 → Prop) : Prop := w_X1_copyFrom ut un (fun u2 => ∃ n13, wL_X6_foretell_13 a0 ux un post (fun (u8 : BX1) => post u8) n13 (0 : Int32) u2)
set_option maxHeartbeats 4000000 in
set_option maxRecDepth 100000 in
theorem c_X6_foretell (l : Launch) (D : va_G) (K : Nat → ClassId) (t : Nat → Nat) (x no tr tp ac se ak : Nat → Nat) (ro im : Nat → Nat → Nat) (ux : BX6) (un : BX1) (ut : BX1) (a0 : Int32) (post : BX1 → Prop) (h : w_X6_foretell ux un ut a0 post) : WrV l yX6_foretell cX6_foretell 3 ({ frames := 5, cells := 0, slots := 0, locals := 135 } : Room) D (TY K) t (CX6 K x no tr tp ac se ak ro im ux ++ CX1 K no un ++ CX1 K tr ut) [.ref (x 0), .int a0] (fun z : BX1 => CX6 K x no tr tp ac se ak ro im ux ++ CX1 K no un ++ CX1 K tr z) (fun z : BX1 => post z) := by
  refine WrV.mk rfl (Nat.le_of_ble_eq_true rfl) ?_
  intro F ls A _ hF X hH hA hl hT
  obtain ⟨H, hH0⟩ : ∃ z : Heap, z = (fxS F).heap := ⟨_, rfl⟩
  obtain ⟨locs, hL0⟩ : ∃ z : List Loc, z = [] := ⟨_, rfl⟩
  have hH : HH F D A (CX6 K x no tr tp ac se ak ro im ux ++ CX1 K no un ++ CX1 K tr ut) H locs := by rw [hH0, hL0]; exact hH
  suffices goal : V F (WQV F D (TY K) A (fun z : BX1 => CX6 K x no tr tp ac se ak ro im ux ++ CX1 K no un ++ CX1 K tr z) (fun z : BX1 => post z)) H locs 0 ls [] by rw [hH0, hL0] at goal; exact goal
  clear hH0 hL0
  have X : Cx F cX6_foretell 3 RX6 D (TY K) := X
  have hl : lv_has ls 3 [(0, .ref (x 0)), (1, .int a0)] := hl
  unfold w_X6_foretell at h
  refine v_aload_n X dX6_foretell_0 rfl (lv_at hl 0 rfl) ?_
  refine v_get (v := .ref (tr 0)) X hH.1 0 rfl fk_X6_26 rfl dX6_foretell_1 ?_
  refine v_aload_n X dX6_foretell_4 rfl (lv_at hl 0 rfl) ?_
  refine v_get (v := .ref (no 0)) X hH.1 0 rfl fk_X6_22 rfl dX6_foretell_5 ?_
  refine wrVV (As := [.ref (no 0)]) (rest := []) (wr := (CX6 K x no tr tp ac se ak ro im ux)) X mv_X6_126 (c_X1_copyFrom F.2.1 D K t tr no ut un _ h) hF ⟨rfl, rfl, Nat.le_of_ble_eq_true rfl, Nat.le_of_ble_eq_true rfl⟩ hT hA hH [11, 12, 13, 14, 15, 16, 17, 18, 3, 4, 5, 6, 7, 8, 9, 10] [0, 1, 2] ⟨rfl, rfl, rfl, rfl, by decide⟩ 11 rfl rfl hl.1 rfl rfl (Nat.le_of_ble_eq_true rfl) dX6_foretell_8 (fun u2 H locs h hH => ?_)
  have hH : HH F D A (CX6 K x no tr tp ac se ak ro im ux ++ CX1 K tr u2 ++ CX1 K no un) H locs := hH
  refine v_iconst (v := (0 : Int32)) X dX6_foretell_11 (by decide) ?_
  refine v_istore_n (lv' := [(2, .int (0 : Int32)), (0, .ref (x 0)), (1, .int a0)]) X dX6_foretell_12 rfl hl (by decide) rfl (fun ls hl => ?_)
  obtain ⟨Kx13, hK13⟩ : ∃ f : BX1 → Prop, f = (fun (u8 : BX1) => post u8) := ⟨_, rfl⟩
  have kx9 : ∀ (u8 : BX1) (ls : Array Slot) (H : Heap) (locs : List Loc), (Kx13 u8) → lv_has ls 3 [] → HH F D A (CX6 K x no tr tp ac se ak ro im ux ++ CX1 K no un ++ CX1 K tr u8) H locs → V F (WQV F D (TY K) A (fun z : BX1 => CX6 K x no tr tp ac se ak ro im ux ++ CX1 K no un ++ CX1 K tr z) (fun z : BX1 => post z)) H locs 33 ls [] := by
    intro u8 ls H locs h hl hH
    have h : post u8 := by rw [hK13] at h; exact h
    exact v_wvret X hF u8 hH h dX6_foretell_33
  have lp13 : ∀ (n13 : Nat) (x3 : Int32) (u4 : BX1) (ls : Array Slot) (H : Heap) (locs : List Loc), wL_X6_foretell_13 a0 ux un post Kx13 n13 x3 u4 → lv_has ls 3 [(0, .ref (x 0)), (1, .int a0), (2, .int x3)] → HH F D A (CX6 K x no tr tp ac se ak ro im ux ++ CX1 K no un ++ CX1 K tr u4) H locs → V F (WQV F D (TY K) A (fun z : BX1 => CX6 K x no tr tp ac se ak ro im ux ++ CX1 K no un ++ CX1 K tr z) (fun z : BX1 => post z)) H locs 13 ls [] := by
    intro n13
    induction n13 with
    | zero => intro x3 u4 ls H locs h hl hH; exact h.elim
    | succ n13 ih13 =>
      intro x3 u4 ls H locs h hl hH
      refine v_iload_n X dX6_foretell_13 rfl (lv_at hl 2 rfl) ?_
      refine v_iload_n X dX6_foretell_14 rfl (lv_at hl 1 rfl) ?_
      refine v_icmp_ge (tgt := 33) X dX6_foretell_15 (by decide) (fun c12 => ?_) (fun c12 => ?_)
      · have h := h.1 c12
        exact kx9 u4 ls H locs h (lv_sub hl [] rfl) hH
      · have h := h.2 c12
        refine v_aload_n X dX6_foretell_18 rfl (lv_at hl 0 rfl) ?_
        refine v_get (v := .ref (tr 0)) X hH.1 0 rfl fk_X6_26 rfl dX6_foretell_19 ?_
        refine v_bipush (v := (15 : Int32)) X dX6_foretell_22 (by decide) ?_
        refine wrVV (As := [.int (15 : Int32)]) (rest := []) (wr := (CX6 K x no tr tp ac se ak ro im ux ++ CX1 K no un)) X mv_X6_145 (c_X1_passNight F.2.1 D K t tr u4 (15 : Int32) _ h) hF ⟨rfl, rfl, Nat.le_of_ble_eq_true rfl, Nat.le_of_ble_eq_true rfl⟩ hT hA hH [11, 12, 13, 14, 15, 16, 17, 18] [0, 1, 2, 3, 4, 5, 6, 7, 8, 9, 10] ⟨rfl, rfl, rfl, rfl, by decide⟩ 11 rfl rfl hl.1 rfl rfl (Nat.le_of_ble_eq_true rfl) dX6_foretell_24 (fun u11 H locs h hH => ?_)
        have hH : HH F D A (CX6 K x no tr tp ac se ak ro im ux ++ CX1 K no un ++ CX1 K tr u11) H locs := hH
        refine v_iinc (v := (x3 + (1 : Int32))) (lv' := [(2, .int (x3 + (1 : Int32))), (0, .ref (x 0)), (1, .int a0)]) X dX6_foretell_27 hl (k := 2) rfl rfl (by decide) rfl (fun ls hl => ?_)
        refine v_goto (tgt := 13) X dX6_foretell_30 (by decide) ?_
        exact ih13 (x3 + (1 : Int32)) u11 ls H locs h (lv_sub hl [1, 2, 0] rfl) hH
  obtain ⟨n13, h⟩ := h
  have h : wL_X6_foretell_13 a0 ux un post Kx13 n13 (0 : Int32) u2 := by rw [hK13]; exact h
  exact lp13 n13 (0 : Int32) u2 ls H locs h (lv_sub hl [1, 2, 0] rfl) (hH.perm [0, 1, 2, 11, 12, 13, 14, 15, 16, 17, 18, 3, 4, 5, 6, 7, 8, 9, 10] rfl rfl)
def w_X6_weight (ux : BX6) (un : BX1) (ut : BX1) (a0 : Int32) (a1 : Int32) (post : Int32 → BX1 → Prop) : Prop := w_X1_hasClient un a0 (fun r1 => (r1 = 0 → post (-1000001 : Int32) ut) ∧ (¬ r1 = 0 → w_X6_isWithin a1 (0 : Int32) (60 : Int32) (fun r2 => (r2 = 0 → post (-1000001 : Int32) ut) ∧ (¬ r2 = 0 → w_X6_foretell ux un ut a1 (fun u4 => vp_in a0 5 ∧ (post (u4.1 a0.toNatClampNeg) u4))))))
set_option maxHeartbeats 4000000 in
set_option maxRecDepth 100000 in
theorem c_X6_weight (l : Launch) (D : va_G) (K : Nat → ClassId) (t : Nat → Nat) (x no tr tp ac se ak : Nat → Nat) (ro im : Nat → Nat → Nat) (ux : BX6) (un : BX1) (ut : BX1) (a0 : Int32) (a1 : Int32) (post : Int32 → BX1 → Prop) (h : w_X6_weight ux un ut a0 a1 post) : WrI l yX6_weight cX6_weight 3 (some .int) ({ frames := 6, cells := 0, slots := 0, locals := 157 } : Room) D (TY K) t (CX6 K x no tr tp ac se ak ro im ux ++ CX1 K no un ++ CX1 K tr ut) [.ref (x 0), .int a0, .int a1] (fun z : BX1 => CX6 K x no tr tp ac se ak ro im ux ++ CX1 K no un ++ CX1 K tr z) (fun (r : Int32) (z : BX1) => post r z) := by
  refine WrI.mk rfl (Nat.le_of_ble_eq_true rfl) ?_
  intro F ls A _ hF X hH hA hl hT
  obtain ⟨H, hH0⟩ : ∃ z : Heap, z = (fxS F).heap := ⟨_, rfl⟩
  obtain ⟨locs, hL0⟩ : ∃ z : List Loc, z = [] := ⟨_, rfl⟩
  have hH : HH F D A (CX6 K x no tr tp ac se ak ro im ux ++ CX1 K no un ++ CX1 K tr ut) H locs := by rw [hH0, hL0]; exact hH
  suffices goal : V F (WQI F D (TY K) A (fun z : BX1 => CX6 K x no tr tp ac se ak ro im ux ++ CX1 K no un ++ CX1 K tr z) (fun (r : Int32) (z : BX1) => post r z)) H locs 0 ls [] by rw [hH0, hL0] at goal; exact goal
  clear hH0 hL0
  have X : Cx F cX6_weight 3 RX6 D (TY K) := X
  have hl : lv_has ls 3 [(0, .ref (x 0)), (1, .int a0), (2, .int a1)] := hl
  unfold w_X6_weight at h
  refine v_aload_n X dX6_weight_0 rfl (lv_at hl 0 rfl) ?_
  refine v_get (v := .ref (no 0)) X hH.1 0 rfl fk_X6_22 rfl dX6_weight_1 ?_
  refine v_iload_n X dX6_weight_4 rfl (lv_at hl 1 rfl) ?_
  refine rdV (As := [.int a0]) (rest := []) X mv_X6_155 (c_X1_hasClient F.2.1 D K t no un a0 _ h) hF ⟨rfl, rfl, Nat.le_of_ble_eq_true rfl, Nat.le_of_ble_eq_true rfl⟩ (stW hT hH) hH.1 [3, 4, 5, 6, 7, 8, 9, 10] rfl 3 rfl rfl hl.1 rfl rfl (Nat.le_of_ble_eq_true rfl) dX6_weight_5 (fun r1 h => ?_)
  refine v_if_eq (tgt := 21) X dX6_weight_8 (by decide) (fun c6 => ?_) (fun c6 => ?_)
  · have h := h.1 c6
    refine v_ldc X kc_X6_62 dX6_weight_21 ?_
    exact v_wiret X hF ut hH h dX6_weight_23
  · have h := h.2 c6
    refine v_iload_n X dX6_weight_11 rfl (lv_at hl 2 rfl) ?_
    refine v_iconst (v := (0 : Int32)) X dX6_weight_12 (by decide) ?_
    refine v_bipush (v := (60 : Int32)) X dX6_weight_13 (by decide) ?_
    refine rdS (As := [.int a1, .int (0 : Int32), .int (60 : Int32)]) (rest := []) X ms_X6_58 (c_X6_isWithin F.2.1 D K t a1 (0 : Int32) (60 : Int32) _ h) hF ⟨rfl, rfl, Nat.le_of_ble_eq_true rfl, Nat.le_of_ble_eq_true rfl⟩ (stW hT hH) hH.1 [] rfl hl.1 rfl rfl (Nat.le_of_ble_eq_true rfl) dX6_weight_15 (fun r2 h => ?_)
    refine v_if_ne (tgt := 24) X dX6_weight_18 (by decide) (fun c5 => ?_) (fun c5 => ?_)
    · have h := h.2 c5
      refine v_aload_n X dX6_weight_24 rfl (lv_at hl 0 rfl) ?_
      refine v_iload_n X dX6_weight_25 rfl (lv_at hl 2 rfl) ?_
      refine wrVV (As := [.int a1]) (rest := []) (wr := ([] : va_W)) X mv_X6_196 (c_X6_foretell F.2.1 D K t x no tr tp ac se ak ro im ux un ut a1 _ h) hF ⟨rfl, rfl, Nat.le_of_ble_eq_true rfl, Nat.le_of_ble_eq_true rfl⟩ hT hA hH [0, 1, 2, 3, 4, 5, 6, 7, 8, 9, 10, 11, 12, 13, 14, 15, 16, 17, 18] [] ⟨rfl, rfl, rfl, rfl, by decide⟩ 0 rfl rfl hl.1 rfl rfl (Nat.le_of_ble_eq_true rfl) dX6_weight_26 (fun u4 H locs h hH => ?_)
      have hH : HH F D A (CX6 K x no tr tp ac se ak ro im ux ++ CX1 K no un ++ CX1 K tr u4) H locs := hH
      refine v_aload_n X dX6_weight_29 rfl (lv_at hl 0 rfl) ?_
      refine v_get (v := .ref (tr 0)) X hH.1 0 rfl fk_X6_26 rfl dX6_weight_30 ?_
      refine v_get (v := .ref (tr 1)) X hH.1 11 rfl fk_X6_164 rfl dX6_weight_33 ?_
      refine v_iload_n X dX6_weight_36 rfl (lv_at hl 1 rfl) ?_
      have hin := h.1
      have h := h.2
      refine v_iald (f := u4.1) X hH.1 12 0 rfl rfl hin dX6_weight_37 ?_
      exact v_wiret X hF u4 hH h dX6_weight_38
    · have h := h.1 c5
      refine v_ldc X kc_X6_62 dX6_weight_21 ?_
      exact v_wiret X hF ut hH h dX6_weight_23
def w_X6_earned (ux : BX6) (un : BX1) (ut : BX1) (a0 : Int32) (a1 : Int32) (post : Int32 → BX1 → Prop) : Prop := w_X1_hasWaker un a0 (fun r1 => (r1 = 0 → post (-1000001 : Int32) ut) ∧ (¬ r1 = 0 → w_X6_isWithin a1 (0 : Int32) (60 : Int32) (fun r2 => (r2 = 0 → post (-1000001 : Int32) ut) ∧ (¬ r2 = 0 → w_X6_foretell ux un ut a1 (fun u4 => vp_in a0 4 ∧ (post (u4.2.2.2.2.2.2.1 a0.toNatClampNeg) u4))))))
set_option maxHeartbeats 4000000 in
set_option maxRecDepth 100000 in
theorem c_X6_earned (l : Launch) (D : va_G) (K : Nat → ClassId) (t : Nat → Nat) (x no tr tp ac se ak : Nat → Nat) (ro im : Nat → Nat → Nat) (ux : BX6) (un : BX1) (ut : BX1) (a0 : Int32) (a1 : Int32) (post : Int32 → BX1 → Prop) (h : w_X6_earned ux un ut a0 a1 post) : WrI l yX6_earned cX6_earned 3 (some .int) ({ frames := 6, cells := 0, slots := 0, locals := 157 } : Room) D (TY K) t (CX6 K x no tr tp ac se ak ro im ux ++ CX1 K no un ++ CX1 K tr ut) [.ref (x 0), .int a0, .int a1] (fun z : BX1 => CX6 K x no tr tp ac se ak ro im ux ++ CX1 K no un ++ CX1 K tr z) (fun (r : Int32) (z : BX1) => post r z) := by
  refine WrI.mk rfl (Nat.le_of_ble_eq_true rfl) ?_
  intro F ls A _ hF X hH hA hl hT
  obtain ⟨H, hH0⟩ : ∃ z : Heap, z = (fxS F).heap := ⟨_, rfl⟩
  obtain ⟨locs, hL0⟩ : ∃ z : List Loc, z = [] := ⟨_, rfl⟩
  have hH : HH F D A (CX6 K x no tr tp ac se ak ro im ux ++ CX1 K no un ++ CX1 K tr ut) H locs := by rw [hH0, hL0]; exact hH
  suffices goal : V F (WQI F D (TY K) A (fun z : BX1 => CX6 K x no tr tp ac se ak ro im ux ++ CX1 K no un ++ CX1 K tr z) (fun (r : Int32) (z : BX1) => post r z)) H locs 0 ls [] by rw [hH0, hL0] at goal; exact goal
  clear hH0 hL0
  have X : Cx F cX6_earned 3 RX6 D (TY K) := X
  have hl : lv_has ls 3 [(0, .ref (x 0)), (1, .int a0), (2, .int a1)] := hl
  unfold w_X6_earned at h
  refine v_aload_n X dX6_earned_0 rfl (lv_at hl 0 rfl) ?_
  refine v_get (v := .ref (no 0)) X hH.1 0 rfl fk_X6_22 rfl dX6_earned_1 ?_
  refine v_iload_n X dX6_earned_4 rfl (lv_at hl 1 rfl) ?_
  refine rdV (As := [.int a0]) (rest := []) X mv_X6_152 (c_X1_hasWaker F.2.1 D K t no un a0 _ h) hF ⟨rfl, rfl, Nat.le_of_ble_eq_true rfl, Nat.le_of_ble_eq_true rfl⟩ (stW hT hH) hH.1 [3, 4, 5, 6, 7, 8, 9, 10] rfl 3 rfl rfl hl.1 rfl rfl (Nat.le_of_ble_eq_true rfl) dX6_earned_5 (fun r1 h => ?_)
  refine v_if_eq (tgt := 21) X dX6_earned_8 (by decide) (fun c6 => ?_) (fun c6 => ?_)
  · have h := h.1 c6
    refine v_ldc X kc_X6_62 dX6_earned_21 ?_
    exact v_wiret X hF ut hH h dX6_earned_23
  · have h := h.2 c6
    refine v_iload_n X dX6_earned_11 rfl (lv_at hl 2 rfl) ?_
    refine v_iconst (v := (0 : Int32)) X dX6_earned_12 (by decide) ?_
    refine v_bipush (v := (60 : Int32)) X dX6_earned_13 (by decide) ?_
    refine rdS (As := [.int a1, .int (0 : Int32), .int (60 : Int32)]) (rest := []) X ms_X6_58 (c_X6_isWithin F.2.1 D K t a1 (0 : Int32) (60 : Int32) _ h) hF ⟨rfl, rfl, Nat.le_of_ble_eq_true rfl, Nat.le_of_ble_eq_true rfl⟩ (stW hT hH) hH.1 [] rfl hl.1 rfl rfl (Nat.le_of_ble_eq_true rfl) dX6_earned_15 (fun r2 h => ?_)
    refine v_if_ne (tgt := 24) X dX6_earned_18 (by decide) (fun c5 => ?_) (fun c5 => ?_)
    · have h := h.2 c5
      refine v_aload_n X dX6_earned_24 rfl (lv_at hl 0 rfl) ?_
      refine v_iload_n X dX6_earned_25 rfl (lv_at hl 2 rfl) ?_
      refine wrVV (As := [.int a1]) (rest := []) (wr := ([] : va_W)) X mv_X6_196 (c_X6_foretell F.2.1 D K t x no tr tp ac se ak ro im ux un ut a1 _ h) hF ⟨rfl, rfl, Nat.le_of_ble_eq_true rfl, Nat.le_of_ble_eq_true rfl⟩ hT hA hH [0, 1, 2, 3, 4, 5, 6, 7, 8, 9, 10, 11, 12, 13, 14, 15, 16, 17, 18] [] ⟨rfl, rfl, rfl, rfl, by decide⟩ 0 rfl rfl hl.1 rfl rfl (Nat.le_of_ble_eq_true rfl) dX6_earned_26 (fun u4 H locs h hH => ?_)
      have hH : HH F D A (CX6 K x no tr tp ac se ak ro im ux ++ CX1 K no un ++ CX1 K tr u4) H locs := hH
      refine v_aload_n X dX6_earned_29 rfl (lv_at hl 0 rfl) ?_
      refine v_get (v := .ref (tr 0)) X hH.1 0 rfl fk_X6_26 rfl dX6_earned_30 ?_
      refine v_get (v := .ref (tr 7)) X hH.1 11 rfl fk_X6_193 rfl dX6_earned_33 ?_
      refine v_iload_n X dX6_earned_36 rfl (lv_at hl 1 rfl) ?_
      have hin := h.1
      have h := h.2
      refine v_iald (f := u4.2.2.2.2.2.2.1) X hH.1 18 0 rfl rfl hin dX6_earned_37 ?_
      exact v_wiret X hF u4 hH h dX6_earned_38
    · have h := h.1 c5
      refine v_ldc X kc_X6_62 dX6_earned_21 ?_
      exact v_wiret X hF ut hH h dX6_earned_23
def w_X6_rests (ux : BX6) (un : BX1) (ut : BX1) (a0 : Int32) (post : Int32 → BX1 → Prop) : Prop := w_X1_isOpen un (fun r1 => (r1 = 0 → post (-1000002 : Int32) ut) ∧ (¬ r1 = 0 → w_X6_isWithin a0 (0 : Int32) (60 : Int32) (fun r2 => (r2 = 0 → post (-1000001 : Int32) ut) ∧ (¬ r2 = 0 → w_X6_foretell ux un ut a0 (fun u4 => w_X1_resting u4 (fun r5 => post r5 u4))))))
set_option maxHeartbeats 4000000 in
set_option maxRecDepth 100000 in
theorem c_X6_rests (l : Launch) (D : va_G) (K : Nat → ClassId) (t : Nat → Nat) (x no tr tp ac se ak : Nat → Nat) (ro im : Nat → Nat → Nat) (ux : BX6) (un : BX1) (ut : BX1) (a0 : Int32) (post : Int32 → BX1 → Prop) (h : w_X6_rests ux un ut a0 post) : WrI l yX6_rests cX6_rests 2 (some .int) ({ frames := 6, cells := 0, slots := 0, locals := 157 } : Room) D (TY K) t (CX6 K x no tr tp ac se ak ro im ux ++ CX1 K no un ++ CX1 K tr ut) [.ref (x 0), .int a0] (fun z : BX1 => CX6 K x no tr tp ac se ak ro im ux ++ CX1 K no un ++ CX1 K tr z) (fun (r : Int32) (z : BX1) => post r z) := by
  refine WrI.mk rfl (Nat.le_of_ble_eq_true rfl) ?_
  intro F ls A _ hF X hH hA hl hT
  obtain ⟨H, hH0⟩ : ∃ z : Heap, z = (fxS F).heap := ⟨_, rfl⟩
  obtain ⟨locs, hL0⟩ : ∃ z : List Loc, z = [] := ⟨_, rfl⟩
  have hH : HH F D A (CX6 K x no tr tp ac se ak ro im ux ++ CX1 K no un ++ CX1 K tr ut) H locs := by rw [hH0, hL0]; exact hH
  suffices goal : V F (WQI F D (TY K) A (fun z : BX1 => CX6 K x no tr tp ac se ak ro im ux ++ CX1 K no un ++ CX1 K tr z) (fun (r : Int32) (z : BX1) => post r z)) H locs 0 ls [] by rw [hH0, hL0] at goal; exact goal
  clear hH0 hL0
  have X : Cx F cX6_rests 2 RX6 D (TY K) := X
  have hl : lv_has ls 2 [(0, .ref (x 0)), (1, .int a0)] := hl
  unfold w_X6_rests at h
  refine v_aload_n X dX6_rests_0 rfl (lv_at hl 0 rfl) ?_
  refine v_get (v := .ref (no 0)) X hH.1 0 rfl fk_X6_22 rfl dX6_rests_1 ?_
  refine rdV (As := []) (rest := []) X mv_X6_135 (c_X1_isOpen F.2.1 D K t no un _ h) hF ⟨rfl, rfl, Nat.le_of_ble_eq_true rfl, Nat.le_of_ble_eq_true rfl⟩ (stW hT hH) hH.1 [3, 4, 5, 6, 7, 8, 9, 10] rfl 3 rfl rfl hl.1 rfl rfl (Nat.le_of_ble_eq_true rfl) dX6_rests_4 (fun r1 h => ?_)
  refine v_if_ne (tgt := 13) X dX6_rests_7 (by decide) (fun c7 => ?_) (fun c7 => ?_)
  · have h := h.2 c7
    refine v_iload_n X dX6_rests_13 rfl (lv_at hl 1 rfl) ?_
    refine v_iconst (v := (0 : Int32)) X dX6_rests_14 (by decide) ?_
    refine v_bipush (v := (60 : Int32)) X dX6_rests_15 (by decide) ?_
    refine rdS (As := [.int a0, .int (0 : Int32), .int (60 : Int32)]) (rest := []) X ms_X6_58 (c_X6_isWithin F.2.1 D K t a0 (0 : Int32) (60 : Int32) _ h) hF ⟨rfl, rfl, Nat.le_of_ble_eq_true rfl, Nat.le_of_ble_eq_true rfl⟩ (stW hT hH) hH.1 [] rfl hl.1 rfl rfl (Nat.le_of_ble_eq_true rfl) dX6_rests_17 (fun r2 h => ?_)
    refine v_if_ne (tgt := 26) X dX6_rests_20 (by decide) (fun c6 => ?_) (fun c6 => ?_)
    · have h := h.2 c6
      refine v_aload_n X dX6_rests_26 rfl (lv_at hl 0 rfl) ?_
      refine v_iload_n X dX6_rests_27 rfl (lv_at hl 1 rfl) ?_
      refine wrVV (As := [.int a0]) (rest := []) (wr := ([] : va_W)) X mv_X6_196 (c_X6_foretell F.2.1 D K t x no tr tp ac se ak ro im ux un ut a0 _ h) hF ⟨rfl, rfl, Nat.le_of_ble_eq_true rfl, Nat.le_of_ble_eq_true rfl⟩ hT hA hH [0, 1, 2, 3, 4, 5, 6, 7, 8, 9, 10, 11, 12, 13, 14, 15, 16, 17, 18] [] ⟨rfl, rfl, rfl, rfl, by decide⟩ 0 rfl rfl hl.1 rfl rfl (Nat.le_of_ble_eq_true rfl) dX6_rests_28 (fun u4 H locs h hH => ?_)
      have hH : HH F D A (CX6 K x no tr tp ac se ak ro im ux ++ CX1 K no un ++ CX1 K tr u4) H locs := hH
      refine v_aload_n X dX6_rests_31 rfl (lv_at hl 0 rfl) ?_
      refine v_get (v := .ref (tr 0)) X hH.1 0 rfl fk_X6_26 rfl dX6_rests_32 ?_
      refine rdV (As := []) (rest := []) X mv_X6_149 (c_X1_resting F.2.1 D K t tr u4 _ h) hF ⟨rfl, rfl, Nat.le_of_ble_eq_true rfl, Nat.le_of_ble_eq_true rfl⟩ (stW hT hH) hH.1 [11, 12, 13, 14, 15, 16, 17, 18] rfl 11 rfl rfl hl.1 rfl rfl (Nat.le_of_ble_eq_true rfl) dX6_rests_35 (fun r5 h => ?_)
      exact v_wiret X hF u4 hH h dX6_rests_38
    · have h := h.1 c6
      refine v_ldc X kc_X6_62 dX6_rests_23 ?_
      exact v_wiret X hF ut hH h dX6_rests_25
  · have h := h.1 c7
    refine v_ldc X kc_X6_138 dX6_rests_10 ?_
    exact v_wiret X hF ut hH h dX6_rests_12
def wL_X6_firstRest_13 (y5 : Int32) (b6 : BX6) (b7 : BX1) (post : Int32 → BX1 → Prop) (Kx13 : Int32 → BX1 → Prop) : Nat → Int32 → BX1 → Prop
  | 0, _, _ => False
  | n13 + 1, x3, u4 => ((60 : Int32) < x3 → post (-1000000 : Int32) u4) ∧ (¬ (60 : Int32) < x3 → w_X1_resting u4 (fun r11 => ((r11 &&& y5) = y5 → Kx13 x3 u4) ∧ (¬ (r11 &&& y5) = y5 → w_X1_passNight u4 (15 : Int32) (fun u13 => wL_X6_firstRest_13 y5 b6 b7 post Kx13 n13 (x3 + (1 : Int32)) u13))))
def w_X6_firstRest (ux : BX6) (un : BX1) (ut : BX1) (a0 : Int32) (post : Int32 → BX1 → Prop) : Prop := w_X1_copyFrom ut un (fun u2 => ∃ n13, wL_X6_firstRest_13 a0 ux un post (fun (x8 : Int32) (u9 : BX1) => post x8 u9) n13 (0 : Int32) u2)
set_option maxHeartbeats 4000000 in
set_option maxRecDepth 100000 in
theorem c_X6_firstRest (l : Launch) (D : va_G) (K : Nat → ClassId) (t : Nat → Nat) (x no tr tp ac se ak : Nat → Nat) (ro im : Nat → Nat → Nat) (ux : BX6) (un : BX1) (ut : BX1) (a0 : Int32) (post : Int32 → BX1 → Prop) (h : w_X6_firstRest ux un ut a0 post) : WrI l yX6_firstRest cX6_firstRest 3 (some .int) ({ frames := 5, cells := 0, slots := 0, locals := 135 } : Room) D (TY K) t (CX6 K x no tr tp ac se ak ro im ux ++ CX1 K no un ++ CX1 K tr ut) [.ref (x 0), .int a0] (fun z : BX1 => CX6 K x no tr tp ac se ak ro im ux ++ CX1 K no un ++ CX1 K tr z) (fun (r : Int32) (z : BX1) => post r z) := by
  refine WrI.mk rfl (Nat.le_of_ble_eq_true rfl) ?_
  intro F ls A _ hF X hH hA hl hT
  obtain ⟨H, hH0⟩ : ∃ z : Heap, z = (fxS F).heap := ⟨_, rfl⟩
  obtain ⟨locs, hL0⟩ : ∃ z : List Loc, z = [] := ⟨_, rfl⟩
  have hH : HH F D A (CX6 K x no tr tp ac se ak ro im ux ++ CX1 K no un ++ CX1 K tr ut) H locs := by rw [hH0, hL0]; exact hH
  suffices goal : V F (WQI F D (TY K) A (fun z : BX1 => CX6 K x no tr tp ac se ak ro im ux ++ CX1 K no un ++ CX1 K tr z) (fun (r : Int32) (z : BX1) => post r z)) H locs 0 ls [] by rw [hH0, hL0] at goal; exact goal
  clear hH0 hL0
  have X : Cx F cX6_firstRest 3 RX6 D (TY K) := X
  have hl : lv_has ls 3 [(0, .ref (x 0)), (1, .int a0)] := hl
  unfold w_X6_firstRest at h
  refine v_aload_n X dX6_firstRest_0 rfl (lv_at hl 0 rfl) ?_
  refine v_get (v := .ref (tr 0)) X hH.1 0 rfl fk_X6_26 rfl dX6_firstRest_1 ?_
  refine v_aload_n X dX6_firstRest_4 rfl (lv_at hl 0 rfl) ?_
  refine v_get (v := .ref (no 0)) X hH.1 0 rfl fk_X6_22 rfl dX6_firstRest_5 ?_
  refine wrVV (As := [.ref (no 0)]) (rest := []) (wr := (CX6 K x no tr tp ac se ak ro im ux)) X mv_X6_126 (c_X1_copyFrom F.2.1 D K t tr no ut un _ h) hF ⟨rfl, rfl, Nat.le_of_ble_eq_true rfl, Nat.le_of_ble_eq_true rfl⟩ hT hA hH [11, 12, 13, 14, 15, 16, 17, 18, 3, 4, 5, 6, 7, 8, 9, 10] [0, 1, 2] ⟨rfl, rfl, rfl, rfl, by decide⟩ 11 rfl rfl hl.1 rfl rfl (Nat.le_of_ble_eq_true rfl) dX6_firstRest_8 (fun u2 H locs h hH => ?_)
  have hH : HH F D A (CX6 K x no tr tp ac se ak ro im ux ++ CX1 K tr u2 ++ CX1 K no un) H locs := hH
  refine v_iconst (v := (0 : Int32)) X dX6_firstRest_11 (by decide) ?_
  refine v_istore_n (lv' := [(2, .int (0 : Int32)), (0, .ref (x 0)), (1, .int a0)]) X dX6_firstRest_12 rfl hl (by decide) rfl (fun ls hl => ?_)
  obtain ⟨Kx13, hK13⟩ : ∃ f : Int32 → BX1 → Prop, f = (fun (x8 : Int32) (u9 : BX1) => post x8 u9) := ⟨_, rfl⟩
  have kx10 : ∀ (x8 : Int32) (u9 : BX1) (ls : Array Slot) (H : Heap) (locs : List Loc), (Kx13 x8 u9) → lv_has ls 3 [(2, .int x8)] → HH F D A (CX6 K x no tr tp ac se ak ro im ux ++ CX1 K no un ++ CX1 K tr u9) H locs → V F (WQI F D (TY K) A (fun z : BX1 => CX6 K x no tr tp ac se ak ro im ux ++ CX1 K no un ++ CX1 K tr z) (fun (r : Int32) (z : BX1) => post r z)) H locs 32 ls [] := by
    intro x8 u9 ls H locs h hl hH
    have h : post x8 u9 := by rw [hK13] at h; exact h
    refine v_iload_n X dX6_firstRest_32 rfl (lv_at hl 0 rfl) ?_
    exact v_wiret X hF u9 hH h dX6_firstRest_33
  have lp13 : ∀ (n13 : Nat) (x3 : Int32) (u4 : BX1) (ls : Array Slot) (H : Heap) (locs : List Loc), wL_X6_firstRest_13 a0 ux un post Kx13 n13 x3 u4 → lv_has ls 3 [(0, .ref (x 0)), (1, .int a0), (2, .int x3)] → HH F D A (CX6 K x no tr tp ac se ak ro im ux ++ CX1 K no un ++ CX1 K tr u4) H locs → V F (WQI F D (TY K) A (fun z : BX1 => CX6 K x no tr tp ac se ak ro im ux ++ CX1 K no un ++ CX1 K tr z) (fun (r : Int32) (z : BX1) => post r z)) H locs 13 ls [] := by
    intro n13
    induction n13 with
    | zero => intro x3 u4 ls H locs h hl hH; exact h.elim
    | succ n13 ih13 =>
      intro x3 u4 ls H locs h hl hH
      refine v_iload_n X dX6_firstRest_13 rfl (lv_at hl 2 rfl) ?_
      refine v_bipush (v := (60 : Int32)) X dX6_firstRest_14 (by decide) ?_
      refine v_icmp_gt (tgt := 49) X dX6_firstRest_16 (by decide) (fun c15 => ?_) (fun c15 => ?_)
      · have h := h.1 c15
        refine v_ldc X kc_X6_224 dX6_firstRest_49 ?_
        exact v_wiret X hF u4 hH h dX6_firstRest_51
      · have h := h.2 c15
        refine v_aload_n X dX6_firstRest_19 rfl (lv_at hl 0 rfl) ?_
        refine v_get (v := .ref (tr 0)) X hH.1 0 rfl fk_X6_26 rfl dX6_firstRest_20 ?_
        refine rdV (As := []) (rest := []) X mv_X6_149 (c_X1_resting F.2.1 D K t tr u4 _ h) hF ⟨rfl, rfl, Nat.le_of_ble_eq_true rfl, Nat.le_of_ble_eq_true rfl⟩ (stW hT hH) hH.1 [11, 12, 13, 14, 15, 16, 17, 18] rfl 11 rfl rfl hl.1 rfl rfl (Nat.le_of_ble_eq_true rfl) dX6_firstRest_23 (fun r11 h => ?_)
        refine v_iload_n X dX6_firstRest_26 rfl (lv_at hl 1 rfl) ?_
        refine v_iand X dX6_firstRest_27 ?_
        refine v_iload_n X dX6_firstRest_28 rfl (lv_at hl 1 rfl) ?_
        refine v_icmp_ne (tgt := 34) X dX6_firstRest_29 (by decide) (fun c14 => ?_) (fun c14 => ?_)
        · have h := h.2 c14
          refine v_aload_n X dX6_firstRest_34 rfl (lv_at hl 0 rfl) ?_
          refine v_get (v := .ref (tr 0)) X hH.1 0 rfl fk_X6_26 rfl dX6_firstRest_35 ?_
          refine v_bipush (v := (15 : Int32)) X dX6_firstRest_38 (by decide) ?_
          refine wrVV (As := [.int (15 : Int32)]) (rest := []) (wr := (CX6 K x no tr tp ac se ak ro im ux ++ CX1 K no un)) X mv_X6_145 (c_X1_passNight F.2.1 D K t tr u4 (15 : Int32) _ h) hF ⟨rfl, rfl, Nat.le_of_ble_eq_true rfl, Nat.le_of_ble_eq_true rfl⟩ hT hA hH [11, 12, 13, 14, 15, 16, 17, 18] [0, 1, 2, 3, 4, 5, 6, 7, 8, 9, 10] ⟨rfl, rfl, rfl, rfl, by decide⟩ 11 rfl rfl hl.1 rfl rfl (Nat.le_of_ble_eq_true rfl) dX6_firstRest_40 (fun u13 H locs h hH => ?_)
          have hH : HH F D A (CX6 K x no tr tp ac se ak ro im ux ++ CX1 K no un ++ CX1 K tr u13) H locs := hH
          refine v_iinc (v := (x3 + (1 : Int32))) (lv' := [(2, .int (x3 + (1 : Int32))), (0, .ref (x 0)), (1, .int a0)]) X dX6_firstRest_43 hl (k := 2) rfl rfl (by decide) rfl (fun ls hl => ?_)
          refine v_goto (tgt := 13) X dX6_firstRest_46 (by decide) ?_
          exact ih13 (x3 + (1 : Int32)) u13 ls H locs h (lv_sub hl [1, 2, 0] rfl) hH
        · have h := h.1 c14
          exact kx10 x3 u4 ls H locs h (lv_sub hl [2] rfl) hH
  obtain ⟨n13, h⟩ := h
  have h : wL_X6_firstRest_13 a0 ux un post Kx13 n13 (0 : Int32) u2 := by rw [hK13]; exact h
  exact lp13 n13 (0 : Int32) u2 ls H locs h (lv_sub hl [1, 2, 0] rfl) (hH.perm [0, 1, 2, 11, 12, 13, 14, 15, 16, 17, 18, 3, 4, 5, 6, 7, 8, 9, 10] rfl rfl)
def w_X6_when (ux : BX6) (un : BX1) (ut : BX1) (a0 : Int32) (post : Int32 → BX1 → Prop) : Prop := w_X1_hasClient un a0 (fun r1 => (r1 = 0 → post (-1000001 : Int32) ut) ∧ (¬ r1 = 0 → w_X6_firstRest ux un ut ((1 : Int32) <<< (a0 &&& 31)) (fun r2 u3 => post r2 u3)))
set_option maxHeartbeats 4000000 in
set_option maxRecDepth 100000 in
theorem c_X6_when (l : Launch) (D : va_G) (K : Nat → ClassId) (t : Nat → Nat) (x no tr tp ac se ak : Nat → Nat) (ro im : Nat → Nat → Nat) (ux : BX6) (un : BX1) (ut : BX1) (a0 : Int32) (post : Int32 → BX1 → Prop) (h : w_X6_when ux un ut a0 post) : WrI l yX6_when cX6_when 2 (some .int) ({ frames := 6, cells := 0, slots := 0, locals := 157 } : Room) D (TY K) t (CX6 K x no tr tp ac se ak ro im ux ++ CX1 K no un ++ CX1 K tr ut) [.ref (x 0), .int a0] (fun z : BX1 => CX6 K x no tr tp ac se ak ro im ux ++ CX1 K no un ++ CX1 K tr z) (fun (r : Int32) (z : BX1) => post r z) := by
  refine WrI.mk rfl (Nat.le_of_ble_eq_true rfl) ?_
  intro F ls A _ hF X hH hA hl hT
  obtain ⟨H, hH0⟩ : ∃ z : Heap, z = (fxS F).heap := ⟨_, rfl⟩
  obtain ⟨locs, hL0⟩ : ∃ z : List Loc, z = [] := ⟨_, rfl⟩
  have hH : HH F D A (CX6 K x no tr tp ac se ak ro im ux ++ CX1 K no un ++ CX1 K tr ut) H locs := by rw [hH0, hL0]; exact hH
  suffices goal : V F (WQI F D (TY K) A (fun z : BX1 => CX6 K x no tr tp ac se ak ro im ux ++ CX1 K no un ++ CX1 K tr z) (fun (r : Int32) (z : BX1) => post r z)) H locs 0 ls [] by rw [hH0, hL0] at goal; exact goal
  clear hH0 hL0
  have X : Cx F cX6_when 2 RX6 D (TY K) := X
  have hl : lv_has ls 2 [(0, .ref (x 0)), (1, .int a0)] := hl
  unfold w_X6_when at h
  refine v_aload_n X dX6_when_0 rfl (lv_at hl 0 rfl) ?_
  refine v_get (v := .ref (no 0)) X hH.1 0 rfl fk_X6_22 rfl dX6_when_1 ?_
  refine v_iload_n X dX6_when_4 rfl (lv_at hl 1 rfl) ?_
  refine rdV (As := [.int a0]) (rest := []) X mv_X6_155 (c_X1_hasClient F.2.1 D K t no un a0 _ h) hF ⟨rfl, rfl, Nat.le_of_ble_eq_true rfl, Nat.le_of_ble_eq_true rfl⟩ (stW hT hH) hH.1 [3, 4, 5, 6, 7, 8, 9, 10] rfl 3 rfl rfl hl.1 rfl rfl (Nat.le_of_ble_eq_true rfl) dX6_when_5 (fun r1 h => ?_)
  refine v_if_ne (tgt := 14) X dX6_when_8 (by decide) (fun c4 => ?_) (fun c4 => ?_)
  · have h := h.2 c4
    refine v_aload_n X dX6_when_14 rfl (lv_at hl 0 rfl) ?_
    refine v_iconst (v := (1 : Int32)) X dX6_when_15 (by decide) ?_
    refine v_iload_n X dX6_when_16 rfl (lv_at hl 1 rfl) ?_
    refine v_ishl X dX6_when_17 ?_
    refine wrVI (As := [.int ((1 : Int32) <<< (a0 &&& 31))]) (rest := []) (wr := ([] : va_W)) X mv_X6_199 (c_X6_firstRest F.2.1 D K t x no tr tp ac se ak ro im ux un ut ((1 : Int32) <<< (a0 &&& 31)) _ h) hF ⟨rfl, rfl, Nat.le_of_ble_eq_true rfl, Nat.le_of_ble_eq_true rfl⟩ hT hA hH [0, 1, 2, 3, 4, 5, 6, 7, 8, 9, 10, 11, 12, 13, 14, 15, 16, 17, 18] [] ⟨rfl, rfl, rfl, rfl, by decide⟩ 0 rfl rfl hl.1 rfl rfl (Nat.le_of_ble_eq_true rfl) dX6_when_18 (fun r2 u3 H locs h hH => ?_)
    have hH : HH F D A (CX6 K x no tr tp ac se ak ro im ux ++ CX1 K no un ++ CX1 K tr u3) H locs := hH
    exact v_wiret X hF u3 hH h dX6_when_21
  · have h := h.1 c4
    refine v_ldc X kc_X6_62 dX6_when_11 ?_
    exact v_wiret X hF ut hH h dX6_when_13
def w_X6_all (ux : BX6) (un : BX1) (ut : BX1) (a0 : Int32) (post : Int32 → BX1 → Prop) : Prop := w_X1_isOpen un (fun r1 => (r1 = 0 → post (-1000002 : Int32) ut) ∧ (¬ r1 = 0 → w_X1_hasAll un a0 (fun r2 => (r2 = 0 → post (-1000001 : Int32) ut) ∧ (¬ r2 = 0 → w_X6_firstRest ux un ut a0 (fun r3 u4 => post r3 u4)))))
set_option maxHeartbeats 4000000 in
set_option maxRecDepth 100000 in
theorem c_X6_all (l : Launch) (D : va_G) (K : Nat → ClassId) (t : Nat → Nat) (x no tr tp ac se ak : Nat → Nat) (ro im : Nat → Nat → Nat) (ux : BX6) (un : BX1) (ut : BX1) (a0 : Int32) (post : Int32 → BX1 → Prop) (h : w_X6_all ux un ut a0 post) : WrI l yX6_all cX6_all 2 (some .int) ({ frames := 6, cells := 0, slots := 0, locals := 157 } : Room) D (TY K) t (CX6 K x no tr tp ac se ak ro im ux ++ CX1 K no un ++ CX1 K tr ut) [.ref (x 0), .int a0] (fun z : BX1 => CX6 K x no tr tp ac se ak ro im ux ++ CX1 K no un ++ CX1 K tr z) (fun (r : Int32) (z : BX1) => post r z) := by
  refine WrI.mk rfl (Nat.le_of_ble_eq_true rfl) ?_
  intro F ls A _ hF X hH hA hl hT
  obtain ⟨H, hH0⟩ : ∃ z : Heap, z = (fxS F).heap := ⟨_, rfl⟩
  obtain ⟨locs, hL0⟩ : ∃ z : List Loc, z = [] := ⟨_, rfl⟩
  have hH : HH F D A (CX6 K x no tr tp ac se ak ro im ux ++ CX1 K no un ++ CX1 K tr ut) H locs := by rw [hH0, hL0]; exact hH
  suffices goal : V F (WQI F D (TY K) A (fun z : BX1 => CX6 K x no tr tp ac se ak ro im ux ++ CX1 K no un ++ CX1 K tr z) (fun (r : Int32) (z : BX1) => post r z)) H locs 0 ls [] by rw [hH0, hL0] at goal; exact goal
  clear hH0 hL0
  have X : Cx F cX6_all 2 RX6 D (TY K) := X
  have hl : lv_has ls 2 [(0, .ref (x 0)), (1, .int a0)] := hl
  unfold w_X6_all at h
  refine v_aload_n X dX6_all_0 rfl (lv_at hl 0 rfl) ?_
  refine v_get (v := .ref (no 0)) X hH.1 0 rfl fk_X6_22 rfl dX6_all_1 ?_
  refine rdV (As := []) (rest := []) X mv_X6_135 (c_X1_isOpen F.2.1 D K t no un _ h) hF ⟨rfl, rfl, Nat.le_of_ble_eq_true rfl, Nat.le_of_ble_eq_true rfl⟩ (stW hT hH) hH.1 [3, 4, 5, 6, 7, 8, 9, 10] rfl 3 rfl rfl hl.1 rfl rfl (Nat.le_of_ble_eq_true rfl) dX6_all_4 (fun r1 h => ?_)
  refine v_if_ne (tgt := 13) X dX6_all_7 (by decide) (fun c6 => ?_) (fun c6 => ?_)
  · have h := h.2 c6
    refine v_aload_n X dX6_all_13 rfl (lv_at hl 0 rfl) ?_
    refine v_get (v := .ref (no 0)) X hH.1 0 rfl fk_X6_22 rfl dX6_all_14 ?_
    refine v_iload_n X dX6_all_17 rfl (lv_at hl 1 rfl) ?_
    refine rdV (As := [.int a0]) (rest := []) X mv_X6_202 (c_X1_hasAll F.2.1 D K t no un a0 _ h) hF ⟨rfl, rfl, Nat.le_of_ble_eq_true rfl, Nat.le_of_ble_eq_true rfl⟩ (stW hT hH) hH.1 [3, 4, 5, 6, 7, 8, 9, 10] rfl 3 rfl rfl hl.1 rfl rfl (Nat.le_of_ble_eq_true rfl) dX6_all_18 (fun r2 h => ?_)
    refine v_if_ne (tgt := 27) X dX6_all_21 (by decide) (fun c5 => ?_) (fun c5 => ?_)
    · have h := h.2 c5
      refine v_aload_n X dX6_all_27 rfl (lv_at hl 0 rfl) ?_
      refine v_iload_n X dX6_all_28 rfl (lv_at hl 1 rfl) ?_
      refine wrVI (As := [.int a0]) (rest := []) (wr := ([] : va_W)) X mv_X6_199 (c_X6_firstRest F.2.1 D K t x no tr tp ac se ak ro im ux un ut a0 _ h) hF ⟨rfl, rfl, Nat.le_of_ble_eq_true rfl, Nat.le_of_ble_eq_true rfl⟩ hT hA hH [0, 1, 2, 3, 4, 5, 6, 7, 8, 9, 10, 11, 12, 13, 14, 15, 16, 17, 18] [] ⟨rfl, rfl, rfl, rfl, by decide⟩ 0 rfl rfl hl.1 rfl rfl (Nat.le_of_ble_eq_true rfl) dX6_all_29 (fun r3 u4 H locs h hH => ?_)
      have hH : HH F D A (CX6 K x no tr tp ac se ak ro im ux ++ CX1 K no un ++ CX1 K tr u4) H locs := hH
      exact v_wiret X hF u4 hH h dX6_all_32
    · have h := h.1 c5
      refine v_ldc X kc_X6_62 dX6_all_24 ?_
      exact v_wiret X hF ut hH h dX6_all_26
  · have h := h.1 c6
    refine v_ldc X kc_X6_138 dX6_all_10 ?_
    exact v_wiret X hF ut hH h dX6_all_12
def wL_X6_never_34 (b8 : BX6) (b9 : BX1) (post : Int32 → BX1 → Prop) (Kx34 : Int32 → BX1 → Prop) : Nat → Int32 → Int32 → BX1 → Prop
  | 0, _, _, _ => False
  | n34 + 1, x5, x6, u7 => ((60 : Int32) < x6 → Kx34 x5 u7) ∧ (¬ (60 : Int32) < x6 → w_X1_passNight u7 (15 : Int32) (fun u14 => w_X1_resting u14 (fun r15 => ∀ x16 : Int32, x16 = (x5 ||| r15) → wL_X6_never_34 b8 b9 post Kx34 n34 x16 (x6 + (1 : Int32)) u14)))
def w_X6_never (ux : BX6) (un : BX1) (ut : BX1) (post : Int32 → BX1 → Prop) : Prop := w_X1_isOpen un (fun r1 => (r1 = 0 → post (-1000002 : Int32) ut) ∧ (¬ r1 = 0 → w_X1_copyFrom ut un (fun u3 => w_X1_resting u3 (fun r4 => ∃ n34, wL_X6_never_34 ux un post (fun (x10 : Int32) (u11 : BX1) => post ((((1 : Int32) <<< (un.2.2.2.2.2.2.2.1 &&& 31)) - (1 : Int32)) &&& (x10 ^^^ (-1 : Int32))) u11) n34 r4 (1 : Int32) u3))))
set_option maxHeartbeats 4000000 in
set_option maxRecDepth 100000 in
theorem c_X6_never (l : Launch) (D : va_G) (K : Nat → ClassId) (t : Nat → Nat) (x no tr tp ac se ak : Nat → Nat) (ro im : Nat → Nat → Nat) (ux : BX6) (un : BX1) (ut : BX1) (post : Int32 → BX1 → Prop) (h : w_X6_never ux un ut post) : WrI l yX6_never cX6_never 3 (some .int) ({ frames := 5, cells := 0, slots := 0, locals := 135 } : Room) D (TY K) t (CX6 K x no tr tp ac se ak ro im ux ++ CX1 K no un ++ CX1 K tr ut) [.ref (x 0)] (fun z : BX1 => CX6 K x no tr tp ac se ak ro im ux ++ CX1 K no un ++ CX1 K tr z) (fun (r : Int32) (z : BX1) => post r z) := by
  refine WrI.mk rfl (Nat.le_of_ble_eq_true rfl) ?_
  intro F ls A _ hF X hH hA hl hT
  obtain ⟨H, hH0⟩ : ∃ z : Heap, z = (fxS F).heap := ⟨_, rfl⟩
  obtain ⟨locs, hL0⟩ : ∃ z : List Loc, z = [] := ⟨_, rfl⟩
  have hH : HH F D A (CX6 K x no tr tp ac se ak ro im ux ++ CX1 K no un ++ CX1 K tr ut) H locs := by rw [hH0, hL0]; exact hH
  suffices goal : V F (WQI F D (TY K) A (fun z : BX1 => CX6 K x no tr tp ac se ak ro im ux ++ CX1 K no un ++ CX1 K tr z) (fun (r : Int32) (z : BX1) => post r z)) H locs 0 ls [] by rw [hH0, hL0] at goal; exact goal
  clear hH0 hL0
  have X : Cx F cX6_never 3 RX6 D (TY K) := X
  have hl : lv_has ls 3 [(0, .ref (x 0))] := hl
  unfold w_X6_never at h
  refine v_aload_n X dX6_never_0 rfl (lv_at hl 0 rfl) ?_
  refine v_get (v := .ref (no 0)) X hH.1 0 rfl fk_X6_22 rfl dX6_never_1 ?_
  refine rdV (As := []) (rest := []) X mv_X6_135 (c_X1_isOpen F.2.1 D K t no un _ h) hF ⟨rfl, rfl, Nat.le_of_ble_eq_true rfl, Nat.le_of_ble_eq_true rfl⟩ (stW hT hH) hH.1 [3, 4, 5, 6, 7, 8, 9, 10] rfl 3 rfl rfl hl.1 rfl rfl (Nat.le_of_ble_eq_true rfl) dX6_never_4 (fun r1 h => ?_)
  refine v_if_ne (tgt := 13) X dX6_never_7 (by decide) (fun c18 => ?_) (fun c18 => ?_)
  · have h := h.2 c18
    refine v_aload_n X dX6_never_13 rfl (lv_at hl 0 rfl) ?_
    refine v_get (v := .ref (tr 0)) X hH.1 0 rfl fk_X6_26 rfl dX6_never_14 ?_
    refine v_aload_n X dX6_never_17 rfl (lv_at hl 0 rfl) ?_
    refine v_get (v := .ref (no 0)) X hH.1 0 rfl fk_X6_22 rfl dX6_never_18 ?_
    refine wrVV (As := [.ref (no 0)]) (rest := []) (wr := (CX6 K x no tr tp ac se ak ro im ux)) X mv_X6_126 (c_X1_copyFrom F.2.1 D K t tr no ut un _ h) hF ⟨rfl, rfl, Nat.le_of_ble_eq_true rfl, Nat.le_of_ble_eq_true rfl⟩ hT hA hH [11, 12, 13, 14, 15, 16, 17, 18, 3, 4, 5, 6, 7, 8, 9, 10] [0, 1, 2] ⟨rfl, rfl, rfl, rfl, by decide⟩ 11 rfl rfl hl.1 rfl rfl (Nat.le_of_ble_eq_true rfl) dX6_never_21 (fun u3 H locs h hH => ?_)
    have hH : HH F D A (CX6 K x no tr tp ac se ak ro im ux ++ CX1 K tr u3 ++ CX1 K no un) H locs := hH
    refine v_aload_n X dX6_never_24 rfl (lv_at hl 0 rfl) ?_
    refine v_get (v := .ref (tr 0)) X hH.1 0 rfl fk_X6_26 rfl dX6_never_25 ?_
    refine rdV (As := []) (rest := []) X mv_X6_149 (c_X1_resting F.2.1 D K t tr u3 _ h) hF ⟨rfl, rfl, Nat.le_of_ble_eq_true rfl, Nat.le_of_ble_eq_true rfl⟩ (stW hT hH) hH.1 [3, 4, 5, 6, 7, 8, 9, 10] rfl 3 rfl rfl hl.1 rfl rfl (Nat.le_of_ble_eq_true rfl) dX6_never_28 (fun r4 h => ?_)
    refine v_istore_n (lv' := [(1, .int r4), (0, .ref (x 0))]) X dX6_never_31 rfl hl (by decide) rfl (fun ls hl => ?_)
    refine v_iconst (v := (1 : Int32)) X dX6_never_32 (by decide) ?_
    refine v_istore_n (lv' := [(2, .int (1 : Int32)), (1, .int r4), (0, .ref (x 0))]) X dX6_never_33 rfl hl (by decide) rfl (fun ls hl => ?_)
    obtain ⟨Kx34, hK34⟩ : ∃ f : Int32 → BX1 → Prop, f = (fun (x10 : Int32) (u11 : BX1) => post ((((1 : Int32) <<< (un.2.2.2.2.2.2.2.1 &&& 31)) - (1 : Int32)) &&& (x10 ^^^ (-1 : Int32))) u11) := ⟨_, rfl⟩
    have kx12 : ∀ (x10 : Int32) (u11 : BX1) (ls : Array Slot) (H : Heap) (locs : List Loc), (Kx34 x10 u11) → lv_has ls 3 [(0, .ref (x 0)), (1, .int x10)] → HH F D A (CX6 K x no tr tp ac se ak ro im ux ++ CX1 K no un ++ CX1 K tr u11) H locs → V F (WQI F D (TY K) A (fun z : BX1 => CX6 K x no tr tp ac se ak ro im ux ++ CX1 K no un ++ CX1 K tr z) (fun (r : Int32) (z : BX1) => post r z)) H locs 65 ls [] := by
      intro x10 u11 ls H locs h hl hH
      have h : post ((((1 : Int32) <<< (un.2.2.2.2.2.2.2.1 &&& 31)) - (1 : Int32)) &&& (x10 ^^^ (-1 : Int32))) u11 := by rw [hK34] at h; exact h
      refine v_iconst (v := (1 : Int32)) X dX6_never_65 (by decide) ?_
      refine v_aload_n X dX6_never_66 rfl (lv_at hl 0 rfl) ?_
      refine v_get (v := .ref (no 0)) X hH.1 0 rfl fk_X6_22 rfl dX6_never_67 ?_
      refine v_get (v := .int un.2.2.2.2.2.2.2.1) X hH.1 3 rfl fk_X6_132 rfl dX6_never_70 ?_
      refine v_ishl X dX6_never_73 ?_
      refine v_iconst (v := (1 : Int32)) X dX6_never_74 (by decide) ?_
      refine v_isub X dX6_never_75 ?_
      refine v_iload_n X dX6_never_76 rfl (lv_at hl 1 rfl) ?_
      refine v_iconst (v := (-1 : Int32)) X dX6_never_77 (by decide) ?_
      refine v_ixor X dX6_never_78 ?_
      refine v_iand X dX6_never_79 ?_
      exact v_wiret X hF u11 hH h dX6_never_80
    have lp34 : ∀ (n34 : Nat) (x5 : Int32) (x6 : Int32) (u7 : BX1) (ls : Array Slot) (H : Heap) (locs : List Loc), wL_X6_never_34 ux un post Kx34 n34 x5 x6 u7 → lv_has ls 3 [(0, .ref (x 0)), (1, .int x5), (2, .int x6)] → HH F D A (CX6 K x no tr tp ac se ak ro im ux ++ CX1 K no un ++ CX1 K tr u7) H locs → V F (WQI F D (TY K) A (fun z : BX1 => CX6 K x no tr tp ac se ak ro im ux ++ CX1 K no un ++ CX1 K tr z) (fun (r : Int32) (z : BX1) => post r z)) H locs 34 ls [] := by
      intro n34
      induction n34 with
      | zero => intro x5 x6 u7 ls H locs h hl hH; exact h.elim
      | succ n34 ih34 =>
        intro x5 x6 u7 ls H locs h hl hH
        refine v_iload_n X dX6_never_34 rfl (lv_at hl 2 rfl) ?_
        refine v_bipush (v := (60 : Int32)) X dX6_never_35 (by decide) ?_
        refine v_icmp_gt (tgt := 65) X dX6_never_37 (by decide) (fun c17 => ?_) (fun c17 => ?_)
        · have h := h.1 c17
          exact kx12 x5 u7 ls H locs h (lv_sub hl [0, 1] rfl) hH
        · have h := h.2 c17
          refine v_aload_n X dX6_never_40 rfl (lv_at hl 0 rfl) ?_
          refine v_get (v := .ref (tr 0)) X hH.1 0 rfl fk_X6_26 rfl dX6_never_41 ?_
          refine v_bipush (v := (15 : Int32)) X dX6_never_44 (by decide) ?_
          refine wrVV (As := [.int (15 : Int32)]) (rest := []) (wr := (CX6 K x no tr tp ac se ak ro im ux ++ CX1 K no un)) X mv_X6_145 (c_X1_passNight F.2.1 D K t tr u7 (15 : Int32) _ h) hF ⟨rfl, rfl, Nat.le_of_ble_eq_true rfl, Nat.le_of_ble_eq_true rfl⟩ hT hA hH [11, 12, 13, 14, 15, 16, 17, 18] [0, 1, 2, 3, 4, 5, 6, 7, 8, 9, 10] ⟨rfl, rfl, rfl, rfl, by decide⟩ 11 rfl rfl hl.1 rfl rfl (Nat.le_of_ble_eq_true rfl) dX6_never_46 (fun u14 H locs h hH => ?_)
          have hH : HH F D A (CX6 K x no tr tp ac se ak ro im ux ++ CX1 K no un ++ CX1 K tr u14) H locs := hH
          refine v_iload_n X dX6_never_49 rfl (lv_at hl 1 rfl) ?_
          refine v_aload_n X dX6_never_50 rfl (lv_at hl 0 rfl) ?_
          refine v_get (v := .ref (tr 0)) X hH.1 0 rfl fk_X6_26 rfl dX6_never_51 ?_
          refine rdV (As := []) (rest := [.int x5]) X mv_X6_149 (c_X1_resting F.2.1 D K t tr u14 _ h) hF ⟨rfl, rfl, Nat.le_of_ble_eq_true rfl, Nat.le_of_ble_eq_true rfl⟩ (stW hT hH) hH.1 [11, 12, 13, 14, 15, 16, 17, 18] rfl 11 rfl rfl hl.1 rfl rfl (Nat.le_of_ble_eq_true rfl) dX6_never_54 (fun r15 h => ?_)
          refine v_ior X dX6_never_57 ?_
          refine v_topi (fun x16 ex16 => ?_)
          have h := h x16 ex16
          refine v_istore_n (lv' := [(1, .int x16), (0, .ref (x 0)), (2, .int x6)]) X dX6_never_58 rfl hl (by decide) rfl (fun ls hl => ?_)
          refine v_iinc (v := (x6 + (1 : Int32))) (lv' := [(2, .int (x6 + (1 : Int32))), (1, .int x16), (0, .ref (x 0))]) X dX6_never_59 hl (k := 2) rfl rfl (by decide) rfl (fun ls hl => ?_)
          refine v_goto (tgt := 34) X dX6_never_62 (by decide) ?_
          exact ih34 x16 (x6 + (1 : Int32)) u14 ls H locs h (lv_sub hl [2, 1, 0] rfl) hH
    obtain ⟨n34, h⟩ := h
    have h : wL_X6_never_34 ux un post Kx34 n34 r4 (1 : Int32) u3 := by rw [hK34]; exact h
    exact lp34 n34 r4 (1 : Int32) u3 ls H locs h (lv_sub hl [2, 1, 0] rfl) (hH.perm [0, 1, 2, 11, 12, 13, 14, 15, 16, 17, 18, 3, 4, 5, 6, 7, 8, 9, 10] rfl rfl)
  · have h := h.1 c18
    refine v_ldc X kc_X6_138 dX6_never_10 ?_
    exact v_wiret X hF ut hH h dX6_never_12
def w_X6_hirerFound (ux : BX6) (un : BX1) (us : BX4) (a0 : Int32) (post : Int32 → Prop) : Prop := w_X6_isWithin a0 (0 : Int32) (un.2.2.2.2.2.2.2.2.1 - (1 : Int32)) (fun r1 => (r1 = 0 → post (-1000000 : Int32)) ∧ (¬ r1 = 0 → vp_in a0 4 ∧ (post (us.2.2.2.2.1 a0.toNatClampNeg))))
set_option maxHeartbeats 4000000 in
set_option maxRecDepth 100000 in
theorem c_X6_hirerFound (l : Launch) (D : va_G) (K : Nat → ClassId) (t : Nat → Nat) (x no tr tp ac se ak : Nat → Nat) (ro im : Nat → Nat → Nat) (ux : BX6) (un : BX1) (us : BX4) (a0 : Int32) (post : Int32 → Prop) (h : w_X6_hirerFound ux un us a0 post) : RdM l yX6_hirerFound cX6_hirerFound 2 (some .int) ({ frames := 1, cells := 0, slots := 0, locals := 22 } : Room) D (TY K) t (CX6 K x no tr tp ac se ak ro im ux ++ CX1 K no un ++ CX4 K se us) [.ref (x 0), .int a0] post := by
  refine RdM.mk rfl (Nat.le_of_ble_eq_true rfl) ?_
  intro F ls _ hF X hP hl hT
  have X : Cx F cX6_hirerFound 2 RX6 D (TY K) := X
  have hl : lv_has ls 2 [(0, .ref (x 0)), (1, .int a0)] := hl
  unfold w_X6_hirerFound at h
  refine v_iload_n X dX6_hirerFound_0 rfl (lv_at hl 1 rfl) ?_
  refine v_iconst (v := (0 : Int32)) X dX6_hirerFound_1 (by decide) ?_
  refine v_aload_n X dX6_hirerFound_2 rfl (lv_at hl 0 rfl) ?_
  refine v_get (v := .ref (no 0)) X hP 0 rfl fk_X6_22 rfl dX6_hirerFound_3 ?_
  refine v_get (v := .int un.2.2.2.2.2.2.2.2.1) X hP 3 rfl fk_X6_232 rfl dX6_hirerFound_6 ?_
  refine v_iconst (v := (1 : Int32)) X dX6_hirerFound_9 (by decide) ?_
  refine v_isub X dX6_hirerFound_10 ?_
  refine rdS (As := [.int a0, .int (0 : Int32), .int (un.2.2.2.2.2.2.2.2.1 - (1 : Int32))]) (rest := []) X ms_X6_58 (c_X6_isWithin F.2.1 D K t a0 (0 : Int32) (un.2.2.2.2.2.2.2.2.1 - (1 : Int32)) _ h) hF ⟨rfl, rfl, Nat.le_of_ble_eq_true rfl, Nat.le_of_ble_eq_true rfl⟩ hT hP [] rfl hl.1 rfl rfl (Nat.le_of_ble_eq_true rfl) dX6_hirerFound_11 (fun r1 h => ?_)
  refine v_if_eq (tgt := 29) X dX6_hirerFound_14 (by decide) (fun c2 => ?_) (fun c2 => ?_)
  · have h := h.1 c2
    refine v_ldc X kc_X6_224 dX6_hirerFound_29 ?_
    exact v_riret X hF h dX6_hirerFound_31
  · have h := h.2 c2
    refine v_aload_n X dX6_hirerFound_17 rfl (lv_at hl 0 rfl) ?_
    refine v_get (v := .ref (se 0)) X hP 0 rfl fk_X6_46 rfl dX6_hirerFound_18 ?_
    refine v_get (v := .ref (se 5)) X hP 11 rfl fk_X6_287 rfl dX6_hirerFound_21 ?_
    refine v_iload_n X dX6_hirerFound_24 rfl (lv_at hl 1 rfl) ?_
    have hin := h.1
    have h := h.2
    refine v_iald (f := us.2.2.2.2.1) X hP 16 0 rfl rfl hin dX6_hirerFound_25 ?_
    refine v_goto (tgt := 31) X dX6_hirerFound_26 (by decide) ?_
    exact v_riret X hF h dX6_hirerFound_31
def w_X6_best (ux : BX6) (un : BX1) (us : BX4) (a0 : Int32) (a1 : Int32) (post : Int32 → BX4 → Prop) : Prop := w_X1_isOpen un (fun r1 => (r1 = 0 → post (-1000002 : Int32) us) ∧ (¬ r1 = 0 → w_X6_isWithin a0 (0 : Int32) (60 : Int32) (fun r2 => (r2 = 0 → post (-1000001 : Int32) us) ∧ (¬ r2 = 0 → w_X6_isWithin a1 (-2 : Int32) (3 : Int32) (fun r3 => (r3 = 0 → post (-1000001 : Int32) us) ∧ (¬ r3 = 0 → w_X4_findBest us un a0 (fun u5 => (a1 = (-2 : Int32) → post u5.2.2.2.2.2.2.1 u5) ∧ (¬ a1 = (-2 : Int32) → (a1 = (-1 : Int32) → post u5.2.2.2.2.2.1 u5) ∧ (¬ a1 = (-1 : Int32) → w_X6_hirerFound ux un u5 a1 (fun r6 => post r6 u5))))))))))
set_option maxHeartbeats 4000000 in
set_option maxRecDepth 100000 in
theorem c_X6_best (l : Launch) (D : va_G) (K : Nat → ClassId) (t : Nat → Nat) (x no tr tp ac se ak : Nat → Nat) (ro im : Nat → Nat → Nat) (ux : BX6) (un : BX1) (us : BX4) (a0 : Int32) (a1 : Int32) (post : Int32 → BX4 → Prop) (h : w_X6_best ux un us a0 a1 post) : WrI l yX6_best cX6_best 3 (some .int) ({ frames := 6, cells := 0, slots := 0, locals := 167 } : Room) D (TY K) t (CX6 K x no tr tp ac se ak ro im ux ++ CX1 K no un ++ CX4 K se us) [.ref (x 0), .int a0, .int a1] (fun z : BX4 => CX6 K x no tr tp ac se ak ro im ux ++ CX1 K no un ++ CX4 K se z) (fun (r : Int32) (z : BX4) => post r z) := by
  refine WrI.mk rfl (Nat.le_of_ble_eq_true rfl) ?_
  intro F ls A _ hF X hH hA hl hT
  obtain ⟨H, hH0⟩ : ∃ z : Heap, z = (fxS F).heap := ⟨_, rfl⟩
  obtain ⟨locs, hL0⟩ : ∃ z : List Loc, z = [] := ⟨_, rfl⟩
  have hH : HH F D A (CX6 K x no tr tp ac se ak ro im ux ++ CX1 K no un ++ CX4 K se us) H locs := by rw [hH0, hL0]; exact hH
  suffices goal : V F (WQI F D (TY K) A (fun z : BX4 => CX6 K x no tr tp ac se ak ro im ux ++ CX1 K no un ++ CX4 K se z) (fun (r : Int32) (z : BX4) => post r z)) H locs 0 ls [] by rw [hH0, hL0] at goal; exact goal
  clear hH0 hL0
  have X : Cx F cX6_best 3 RX6 D (TY K) := X
  have hl : lv_has ls 3 [(0, .ref (x 0)), (1, .int a0), (2, .int a1)] := hl
  unfold w_X6_best at h
  refine v_aload_n X dX6_best_0 rfl (lv_at hl 0 rfl) ?_
  refine v_get (v := .ref (no 0)) X hH.1 0 rfl fk_X6_22 rfl dX6_best_1 ?_
  refine rdV (As := []) (rest := []) X mv_X6_135 (c_X1_isOpen F.2.1 D K t no un _ h) hF ⟨rfl, rfl, Nat.le_of_ble_eq_true rfl, Nat.le_of_ble_eq_true rfl⟩ (stW hT hH) hH.1 [3, 4, 5, 6, 7, 8, 9, 10] rfl 3 rfl rfl hl.1 rfl rfl (Nat.le_of_ble_eq_true rfl) dX6_best_4 (fun r1 h => ?_)
  refine v_if_ne (tgt := 13) X dX6_best_7 (by decide) (fun c11 => ?_) (fun c11 => ?_)
  · have h := h.2 c11
    refine v_iload_n X dX6_best_13 rfl (lv_at hl 1 rfl) ?_
    refine v_iconst (v := (0 : Int32)) X dX6_best_14 (by decide) ?_
    refine v_bipush (v := (60 : Int32)) X dX6_best_15 (by decide) ?_
    refine rdS (As := [.int a0, .int (0 : Int32), .int (60 : Int32)]) (rest := []) X ms_X6_58 (c_X6_isWithin F.2.1 D K t a0 (0 : Int32) (60 : Int32) _ h) hF ⟨rfl, rfl, Nat.le_of_ble_eq_true rfl, Nat.le_of_ble_eq_true rfl⟩ (stW hT hH) hH.1 [] rfl hl.1 rfl rfl (Nat.le_of_ble_eq_true rfl) dX6_best_17 (fun r2 h => ?_)
    refine v_if_eq (tgt := 33) X dX6_best_20 (by decide) (fun c10 => ?_) (fun c10 => ?_)
    · have h := h.1 c10
      refine v_ldc X kc_X6_62 dX6_best_33 ?_
      exact v_wiret X hF us hH h dX6_best_35
    · have h := h.2 c10
      refine v_iload_n X dX6_best_23 rfl (lv_at hl 2 rfl) ?_
      refine v_bipush (v := (-2 : Int32)) X dX6_best_24 (by decide) ?_
      refine v_iconst (v := (3 : Int32)) X dX6_best_26 (by decide) ?_
      refine rdS (As := [.int a1, .int (-2 : Int32), .int (3 : Int32)]) (rest := []) X ms_X6_58 (c_X6_isWithin F.2.1 D K t a1 (-2 : Int32) (3 : Int32) _ h) hF ⟨rfl, rfl, Nat.le_of_ble_eq_true rfl, Nat.le_of_ble_eq_true rfl⟩ (stW hT hH) hH.1 [] rfl hl.1 rfl rfl (Nat.le_of_ble_eq_true rfl) dX6_best_27 (fun r3 h => ?_)
      refine v_if_ne (tgt := 36) X dX6_best_30 (by decide) (fun c9 => ?_) (fun c9 => ?_)
      · have h := h.2 c9
        refine v_aload_n X dX6_best_36 rfl (lv_at hl 0 rfl) ?_
        refine v_get (v := .ref (se 0)) X hH.1 0 rfl fk_X6_46 rfl dX6_best_37 ?_
        refine v_aload_n X dX6_best_40 rfl (lv_at hl 0 rfl) ?_
        refine v_get (v := .ref (no 0)) X hH.1 0 rfl fk_X6_22 rfl dX6_best_41 ?_
        refine v_iload_n X dX6_best_44 rfl (lv_at hl 1 rfl) ?_
        refine wrVV (As := [.ref (no 0), .int a0]) (rest := []) (wr := (CX6 K x no tr tp ac se ak ro im ux)) X mv_X6_205 (c_X4_findBest F.2.1 D K t se no us un a0 _ h) hF ⟨rfl, rfl, Nat.le_of_ble_eq_true rfl, Nat.le_of_ble_eq_true rfl⟩ hT hA hH [11, 12, 13, 14, 15, 16, 3, 4, 5, 6, 7, 8, 9, 10] [0, 1, 2] ⟨rfl, rfl, rfl, rfl, by decide⟩ 11 rfl rfl hl.1 rfl rfl (Nat.le_of_ble_eq_true rfl) dX6_best_45 (fun u5 H locs h hH => ?_)
        have hH : HH F D A (CX6 K x no tr tp ac se ak ro im ux ++ CX4 K se u5 ++ CX1 K no un) H locs := hH
        refine v_iload_n X dX6_best_48 rfl (lv_at hl 2 rfl) ?_
        refine v_bipush (v := (-2 : Int32)) X dX6_best_49 (by decide) ?_
        refine v_icmp_ne (tgt := 62) X dX6_best_51 (by decide) (fun c8 => ?_) (fun c8 => ?_)
        · have h := h.2 c8
          refine v_iload_n X dX6_best_62 rfl (lv_at hl 2 rfl) ?_
          refine v_iconst (v := (-1 : Int32)) X dX6_best_63 (by decide) ?_
          refine v_icmp_ne (tgt := 77) X dX6_best_64 (by decide) (fun c7 => ?_) (fun c7 => ?_)
          · have h := h.2 c7
            refine v_aload_n X dX6_best_77 rfl (lv_at hl 0 rfl) ?_
            refine v_iload_n X dX6_best_78 rfl (lv_at hl 2 rfl) ?_
            refine rdV (As := [.int a1]) (rest := []) X mv_X6_214 (c_X6_hirerFound F.2.1 D K t x no tr tp ac se ak ro im ux un u5 a1 _ h) hF ⟨rfl, rfl, Nat.le_of_ble_eq_true rfl, Nat.le_of_ble_eq_true rfl⟩ (stW hT hH) hH.1 [0, 1, 2, 9, 10, 11, 12, 13, 14, 15, 16, 3, 4, 5, 6, 7, 8] rfl 0 rfl rfl hl.1 rfl rfl (Nat.le_of_ble_eq_true rfl) dX6_best_79 (fun r6 h => ?_)
            exact v_wiret X hF u5 (hH.perm [0, 1, 2, 9, 10, 11, 12, 13, 14, 15, 16, 3, 4, 5, 6, 7, 8] rfl rfl) h dX6_best_82
          · have h := h.1 c7
            refine v_aload_n X dX6_best_67 rfl (lv_at hl 0 rfl) ?_
            refine v_get (v := .ref (se 0)) X hH.1 0 rfl fk_X6_46 rfl dX6_best_68 ?_
            refine v_get (v := .int u5.2.2.2.2.2.1) X hH.1 3 rfl fk_X6_212 rfl dX6_best_71 ?_
            refine v_goto (tgt := 82) X dX6_best_74 (by decide) ?_
            exact v_wiret X hF u5 (hH.perm [0, 1, 2, 9, 10, 11, 12, 13, 14, 15, 16, 3, 4, 5, 6, 7, 8] rfl rfl) h dX6_best_82
        · have h := h.1 c8
          refine v_aload_n X dX6_best_54 rfl (lv_at hl 0 rfl) ?_
          refine v_get (v := .ref (se 0)) X hH.1 0 rfl fk_X6_46 rfl dX6_best_55 ?_
          refine v_get (v := .int u5.2.2.2.2.2.2.1) X hH.1 3 rfl fk_X6_209 rfl dX6_best_58 ?_
          exact v_wiret X hF u5 (hH.perm [0, 1, 2, 9, 10, 11, 12, 13, 14, 15, 16, 3, 4, 5, 6, 7, 8] rfl rfl) h dX6_best_61
      · have h := h.1 c9
        refine v_ldc X kc_X6_62 dX6_best_33 ?_
        exact v_wiret X hF us hH h dX6_best_35
  · have h := h.1 c11
    refine v_ldc X kc_X6_138 dX6_best_10 ?_
    exact v_wiret X hF us hH h dX6_best_12
def w_X6_fewest (ux : BX6) (un : BX1) (us : BX4) (a0 : Int32) (a1 : Int32) (a2 : Int32) (post : Int32 → BX4 → Prop) : Prop := w_X1_isOpen un (fun r1 => (r1 = 0 → post (-1000002 : Int32) us) ∧ (¬ r1 = 0 → w_X1_hasAll un a0 (fun r2 => (r2 = 0 → post (-1000001 : Int32) us) ∧ (¬ r2 = 0 → w_X6_isWithin a1 (0 : Int32) (60 : Int32) (fun r3 => (r3 = 0 → post (-1000001 : Int32) us) ∧ (¬ r3 = 0 → w_X6_isWithin a2 (-1 : Int32) (3 : Int32) (fun r4 => (r4 = 0 → post (-1000001 : Int32) us) ∧ (¬ r4 = 0 → w_X4_findFewest us un a0 a1 (fun u6 => (u6.2.2.2.2.2.2.2 = (-1000000 : Int32) → post (-1000000 : Int32) u6) ∧ (¬ u6.2.2.2.2.2.2.2 = (-1000000 : Int32) → (a2 = (-1 : Int32) → post u6.2.2.2.2.2.2.2 u6) ∧ (¬ a2 = (-1 : Int32) → w_X6_hirerFound ux un u6 a2 (fun r7 => post r7 u6))))))))))))
set_option maxHeartbeats 4000000 in
set_option maxRecDepth 100000 in
theorem c_X6_fewest (l : Launch) (D : va_G) (K : Nat → ClassId) (t : Nat → Nat) (x no tr tp ac se ak : Nat → Nat) (ro im : Nat → Nat → Nat) (ux : BX6) (un : BX1) (us : BX4) (a0 : Int32) (a1 : Int32) (a2 : Int32) (post : Int32 → BX4 → Prop) (h : w_X6_fewest ux un us a0 a1 a2 post) : WrI l yX6_fewest cX6_fewest 4 (some .int) ({ frames := 6, cells := 0, slots := 0, locals := 165 } : Room) D (TY K) t (CX6 K x no tr tp ac se ak ro im ux ++ CX1 K no un ++ CX4 K se us) [.ref (x 0), .int a0, .int a1, .int a2] (fun z : BX4 => CX6 K x no tr tp ac se ak ro im ux ++ CX1 K no un ++ CX4 K se z) (fun (r : Int32) (z : BX4) => post r z) := by
  refine WrI.mk rfl (Nat.le_of_ble_eq_true rfl) ?_
  intro F ls A _ hF X hH hA hl hT
  obtain ⟨H, hH0⟩ : ∃ z : Heap, z = (fxS F).heap := ⟨_, rfl⟩
  obtain ⟨locs, hL0⟩ : ∃ z : List Loc, z = [] := ⟨_, rfl⟩
  have hH : HH F D A (CX6 K x no tr tp ac se ak ro im ux ++ CX1 K no un ++ CX4 K se us) H locs := by rw [hH0, hL0]; exact hH
  suffices goal : V F (WQI F D (TY K) A (fun z : BX4 => CX6 K x no tr tp ac se ak ro im ux ++ CX1 K no un ++ CX4 K se z) (fun (r : Int32) (z : BX4) => post r z)) H locs 0 ls [] by rw [hH0, hL0] at goal; exact goal
  clear hH0 hL0
  have X : Cx F cX6_fewest 4 RX6 D (TY K) := X
  have hl : lv_has ls 4 [(0, .ref (x 0)), (1, .int a0), (2, .int a1), (3, .int a2)] := hl
  unfold w_X6_fewest at h
  refine v_aload_n X dX6_fewest_0 rfl (lv_at hl 0 rfl) ?_
  refine v_get (v := .ref (no 0)) X hH.1 0 rfl fk_X6_22 rfl dX6_fewest_1 ?_
  refine rdV (As := []) (rest := []) X mv_X6_135 (c_X1_isOpen F.2.1 D K t no un _ h) hF ⟨rfl, rfl, Nat.le_of_ble_eq_true rfl, Nat.le_of_ble_eq_true rfl⟩ (stW hT hH) hH.1 [3, 4, 5, 6, 7, 8, 9, 10] rfl 3 rfl rfl hl.1 rfl rfl (Nat.le_of_ble_eq_true rfl) dX6_fewest_4 (fun r1 h => ?_)
  refine v_if_ne (tgt := 13) X dX6_fewest_7 (by decide) (fun c13 => ?_) (fun c13 => ?_)
  · have h := h.2 c13
    refine v_aload_n X dX6_fewest_13 rfl (lv_at hl 0 rfl) ?_
    refine v_get (v := .ref (no 0)) X hH.1 0 rfl fk_X6_22 rfl dX6_fewest_14 ?_
    refine v_iload_n X dX6_fewest_17 rfl (lv_at hl 1 rfl) ?_
    refine rdV (As := [.int a0]) (rest := []) X mv_X6_202 (c_X1_hasAll F.2.1 D K t no un a0 _ h) hF ⟨rfl, rfl, Nat.le_of_ble_eq_true rfl, Nat.le_of_ble_eq_true rfl⟩ (stW hT hH) hH.1 [3, 4, 5, 6, 7, 8, 9, 10] rfl 3 rfl rfl hl.1 rfl rfl (Nat.le_of_ble_eq_true rfl) dX6_fewest_18 (fun r2 h => ?_)
    refine v_if_eq (tgt := 43) X dX6_fewest_21 (by decide) (fun c12 => ?_) (fun c12 => ?_)
    · have h := h.1 c12
      refine v_ldc X kc_X6_62 dX6_fewest_43 ?_
      exact v_wiret X hF us hH h dX6_fewest_45
    · have h := h.2 c12
      refine v_iload_n X dX6_fewest_24 rfl (lv_at hl 2 rfl) ?_
      refine v_iconst (v := (0 : Int32)) X dX6_fewest_25 (by decide) ?_
      refine v_bipush (v := (60 : Int32)) X dX6_fewest_26 (by decide) ?_
      refine rdS (As := [.int a1, .int (0 : Int32), .int (60 : Int32)]) (rest := []) X ms_X6_58 (c_X6_isWithin F.2.1 D K t a1 (0 : Int32) (60 : Int32) _ h) hF ⟨rfl, rfl, Nat.le_of_ble_eq_true rfl, Nat.le_of_ble_eq_true rfl⟩ (stW hT hH) hH.1 [] rfl hl.1 rfl rfl (Nat.le_of_ble_eq_true rfl) dX6_fewest_28 (fun r3 h => ?_)
      refine v_if_eq (tgt := 43) X dX6_fewest_31 (by decide) (fun c11 => ?_) (fun c11 => ?_)
      · have h := h.1 c11
        refine v_ldc X kc_X6_62 dX6_fewest_43 ?_
        exact v_wiret X hF us hH h dX6_fewest_45
      · have h := h.2 c11
        refine v_iload_n X dX6_fewest_34 rfl (lv_at hl 3 rfl) ?_
        refine v_iconst (v := (-1 : Int32)) X dX6_fewest_35 (by decide) ?_
        refine v_iconst (v := (3 : Int32)) X dX6_fewest_36 (by decide) ?_
        refine rdS (As := [.int a2, .int (-1 : Int32), .int (3 : Int32)]) (rest := []) X ms_X6_58 (c_X6_isWithin F.2.1 D K t a2 (-1 : Int32) (3 : Int32) _ h) hF ⟨rfl, rfl, Nat.le_of_ble_eq_true rfl, Nat.le_of_ble_eq_true rfl⟩ (stW hT hH) hH.1 [] rfl hl.1 rfl rfl (Nat.le_of_ble_eq_true rfl) dX6_fewest_37 (fun r4 h => ?_)
        refine v_if_ne (tgt := 46) X dX6_fewest_40 (by decide) (fun c10 => ?_) (fun c10 => ?_)
        · have h := h.2 c10
          refine v_aload_n X dX6_fewest_46 rfl (lv_at hl 0 rfl) ?_
          refine v_get (v := .ref (se 0)) X hH.1 0 rfl fk_X6_46 rfl dX6_fewest_47 ?_
          refine v_aload_n X dX6_fewest_50 rfl (lv_at hl 0 rfl) ?_
          refine v_get (v := .ref (no 0)) X hH.1 0 rfl fk_X6_22 rfl dX6_fewest_51 ?_
          refine v_iload_n X dX6_fewest_54 rfl (lv_at hl 1 rfl) ?_
          refine v_iload_n X dX6_fewest_55 rfl (lv_at hl 2 rfl) ?_
          refine wrVV (As := [.ref (no 0), .int a0, .int a1]) (rest := []) (wr := (CX6 K x no tr tp ac se ak ro im ux)) X mv_X6_217 (c_X4_findFewest F.2.1 D K t se no us un a0 a1 _ h) hF ⟨rfl, rfl, Nat.le_of_ble_eq_true rfl, Nat.le_of_ble_eq_true rfl⟩ hT hA hH [11, 12, 13, 14, 15, 16, 3, 4, 5, 6, 7, 8, 9, 10] [0, 1, 2] ⟨rfl, rfl, rfl, rfl, by decide⟩ 11 rfl rfl hl.1 rfl rfl (Nat.le_of_ble_eq_true rfl) dX6_fewest_56 (fun u6 H locs h hH => ?_)
          have hH : HH F D A (CX6 K x no tr tp ac se ak ro im ux ++ CX4 K se u6 ++ CX1 K no un) H locs := hH
          refine v_aload_n X dX6_fewest_59 rfl (lv_at hl 0 rfl) ?_
          refine v_get (v := .ref (se 0)) X hH.1 0 rfl fk_X6_46 rfl dX6_fewest_60 ?_
          refine v_get (v := .int u6.2.2.2.2.2.2.2) X hH.1 3 rfl fk_X6_221 rfl dX6_fewest_63 ?_
          refine v_ldc X kc_X6_224 dX6_fewest_66 ?_
          refine v_icmp_ne (tgt := 74) X dX6_fewest_68 (by decide) (fun c9 => ?_) (fun c9 => ?_)
          · have h := h.2 c9
            refine v_iload_n X dX6_fewest_74 rfl (lv_at hl 3 rfl) ?_
            refine v_iconst (v := (-1 : Int32)) X dX6_fewest_75 (by decide) ?_
            refine v_icmp_ne (tgt := 89) X dX6_fewest_76 (by decide) (fun c8 => ?_) (fun c8 => ?_)
            · have h := h.2 c8
              refine v_aload_n X dX6_fewest_89 rfl (lv_at hl 0 rfl) ?_
              refine v_iload_n X dX6_fewest_90 rfl (lv_at hl 3 rfl) ?_
              refine rdV (As := [.int a2]) (rest := []) X mv_X6_214 (c_X6_hirerFound F.2.1 D K t x no tr tp ac se ak ro im ux un u6 a2 _ h) hF ⟨rfl, rfl, Nat.le_of_ble_eq_true rfl, Nat.le_of_ble_eq_true rfl⟩ (stW hT hH) hH.1 [0, 1, 2, 9, 10, 11, 12, 13, 14, 15, 16, 3, 4, 5, 6, 7, 8] rfl 0 rfl rfl hl.1 rfl rfl (Nat.le_of_ble_eq_true rfl) dX6_fewest_91 (fun r7 h => ?_)
              exact v_wiret X hF u6 (hH.perm [0, 1, 2, 9, 10, 11, 12, 13, 14, 15, 16, 3, 4, 5, 6, 7, 8] rfl rfl) h dX6_fewest_94
            · have h := h.1 c8
              refine v_aload_n X dX6_fewest_79 rfl (lv_at hl 0 rfl) ?_
              refine v_get (v := .ref (se 0)) X hH.1 0 rfl fk_X6_46 rfl dX6_fewest_80 ?_
              refine v_get (v := .int u6.2.2.2.2.2.2.2) X hH.1 3 rfl fk_X6_221 rfl dX6_fewest_83 ?_
              refine v_goto (tgt := 94) X dX6_fewest_86 (by decide) ?_
              exact v_wiret X hF u6 (hH.perm [0, 1, 2, 9, 10, 11, 12, 13, 14, 15, 16, 3, 4, 5, 6, 7, 8] rfl rfl) h dX6_fewest_94
          · have h := h.1 c9
            refine v_ldc X kc_X6_224 dX6_fewest_71 ?_
            exact v_wiret X hF u6 (hH.perm [0, 1, 2, 9, 10, 11, 12, 13, 14, 15, 16, 3, 4, 5, 6, 7, 8] rfl rfl) h dX6_fewest_73
        · have h := h.1 c10
          refine v_ldc X kc_X6_62 dX6_fewest_43 ?_
          exact v_wiret X hF us hH h dX6_fewest_45
  · have h := h.1 c13
    refine v_ldc X kc_X6_138 dX6_fewest_10 ?_
    exact v_wiret X hF us hH h dX6_fewest_12
def w_X6_isGuess (ux : BX6) (un : BX1) (a0 : Int32) (a1 : Int32) (post : Int32 → Prop) : Prop := (a1 = 0 → w_X1_hasClient un a0 (fun r3 => (r3 = 0 → (a0 = (5 : Int32) → post (1 : Int32)) ∧ (¬ a0 = (5 : Int32) → post (0 : Int32))) ∧ (¬ r3 = 0 → post (1 : Int32)))) ∧ (¬ a1 = 0 → (a1 = (2 : Int32) → post (1 : Int32)) ∧ (¬ a1 = (2 : Int32) → (a0 < (1 : Int32) → post (0 : Int32)) ∧ (¬ a0 < (1 : Int32) → post (1 : Int32))))
set_option maxHeartbeats 4000000 in
set_option maxRecDepth 100000 in
theorem c_X6_isGuess (l : Launch) (D : va_G) (K : Nat → ClassId) (t : Nat → Nat) (x no tr tp ac se ak : Nat → Nat) (ro im : Nat → Nat → Nat) (ux : BX6) (un : BX1) (a0 : Int32) (a1 : Int32) (post : Int32 → Prop) (h : w_X6_isGuess ux un a0 a1 post) : RdM l yX6_isGuess cX6_isGuess 3 (some .boolean) ({ frames := 1, cells := 0, slots := 0, locals := 21 } : Room) D (TY K) t (CX6 K x no tr tp ac se ak ro im ux ++ CX1 K no un) [.ref (x 0), .int a0, .int a1] post := by
  refine RdM.mk rfl (Nat.le_of_ble_eq_true rfl) ?_
  intro F ls _ hF X hP hl hT
  have X : Cx F cX6_isGuess 3 RX6 D (TY K) := X
  have hl : lv_has ls 3 [(0, .ref (x 0)), (1, .int a0), (2, .int a1)] := hl
  unfold w_X6_isGuess at h
  refine v_iload_n X dX6_isGuess_0 rfl (lv_at hl 2 rfl) ?_
  refine v_if_ne (tgt := 26) X dX6_isGuess_1 (by decide) (fun c6 => ?_) (fun c6 => ?_)
  · have h := h.2 c6
    refine v_iload_n X dX6_isGuess_26 rfl (lv_at hl 2 rfl) ?_
    refine v_iconst (v := (2 : Int32)) X dX6_isGuess_27 (by decide) ?_
    refine v_icmp_eq (tgt := 36) X dX6_isGuess_28 (by decide) (fun c2 => ?_) (fun c2 => ?_)
    · have h := h.1 c2
      refine v_iconst (v := (1 : Int32)) X dX6_isGuess_36 (by decide) ?_
      refine v_goto (tgt := 41) X dX6_isGuess_37 (by decide) ?_
      exact v_rzret X hF rfl h dX6_isGuess_41
    · have h := h.2 c2
      refine v_iload_n X dX6_isGuess_31 rfl (lv_at hl 1 rfl) ?_
      refine v_iconst (v := (1 : Int32)) X dX6_isGuess_32 (by decide) ?_
      refine v_icmp_lt (tgt := 40) X dX6_isGuess_33 (by decide) (fun c1 => ?_) (fun c1 => ?_)
      · have h := h.1 c1
        refine v_iconst (v := (0 : Int32)) X dX6_isGuess_40 (by decide) ?_
        exact v_rzret X hF rfl h dX6_isGuess_41
      · have h := h.2 c1
        refine v_iconst (v := (1 : Int32)) X dX6_isGuess_36 (by decide) ?_
        refine v_goto (tgt := 41) X dX6_isGuess_37 (by decide) ?_
        exact v_rzret X hF rfl h dX6_isGuess_41
  · have h := h.1 c6
    refine v_aload_n X dX6_isGuess_4 rfl (lv_at hl 0 rfl) ?_
    refine v_get (v := .ref (no 0)) X hP 0 rfl fk_X6_22 rfl dX6_isGuess_5 ?_
    refine v_iload_n X dX6_isGuess_8 rfl (lv_at hl 1 rfl) ?_
    refine rdV (As := [.int a0]) (rest := []) X mv_X6_155 (c_X1_hasClient F.2.1 D K t no un a0 _ h) hF ⟨rfl, rfl, Nat.le_of_ble_eq_true rfl, Nat.le_of_ble_eq_true rfl⟩ hT hP [3, 4, 5, 6, 7, 8, 9, 10] rfl 3 rfl rfl hl.1 rfl rfl (Nat.le_of_ble_eq_true rfl) dX6_isGuess_9 (fun r3 h => ?_)
    refine v_if_ne (tgt := 20) X dX6_isGuess_12 (by decide) (fun c5 => ?_) (fun c5 => ?_)
    · have h := h.2 c5
      refine v_iconst (v := (1 : Int32)) X dX6_isGuess_20 (by decide) ?_
      refine v_goto (tgt := 25) X dX6_isGuess_21 (by decide) ?_
      exact v_rzret X hF rfl h dX6_isGuess_25
    · have h := h.1 c5
      refine v_iload_n X dX6_isGuess_15 rfl (lv_at hl 1 rfl) ?_
      refine v_iconst (v := (5 : Int32)) X dX6_isGuess_16 (by decide) ?_
      refine v_icmp_ne (tgt := 24) X dX6_isGuess_17 (by decide) (fun c4 => ?_) (fun c4 => ?_)
      · have h := h.2 c4
        refine v_iconst (v := (0 : Int32)) X dX6_isGuess_24 (by decide) ?_
        exact v_rzret X hF rfl h dX6_isGuess_25
      · have h := h.1 c4
        refine v_iconst (v := (1 : Int32)) X dX6_isGuess_20 (by decide) ?_
        refine v_goto (tgt := 25) X dX6_isGuess_21 (by decide) ?_
        exact v_rzret X hF rfl h dX6_isGuess_25
def wL_X6_wouldShow_59 (y7 : Int32) (y8 : Int32) (b9 : BX6) (b10 : BX1) (b11 : BX3) (post : Int32 → BX1 → Prop) (Kx59 : BX1 → Prop) : Nat → Int32 → BX1 → Prop
  | 0, _, _ => False
  | n59 + 1, x5, u6 => (y8 ≤ x5 → post (1 : Int32) u6) ∧ (¬ y8 ≤ x5 → w_X1_passNight u6 (15 : Int32) (fun u15 => w_X1_resting u15 (fun r16 => vp_in (y7 + x5) 40 ∧ ((r16 = (b11.1 (y7 + x5).toNatClampNeg) → wL_X6_wouldShow_59 y7 y8 b9 b10 b11 post Kx59 n59 (x5 + (1 : Int32)) u15) ∧ (¬ r16 = (b11.1 (y7 + x5).toNatClampNeg) → Kx59 u15)))))
def w_X6_wouldShow (ux : BX6) (un : BX1) (ut : BX1) (up3 : BX3) (a0 : Int32) (a1 : Int32) (a2 : Int32) (a4 : Int32) (a5 : Int32) (post : Int32 → BX1 → Prop) : Prop := w_X1_copyFrom ut un (fun u2 => wpJ (T := BX1 → Prop) (fun (u4 : BX1) => ∃ n59, wL_X6_wouldShow_59 a4 a5 ux un up3 post (fun (u12 : BX1) => post (0 : Int32) u12) n59 (0 : Int32) u4) (fun J3 => (a1 = 0 → vp_in a0 4 ∧ (J3 (u2.1, u2.2.1, u2.2.2.1, u2.2.2.2.1, u2.2.2.2.2.1, (upd u2.2.2.2.2.2.1 a0.toNatClampNeg a2), u2.2.2.2.2.2.2.1, u2.2.2.2.2.2.2.2.1, u2.2.2.2.2.2.2.2.2.1, u2.2.2.2.2.2.2.2.2.2.1, u2.2.2.2.2.2.2.2.2.2.2.1, u2.2.2.2.2.2.2.2.2.2.2.2))) ∧ (¬ a1 = 0 → (a1 = (1 : Int32) → vp_in a0 4 ∧ (J3 (u2.1, u2.2.1, (upd u2.2.2.1 a0.toNatClampNeg a2), u2.2.2.2.1, u2.2.2.2.2.1, u2.2.2.2.2.2.1, u2.2.2.2.2.2.2.1, u2.2.2.2.2.2.2.2.1, u2.2.2.2.2.2.2.2.2.1, u2.2.2.2.2.2.2.2.2.2.1, u2.2.2.2.2.2.2.2.2.2.2.1, u2.2.2.2.2.2.2.2.2.2.2.2))) ∧ (¬ a1 = (1 : Int32) → vp_in a0 4 ∧ (J3 (u2.1, u2.2.1, u2.2.2.1, u2.2.2.2.1, (upd u2.2.2.2.2.1 a0.toNatClampNeg a2), u2.2.2.2.2.2.1, u2.2.2.2.2.2.2.1, u2.2.2.2.2.2.2.2.1, u2.2.2.2.2.2.2.2.2.1, u2.2.2.2.2.2.2.2.2.2.1, u2.2.2.2.2.2.2.2.2.2.2.1, u2.2.2.2.2.2.2.2.2.2.2.2))))))
set_option maxHeartbeats 4000000 in
set_option maxRecDepth 100000 in
theorem c_X6_wouldShow (l : Launch) (D : va_G) (K : Nat → ClassId) (t : Nat → Nat) (x no tr tp ac se ak : Nat → Nat) (ro im : Nat → Nat → Nat) (o3 : Nat → Nat) (ux : BX6) (un : BX1) (ut : BX1) (up3 : BX3) (a0 : Int32) (a1 : Int32) (a2 : Int32) (a4 : Int32) (a5 : Int32) (post : Int32 → BX1 → Prop) (h : w_X6_wouldShow ux un ut up3 a0 a1 a2 a4 a5 post) : WrI l yX6_wouldShow cX6_wouldShow 8 (some .boolean) ({ frames := 5, cells := 0, slots := 0, locals := 135 } : Room) D (TY K) t (CX6 K x no tr tp ac se ak ro im ux ++ CX1 K no un ++ CX1 K tr ut ++ CX3 K o3 up3) [.ref (x 0), .int a0, .int a1, .int a2, .ref (o3 0), .int a4, .int a5] (fun z : BX1 => CX6 K x no tr tp ac se ak ro im ux ++ CX1 K no un ++ CX1 K tr z ++ CX3 K o3 up3) (fun (r : Int32) (z : BX1) => post r z) := by
  refine WrI.mk rfl (Nat.le_of_ble_eq_true rfl) ?_
  intro F ls A _ hF X hH hA hl hT
  obtain ⟨H, hH0⟩ : ∃ z : Heap, z = (fxS F).heap := ⟨_, rfl⟩
  obtain ⟨locs, hL0⟩ : ∃ z : List Loc, z = [] := ⟨_, rfl⟩
  have hH : HH F D A (CX6 K x no tr tp ac se ak ro im ux ++ CX1 K no un ++ CX1 K tr ut ++ CX3 K o3 up3) H locs := by rw [hH0, hL0]; exact hH
  suffices goal : V F (WQI F D (TY K) A (fun z : BX1 => CX6 K x no tr tp ac se ak ro im ux ++ CX1 K no un ++ CX1 K tr z ++ CX3 K o3 up3) (fun (r : Int32) (z : BX1) => post r z)) H locs 0 ls [] by rw [hH0, hL0] at goal; exact goal
  clear hH0 hL0
  have X : Cx F cX6_wouldShow 8 RX6 D (TY K) := X
  have hl : lv_has ls 8 [(0, .ref (x 0)), (1, .int a0), (2, .int a1), (3, .int a2), (4, .ref (o3 0)), (5, .int a4), (6, .int a5)] := hl
  unfold w_X6_wouldShow at h
  refine v_aload_n X dX6_wouldShow_0 rfl (lv_at hl 0 rfl) ?_
  refine v_get (v := .ref (tr 0)) X hH.1 0 rfl fk_X6_26 rfl dX6_wouldShow_1 ?_
  refine v_aload_n X dX6_wouldShow_4 rfl (lv_at hl 0 rfl) ?_
  refine v_get (v := .ref (no 0)) X hH.1 0 rfl fk_X6_22 rfl dX6_wouldShow_5 ?_
  refine wrVV (As := [.ref (no 0)]) (rest := []) (wr := (CX6 K x no tr tp ac se ak ro im ux ++ CX3 K o3 up3)) X mv_X6_126 (c_X1_copyFrom F.2.1 D K t tr no ut un _ h) hF ⟨rfl, rfl, Nat.le_of_ble_eq_true rfl, Nat.le_of_ble_eq_true rfl⟩ hT hA hH [11, 12, 13, 14, 15, 16, 17, 18, 3, 4, 5, 6, 7, 8, 9, 10] [0, 1, 2, 19, 20] ⟨rfl, rfl, rfl, rfl, by decide⟩ 11 rfl rfl hl.1 rfl rfl (Nat.le_of_ble_eq_true rfl) dX6_wouldShow_8 (fun u2 H locs h hH => ?_)
  have hH : HH F D A (CX6 K x no tr tp ac se ak ro im ux ++ CX3 K o3 up3 ++ CX1 K tr u2 ++ CX1 K no un) H locs := hH
  refine v_iload_n X dX6_wouldShow_11 rfl (lv_at hl 2 rfl) ?_
  obtain ⟨J3, hJ3⟩ : ∃ f : BX1 → Prop, f = (fun (u4 : BX1) => ∃ n59, wL_X6_wouldShow_59 a4 a5 ux un up3 post (fun (u12 : BX1) => post (0 : Int32) u12) n59 (0 : Int32) u4) := ⟨_, rfl⟩
  have kJ3 : ∀ (u4 : BX1) (ls : Array Slot) (H : Heap) (locs : List Loc), (J3 u4) → lv_has ls 8 [(0, .ref (x 0)), (4, .ref (o3 0)), (5, .int a4), (6, .int a5)] → HH F D A (CX6 K x no tr tp ac se ak ro im ux ++ CX1 K no un ++ CX1 K tr u4 ++ CX3 K o3 up3) H locs → V F (WQI F D (TY K) A (fun z : BX1 => CX6 K x no tr tp ac se ak ro im ux ++ CX1 K no un ++ CX1 K tr z ++ CX3 K o3 up3) (fun (r : Int32) (z : BX1) => post r z)) H locs 56 ls [] := by
    intro u4 ls H locs h hl hH
    have h : ∃ n59, wL_X6_wouldShow_59 a4 a5 ux un up3 post (fun (u12 : BX1) => post (0 : Int32) u12) n59 (0 : Int32) u4 := by rw [hJ3] at h; exact h
    refine v_iconst (v := (0 : Int32)) X dX6_wouldShow_56 (by decide) ?_
    refine v_istore (lv' := [(7, .int (0 : Int32)), (0, .ref (x 0)), (4, .ref (o3 0)), (5, .int a4), (6, .int a5)]) X dX6_wouldShow_57 hl (by decide) rfl (fun ls hl => ?_)
    obtain ⟨Kx59, hK59⟩ : ∃ f : BX1 → Prop, f = (fun (u12 : BX1) => post (0 : Int32) u12) := ⟨_, rfl⟩
    have kx13 : ∀ (u12 : BX1) (ls : Array Slot) (H : Heap) (locs : List Loc), (Kx59 u12) → lv_has ls 8 [] → HH F D A (CX6 K x no tr tp ac se ak ro im ux ++ CX1 K no un ++ CX1 K tr u12 ++ CX3 K o3 up3) H locs → V F (WQI F D (TY K) A (fun z : BX1 => CX6 K x no tr tp ac se ak ro im ux ++ CX1 K no un ++ CX1 K tr z ++ CX3 K o3 up3) (fun (r : Int32) (z : BX1) => post r z)) H locs 96 ls [] := by
      intro u12 ls H locs h hl hH
      have h : post (0 : Int32) u12 := by rw [hK59] at h; exact h
      refine v_iconst (v := (0 : Int32)) X dX6_wouldShow_96 (by decide) ?_
      exact v_wzret X hF u12 hH rfl h dX6_wouldShow_97
    have lp59 : ∀ (n59 : Nat) (x5 : Int32) (u6 : BX1) (ls : Array Slot) (H : Heap) (locs : List Loc), wL_X6_wouldShow_59 a4 a5 ux un up3 post Kx59 n59 x5 u6 → lv_has ls 8 [(0, .ref (x 0)), (4, .ref (o3 0)), (5, .int a4), (6, .int a5), (7, .int x5)] → HH F D A (CX6 K x no tr tp ac se ak ro im ux ++ CX1 K no un ++ CX1 K tr u6 ++ CX3 K o3 up3) H locs → V F (WQI F D (TY K) A (fun z : BX1 => CX6 K x no tr tp ac se ak ro im ux ++ CX1 K no un ++ CX1 K tr z ++ CX3 K o3 up3) (fun (r : Int32) (z : BX1) => post r z)) H locs 59 ls [] := by
      intro n59
      induction n59 with
      | zero => intro x5 u6 ls H locs h hl hH; exact h.elim
      | succ n59 ih59 =>
        intro x5 u6 ls H locs h hl hH
        refine v_iload X dX6_wouldShow_59 (lv_at hl 4 rfl) ?_
        refine v_iload X dX6_wouldShow_61 (lv_at hl 3 rfl) ?_
        refine v_icmp_ge (tgt := 104) X dX6_wouldShow_63 (by decide) (fun c18 => ?_) (fun c18 => ?_)
        · have h := h.1 c18
          refine v_iconst (v := (1 : Int32)) X dX6_wouldShow_104 (by decide) ?_
          exact v_wzret X hF u6 hH rfl h dX6_wouldShow_105
        · have h := h.2 c18
          refine v_aload_n X dX6_wouldShow_66 rfl (lv_at hl 0 rfl) ?_
          refine v_get (v := .ref (tr 0)) X hH.1 0 rfl fk_X6_26 rfl dX6_wouldShow_67 ?_
          refine v_bipush (v := (15 : Int32)) X dX6_wouldShow_70 (by decide) ?_
          refine wrVV (As := [.int (15 : Int32)]) (rest := []) (wr := (CX6 K x no tr tp ac se ak ro im ux ++ CX1 K no un ++ CX3 K o3 up3)) X mv_X6_145 (c_X1_passNight F.2.1 D K t tr u6 (15 : Int32) _ h) hF ⟨rfl, rfl, Nat.le_of_ble_eq_true rfl, Nat.le_of_ble_eq_true rfl⟩ hT hA hH [11, 12, 13, 14, 15, 16, 17, 18] [0, 1, 2, 3, 4, 5, 6, 7, 8, 9, 10, 19, 20] ⟨rfl, rfl, rfl, rfl, by decide⟩ 11 rfl rfl hl.1 rfl rfl (Nat.le_of_ble_eq_true rfl) dX6_wouldShow_72 (fun u15 H locs h hH => ?_)
          have hH : HH F D A (CX6 K x no tr tp ac se ak ro im ux ++ CX1 K no un ++ CX3 K o3 up3 ++ CX1 K tr u15) H locs := hH
          refine v_aload_n X dX6_wouldShow_75 rfl (lv_at hl 0 rfl) ?_
          refine v_get (v := .ref (tr 0)) X hH.1 0 rfl fk_X6_26 rfl dX6_wouldShow_76 ?_
          refine rdV (As := []) (rest := []) X mv_X6_149 (c_X1_resting F.2.1 D K t tr u15 _ h) hF ⟨rfl, rfl, Nat.le_of_ble_eq_true rfl, Nat.le_of_ble_eq_true rfl⟩ (stW hT hH) hH.1 [13, 14, 15, 16, 17, 18, 19, 20] rfl 13 rfl rfl hl.1 rfl rfl (Nat.le_of_ble_eq_true rfl) dX6_wouldShow_79 (fun r16 h => ?_)
          refine v_aload X dX6_wouldShow_82 (lv_at hl 1 rfl) ?_
          refine v_get (v := .ref (o3 1)) X hH.1 11 rfl fk_X6_90 rfl dX6_wouldShow_84 ?_
          refine v_iload X dX6_wouldShow_87 (lv_at hl 2 rfl) ?_
          refine v_iload X dX6_wouldShow_89 (lv_at hl 4 rfl) ?_
          refine v_iadd X dX6_wouldShow_91 ?_
          have hin := h.1
          have h := h.2
          refine v_iald (f := up3.1) X hH.1 12 0 rfl rfl hin dX6_wouldShow_92 ?_
          refine v_icmp_eq (tgt := 98) X dX6_wouldShow_93 (by decide) (fun c17 => ?_) (fun c17 => ?_)
          · have h := h.1 c17
            refine v_iinc (v := (x5 + (1 : Int32))) (lv' := [(7, .int (x5 + (1 : Int32))), (0, .ref (x 0)), (4, .ref (o3 0)), (5, .int a4), (6, .int a5)]) X dX6_wouldShow_98 hl (k := 4) rfl rfl (by decide) rfl (fun ls hl => ?_)
            refine v_goto (tgt := 59) X dX6_wouldShow_101 (by decide) ?_
            exact ih59 (x5 + (1 : Int32)) u15 ls H locs h (lv_sub hl [1, 2, 3, 4, 0] rfl) (hH.perm [0, 1, 2, 3, 4, 5, 6, 7, 8, 9, 10, 13, 14, 15, 16, 17, 18, 19, 20, 11, 12] rfl rfl)
          · have h := h.2 c17
            exact kx13 u15 ls H locs h (lv_sub hl [] rfl) (hH.perm [0, 1, 2, 3, 4, 5, 6, 7, 8, 9, 10, 13, 14, 15, 16, 17, 18, 19, 20, 11, 12] rfl rfl)
    obtain ⟨n59, h⟩ := h
    have h : wL_X6_wouldShow_59 a4 a5 ux un up3 post Kx59 n59 (0 : Int32) u4 := by rw [hK59]; exact h
    exact lp59 n59 (0 : Int32) u4 ls H locs h (lv_sub hl [1, 2, 3, 4, 0] rfl) hH
  have h : (a1 = 0 → vp_in a0 4 ∧ (J3 (u2.1, u2.2.1, u2.2.2.1, u2.2.2.2.1, u2.2.2.2.2.1, (upd u2.2.2.2.2.2.1 a0.toNatClampNeg a2), u2.2.2.2.2.2.2.1, u2.2.2.2.2.2.2.2.1, u2.2.2.2.2.2.2.2.2.1, u2.2.2.2.2.2.2.2.2.2.1, u2.2.2.2.2.2.2.2.2.2.2.1, u2.2.2.2.2.2.2.2.2.2.2.2))) ∧ (¬ a1 = 0 → (a1 = (1 : Int32) → vp_in a0 4 ∧ (J3 (u2.1, u2.2.1, (upd u2.2.2.1 a0.toNatClampNeg a2), u2.2.2.2.1, u2.2.2.2.2.1, u2.2.2.2.2.2.1, u2.2.2.2.2.2.2.1, u2.2.2.2.2.2.2.2.1, u2.2.2.2.2.2.2.2.2.1, u2.2.2.2.2.2.2.2.2.2.1, u2.2.2.2.2.2.2.2.2.2.2.1, u2.2.2.2.2.2.2.2.2.2.2.2))) ∧ (¬ a1 = (1 : Int32) → vp_in a0 4 ∧ (J3 (u2.1, u2.2.1, u2.2.2.1, u2.2.2.2.1, (upd u2.2.2.2.2.1 a0.toNatClampNeg a2), u2.2.2.2.2.2.1, u2.2.2.2.2.2.2.1, u2.2.2.2.2.2.2.2.1, u2.2.2.2.2.2.2.2.2.1, u2.2.2.2.2.2.2.2.2.2.1, u2.2.2.2.2.2.2.2.2.2.2.1, u2.2.2.2.2.2.2.2.2.2.2.2)))) := by rw [hJ3]; exact h
  refine v_if_ne (tgt := 28) X dX6_wouldShow_12 (by decide) (fun c20 => ?_) (fun c20 => ?_)
  · have h := h.2 c20
    refine v_iload_n X dX6_wouldShow_28 rfl (lv_at hl 2 rfl) ?_
    refine v_iconst (v := (1 : Int32)) X dX6_wouldShow_29 (by decide) ?_
    refine v_icmp_ne (tgt := 46) X dX6_wouldShow_30 (by decide) (fun c19 => ?_) (fun c19 => ?_)
    · have h := h.2 c19
      refine v_aload_n X dX6_wouldShow_46 rfl (lv_at hl 0 rfl) ?_
      refine v_get (v := .ref (tr 0)) X hH.1 0 rfl fk_X6_26 rfl dX6_wouldShow_47 ?_
      refine v_get (v := .ref (tr 5)) X hH.1 5 rfl fk_X6_167 rfl dX6_wouldShow_50 ?_
      refine v_iload_n X dX6_wouldShow_53 rfl (lv_at hl 1 rfl) ?_
      refine v_iload_n X dX6_wouldShow_54 rfl (lv_at hl 3 rfl) ?_
      have hin := h.1
      have h := h.2
      refine v_iast (f := u2.2.2.2.2.1) X hH 10 0 rfl rfl hin dX6_wouldShow_55 (fun H locs hH => ?_)
      have hH : HH F D A (CX6 K x no tr tp ac se ak ro im ux ++ CX3 K o3 up3 ++ CX1 K tr (u2.1, u2.2.1, u2.2.2.1, u2.2.2.2.1, (upd u2.2.2.2.2.1 a0.toNatClampNeg a2), u2.2.2.2.2.2.1, u2.2.2.2.2.2.2.1, u2.2.2.2.2.2.2.2.1, u2.2.2.2.2.2.2.2.2.1, u2.2.2.2.2.2.2.2.2.2.1, u2.2.2.2.2.2.2.2.2.2.2.1, u2.2.2.2.2.2.2.2.2.2.2.2) ++ CX1 K no un) H locs := hH
      exact kJ3 (u2.1, u2.2.1, u2.2.2.1, u2.2.2.2.1, (upd u2.2.2.2.2.1 a0.toNatClampNeg a2), u2.2.2.2.2.2.1, u2.2.2.2.2.2.2.1, u2.2.2.2.2.2.2.2.1, u2.2.2.2.2.2.2.2.2.1, u2.2.2.2.2.2.2.2.2.2.1, u2.2.2.2.2.2.2.2.2.2.2.1, u2.2.2.2.2.2.2.2.2.2.2.2) ls H locs h (lv_sub hl [0, 4, 5, 6] rfl) (hH.perm [0, 1, 2, 13, 14, 15, 16, 17, 18, 19, 20, 5, 6, 7, 8, 9, 10, 11, 12, 3, 4] rfl rfl)
    · have h := h.1 c19
      refine v_aload_n X dX6_wouldShow_33 rfl (lv_at hl 0 rfl) ?_
      refine v_get (v := .ref (tr 0)) X hH.1 0 rfl fk_X6_26 rfl dX6_wouldShow_34 ?_
      refine v_get (v := .ref (tr 3)) X hH.1 5 rfl fk_X6_261 rfl dX6_wouldShow_37 ?_
      refine v_iload_n X dX6_wouldShow_40 rfl (lv_at hl 1 rfl) ?_
      refine v_iload_n X dX6_wouldShow_41 rfl (lv_at hl 3 rfl) ?_
      have hin := h.1
      have h := h.2
      refine v_iast (f := u2.2.2.1) X hH 8 0 rfl rfl hin dX6_wouldShow_42 (fun H locs hH => ?_)
      have hH : HH F D A (CX6 K x no tr tp ac se ak ro im ux ++ CX3 K o3 up3 ++ CX1 K tr (u2.1, u2.2.1, (upd u2.2.2.1 a0.toNatClampNeg a2), u2.2.2.2.1, u2.2.2.2.2.1, u2.2.2.2.2.2.1, u2.2.2.2.2.2.2.1, u2.2.2.2.2.2.2.2.1, u2.2.2.2.2.2.2.2.2.1, u2.2.2.2.2.2.2.2.2.2.1, u2.2.2.2.2.2.2.2.2.2.2.1, u2.2.2.2.2.2.2.2.2.2.2.2) ++ CX1 K no un) H locs := hH
      refine v_goto (tgt := 56) X dX6_wouldShow_43 (by decide) ?_
      exact kJ3 (u2.1, u2.2.1, (upd u2.2.2.1 a0.toNatClampNeg a2), u2.2.2.2.1, u2.2.2.2.2.1, u2.2.2.2.2.2.1, u2.2.2.2.2.2.2.1, u2.2.2.2.2.2.2.2.1, u2.2.2.2.2.2.2.2.2.1, u2.2.2.2.2.2.2.2.2.2.1, u2.2.2.2.2.2.2.2.2.2.2.1, u2.2.2.2.2.2.2.2.2.2.2.2) ls H locs h (lv_sub hl [0, 4, 5, 6] rfl) (hH.perm [0, 1, 2, 13, 14, 15, 16, 17, 18, 19, 20, 5, 6, 7, 8, 9, 10, 11, 12, 3, 4] rfl rfl)
  · have h := h.1 c20
    refine v_aload_n X dX6_wouldShow_15 rfl (lv_at hl 0 rfl) ?_
    refine v_get (v := .ref (tr 0)) X hH.1 0 rfl fk_X6_26 rfl dX6_wouldShow_16 ?_
    refine v_get (v := .ref (tr 6)) X hH.1 5 rfl fk_X6_158 rfl dX6_wouldShow_19 ?_
    refine v_iload_n X dX6_wouldShow_22 rfl (lv_at hl 1 rfl) ?_
    refine v_iload_n X dX6_wouldShow_23 rfl (lv_at hl 3 rfl) ?_
    have hin := h.1
    have h := h.2
    refine v_iast (f := u2.2.2.2.2.2.1) X hH 11 0 rfl rfl hin dX6_wouldShow_24 (fun H locs hH => ?_)
    have hH : HH F D A (CX6 K x no tr tp ac se ak ro im ux ++ CX3 K o3 up3 ++ CX1 K tr (u2.1, u2.2.1, u2.2.2.1, u2.2.2.2.1, u2.2.2.2.2.1, (upd u2.2.2.2.2.2.1 a0.toNatClampNeg a2), u2.2.2.2.2.2.2.1, u2.2.2.2.2.2.2.2.1, u2.2.2.2.2.2.2.2.2.1, u2.2.2.2.2.2.2.2.2.2.1, u2.2.2.2.2.2.2.2.2.2.2.1, u2.2.2.2.2.2.2.2.2.2.2.2) ++ CX1 K no un) H locs := hH
    refine v_goto (tgt := 56) X dX6_wouldShow_25 (by decide) ?_
    exact kJ3 (u2.1, u2.2.1, u2.2.2.1, u2.2.2.2.1, u2.2.2.2.2.1, (upd u2.2.2.2.2.2.1 a0.toNatClampNeg a2), u2.2.2.2.2.2.2.1, u2.2.2.2.2.2.2.2.1, u2.2.2.2.2.2.2.2.2.1, u2.2.2.2.2.2.2.2.2.2.1, u2.2.2.2.2.2.2.2.2.2.2.1, u2.2.2.2.2.2.2.2.2.2.2.2) ls H locs h (lv_sub hl [0, 4, 5, 6] rfl) (hH.perm [0, 1, 2, 13, 14, 15, 16, 17, 18, 19, 20, 5, 6, 7, 8, 9, 10, 11, 12, 3, 4] rfl rfl)
def wL_X6_fits_90 (y10 : Int32) (y11 : Int32) (y12 : Int32) (y13 : Int32) (b14 : BX6) (b15 : BX1) (b16 : BX3) (post : Int32 → BX6 → BX1 → Prop) (Kx90 : Int32 → BX1 → Prop) : Nat → Int32 → Int32 → BX1 → Prop
  | 0, _, _, _ => False
  | n90 + 1, x7, x8, u9 => ((5 : Int32) < x8 → Kx90 x7 u9) ∧ (¬ (5 : Int32) < x8 → w_X6_isGuess b14 b15 x8 y13 (fun r22 => (r22 = 0 → wL_X6_fits_90 y10 y11 y12 y13 b14 b15 b16 post Kx90 n90 x7 (x8 + (1 : Int32)) u9) ∧ (¬ r22 = 0 → w_X6_wouldShow b14 b15 u9 b16 y10 y13 x8 y11 y12 (fun r23 u24 => (r23 = 0 → wL_X6_fits_90 y10 y11 y12 y13 b14 b15 b16 post Kx90 n90 x7 (x8 + (1 : Int32)) u24) ∧ (¬ r23 = 0 → ∀ x25 : Int32, x25 = (x7 ||| ((1 : Int32) <<< (x8 &&& 31))) → wL_X6_fits_90 y10 y11 y12 y13 b14 b15 b16 post Kx90 n90 x25 (x8 + (1 : Int32)) u24)))))
def w_X6_fits (ux : BX6) (un : BX1) (ut : BX1) (ur : BX3) (a0 : Int32) (a1 : Int32) (a2 : Int32) (a3 : Int32) (a4 : Int32) (post : Int32 → BX6 → BX1 → Prop) : Prop := w_X1_hasWaker un a0 (fun r1 => (r1 = 0 → post (-1000001 : Int32) ux ut) ∧ (¬ r1 = 0 → w_X6_isWithin a1 (0 : Int32) (7 : Int32) (fun r2 => (r2 = 0 → post (-1000001 : Int32) ux ut) ∧ (¬ r2 = 0 → w_X6_isWithin a3 (1 : Int32) (16 : Int32) (fun r3 => (r3 = 0 → post (-1000001 : Int32) ux ut) ∧ (¬ r3 = 0 → w_X6_isWithin a4 (0 : Int32) (2 : Int32) (fun r4 => (r4 = 0 → post (-1000001 : Int32) ux ut) ∧ (¬ r4 = 0 → vp_in a1 8 ∧ (w_X3_isMissing ur (fun r5 => (r5 = 0 → w_X3_holds ur a2 a3 (fun r6 => (r6 = 0 → w_X6_found ux (2 : Int32) (fun r29 u30 => post r29 u30 ut)) ∧ (¬ r6 = 0 → ∃ n90, wL_X6_fits_90 a0 a2 a3 a4 ux un ur post (fun (x17 : Int32) (u18 : BX1) => w_X6_unfound ux x17 (fun r19 u20 => post r19 u20 u18)) n90 (0 : Int32) (0 : Int32) ut))) ∧ (¬ r5 = 0 → w_X6_found ux (1 : Int32) (fun r32 u33 => post r32 u33 ut))))))))))))
set_option maxHeartbeats 4000000 in
set_option maxRecDepth 100000 in
theorem c_X6_fits (l : Launch) (D : va_G) (K : Nat → ClassId) (t : Nat → Nat) (x no tr tp ac se ak : Nat → Nat) (ro im : Nat → Nat → Nat) (ux : BX6) (un : BX1) (ut : BX1) (ur : BX3) (a0 : Int32) (a1 : Int32) (a2 : Int32) (a3 : Int32) (a4 : Int32) (k1 : Nat) (hk1 : vp_in a1 8 → a1.toNatClampNeg = k1) (post : Int32 → BX6 → BX1 → Prop) (h : w_X6_fits ux un ut ur a0 a1 a2 a3 a4 post) : WrI l yX6_fits cX6_fits 9 (some .int) ({ frames := 6, cells := 0, slots := 0, locals := 162 } : Room) D (TY K) t (CX6 K x no tr tp ac se ak ro im ux ++ CX1 K no un ++ CX1 K tr ut ++ CX3 K (ro k1) ur) [.ref (x 0), .int a0, .int a1, .int a2, .int a3, .int a4] (fun z : BX6 × BX1 => CX6 K x no tr tp ac se ak ro im z.1 ++ CX1 K no un ++ CX1 K tr z.2 ++ CX3 K (ro k1) ur) (fun (r : Int32) (z : BX6 × BX1) => post r z.1 z.2) := by
  refine WrI.mk rfl (Nat.le_of_ble_eq_true rfl) ?_
  intro F ls A _ hF X hH hA hl hT
  obtain ⟨H, hH0⟩ : ∃ z : Heap, z = (fxS F).heap := ⟨_, rfl⟩
  obtain ⟨locs, hL0⟩ : ∃ z : List Loc, z = [] := ⟨_, rfl⟩
  have hH : HH F D A (CX6 K x no tr tp ac se ak ro im ux ++ CX1 K no un ++ CX1 K tr ut ++ CX3 K (ro k1) ur) H locs := by rw [hH0, hL0]; exact hH
  suffices goal : V F (WQI F D (TY K) A (fun z : BX6 × BX1 => CX6 K x no tr tp ac se ak ro im z.1 ++ CX1 K no un ++ CX1 K tr z.2 ++ CX3 K (ro k1) ur) (fun (r : Int32) (z : BX6 × BX1) => post r z.1 z.2)) H locs 0 ls [] by rw [hH0, hL0] at goal; exact goal
  clear hH0 hL0
  have X : Cx F cX6_fits 9 RX6 D (TY K) := X
  have hl : lv_has ls 9 [(0, .ref (x 0)), (1, .int a0), (2, .int a1), (3, .int a2), (4, .int a3), (5, .int a4)] := hl
  unfold w_X6_fits at h
  refine v_aload_n X dX6_fits_0 rfl (lv_at hl 0 rfl) ?_
  refine v_get (v := .ref (no 0)) X hH.1 0 rfl fk_X6_22 rfl dX6_fits_1 ?_
  refine v_iload_n X dX6_fits_4 rfl (lv_at hl 1 rfl) ?_
  refine rdV (As := [.int a0]) (rest := []) X mv_X6_152 (c_X1_hasWaker F.2.1 D K t no un a0 _ h) hF ⟨rfl, rfl, Nat.le_of_ble_eq_true rfl, Nat.le_of_ble_eq_true rfl⟩ (stW hT hH) hH.1 [3, 4, 5, 6, 7, 8, 9, 10] rfl 3 rfl rfl hl.1 rfl rfl (Nat.le_of_ble_eq_true rfl) dX6_fits_5 (fun r1 h => ?_)
  refine v_if_eq (tgt := 42) X dX6_fits_8 (by decide) (fun c38 => ?_) (fun c38 => ?_)
  · have h := h.1 c38
    refine v_ldc X kc_X6_62 dX6_fits_42 ?_
    exact v_wiret X hF (ux, ut) hH h dX6_fits_44
  · have h := h.2 c38
    refine v_iload_n X dX6_fits_11 rfl (lv_at hl 2 rfl) ?_
    refine v_iconst (v := (0 : Int32)) X dX6_fits_12 (by decide) ?_
    refine v_bipush (v := (7 : Int32)) X dX6_fits_13 (by decide) ?_
    refine rdS (As := [.int a1, .int (0 : Int32), .int (7 : Int32)]) (rest := []) X ms_X6_58 (c_X6_isWithin F.2.1 D K t a1 (0 : Int32) (7 : Int32) _ h) hF ⟨rfl, rfl, Nat.le_of_ble_eq_true rfl, Nat.le_of_ble_eq_true rfl⟩ (stW hT hH) hH.1 [] rfl hl.1 rfl rfl (Nat.le_of_ble_eq_true rfl) dX6_fits_15 (fun r2 h => ?_)
    refine v_if_eq (tgt := 42) X dX6_fits_18 (by decide) (fun c37 => ?_) (fun c37 => ?_)
    · have h := h.1 c37
      refine v_ldc X kc_X6_62 dX6_fits_42 ?_
      exact v_wiret X hF (ux, ut) hH h dX6_fits_44
    · have h := h.2 c37
      refine v_iload X dX6_fits_21 (lv_at hl 4 rfl) ?_
      refine v_iconst (v := (1 : Int32)) X dX6_fits_23 (by decide) ?_
      refine v_bipush (v := (16 : Int32)) X dX6_fits_24 (by decide) ?_
      refine rdS (As := [.int a3, .int (1 : Int32), .int (16 : Int32)]) (rest := []) X ms_X6_58 (c_X6_isWithin F.2.1 D K t a3 (1 : Int32) (16 : Int32) _ h) hF ⟨rfl, rfl, Nat.le_of_ble_eq_true rfl, Nat.le_of_ble_eq_true rfl⟩ (stW hT hH) hH.1 [] rfl hl.1 rfl rfl (Nat.le_of_ble_eq_true rfl) dX6_fits_26 (fun r3 h => ?_)
      refine v_if_eq (tgt := 42) X dX6_fits_29 (by decide) (fun c36 => ?_) (fun c36 => ?_)
      · have h := h.1 c36
        refine v_ldc X kc_X6_62 dX6_fits_42 ?_
        exact v_wiret X hF (ux, ut) hH h dX6_fits_44
      · have h := h.2 c36
        refine v_iload X dX6_fits_32 (lv_at hl 5 rfl) ?_
        refine v_iconst (v := (0 : Int32)) X dX6_fits_34 (by decide) ?_
        refine v_iconst (v := (2 : Int32)) X dX6_fits_35 (by decide) ?_
        refine rdS (As := [.int a4, .int (0 : Int32), .int (2 : Int32)]) (rest := []) X ms_X6_58 (c_X6_isWithin F.2.1 D K t a4 (0 : Int32) (2 : Int32) _ h) hF ⟨rfl, rfl, Nat.le_of_ble_eq_true rfl, Nat.le_of_ble_eq_true rfl⟩ (stW hT hH) hH.1 [] rfl hl.1 rfl rfl (Nat.le_of_ble_eq_true rfl) dX6_fits_36 (fun r4 h => ?_)
        refine v_if_ne (tgt := 45) X dX6_fits_39 (by decide) (fun c35 => ?_) (fun c35 => ?_)
        · have h := h.2 c35
          refine v_aload_n X dX6_fits_45 rfl (lv_at hl 0 rfl) ?_
          refine v_get (v := .ref (x 1)) X hH.1 0 rfl fk_X6_11 rfl dX6_fits_46 ?_
          refine v_iload_n X dX6_fits_49 rfl (lv_at hl 2 rfl) ?_
          have hin := h.1
          have h := h.2
          refine v_aald X hH.1 1 2 rfl rfl hin (congrArg (fun j => some (ro j 0)) (hk1 hin)) dX6_fits_50 ?_
          refine v_astore (lv' := [(6, .ref ((ro k1) 0)), (0, .ref (x 0)), (1, .int a0), (2, .int a1), (3, .int a2), (4, .int a3), (5, .int a4)]) X dX6_fits_51 hl (by decide) rfl (fun ls hl => ?_)
          refine v_aload X dX6_fits_53 (lv_at hl 0 rfl) ?_
          refine rdV (As := []) (rest := []) X mv_X6_74 (c_X3_isMissing F.2.1 D K t (ro k1) ur _ h) hF ⟨rfl, rfl, Nat.le_of_ble_eq_true rfl, Nat.le_of_ble_eq_true rfl⟩ (stW hT hH) hH.1 [19, 20] rfl 19 rfl rfl hl.1 rfl rfl (Nat.le_of_ble_eq_true rfl) dX6_fits_55 (fun r5 h => ?_)
          refine v_if_eq (tgt := 67) X dX6_fits_58 (by decide) (fun c34 => ?_) (fun c34 => ?_)
          · have h := h.1 c34
            refine v_aload X dX6_fits_67 (lv_at hl 0 rfl) ?_
            refine v_iload_n X dX6_fits_69 rfl (lv_at hl 4 rfl) ?_
            refine v_iload X dX6_fits_70 (lv_at hl 5 rfl) ?_
            refine rdV (As := [.int a2, .int a3]) (rest := []) X mv_X6_78 (c_X3_holds F.2.1 D K t (ro k1) ur a2 a3 _ h) hF ⟨rfl, rfl, Nat.le_of_ble_eq_true rfl, Nat.le_of_ble_eq_true rfl⟩ (stW hT hH) hH.1 [19, 20] rfl 19 rfl rfl hl.1 rfl rfl (Nat.le_of_ble_eq_true rfl) dX6_fits_72 (fun r6 h => ?_)
            refine v_if_ne (tgt := 84) X dX6_fits_75 (by decide) (fun c31 => ?_) (fun c31 => ?_)
            · have h := h.2 c31
              refine v_iconst (v := (0 : Int32)) X dX6_fits_84 (by decide) ?_
              refine v_istore (lv' := [(7, .int (0 : Int32)), (6, .ref ((ro k1) 0)), (0, .ref (x 0)), (1, .int a0), (2, .int a1), (3, .int a2), (4, .int a3), (5, .int a4)]) X dX6_fits_85 hl (by decide) rfl (fun ls hl => ?_)
              refine v_iconst (v := (0 : Int32)) X dX6_fits_87 (by decide) ?_
              refine v_istore (lv' := [(8, .int (0 : Int32)), (7, .int (0 : Int32)), (6, .ref ((ro k1) 0)), (0, .ref (x 0)), (1, .int a0), (2, .int a1), (3, .int a2), (4, .int a3), (5, .int a4)]) X dX6_fits_88 hl (by decide) rfl (fun ls hl => ?_)
              obtain ⟨Kx90, hK90⟩ : ∃ f : Int32 → BX1 → Prop, f = (fun (x17 : Int32) (u18 : BX1) => w_X6_unfound ux x17 (fun r19 u20 => post r19 u20 u18)) := ⟨_, rfl⟩
              have kx21 : ∀ (x17 : Int32) (u18 : BX1) (ls : Array Slot) (H : Heap) (locs : List Loc), (Kx90 x17 u18) → lv_has ls 9 [(0, .ref (x 0)), (7, .int x17)] → HH F D A (CX6 K x no tr tp ac se ak ro im ux ++ CX1 K no un ++ CX1 K tr u18 ++ CX3 K (ro k1) ur) H locs → V F (WQI F D (TY K) A (fun z : BX6 × BX1 => CX6 K x no tr tp ac se ak ro im z.1 ++ CX1 K no un ++ CX1 K tr z.2 ++ CX3 K (ro k1) ur) (fun (r : Int32) (z : BX6 × BX1) => post r z.1 z.2)) H locs 139 ls [] := by
                intro x17 u18 ls H locs h hl hH
                have h : w_X6_unfound ux x17 (fun r19 u20 => post r19 u20 u18) := by rw [hK90] at h; exact h
                refine v_aload_n X dX6_fits_139 rfl (lv_at hl 0 rfl) ?_
                refine v_iload X dX6_fits_140 (lv_at hl 1 rfl) ?_
                refine wrVI (As := [.int x17]) (rest := []) (wr := (CX1 K no un ++ CX1 K tr u18 ++ CX3 K (ro k1) ur)) X mv_X6_71 (c_X6_unfound F.2.1 D K t x no tr tp ac se ak ro im ux x17 _ h) hF ⟨rfl, rfl, Nat.le_of_ble_eq_true rfl, Nat.le_of_ble_eq_true rfl⟩ hT hA hH [0, 1, 2] [3, 4, 5, 6, 7, 8, 9, 10, 11, 12, 13, 14, 15, 16, 17, 18, 19, 20] ⟨rfl, rfl, rfl, rfl, by decide⟩ 0 rfl rfl hl.1 rfl rfl (Nat.le_of_ble_eq_true rfl) dX6_fits_142 (fun r19 u20 H locs h hH => ?_)
                have hH : HH F D A (CX1 K no un ++ CX1 K tr u18 ++ CX3 K (ro k1) ur ++ CX6 K x no tr tp ac se ak ro im u20) H locs := hH
                exact v_wiret X hF (u20, u18) (hH.perm [18, 19, 20, 0, 1, 2, 3, 4, 5, 6, 7, 8, 9, 10, 11, 12, 13, 14, 15, 16, 17] rfl rfl) h dX6_fits_145
              have lp90 : ∀ (n90 : Nat) (x7 : Int32) (x8 : Int32) (u9 : BX1) (ls : Array Slot) (H : Heap) (locs : List Loc), wL_X6_fits_90 a0 a2 a3 a4 ux un ur post Kx90 n90 x7 x8 u9 → lv_has ls 9 [(0, .ref (x 0)), (1, .int a0), (3, .int a2), (4, .int a3), (5, .int a4), (6, .ref ((ro k1) 0)), (7, .int x7), (8, .int x8)] → HH F D A (CX6 K x no tr tp ac se ak ro im ux ++ CX1 K no un ++ CX1 K tr u9 ++ CX3 K (ro k1) ur) H locs → V F (WQI F D (TY K) A (fun z : BX6 × BX1 => CX6 K x no tr tp ac se ak ro im z.1 ++ CX1 K no un ++ CX1 K tr z.2 ++ CX3 K (ro k1) ur) (fun (r : Int32) (z : BX6 × BX1) => post r z.1 z.2)) H locs 90 ls [] := by
                intro n90
                induction n90 with
                | zero => intro x7 x8 u9 ls H locs h hl hH; exact h.elim
                | succ n90 ih90 =>
                  intro x7 x8 u9 ls H locs h hl hH
                  refine v_iload X dX6_fits_90 (lv_at hl 7 rfl) ?_
                  refine v_iconst (v := (5 : Int32)) X dX6_fits_92 (by decide) ?_
                  refine v_icmp_gt (tgt := 139) X dX6_fits_93 (by decide) (fun c28 => ?_) (fun c28 => ?_)
                  · have h := h.1 c28
                    exact kx21 x7 u9 ls H locs h (lv_sub hl [0, 6] rfl) hH
                  · have h := h.2 c28
                    refine v_aload_n X dX6_fits_96 rfl (lv_at hl 0 rfl) ?_
                    refine v_iload X dX6_fits_97 (lv_at hl 7 rfl) ?_
                    refine v_iload X dX6_fits_99 (lv_at hl 4 rfl) ?_
                    refine rdV (As := [.int x8, .int a4]) (rest := []) X mv_X6_225 (c_X6_isGuess F.2.1 D K t x no tr tp ac se ak ro im ux un x8 a4 _ h) hF ⟨rfl, rfl, Nat.le_of_ble_eq_true rfl, Nat.le_of_ble_eq_true rfl⟩ (stW hT hH) hH.1 [0, 1, 2, 3, 4, 5, 6, 7, 8, 9, 10] rfl 0 rfl rfl hl.1 rfl rfl (Nat.le_of_ble_eq_true rfl) dX6_fits_101 (fun r22 h => ?_)
                    refine v_if_eq (tgt := 133) X dX6_fits_104 (by decide) (fun c27 => ?_) (fun c27 => ?_)
                    · have h := h.1 c27
                      refine v_iinc (v := (x8 + (1 : Int32))) (lv' := [(8, .int (x8 + (1 : Int32))), (0, .ref (x 0)), (1, .int a0), (3, .int a2), (4, .int a3), (5, .int a4), (6, .ref ((ro k1) 0)), (7, .int x7)]) X dX6_fits_133 hl (k := 7) rfl rfl (by decide) rfl (fun ls hl => ?_)
                      refine v_goto (tgt := 90) X dX6_fits_136 (by decide) ?_
                      exact ih90 x7 (x8 + (1 : Int32)) u9 ls H locs h (lv_sub hl [1, 2, 3, 4, 5, 6, 7, 0] rfl) hH
                    · have h := h.2 c27
                      refine v_aload_n X dX6_fits_107 rfl (lv_at hl 0 rfl) ?_
                      refine v_iload_n X dX6_fits_108 rfl (lv_at hl 1 rfl) ?_
                      refine v_iload X dX6_fits_109 (lv_at hl 4 rfl) ?_
                      refine v_iload X dX6_fits_111 (lv_at hl 7 rfl) ?_
                      refine v_aload X dX6_fits_113 (lv_at hl 5 rfl) ?_
                      refine v_iload_n X dX6_fits_115 rfl (lv_at hl 2 rfl) ?_
                      refine v_iload X dX6_fits_116 (lv_at hl 3 rfl) ?_
                      refine wrVI (As := [.int a0, .int a4, .int x8, .ref ((ro k1) 0), .int a2, .int a3]) (rest := []) (wr := ([] : va_W)) X mv_X6_228 (c_X6_wouldShow F.2.1 D K t x no tr tp ac se ak ro im (ro k1) ux un u9 ur a0 a4 x8 a2 a3 _ h) hF ⟨rfl, rfl, Nat.le_of_ble_eq_true rfl, Nat.le_of_ble_eq_true rfl⟩ hT hA hH [0, 1, 2, 3, 4, 5, 6, 7, 8, 9, 10, 11, 12, 13, 14, 15, 16, 17, 18, 19, 20] [] ⟨rfl, rfl, rfl, rfl, by decide⟩ 0 rfl rfl hl.1 rfl rfl (Nat.le_of_ble_eq_true rfl) dX6_fits_118 (fun r23 u24 H locs h hH => ?_)
                      have hH : HH F D A (CX6 K x no tr tp ac se ak ro im ux ++ CX1 K no un ++ CX1 K tr u24 ++ CX3 K (ro k1) ur) H locs := hH
                      refine v_if_eq (tgt := 133) X dX6_fits_121 (by decide) (fun c26 => ?_) (fun c26 => ?_)
                      · have h := h.1 c26
                        refine v_iinc (v := (x8 + (1 : Int32))) (lv' := [(8, .int (x8 + (1 : Int32))), (0, .ref (x 0)), (1, .int a0), (3, .int a2), (4, .int a3), (5, .int a4), (6, .ref ((ro k1) 0)), (7, .int x7)]) X dX6_fits_133 hl (k := 7) rfl rfl (by decide) rfl (fun ls hl => ?_)
                        refine v_goto (tgt := 90) X dX6_fits_136 (by decide) ?_
                        exact ih90 x7 (x8 + (1 : Int32)) u24 ls H locs h (lv_sub hl [1, 2, 3, 4, 5, 6, 7, 0] rfl) hH
                      · have h := h.2 c26
                        refine v_iload X dX6_fits_124 (lv_at hl 6 rfl) ?_
                        refine v_iconst (v := (1 : Int32)) X dX6_fits_126 (by decide) ?_
                        refine v_iload X dX6_fits_127 (lv_at hl 7 rfl) ?_
                        refine v_ishl X dX6_fits_129 ?_
                        refine v_ior X dX6_fits_130 ?_
                        refine v_topi (fun x25 ex25 => ?_)
                        have h := h x25 ex25
                        refine v_istore (lv' := [(7, .int x25), (0, .ref (x 0)), (1, .int a0), (3, .int a2), (4, .int a3), (5, .int a4), (6, .ref ((ro k1) 0)), (8, .int x8)]) X dX6_fits_131 hl (by decide) rfl (fun ls hl => ?_)
                        refine v_iinc (v := (x8 + (1 : Int32))) (lv' := [(8, .int (x8 + (1 : Int32))), (7, .int x25), (0, .ref (x 0)), (1, .int a0), (3, .int a2), (4, .int a3), (5, .int a4), (6, .ref ((ro k1) 0))]) X dX6_fits_133 hl (k := 7) rfl rfl (by decide) rfl (fun ls hl => ?_)
                        refine v_goto (tgt := 90) X dX6_fits_136 (by decide) ?_
                        exact ih90 x25 (x8 + (1 : Int32)) u24 ls H locs h (lv_sub hl [2, 3, 4, 5, 6, 7, 1, 0] rfl) hH
              obtain ⟨n90, h⟩ := h
              have h : wL_X6_fits_90 a0 a2 a3 a4 ux un ur post Kx90 n90 (0 : Int32) (0 : Int32) ut := by rw [hK90]; exact h
              exact lp90 n90 (0 : Int32) (0 : Int32) ut ls H locs h (lv_sub hl [3, 4, 6, 7, 8, 2, 1, 0] rfl) hH
            · have h := h.1 c31
              refine v_aload_n X dX6_fits_78 rfl (lv_at hl 1 rfl) ?_
              refine v_iconst (v := (2 : Int32)) X dX6_fits_79 (by decide) ?_
              refine wrVI (As := [.int (2 : Int32)]) (rest := []) (wr := (CX1 K no un ++ CX1 K tr ut ++ CX3 K (ro k1) ur)) X mv_X6_63 (c_X6_found F.2.1 D K t x no tr tp ac se ak ro im ux (2 : Int32) _ h) hF ⟨rfl, rfl, Nat.le_of_ble_eq_true rfl, Nat.le_of_ble_eq_true rfl⟩ hT hA hH [0, 1, 2] [3, 4, 5, 6, 7, 8, 9, 10, 11, 12, 13, 14, 15, 16, 17, 18, 19, 20] ⟨rfl, rfl, rfl, rfl, by decide⟩ 0 rfl rfl hl.1 rfl rfl (Nat.le_of_ble_eq_true rfl) dX6_fits_80 (fun r29 u30 H locs h hH => ?_)
              have hH : HH F D A (CX1 K no un ++ CX1 K tr ut ++ CX3 K (ro k1) ur ++ CX6 K x no tr tp ac se ak ro im u30) H locs := hH
              exact v_wiret X hF (u30, ut) (hH.perm [18, 19, 20, 0, 1, 2, 3, 4, 5, 6, 7, 8, 9, 10, 11, 12, 13, 14, 15, 16, 17] rfl rfl) h dX6_fits_83
          · have h := h.2 c34
            refine v_aload_n X dX6_fits_61 rfl (lv_at hl 1 rfl) ?_
            refine v_iconst (v := (1 : Int32)) X dX6_fits_62 (by decide) ?_
            refine wrVI (As := [.int (1 : Int32)]) (rest := []) (wr := (CX1 K no un ++ CX1 K tr ut ++ CX3 K (ro k1) ur)) X mv_X6_63 (c_X6_found F.2.1 D K t x no tr tp ac se ak ro im ux (1 : Int32) _ h) hF ⟨rfl, rfl, Nat.le_of_ble_eq_true rfl, Nat.le_of_ble_eq_true rfl⟩ hT hA hH [0, 1, 2] [3, 4, 5, 6, 7, 8, 9, 10, 11, 12, 13, 14, 15, 16, 17, 18, 19, 20] ⟨rfl, rfl, rfl, rfl, by decide⟩ 0 rfl rfl hl.1 rfl rfl (Nat.le_of_ble_eq_true rfl) dX6_fits_63 (fun r32 u33 H locs h hH => ?_)
            have hH : HH F D A (CX1 K no un ++ CX1 K tr ut ++ CX3 K (ro k1) ur ++ CX6 K x no tr tp ac se ak ro im u33) H locs := hH
            exact v_wiret X hF (u33, ut) (hH.perm [18, 19, 20, 0, 1, 2, 3, 4, 5, 6, 7, 8, 9, 10, 11, 12, 13, 14, 15, 16, 17] rfl rfl) h dX6_fits_66
        · have h := h.1 c35
          refine v_ldc X kc_X6_62 dX6_fits_42 ?_
          exact v_wiret X hF (ux, ut) hH h dX6_fits_44
def wL_X6_waysToBe_5 (y3 : Int32) (y4 : Int32) (b5 : BX6) (b6 : BX1) (post : Int32 → Prop) (Kx5 : Int32 → Prop) : Nat → Int32 → Int32 → Prop
  | 0, _, _ => False
  | n5 + 1, x1, x2 => (b6.2.2.2.2.2.2.2.2.1 ≤ x2 → Kx5 x1) ∧ (¬ b6.2.2.2.2.2.2.2.2.1 ≤ x2 → (((y3 >>> (x2 &&& 31)) &&& (1 : Int32)) = (1 : Int32) → ∀ x10 : Int32, x10 = (x1 * ((10 : Int32) - y4)) → wL_X6_waysToBe_5 y3 y4 b5 b6 post Kx5 n5 x10 (x2 + (1 : Int32))) ∧ (¬ ((y3 >>> (x2 &&& 31)) &&& (1 : Int32)) = (1 : Int32) → ∀ x9 : Int32, x9 = (x1 * y4) → wL_X6_waysToBe_5 y3 y4 b5 b6 post Kx5 n5 x9 (x2 + (1 : Int32))))
def w_X6_waysToBe (ux : BX6) (un : BX1) (a0 : Int32) (a1 : Int32) (post : Int32 → Prop) : Prop := ∃ n5, wL_X6_waysToBe_5 a0 a1 ux un post (fun (x7 : Int32) => post x7) n5 (1 : Int32) (0 : Int32)
set_option maxHeartbeats 4000000 in
set_option maxRecDepth 100000 in
theorem c_X6_waysToBe (l : Launch) (D : va_G) (K : Nat → ClassId) (t : Nat → Nat) (x no tr tp ac se ak : Nat → Nat) (ro im : Nat → Nat → Nat) (ux : BX6) (un : BX1) (a0 : Int32) (a1 : Int32) (post : Int32 → Prop) (h : w_X6_waysToBe ux un a0 a1 post) : RdM l yX6_waysToBe cX6_waysToBe 5 (some .int) ({ frames := 0, cells := 0, slots := 0, locals := 0 } : Room) D (TY K) t (CX6 K x no tr tp ac se ak ro im ux ++ CX1 K no un) [.ref (x 0), .int a0, .int a1] post := by
  refine RdM.mk rfl (Nat.le_of_ble_eq_true rfl) ?_
  intro F ls _ hF X hP hl hT
  have X : Cx F cX6_waysToBe 5 RX6 D (TY K) := X
  have hl : lv_has ls 5 [(0, .ref (x 0)), (1, .int a0), (2, .int a1)] := hl
  unfold w_X6_waysToBe at h
  refine v_iconst (v := (1 : Int32)) X dX6_waysToBe_0 (by decide) ?_
  refine v_istore_n (lv' := [(3, .int (1 : Int32)), (0, .ref (x 0)), (1, .int a0), (2, .int a1)]) X dX6_waysToBe_1 rfl hl (by decide) rfl (fun ls hl => ?_)
  refine v_iconst (v := (0 : Int32)) X dX6_waysToBe_2 (by decide) ?_
  refine v_istore (lv' := [(4, .int (0 : Int32)), (3, .int (1 : Int32)), (0, .ref (x 0)), (1, .int a0), (2, .int a1)]) X dX6_waysToBe_3 hl (by decide) rfl (fun ls hl => ?_)
  obtain ⟨Kx5, hK5⟩ : ∃ f : Int32 → Prop, f = (fun (x7 : Int32) => post x7) := ⟨_, rfl⟩
  have kx8 : ∀ (x7 : Int32) (ls : Array Slot), (Kx5 x7) → lv_has ls 5 [(3, .int x7)] → V F (RQ F post) (fxS F).heap [] 44 ls [] := by
    intro x7 ls h hl
    have h : post x7 := by rw [hK5] at h; exact h
    refine v_iload_n X dX6_waysToBe_44 rfl (lv_at hl 0 rfl) ?_
    exact v_riret X hF h dX6_waysToBe_45
  have lp5 : ∀ (n5 : Nat) (x1 : Int32) (x2 : Int32) (ls : Array Slot), wL_X6_waysToBe_5 a0 a1 ux un post Kx5 n5 x1 x2 → lv_has ls 5 [(0, .ref (x 0)), (1, .int a0), (2, .int a1), (3, .int x1), (4, .int x2)] → V F (RQ F post) (fxS F).heap [] 5 ls [] := by
    intro n5
    induction n5 with
    | zero => intro x1 x2 ls h hl; exact h.elim
    | succ n5 ih5 =>
      intro x1 x2 ls h hl
      refine v_iload X dX6_waysToBe_5 (lv_at hl 4 rfl) ?_
      refine v_aload_n X dX6_waysToBe_7 rfl (lv_at hl 0 rfl) ?_
      refine v_get (v := .ref (no 0)) X hP 0 rfl fk_X6_22 rfl dX6_waysToBe_8 ?_
      refine v_get (v := .int un.2.2.2.2.2.2.2.2.1) X hP 3 rfl fk_X6_232 rfl dX6_waysToBe_11 ?_
      refine v_icmp_ge (tgt := 44) X dX6_waysToBe_14 (by decide) (fun c12 => ?_) (fun c12 => ?_)
      · have h := h.1 c12
        exact kx8 x1 ls h (lv_sub hl [3] rfl)
      · have h := h.2 c12
        refine v_iload_n X dX6_waysToBe_17 rfl (lv_at hl 3 rfl) ?_
        refine v_iload_n X dX6_waysToBe_18 rfl (lv_at hl 1 rfl) ?_
        refine v_iload X dX6_waysToBe_19 (lv_at hl 4 rfl) ?_
        refine v_ishr X dX6_waysToBe_21 ?_
        refine v_iconst (v := (1 : Int32)) X dX6_waysToBe_22 (by decide) ?_
        refine v_iand X dX6_waysToBe_23 ?_
        refine v_iconst (v := (1 : Int32)) X dX6_waysToBe_24 (by decide) ?_
        refine v_icmp_ne (tgt := 35) X dX6_waysToBe_25 (by decide) (fun c11 => ?_) (fun c11 => ?_)
        · have h := h.2 c11
          refine v_iload_n X dX6_waysToBe_35 rfl (lv_at hl 2 rfl) ?_
          refine v_imul X dX6_waysToBe_36 ?_
          refine v_topi (fun x9 ex9 => ?_)
          have h := h x9 ex9
          refine v_istore_n (lv' := [(3, .int x9), (0, .ref (x 0)), (1, .int a0), (2, .int a1), (4, .int x2)]) X dX6_waysToBe_37 rfl hl (by decide) rfl (fun ls hl => ?_)
          refine v_iinc (v := (x2 + (1 : Int32))) (lv' := [(4, .int (x2 + (1 : Int32))), (3, .int x9), (0, .ref (x 0)), (1, .int a0), (2, .int a1)]) X dX6_waysToBe_38 hl (k := 4) rfl rfl (by decide) rfl (fun ls hl => ?_)
          refine v_goto (tgt := 5) X dX6_waysToBe_41 (by decide) ?_
          exact ih5 x9 (x2 + (1 : Int32)) ls h (lv_sub hl [2, 3, 4, 1, 0] rfl)
        · have h := h.1 c11
          refine v_bipush (v := (10 : Int32)) X dX6_waysToBe_28 (by decide) ?_
          refine v_iload_n X dX6_waysToBe_30 rfl (lv_at hl 2 rfl) ?_
          refine v_isub X dX6_waysToBe_31 ?_
          refine v_goto (tgt := 36) X dX6_waysToBe_32 (by decide) ?_
          refine v_imul X dX6_waysToBe_36 ?_
          refine v_topi (fun x10 ex10 => ?_)
          have h := h x10 ex10
          refine v_istore_n (lv' := [(3, .int x10), (0, .ref (x 0)), (1, .int a0), (2, .int a1), (4, .int x2)]) X dX6_waysToBe_37 rfl hl (by decide) rfl (fun ls hl => ?_)
          refine v_iinc (v := (x2 + (1 : Int32))) (lv' := [(4, .int (x2 + (1 : Int32))), (3, .int x10), (0, .ref (x 0)), (1, .int a0), (2, .int a1)]) X dX6_waysToBe_38 hl (k := 4) rfl rfl (by decide) rfl (fun ls hl => ?_)
          refine v_goto (tgt := 5) X dX6_waysToBe_41 (by decide) ?_
          exact ih5 x10 (x2 + (1 : Int32)) ls h (lv_sub hl [2, 3, 4, 1, 0] rfl)
  obtain ⟨n5, h⟩ := h
  have h : wL_X6_waysToBe_5 a0 a1 ux un post Kx5 n5 (1 : Int32) (0 : Int32) := by rw [hK5]; exact h
  exact lp5 n5 (1 : Int32) (0 : Int32) ls h (lv_sub hl [2, 3, 4, 1, 0] rfl)
def wL_X6_commonDivisor_7 (post : Int32 → Prop) (Kx7 : Int32 → Prop) : Nat → Int32 → Int32 → Int32 → Prop
  | 0, _, _, _ => False
  | n7 + 1, x1, x2, x3 => ((64 : Int32) ≤ x3 → Kx7 x1) ∧ (¬ (64 : Int32) ≤ x3 → (x2 = 0 → Kx7 x1) ∧ (¬ x2 = 0 → ¬ x2 = 0 ∧ (∀ x6 : Int32, x6 = (x1 - x1 / x2 * x2) → wL_X6_commonDivisor_7 post Kx7 n7 x2 x6 (x3 + (1 : Int32)))))
def w_X6_commonDivisor (a0 : Int32) (a1 : Int32) (post : Int32 → Prop) : Prop := ∃ n7, wL_X6_commonDivisor_7  post (fun (x4 : Int32) => post x4) n7 a0 a1 (0 : Int32)
set_option maxHeartbeats 4000000 in
set_option maxRecDepth 100000 in
theorem c_X6_commonDivisor (l : Launch) (D : va_G) (K : Nat → ClassId) (t : Nat → Nat) (a0 : Int32) (a1 : Int32) (post : Int32 → Prop) (h : w_X6_commonDivisor a0 a1 post) : RdM l yX6_commonDivisor cX6_commonDivisor 6 (some .int) ({ frames := 0, cells := 0, slots := 0, locals := 0 } : Room) D (TY K) t ([] : va_W) [.int a0, .int a1] post := by
  refine RdM.mk rfl (Nat.le_of_ble_eq_true rfl) ?_
  intro F ls _ hF X hP hl hT
  have X : Cx F cX6_commonDivisor 6 RX6 D (TY K) := X
  have hl : lv_has ls 6 [(0, .int a0), (1, .int a1)] := hl
  unfold w_X6_commonDivisor at h
  refine v_iload_n X dX6_commonDivisor_0 rfl (lv_at hl 0 rfl) ?_
  refine v_istore_n (lv' := [(2, .int a0), (0, .int a0), (1, .int a1)]) X dX6_commonDivisor_1 rfl hl (by decide) rfl (fun ls hl => ?_)
  refine v_iload_n X dX6_commonDivisor_2 rfl (lv_at hl 2 rfl) ?_
  refine v_istore_n (lv' := [(3, .int a1), (2, .int a0), (0, .int a0), (1, .int a1)]) X dX6_commonDivisor_3 rfl hl (by decide) rfl (fun ls hl => ?_)
  refine v_iconst (v := (0 : Int32)) X dX6_commonDivisor_4 (by decide) ?_
  refine v_istore (lv' := [(4, .int (0 : Int32)), (3, .int a1), (2, .int a0), (0, .int a0), (1, .int a1)]) X dX6_commonDivisor_5 hl (by decide) rfl (fun ls hl => ?_)
  obtain ⟨Kx7, hK7⟩ : ∃ f : Int32 → Prop, f = (fun (x4 : Int32) => post x4) := ⟨_, rfl⟩
  have kx5 : ∀ (x4 : Int32) (ls : Array Slot), (Kx7 x4) → lv_has ls 6 [(2, .int x4)] → V F (RQ F post) (fxS F).heap [] 34 ls [] := by
    intro x4 ls h hl
    have h : post x4 := by rw [hK7] at h; exact h
    refine v_iload_n X dX6_commonDivisor_34 rfl (lv_at hl 0 rfl) ?_
    exact v_riret X hF h dX6_commonDivisor_35
  have lp7 : ∀ (n7 : Nat) (x1 : Int32) (x2 : Int32) (x3 : Int32) (ls : Array Slot), wL_X6_commonDivisor_7  post Kx7 n7 x1 x2 x3 → lv_has ls 6 [(2, .int x1), (3, .int x2), (4, .int x3)] → V F (RQ F post) (fxS F).heap [] 7 ls [] := by
    intro n7
    induction n7 with
    | zero => intro x1 x2 x3 ls h hl; exact h.elim
    | succ n7 ih7 =>
      intro x1 x2 x3 ls h hl
      refine v_iload X dX6_commonDivisor_7 (lv_at hl 2 rfl) ?_
      refine v_bipush (v := (64 : Int32)) X dX6_commonDivisor_9 (by decide) ?_
      refine v_icmp_ge (tgt := 34) X dX6_commonDivisor_11 (by decide) (fun c8 => ?_) (fun c8 => ?_)
      · have h := h.1 c8
        exact kx5 x1 ls h (lv_sub hl [0] rfl)
      · have h := h.2 c8
        refine v_iload_n X dX6_commonDivisor_14 rfl (lv_at hl 1 rfl) ?_
        refine v_if_eq (tgt := 34) X dX6_commonDivisor_15 (by decide) (fun c7 => ?_) (fun c7 => ?_)
        · have h := h.1 c7
          exact kx5 x1 ls h (lv_sub hl [0] rfl)
        · have h := h.2 c7
          refine v_iload_n X dX6_commonDivisor_18 rfl (lv_at hl 0 rfl) ?_
          refine v_iload_n X dX6_commonDivisor_19 rfl (lv_at hl 1 rfl) ?_
          have hne := h.1
          have h := h.2
          refine v_irem X dX6_commonDivisor_20 hne ?_
          refine v_topi (fun x6 ex6 => ?_)
          have h := h x6 ex6
          refine v_istore (lv' := [(5, .int x6), (2, .int x1), (3, .int x2), (4, .int x3)]) X dX6_commonDivisor_21 hl (by decide) rfl (fun ls hl => ?_)
          refine v_iload_n X dX6_commonDivisor_23 rfl (lv_at hl 2 rfl) ?_
          refine v_istore_n (lv' := [(2, .int x2), (5, .int x6), (3, .int x2), (4, .int x3)]) X dX6_commonDivisor_24 rfl hl (by decide) rfl (fun ls hl => ?_)
          refine v_iload X dX6_commonDivisor_25 (lv_at hl 1 rfl) ?_
          refine v_istore_n (lv' := [(3, .int x6), (2, .int x2), (5, .int x6), (4, .int x3)]) X dX6_commonDivisor_27 rfl hl (by decide) rfl (fun ls hl => ?_)
          refine v_iinc (v := (x3 + (1 : Int32))) (lv' := [(4, .int (x3 + (1 : Int32))), (3, .int x6), (2, .int x2), (5, .int x6)]) X dX6_commonDivisor_28 hl (k := 3) rfl rfl (by decide) rfl (fun ls hl => ?_)
          refine v_goto (tgt := 7) X dX6_commonDivisor_31 (by decide) ?_
          exact ih7 x2 x6 (x3 + (1 : Int32)) ls h (lv_sub hl [2, 1, 0] rfl)
  obtain ⟨n7, h⟩ := h
  have h : wL_X6_commonDivisor_7  post Kx7 n7 a0 a1 (0 : Int32) := by rw [hK7]; exact h
  exact lp7 n7 a0 a1 (0 : Int32) ls h (lv_sub hl [2, 1, 0] rfl)
def wL_X6_nods_81 (y18 : Int32) (y19 : Int32) (y20 : Int32) (y21 : Int32) (b22 : BX6) (b23 : BX1) (post : Int32 → BX1 → Prop) (Kx81 : Int32 → BX1 → Prop) : Nat → Int32 → Int32 → BX1 → Prop
  | 0, _, _, _ => False
  | n81 + 1, x15, x16, u17 => (((1 : Int32) <<< (b23.2.2.2.2.2.2.2.2.1 &&& 31)) ≤ x16 → Kx81 x15 u17) ∧ (¬ ((1 : Int32) <<< (b23.2.2.2.2.2.2.2.2.1 &&& 31)) ≤ x16 → w_X1_copyFrom u17 b23 (fun u30 => w_X1_passNight u30 x16 (fun u32 => w_X1_resting u32 (fun r33 => w_J6_bitCount_0f7a4 r33 (fun r34 => (r34 < y18 → wL_X6_nods_81 y18 y19 y20 y21 b22 b23 post Kx81 n81 x15 (x16 + (1 : Int32)) u32) ∧ (¬ r34 < y18 → w_X6_waysToBe b22 b23 x16 y19 (fun r35 => ∀ x36 : Int32, x36 = (x15 + r35) → wL_X6_nods_81 y18 y19 y20 y21 b22 b23 post Kx81 n81 x36 (x16 + (1 : Int32)) u32)))))))
def wL_X6_nods_53 (y7 : Int32) (y8 : Int32) (y9 : Int32) (y10 : Int32) (b11 : BX6) (b12 : BX1) (b13 : BX1) (post : Int32 → BX1 → Prop) (Kx53 : Int32 → Prop) : Nat → Int32 → Int32 → Prop
  | 0, _, _ => False
  | n53 + 1, x5, x6 => (b12.2.2.2.2.2.2.2.2.1 ≤ x6 → Kx53 x5) ∧ (¬ b12.2.2.2.2.2.2.2.2.1 ≤ x6 → ∀ x40 : Int32, x40 = (x5 * (10 : Int32)) → wL_X6_nods_53 y7 y8 y9 y10 b11 b12 b13 post Kx53 n53 x40 (x6 + (1 : Int32)))
def w_X6_nods (ux : BX6) (un : BX1) (ut : BX1) (a0 : Int32) (a1 : Int32) (a2 : Int32) (post : Int32 → BX1 → Prop) : Prop := w_X1_isOpen un (fun r1 => (r1 = 0 → post (-1000002 : Int32) ut) ∧ (¬ r1 = 0 → w_X6_isWithin a0 (0 : Int32) (5 : Int32) (fun r2 => (r2 = 0 → post (-1000001 : Int32) ut) ∧ (¬ r2 = 0 → w_X6_isWithin a1 (0 : Int32) (10 : Int32) (fun r3 => (r3 = 0 → post (-1000001 : Int32) ut) ∧ (¬ r3 = 0 → w_X6_isWithin a2 (0 : Int32) (1 : Int32) (fun r4 => (r4 = 0 → post (-1000001 : Int32) ut) ∧ (¬ r4 = 0 → ∃ n53, wL_X6_nods_53 a0 a1 a2 (0 : Int32) ux un ut post (fun (x14 : Int32) => ∃ n81, wL_X6_nods_81 a0 a1 a2 x14 ux un post (fun (x24 : Int32) (u25 : BX1) => w_X6_commonDivisor x24 x14 (fun r26 => (a2 = 0 → ¬ (if (1 : Int32) < r26 then r26 else (1 : Int32)) = 0 ∧ (post (x24 / (if (1 : Int32) < r26 then r26 else (1 : Int32))) u25)) ∧ (¬ a2 = 0 → ¬ (if (1 : Int32) < r26 then r26 else (1 : Int32)) = 0 ∧ (post (x14 / (if (1 : Int32) < r26 then r26 else (1 : Int32))) u25)))) n81 (0 : Int32) (0 : Int32) ut) n53 (1 : Int32) (0 : Int32)))))))))
set_option maxHeartbeats 4000000 in
set_option maxRecDepth 100000 in
theorem c_X6_nods (l : Launch) (D : va_G) (K : Nat → ClassId) (t : Nat → Nat) (x no tr tp ac se ak : Nat → Nat) (ro im : Nat → Nat → Nat) (ux : BX6) (un : BX1) (ut : BX1) (a0 : Int32) (a1 : Int32) (a2 : Int32) (post : Int32 → BX1 → Prop) (h : w_X6_nods ux un ut a0 a1 a2 post) : WrI l yX6_nods cX6_nods 7 (some .int) ({ frames := 5, cells := 0, slots := 0, locals := 135 } : Room) D (TY K) t (CX6 K x no tr tp ac se ak ro im ux ++ CX1 K no un ++ CX1 K tr ut) [.ref (x 0), .int a0, .int a1, .int a2] (fun z : BX1 => CX6 K x no tr tp ac se ak ro im ux ++ CX1 K no un ++ CX1 K tr z) (fun (r : Int32) (z : BX1) => post r z) := by
  refine WrI.mk rfl (Nat.le_of_ble_eq_true rfl) ?_
  intro F ls A _ hF X hH hA hl hT
  obtain ⟨H, hH0⟩ : ∃ z : Heap, z = (fxS F).heap := ⟨_, rfl⟩
  obtain ⟨locs, hL0⟩ : ∃ z : List Loc, z = [] := ⟨_, rfl⟩
  have hH : HH F D A (CX6 K x no tr tp ac se ak ro im ux ++ CX1 K no un ++ CX1 K tr ut) H locs := by rw [hH0, hL0]; exact hH
  suffices goal : V F (WQI F D (TY K) A (fun z : BX1 => CX6 K x no tr tp ac se ak ro im ux ++ CX1 K no un ++ CX1 K tr z) (fun (r : Int32) (z : BX1) => post r z)) H locs 0 ls [] by rw [hH0, hL0] at goal; exact goal
  clear hH0 hL0
  have X : Cx F cX6_nods 7 RX6 D (TY K) := X
  have hl : lv_has ls 7 [(0, .ref (x 0)), (1, .int a0), (2, .int a1), (3, .int a2)] := hl
  unfold w_X6_nods at h
  refine v_aload_n X dX6_nods_0 rfl (lv_at hl 0 rfl) ?_
  refine v_get (v := .ref (no 0)) X hH.1 0 rfl fk_X6_22 rfl dX6_nods_1 ?_
  refine rdV (As := []) (rest := []) X mv_X6_135 (c_X1_isOpen F.2.1 D K t no un _ h) hF ⟨rfl, rfl, Nat.le_of_ble_eq_true rfl, Nat.le_of_ble_eq_true rfl⟩ (stW hT hH) hH.1 [3, 4, 5, 6, 7, 8, 9, 10] rfl 3 rfl rfl hl.1 rfl rfl (Nat.le_of_ble_eq_true rfl) dX6_nods_4 (fun r1 h => ?_)
  refine v_if_ne (tgt := 13) X dX6_nods_7 (by decide) (fun c45 => ?_) (fun c45 => ?_)
  · have h := h.2 c45
    refine v_iload_n X dX6_nods_13 rfl (lv_at hl 1 rfl) ?_
    refine v_iconst (v := (0 : Int32)) X dX6_nods_14 (by decide) ?_
    refine v_iconst (v := (5 : Int32)) X dX6_nods_15 (by decide) ?_
    refine rdS (As := [.int a0, .int (0 : Int32), .int (5 : Int32)]) (rest := []) X ms_X6_58 (c_X6_isWithin F.2.1 D K t a0 (0 : Int32) (5 : Int32) _ h) hF ⟨rfl, rfl, Nat.le_of_ble_eq_true rfl, Nat.le_of_ble_eq_true rfl⟩ (stW hT hH) hH.1 [] rfl hl.1 rfl rfl (Nat.le_of_ble_eq_true rfl) dX6_nods_16 (fun r2 h => ?_)
    refine v_if_eq (tgt := 41) X dX6_nods_19 (by decide) (fun c44 => ?_) (fun c44 => ?_)
    · have h := h.1 c44
      refine v_ldc X kc_X6_62 dX6_nods_41 ?_
      exact v_wiret X hF ut hH h dX6_nods_43
    · have h := h.2 c44
      refine v_iload_n X dX6_nods_22 rfl (lv_at hl 2 rfl) ?_
      refine v_iconst (v := (0 : Int32)) X dX6_nods_23 (by decide) ?_
      refine v_bipush (v := (10 : Int32)) X dX6_nods_24 (by decide) ?_
      refine rdS (As := [.int a1, .int (0 : Int32), .int (10 : Int32)]) (rest := []) X ms_X6_58 (c_X6_isWithin F.2.1 D K t a1 (0 : Int32) (10 : Int32) _ h) hF ⟨rfl, rfl, Nat.le_of_ble_eq_true rfl, Nat.le_of_ble_eq_true rfl⟩ (stW hT hH) hH.1 [] rfl hl.1 rfl rfl (Nat.le_of_ble_eq_true rfl) dX6_nods_26 (fun r3 h => ?_)
      refine v_if_eq (tgt := 41) X dX6_nods_29 (by decide) (fun c43 => ?_) (fun c43 => ?_)
      · have h := h.1 c43
        refine v_ldc X kc_X6_62 dX6_nods_41 ?_
        exact v_wiret X hF ut hH h dX6_nods_43
      · have h := h.2 c43
        refine v_iload_n X dX6_nods_32 rfl (lv_at hl 3 rfl) ?_
        refine v_iconst (v := (0 : Int32)) X dX6_nods_33 (by decide) ?_
        refine v_iconst (v := (1 : Int32)) X dX6_nods_34 (by decide) ?_
        refine rdS (As := [.int a2, .int (0 : Int32), .int (1 : Int32)]) (rest := []) X ms_X6_58 (c_X6_isWithin F.2.1 D K t a2 (0 : Int32) (1 : Int32) _ h) hF ⟨rfl, rfl, Nat.le_of_ble_eq_true rfl, Nat.le_of_ble_eq_true rfl⟩ (stW hT hH) hH.1 [] rfl hl.1 rfl rfl (Nat.le_of_ble_eq_true rfl) dX6_nods_35 (fun r4 h => ?_)
        refine v_if_ne (tgt := 44) X dX6_nods_38 (by decide) (fun c42 => ?_) (fun c42 => ?_)
        · have h := h.2 c42
          refine v_iconst (v := (0 : Int32)) X dX6_nods_44 (by decide) ?_
          refine v_istore (lv' := [(4, .int (0 : Int32)), (0, .ref (x 0)), (1, .int a0), (2, .int a1), (3, .int a2)]) X dX6_nods_45 hl (by decide) rfl (fun ls hl => ?_)
          refine v_iconst (v := (1 : Int32)) X dX6_nods_47 (by decide) ?_
          refine v_istore (lv' := [(5, .int (1 : Int32)), (4, .int (0 : Int32)), (0, .ref (x 0)), (1, .int a0), (2, .int a1), (3, .int a2)]) X dX6_nods_48 hl (by decide) rfl (fun ls hl => ?_)
          refine v_iconst (v := (0 : Int32)) X dX6_nods_50 (by decide) ?_
          refine v_istore (lv' := [(6, .int (0 : Int32)), (5, .int (1 : Int32)), (4, .int (0 : Int32)), (0, .ref (x 0)), (1, .int a0), (2, .int a1), (3, .int a2)]) X dX6_nods_51 hl (by decide) rfl (fun ls hl => ?_)
          obtain ⟨Kx53, hK53⟩ : ∃ f : Int32 → Prop, f = (fun (x14 : Int32) => ∃ n81, wL_X6_nods_81 a0 a1 a2 x14 ux un post (fun (x24 : Int32) (u25 : BX1) => w_X6_commonDivisor x24 x14 (fun r26 => (a2 = 0 → ¬ (if (1 : Int32) < r26 then r26 else (1 : Int32)) = 0 ∧ (post (x24 / (if (1 : Int32) < r26 then r26 else (1 : Int32))) u25)) ∧ (¬ a2 = 0 → ¬ (if (1 : Int32) < r26 then r26 else (1 : Int32)) = 0 ∧ (post (x14 / (if (1 : Int32) < r26 then r26 else (1 : Int32))) u25)))) n81 (0 : Int32) (0 : Int32) ut) := ⟨_, rfl⟩
          have kx39 : ∀ (x14 : Int32) (ls : Array Slot) (H : Heap) (locs : List Loc), (Kx53 x14) → lv_has ls 7 [(0, .ref (x 0)), (1, .int a0), (2, .int a1), (3, .int a2), (4, .int (0 : Int32)), (5, .int x14)] → HH F D A (CX6 K x no tr tp ac se ak ro im ux ++ CX1 K no un ++ CX1 K tr ut) H locs → V F (WQI F D (TY K) A (fun z : BX1 => CX6 K x no tr tp ac se ak ro im ux ++ CX1 K no un ++ CX1 K tr z) (fun (r : Int32) (z : BX1) => post r z)) H locs 78 ls [] := by
            intro x14 ls H locs h hl hH
            have h : ∃ n81, wL_X6_nods_81 a0 a1 a2 x14 ux un post (fun (x24 : Int32) (u25 : BX1) => w_X6_commonDivisor x24 x14 (fun r26 => (a2 = 0 → ¬ (if (1 : Int32) < r26 then r26 else (1 : Int32)) = 0 ∧ (post (x24 / (if (1 : Int32) < r26 then r26 else (1 : Int32))) u25)) ∧ (¬ a2 = 0 → ¬ (if (1 : Int32) < r26 then r26 else (1 : Int32)) = 0 ∧ (post (x14 / (if (1 : Int32) < r26 then r26 else (1 : Int32))) u25)))) n81 (0 : Int32) (0 : Int32) ut := by rw [hK53] at h; exact h
            refine v_iconst (v := (0 : Int32)) X dX6_nods_78 (by decide) ?_
            refine v_istore (lv' := [(6, .int (0 : Int32)), (0, .ref (x 0)), (1, .int a0), (2, .int a1), (3, .int a2), (4, .int (0 : Int32)), (5, .int x14)]) X dX6_nods_79 hl (by decide) rfl (fun ls hl => ?_)
            obtain ⟨Kx81, hK81⟩ : ∃ f : Int32 → BX1 → Prop, f = (fun (x24 : Int32) (u25 : BX1) => w_X6_commonDivisor x24 x14 (fun r26 => (a2 = 0 → ¬ (if (1 : Int32) < r26 then r26 else (1 : Int32)) = 0 ∧ (post (x24 / (if (1 : Int32) < r26 then r26 else (1 : Int32))) u25)) ∧ (¬ a2 = 0 → ¬ (if (1 : Int32) < r26 then r26 else (1 : Int32)) = 0 ∧ (post (x14 / (if (1 : Int32) < r26 then r26 else (1 : Int32))) u25)))) := ⟨_, rfl⟩
            have kx28 : ∀ (x24 : Int32) (u25 : BX1) (ls : Array Slot) (H : Heap) (locs : List Loc), (Kx81 x24 u25) → lv_has ls 7 [(3, .int a2), (4, .int x24), (5, .int x14)] → HH F D A (CX6 K x no tr tp ac se ak ro im ux ++ CX1 K no un ++ CX1 K tr u25) H locs → V F (WQI F D (TY K) A (fun z : BX1 => CX6 K x no tr tp ac se ak ro im ux ++ CX1 K no un ++ CX1 K tr z) (fun (r : Int32) (z : BX1) => post r z)) H locs 147 ls [] := by
              intro x24 u25 ls H locs h hl hH
              have h : w_X6_commonDivisor x24 x14 (fun r26 => (a2 = 0 → ¬ (if (1 : Int32) < r26 then r26 else (1 : Int32)) = 0 ∧ (post (x24 / (if (1 : Int32) < r26 then r26 else (1 : Int32))) u25)) ∧ (¬ a2 = 0 → ¬ (if (1 : Int32) < r26 then r26 else (1 : Int32)) = 0 ∧ (post (x14 / (if (1 : Int32) < r26 then r26 else (1 : Int32))) u25))) := by rw [hK81] at h; exact h
              refine v_iload X dX6_nods_147 (lv_at hl 1 rfl) ?_
              refine v_iload X dX6_nods_149 (lv_at hl 2 rfl) ?_
              refine rdS (As := [.int x24, .int x14]) (rest := []) X ms_X6_243 (c_X6_commonDivisor F.2.1 D K t x24 x14 _ h) hF ⟨rfl, rfl, Nat.le_of_ble_eq_true rfl, Nat.le_of_ble_eq_true rfl⟩ (stW hT hH) hH.1 [] rfl hl.1 rfl rfl (Nat.le_of_ble_eq_true rfl) dX6_nods_151 (fun r26 h => ?_)
              refine v_istore (lv' := [(6, .int r26), (3, .int a2), (4, .int x24), (5, .int x14)]) X dX6_nods_154 hl (by decide) rfl (fun ls hl => ?_)
              refine v_iload_n X dX6_nods_156 rfl (lv_at hl 1 rfl) ?_
              refine v_if_ne (tgt := 165) X dX6_nods_157 (by decide) (fun c27 => ?_) (fun c27 => ?_)
              · have h := h.2 c27
                refine v_iload X dX6_nods_165 (lv_at hl 3 rfl) ?_
                refine v_iconst (v := (1 : Int32)) X dX6_nods_167 (by decide) ?_
                refine v_iload X dX6_nods_168 (lv_at hl 0 rfl) ?_
                refine v_mmax X hl.1 hF km_X6_246 ⟨Nat.le_of_ble_eq_true rfl, Nat.le_of_ble_eq_true rfl⟩ dX6_nods_170 ?_
                have hne := h.1
                have h := h.2
                refine v_idiv X dX6_nods_173 hne ?_
                exact v_wiret X hF u25 hH h dX6_nods_174
              · have h := h.1 c27
                refine v_iload X dX6_nods_160 (lv_at hl 2 rfl) ?_
                refine v_goto (tgt := 167) X dX6_nods_162 (by decide) ?_
                refine v_iconst (v := (1 : Int32)) X dX6_nods_167 (by decide) ?_
                refine v_iload X dX6_nods_168 (lv_at hl 0 rfl) ?_
                refine v_mmax X hl.1 hF km_X6_246 ⟨Nat.le_of_ble_eq_true rfl, Nat.le_of_ble_eq_true rfl⟩ dX6_nods_170 ?_
                have hne := h.1
                have h := h.2
                refine v_idiv X dX6_nods_173 hne ?_
                exact v_wiret X hF u25 hH h dX6_nods_174
            have lp81 : ∀ (n81 : Nat) (x15 : Int32) (x16 : Int32) (u17 : BX1) (ls : Array Slot) (H : Heap) (locs : List Loc), wL_X6_nods_81 a0 a1 a2 x14 ux un post Kx81 n81 x15 x16 u17 → lv_has ls 7 [(0, .ref (x 0)), (1, .int a0), (2, .int a1), (3, .int a2), (4, .int x15), (5, .int x14), (6, .int x16)] → HH F D A (CX6 K x no tr tp ac se ak ro im ux ++ CX1 K no un ++ CX1 K tr u17) H locs → V F (WQI F D (TY K) A (fun z : BX1 => CX6 K x no tr tp ac se ak ro im ux ++ CX1 K no un ++ CX1 K tr z) (fun (r : Int32) (z : BX1) => post r z)) H locs 81 ls [] := by
              intro n81
              induction n81 with
              | zero => intro x15 x16 u17 ls H locs h hl hH; exact h.elim
              | succ n81 ih81 =>
                intro x15 x16 u17 ls H locs h hl hH
                refine v_iload X dX6_nods_81 (lv_at hl 6 rfl) ?_
                refine v_iconst (v := (1 : Int32)) X dX6_nods_83 (by decide) ?_
                refine v_aload_n X dX6_nods_84 rfl (lv_at hl 0 rfl) ?_
                refine v_get (v := .ref (no 0)) X hH.1 0 rfl fk_X6_22 rfl dX6_nods_85 ?_
                refine v_get (v := .int un.2.2.2.2.2.2.2.2.1) X hH.1 3 rfl fk_X6_232 rfl dX6_nods_88 ?_
                refine v_ishl X dX6_nods_91 ?_
                refine v_icmp_ge (tgt := 147) X dX6_nods_92 (by decide) (fun c38 => ?_) (fun c38 => ?_)
                · have h := h.1 c38
                  exact kx28 x15 u17 ls H locs h (lv_sub hl [3, 4, 5] rfl) hH
                · have h := h.2 c38
                  refine v_aload_n X dX6_nods_95 rfl (lv_at hl 0 rfl) ?_
                  refine v_get (v := .ref (tr 0)) X hH.1 0 rfl fk_X6_26 rfl dX6_nods_96 ?_
                  refine v_aload_n X dX6_nods_99 rfl (lv_at hl 0 rfl) ?_
                  refine v_get (v := .ref (no 0)) X hH.1 0 rfl fk_X6_22 rfl dX6_nods_100 ?_
                  refine wrVV (As := [.ref (no 0)]) (rest := []) (wr := (CX6 K x no tr tp ac se ak ro im ux)) X mv_X6_126 (c_X1_copyFrom F.2.1 D K t tr no u17 un _ h) hF ⟨rfl, rfl, Nat.le_of_ble_eq_true rfl, Nat.le_of_ble_eq_true rfl⟩ hT hA hH [11, 12, 13, 14, 15, 16, 17, 18, 3, 4, 5, 6, 7, 8, 9, 10] [0, 1, 2] ⟨rfl, rfl, rfl, rfl, by decide⟩ 11 rfl rfl hl.1 rfl rfl (Nat.le_of_ble_eq_true rfl) dX6_nods_103 (fun u30 H locs h hH => ?_)
                  have hH : HH F D A (CX6 K x no tr tp ac se ak ro im ux ++ CX1 K tr u30 ++ CX1 K no un) H locs := hH
                  refine v_aload_n X dX6_nods_106 rfl (lv_at hl 0 rfl) ?_
                  refine v_get (v := .ref (tr 0)) X hH.1 0 rfl fk_X6_26 rfl dX6_nods_107 ?_
                  refine v_iload X dX6_nods_110 (lv_at hl 6 rfl) ?_
                  refine wrVV (As := [.int x16]) (rest := []) (wr := (CX6 K x no tr tp ac se ak ro im ux ++ CX1 K no un)) X mv_X6_145 (c_X1_passNight F.2.1 D K t tr u30 x16 _ h) hF ⟨rfl, rfl, Nat.le_of_ble_eq_true rfl, Nat.le_of_ble_eq_true rfl⟩ hT hA hH [3, 4, 5, 6, 7, 8, 9, 10] [0, 1, 2, 11, 12, 13, 14, 15, 16, 17, 18] ⟨rfl, rfl, rfl, rfl, by decide⟩ 3 rfl rfl hl.1 rfl rfl (Nat.le_of_ble_eq_true rfl) dX6_nods_112 (fun u32 H locs h hH => ?_)
                  have hH : HH F D A (CX6 K x no tr tp ac se ak ro im ux ++ CX1 K no un ++ CX1 K tr u32) H locs := hH
                  refine v_aload_n X dX6_nods_115 rfl (lv_at hl 0 rfl) ?_
                  refine v_get (v := .ref (tr 0)) X hH.1 0 rfl fk_X6_26 rfl dX6_nods_116 ?_
                  refine rdV (As := []) (rest := []) X mv_X6_149 (c_X1_resting F.2.1 D K t tr u32 _ h) hF ⟨rfl, rfl, Nat.le_of_ble_eq_true rfl, Nat.le_of_ble_eq_true rfl⟩ (stW hT hH) hH.1 [11, 12, 13, 14, 15, 16, 17, 18] rfl 11 rfl rfl hl.1 rfl rfl (Nat.le_of_ble_eq_true rfl) dX6_nods_119 (fun r33 h => ?_)
                  refine rdS (As := [.int r33]) (rest := []) X ms_X6_235 (c_J6_bitCount_0f7a4 F.2.1 D K t r33 _ h) hF ⟨rfl, rfl, Nat.le_of_ble_eq_true rfl, Nat.le_of_ble_eq_true rfl⟩ (stW hT hH) hH.1 [] rfl hl.1 rfl rfl (Nat.le_of_ble_eq_true rfl) dX6_nods_122 (fun r34 h => ?_)
                  refine v_iload_n X dX6_nods_125 rfl (lv_at hl 1 rfl) ?_
                  refine v_icmp_lt (tgt := 141) X dX6_nods_126 (by decide) (fun c37 => ?_) (fun c37 => ?_)
                  · have h := h.1 c37
                    refine v_iinc (v := (x16 + (1 : Int32))) (lv' := [(6, .int (x16 + (1 : Int32))), (0, .ref (x 0)), (1, .int a0), (2, .int a1), (3, .int a2), (4, .int x15), (5, .int x14)]) X dX6_nods_141 hl (k := 6) rfl rfl (by decide) rfl (fun ls hl => ?_)
                    refine v_goto (tgt := 81) X dX6_nods_144 (by decide) ?_
                    exact ih81 x15 (x16 + (1 : Int32)) u32 ls H locs h (lv_sub hl [1, 2, 3, 4, 5, 6, 0] rfl) hH
                  · have h := h.2 c37
                    refine v_iload X dX6_nods_129 (lv_at hl 4 rfl) ?_
                    refine v_aload_n X dX6_nods_131 rfl (lv_at hl 0 rfl) ?_
                    refine v_iload X dX6_nods_132 (lv_at hl 6 rfl) ?_
                    refine v_iload_n X dX6_nods_134 rfl (lv_at hl 2 rfl) ?_
                    refine rdV (As := [.int x16, .int a1]) (rest := [.int x15]) X mv_X6_240 (c_X6_waysToBe F.2.1 D K t x no tr tp ac se ak ro im ux un x16 a1 _ h) hF ⟨rfl, rfl, Nat.le_of_ble_eq_true rfl, Nat.le_of_ble_eq_true rfl⟩ (stW hT hH) hH.1 [0, 1, 2, 3, 4, 5, 6, 7, 8, 9, 10] rfl 0 rfl rfl hl.1 rfl rfl (Nat.le_of_ble_eq_true rfl) dX6_nods_135 (fun r35 h => ?_)
                    refine v_iadd X dX6_nods_138 ?_
                    refine v_topi (fun x36 ex36 => ?_)
                    have h := h x36 ex36
                    refine v_istore (lv' := [(4, .int x36), (0, .ref (x 0)), (1, .int a0), (2, .int a1), (3, .int a2), (5, .int x14), (6, .int x16)]) X dX6_nods_139 hl (by decide) rfl (fun ls hl => ?_)
                    refine v_iinc (v := (x16 + (1 : Int32))) (lv' := [(6, .int (x16 + (1 : Int32))), (4, .int x36), (0, .ref (x 0)), (1, .int a0), (2, .int a1), (3, .int a2), (5, .int x14)]) X dX6_nods_141 hl (k := 6) rfl rfl (by decide) rfl (fun ls hl => ?_)
                    refine v_goto (tgt := 81) X dX6_nods_144 (by decide) ?_
                    exact ih81 x36 (x16 + (1 : Int32)) u32 ls H locs h (lv_sub hl [2, 3, 4, 5, 1, 6, 0] rfl) hH
            obtain ⟨n81, h⟩ := h
            have h : wL_X6_nods_81 a0 a1 a2 x14 ux un post Kx81 n81 (0 : Int32) (0 : Int32) ut := by rw [hK81]; exact h
            exact lp81 n81 (0 : Int32) (0 : Int32) ut ls H locs h (lv_sub hl [1, 2, 3, 4, 5, 6, 0] rfl) hH
          have lp53 : ∀ (n53 : Nat) (x5 : Int32) (x6 : Int32) (ls : Array Slot) (H : Heap) (locs : List Loc), wL_X6_nods_53 a0 a1 a2 (0 : Int32) ux un ut post Kx53 n53 x5 x6 → lv_has ls 7 [(0, .ref (x 0)), (1, .int a0), (2, .int a1), (3, .int a2), (4, .int (0 : Int32)), (5, .int x5), (6, .int x6)] → HH F D A (CX6 K x no tr tp ac se ak ro im ux ++ CX1 K no un ++ CX1 K tr ut) H locs → V F (WQI F D (TY K) A (fun z : BX1 => CX6 K x no tr tp ac se ak ro im ux ++ CX1 K no un ++ CX1 K tr z) (fun (r : Int32) (z : BX1) => post r z)) H locs 53 ls [] := by
            intro n53
            induction n53 with
            | zero => intro x5 x6 ls H locs h hl hH; exact h.elim
            | succ n53 ih53 =>
              intro x5 x6 ls H locs h hl hH
              refine v_iload X dX6_nods_53 (lv_at hl 6 rfl) ?_
              refine v_aload_n X dX6_nods_55 rfl (lv_at hl 0 rfl) ?_
              refine v_get (v := .ref (no 0)) X hH.1 0 rfl fk_X6_22 rfl dX6_nods_56 ?_
              refine v_get (v := .int un.2.2.2.2.2.2.2.2.1) X hH.1 3 rfl fk_X6_232 rfl dX6_nods_59 ?_
              refine v_icmp_ge (tgt := 78) X dX6_nods_62 (by decide) (fun c41 => ?_) (fun c41 => ?_)
              · have h := h.1 c41
                exact kx39 x5 ls H locs h (lv_sub hl [0, 1, 2, 3, 4, 5] rfl) hH
              · have h := h.2 c41
                refine v_iload X dX6_nods_65 (lv_at hl 5 rfl) ?_
                refine v_bipush (v := (10 : Int32)) X dX6_nods_67 (by decide) ?_
                refine v_imul X dX6_nods_69 ?_
                refine v_topi (fun x40 ex40 => ?_)
                have h := h x40 ex40
                refine v_istore (lv' := [(5, .int x40), (0, .ref (x 0)), (1, .int a0), (2, .int a1), (3, .int a2), (4, .int (0 : Int32)), (6, .int x6)]) X dX6_nods_70 hl (by decide) rfl (fun ls hl => ?_)
                refine v_iinc (v := (x6 + (1 : Int32))) (lv' := [(6, .int (x6 + (1 : Int32))), (5, .int x40), (0, .ref (x 0)), (1, .int a0), (2, .int a1), (3, .int a2), (4, .int (0 : Int32))]) X dX6_nods_72 hl (k := 6) rfl rfl (by decide) rfl (fun ls hl => ?_)
                refine v_goto (tgt := 53) X dX6_nods_75 (by decide) ?_
                exact ih53 x40 (x6 + (1 : Int32)) ls H locs h (lv_sub hl [2, 3, 4, 5, 6, 1, 0] rfl) hH
          obtain ⟨n53, h⟩ := h
          have h : wL_X6_nods_53 a0 a1 a2 (0 : Int32) ux un ut post Kx53 n53 (1 : Int32) (0 : Int32) := by rw [hK53]; exact h
          exact lp53 n53 (1 : Int32) (0 : Int32) ls H locs h (lv_sub hl [3, 4, 5, 6, 2, 1, 0] rfl) hH
        · have h := h.1 c42
          refine v_ldc X kc_X6_62 dX6_nods_41 ?_
          exact v_wiret X hF ut hH h dX6_nods_43
  · have h := h.1 c45
    refine v_ldc X kc_X6_138 dX6_nods_10 ?_
    exact v_wiret X hF ut hH h dX6_nods_12
def wL_X6_drawn_66 (y12 : Int32) (y13 : Int32) (b14 : BX6) (b15 : BX1) (post : Int32 → BX1 → Prop) (Kx66 : Int32 → BX1 → Prop) : Nat → Int64 → Int32 → Int32 → BX1 → Prop
  | 0, _, _, _, _ => False
  | n66 + 1, x8, x9, x10, u11 => (y12 ≤ x10 → Kx66 x9 u11) ∧ (¬ y12 ≤ x10 → ∀ x21 : Int64, x21 = ((x8 * (16807 : Int64)) - (x8 * (16807 : Int64)) / (2147483647 : Int64) * (2147483647 : Int64)) → ¬ (if (1 : Int32) < u11.2.2.2.2.2.2.2.1 then u11.2.2.2.2.2.2.2.1 else (1 : Int32)).toInt64 = 0 ∧ (w_X1_makeHeavier u11 ((x21 - x21 / (if (1 : Int32) < u11.2.2.2.2.2.2.2.1 then u11.2.2.2.2.2.2.2.1 else (1 : Int32)).toInt64 * (if (1 : Int32) < u11.2.2.2.2.2.2.2.1 then u11.2.2.2.2.2.2.2.1 else (1 : Int32)).toInt64).toInt32) ((x21 - x21 / (5 : Int64) * (5 : Int64)).toInt32) (fun u23 => w_X1_passNight u23 (15 : Int32) (fun u25 => w_X1_resting u25 (fun r26 => w_J6_bitCount_0f7a4 r26 (fun r27 => ∀ x28 : Int32, x28 = (x9 + r27) → wL_X6_drawn_66 y12 y13 b14 b15 post Kx66 n66 x21 x28 (x10 + (1 : Int32)) u25))))))
def w_X6_drawn (ux : BX6) (un : BX1) (ut : BX1) (a0 : Int32) (a1 : Int32) (a2 : Int32) (post : Int32 → BX1 → Prop) : Prop := w_X1_isOpen un (fun r1 => (r1 = 0 → post (-1000002 : Int32) ut) ∧ (¬ r1 = 0 → w_X6_isWithin a0 (0 : Int32) (60 : Int32) (fun r2 => (r2 = 0 → post (-1000001 : Int32) ut) ∧ (¬ r2 = 0 → w_X6_isWithin a1 (1 : Int32) (999999 : Int32) (fun r3 => (r3 = 0 → post (-1000001 : Int32) ut) ∧ (¬ r3 = 0 → w_X6_isWithin a2 (0 : Int32) (1 : Int32) (fun r4 => (r4 = 0 → post (-1000001 : Int32) ut) ∧ (¬ r4 = 0 → w_X1_copyFrom ut un (fun u6 => ∀ x7 : Int64, x7 = a1.toInt64 → ∃ n66, wL_X6_drawn_66 a0 a2 ux un post (fun (x16 : Int32) (u17 : BX1) => (a2 = 0 → post x16 u17) ∧ (¬ a2 = 0 → w_X1_weightsTogether u17 (fun r18 => post r18 u17))) n66 x7 (0 : Int32) (0 : Int32) u6)))))))))
set_option maxHeartbeats 4000000 in
set_option maxRecDepth 100000 in
theorem c_X6_drawn (l : Launch) (D : va_G) (K : Nat → ClassId) (t : Nat → Nat) (x no tr tp ac se ak : Nat → Nat) (ro im : Nat → Nat → Nat) (ux : BX6) (un : BX1) (ut : BX1) (a0 : Int32) (a1 : Int32) (a2 : Int32) (post : Int32 → BX1 → Prop) (h : w_X6_drawn ux un ut a0 a1 a2 post) : WrI l yX6_drawn cX6_drawn 8 (some .int) ({ frames := 5, cells := 0, slots := 0, locals := 135 } : Room) D (TY K) t (CX6 K x no tr tp ac se ak ro im ux ++ CX1 K no un ++ CX1 K tr ut) [.ref (x 0), .int a0, .int a1, .int a2] (fun z : BX1 => CX6 K x no tr tp ac se ak ro im ux ++ CX1 K no un ++ CX1 K tr z) (fun (r : Int32) (z : BX1) => post r z) := by
  refine WrI.mk rfl (Nat.le_of_ble_eq_true rfl) ?_
  intro F ls A _ hF X hH hA hl hT
  obtain ⟨H, hH0⟩ : ∃ z : Heap, z = (fxS F).heap := ⟨_, rfl⟩
  obtain ⟨locs, hL0⟩ : ∃ z : List Loc, z = [] := ⟨_, rfl⟩
  have hH : HH F D A (CX6 K x no tr tp ac se ak ro im ux ++ CX1 K no un ++ CX1 K tr ut) H locs := by rw [hH0, hL0]; exact hH
  suffices goal : V F (WQI F D (TY K) A (fun z : BX1 => CX6 K x no tr tp ac se ak ro im ux ++ CX1 K no un ++ CX1 K tr z) (fun (r : Int32) (z : BX1) => post r z)) H locs 0 ls [] by rw [hH0, hL0] at goal; exact goal
  clear hH0 hL0
  have X : Cx F cX6_drawn 8 RX6 D (TY K) := X
  have hl : lv_has ls 8 [(0, .ref (x 0)), (1, .int a0), (2, .int a1), (3, .int a2)] := hl
  unfold w_X6_drawn at h
  refine v_aload_n X dX6_drawn_0 rfl (lv_at hl 0 rfl) ?_
  refine v_get (v := .ref (no 0)) X hH.1 0 rfl fk_X6_22 rfl dX6_drawn_1 ?_
  refine rdV (As := []) (rest := []) X mv_X6_135 (c_X1_isOpen F.2.1 D K t no un _ h) hF ⟨rfl, rfl, Nat.le_of_ble_eq_true rfl, Nat.le_of_ble_eq_true rfl⟩ (stW hT hH) hH.1 [3, 4, 5, 6, 7, 8, 9, 10] rfl 3 rfl rfl hl.1 rfl rfl (Nat.le_of_ble_eq_true rfl) dX6_drawn_4 (fun r1 h => ?_)
  refine v_if_ne (tgt := 13) X dX6_drawn_7 (by decide) (fun c33 => ?_) (fun c33 => ?_)
  · have h := h.2 c33
    refine v_iload_n X dX6_drawn_13 rfl (lv_at hl 1 rfl) ?_
    refine v_iconst (v := (0 : Int32)) X dX6_drawn_14 (by decide) ?_
    refine v_bipush (v := (60 : Int32)) X dX6_drawn_15 (by decide) ?_
    refine rdS (As := [.int a0, .int (0 : Int32), .int (60 : Int32)]) (rest := []) X ms_X6_58 (c_X6_isWithin F.2.1 D K t a0 (0 : Int32) (60 : Int32) _ h) hF ⟨rfl, rfl, Nat.le_of_ble_eq_true rfl, Nat.le_of_ble_eq_true rfl⟩ (stW hT hH) hH.1 [] rfl hl.1 rfl rfl (Nat.le_of_ble_eq_true rfl) dX6_drawn_17 (fun r2 h => ?_)
    refine v_if_eq (tgt := 42) X dX6_drawn_20 (by decide) (fun c32 => ?_) (fun c32 => ?_)
    · have h := h.1 c32
      refine v_ldc X kc_X6_62 dX6_drawn_42 ?_
      exact v_wiret X hF ut hH h dX6_drawn_44
    · have h := h.2 c32
      refine v_iload_n X dX6_drawn_23 rfl (lv_at hl 2 rfl) ?_
      refine v_iconst (v := (1 : Int32)) X dX6_drawn_24 (by decide) ?_
      refine v_ldc X kc_X6_251 dX6_drawn_25 ?_
      refine rdS (As := [.int a1, .int (1 : Int32), .int (999999 : Int32)]) (rest := []) X ms_X6_58 (c_X6_isWithin F.2.1 D K t a1 (1 : Int32) (999999 : Int32) _ h) hF ⟨rfl, rfl, Nat.le_of_ble_eq_true rfl, Nat.le_of_ble_eq_true rfl⟩ (stW hT hH) hH.1 [] rfl hl.1 rfl rfl (Nat.le_of_ble_eq_true rfl) dX6_drawn_27 (fun r3 h => ?_)
      refine v_if_eq (tgt := 42) X dX6_drawn_30 (by decide) (fun c31 => ?_) (fun c31 => ?_)
      · have h := h.1 c31
        refine v_ldc X kc_X6_62 dX6_drawn_42 ?_
        exact v_wiret X hF ut hH h dX6_drawn_44
      · have h := h.2 c31
        refine v_iload_n X dX6_drawn_33 rfl (lv_at hl 3 rfl) ?_
        refine v_iconst (v := (0 : Int32)) X dX6_drawn_34 (by decide) ?_
        refine v_iconst (v := (1 : Int32)) X dX6_drawn_35 (by decide) ?_
        refine rdS (As := [.int a2, .int (0 : Int32), .int (1 : Int32)]) (rest := []) X ms_X6_58 (c_X6_isWithin F.2.1 D K t a2 (0 : Int32) (1 : Int32) _ h) hF ⟨rfl, rfl, Nat.le_of_ble_eq_true rfl, Nat.le_of_ble_eq_true rfl⟩ (stW hT hH) hH.1 [] rfl hl.1 rfl rfl (Nat.le_of_ble_eq_true rfl) dX6_drawn_36 (fun r4 h => ?_)
        refine v_if_ne (tgt := 45) X dX6_drawn_39 (by decide) (fun c30 => ?_) (fun c30 => ?_)
        · have h := h.2 c30
          refine v_aload_n X dX6_drawn_45 rfl (lv_at hl 0 rfl) ?_
          refine v_get (v := .ref (tr 0)) X hH.1 0 rfl fk_X6_26 rfl dX6_drawn_46 ?_
          refine v_aload_n X dX6_drawn_49 rfl (lv_at hl 0 rfl) ?_
          refine v_get (v := .ref (no 0)) X hH.1 0 rfl fk_X6_22 rfl dX6_drawn_50 ?_
          refine wrVV (As := [.ref (no 0)]) (rest := []) (wr := (CX6 K x no tr tp ac se ak ro im ux)) X mv_X6_126 (c_X1_copyFrom F.2.1 D K t tr no ut un _ h) hF ⟨rfl, rfl, Nat.le_of_ble_eq_true rfl, Nat.le_of_ble_eq_true rfl⟩ hT hA hH [11, 12, 13, 14, 15, 16, 17, 18, 3, 4, 5, 6, 7, 8, 9, 10] [0, 1, 2] ⟨rfl, rfl, rfl, rfl, by decide⟩ 11 rfl rfl hl.1 rfl rfl (Nat.le_of_ble_eq_true rfl) dX6_drawn_53 (fun u6 H locs h hH => ?_)
          have hH : HH F D A (CX6 K x no tr tp ac se ak ro im ux ++ CX1 K tr u6 ++ CX1 K no un) H locs := hH
          refine v_iload_n X dX6_drawn_56 rfl (lv_at hl 2 rfl) ?_
          refine v_i2l X dX6_drawn_57 rfl ?_
          refine v_topl (fun x7 ex7 => ?_)
          have h := h x7 ex7
          refine v_lstore (lv' := [(4, .long x7), (0, .ref (x 0)), (1, .int a0), (2, .int a1), (3, .int a2)]) X dX6_drawn_58 hl (by decide) rfl (fun ls hl => ?_)
          refine v_iconst (v := (0 : Int32)) X dX6_drawn_60 (by decide) ?_
          refine v_istore (lv' := [(6, .int (0 : Int32)), (4, .long x7), (0, .ref (x 0)), (1, .int a0), (2, .int a1), (3, .int a2)]) X dX6_drawn_61 hl (by decide) rfl (fun ls hl => ?_)
          refine v_iconst (v := (0 : Int32)) X dX6_drawn_63 (by decide) ?_
          refine v_istore (lv' := [(7, .int (0 : Int32)), (6, .int (0 : Int32)), (4, .long x7), (0, .ref (x 0)), (1, .int a0), (2, .int a1), (3, .int a2)]) X dX6_drawn_64 hl (by decide) rfl (fun ls hl => ?_)
          obtain ⟨Kx66, hK66⟩ : ∃ f : Int32 → BX1 → Prop, f = (fun (x16 : Int32) (u17 : BX1) => (a2 = 0 → post x16 u17) ∧ (¬ a2 = 0 → w_X1_weightsTogether u17 (fun r18 => post r18 u17))) := ⟨_, rfl⟩
          have kx20 : ∀ (x16 : Int32) (u17 : BX1) (ls : Array Slot) (H : Heap) (locs : List Loc), (Kx66 x16 u17) → lv_has ls 8 [(0, .ref (x 0)), (3, .int a2), (6, .int x16)] → HH F D A (CX6 K x no tr tp ac se ak ro im ux ++ CX1 K no un ++ CX1 K tr u17) H locs → V F (WQI F D (TY K) A (fun z : BX1 => CX6 K x no tr tp ac se ak ro im ux ++ CX1 K no un ++ CX1 K tr z) (fun (r : Int32) (z : BX1) => post r z)) H locs 144 ls [] := by
            intro x16 u17 ls H locs h hl hH
            have h : (a2 = 0 → post x16 u17) ∧ (¬ a2 = 0 → w_X1_weightsTogether u17 (fun r18 => post r18 u17)) := by rw [hK66] at h; exact h
            refine v_iload_n X dX6_drawn_144 rfl (lv_at hl 1 rfl) ?_
            refine v_if_ne (tgt := 153) X dX6_drawn_145 (by decide) (fun c19 => ?_) (fun c19 => ?_)
            · have h := h.2 c19
              refine v_aload_n X dX6_drawn_153 rfl (lv_at hl 0 rfl) ?_
              refine v_get (v := .ref (tr 0)) X hH.1 0 rfl fk_X6_26 rfl dX6_drawn_154 ?_
              refine rdV (As := []) (rest := []) X mv_X6_258 (c_X1_weightsTogether F.2.1 D K t tr u17 _ h) hF ⟨rfl, rfl, Nat.le_of_ble_eq_true rfl, Nat.le_of_ble_eq_true rfl⟩ (stW hT hH) hH.1 [11, 12, 13, 14, 15, 16, 17, 18] rfl 11 rfl rfl hl.1 rfl rfl (Nat.le_of_ble_eq_true rfl) dX6_drawn_157 (fun r18 h => ?_)
              exact v_wiret X hF u17 hH h dX6_drawn_160
            · have h := h.1 c19
              refine v_iload X dX6_drawn_148 (lv_at hl 2 rfl) ?_
              refine v_goto (tgt := 160) X dX6_drawn_150 (by decide) ?_
              exact v_wiret X hF u17 hH h dX6_drawn_160
          have lp66 : ∀ (n66 : Nat) (x8 : Int64) (x9 : Int32) (x10 : Int32) (u11 : BX1) (ls : Array Slot) (H : Heap) (locs : List Loc), wL_X6_drawn_66 a0 a2 ux un post Kx66 n66 x8 x9 x10 u11 → lv_has ls 8 [(0, .ref (x 0)), (1, .int a0), (3, .int a2), (4, .long x8), (6, .int x9), (7, .int x10)] → HH F D A (CX6 K x no tr tp ac se ak ro im ux ++ CX1 K no un ++ CX1 K tr u11) H locs → V F (WQI F D (TY K) A (fun z : BX1 => CX6 K x no tr tp ac se ak ro im ux ++ CX1 K no un ++ CX1 K tr z) (fun (r : Int32) (z : BX1) => post r z)) H locs 66 ls [] := by
            intro n66
            induction n66 with
            | zero => intro x8 x9 x10 u11 ls H locs h hl hH; exact h.elim
            | succ n66 ih66 =>
              intro x8 x9 x10 u11 ls H locs h hl hH
              refine v_iload X dX6_drawn_66 (lv_at hl 5 rfl) ?_
              refine v_iload_n X dX6_drawn_68 rfl (lv_at hl 1 rfl) ?_
              refine v_icmp_ge (tgt := 144) X dX6_drawn_69 (by decide) (fun c29 => ?_) (fun c29 => ?_)
              · have h := h.1 c29
                exact kx20 x9 u11 ls H locs h (lv_sub hl [0, 2, 4] rfl) hH
              · have h := h.2 c29
                refine v_lload X dX6_drawn_72 (lv_at hl 3 rfl) ?_
                refine v_ldc2 X kc_X6_252 dX6_drawn_74 ?_
                refine v_lmul X dX6_drawn_77 ?_
                refine v_ldc2 X kc_X6_254 dX6_drawn_78 ?_
                refine v_lrem X dX6_drawn_81 (by decide) ?_
                refine v_topl (fun x21 ex21 => ?_)
                have h := h x21 ex21
                refine v_lstore (lv' := [(4, .long x21), (0, .ref (x 0)), (1, .int a0), (3, .int a2), (6, .int x9), (7, .int x10)]) X dX6_drawn_82 hl (by decide) rfl (fun ls hl => ?_)
                refine v_aload_n X dX6_drawn_84 rfl (lv_at hl 1 rfl) ?_
                refine v_get (v := .ref (tr 0)) X hH.1 0 rfl fk_X6_26 rfl dX6_drawn_85 ?_
                refine v_lload X dX6_drawn_88 (lv_at hl 0 rfl) ?_
                refine v_iconst (v := (1 : Int32)) X dX6_drawn_90 (by decide) ?_
                refine v_aload_n X dX6_drawn_91 rfl (lv_at hl 1 rfl) ?_
                refine v_get (v := .ref (tr 0)) X hH.1 0 rfl fk_X6_26 rfl dX6_drawn_92 ?_
                refine v_get (v := .int u11.2.2.2.2.2.2.2.1) X hH.1 11 rfl fk_X6_132 rfl dX6_drawn_95 ?_
                refine v_mmax X hl.1 hF km_X6_246 ⟨Nat.le_of_ble_eq_true rfl, Nat.le_of_ble_eq_true rfl⟩ dX6_drawn_98 ?_
                refine v_i2l X dX6_drawn_101 rfl ?_
                have hne := h.1
                have h := h.2
                refine v_lrem X dX6_drawn_102 hne ?_
                refine v_l2i X dX6_drawn_103 rfl ?_
                refine v_lload X dX6_drawn_104 (lv_at hl 0 rfl) ?_
                refine v_ldc2 X kc_X6_256 dX6_drawn_106 ?_
                refine v_lrem X dX6_drawn_109 (by decide) ?_
                refine v_l2i X dX6_drawn_110 rfl ?_
                refine wrVV (As := [.int (x21 - x21 / (if (1 : Int32) < u11.2.2.2.2.2.2.2.1 then u11.2.2.2.2.2.2.2.1 else (1 : Int32)).toInt64 * (if (1 : Int32) < u11.2.2.2.2.2.2.2.1 then u11.2.2.2.2.2.2.2.1 else (1 : Int32)).toInt64).toInt32, .int (x21 - x21 / (5 : Int64) * (5 : Int64)).toInt32]) (rest := []) (wr := (CX6 K x no tr tp ac se ak ro im ux ++ CX1 K no un)) X mv_X6_161 (c_X1_makeHeavier F.2.1 D K t tr u11 ((x21 - x21 / (if (1 : Int32) < u11.2.2.2.2.2.2.2.1 then u11.2.2.2.2.2.2.2.1 else (1 : Int32)).toInt64 * (if (1 : Int32) < u11.2.2.2.2.2.2.2.1 then u11.2.2.2.2.2.2.2.1 else (1 : Int32)).toInt64).toInt32) ((x21 - x21 / (5 : Int64) * (5 : Int64)).toInt32) _ h) hF ⟨rfl, rfl, Nat.le_of_ble_eq_true rfl, Nat.le_of_ble_eq_true rfl⟩ hT hA hH [11, 12, 13, 14, 15, 16, 17, 18] [0, 1, 2, 3, 4, 5, 6, 7, 8, 9, 10] ⟨rfl, rfl, rfl, rfl, by decide⟩ 11 rfl rfl hl.1 rfl rfl (Nat.le_of_ble_eq_true rfl) dX6_drawn_111 (fun u23 H locs h hH => ?_)
                have hH : HH F D A (CX6 K x no tr tp ac se ak ro im ux ++ CX1 K no un ++ CX1 K tr u23) H locs := hH
                refine v_aload_n X dX6_drawn_114 rfl (lv_at hl 1 rfl) ?_
                refine v_get (v := .ref (tr 0)) X hH.1 0 rfl fk_X6_26 rfl dX6_drawn_115 ?_
                refine v_bipush (v := (15 : Int32)) X dX6_drawn_118 (by decide) ?_
                refine wrVV (As := [.int (15 : Int32)]) (rest := []) (wr := (CX6 K x no tr tp ac se ak ro im ux ++ CX1 K no un)) X mv_X6_145 (c_X1_passNight F.2.1 D K t tr u23 (15 : Int32) _ h) hF ⟨rfl, rfl, Nat.le_of_ble_eq_true rfl, Nat.le_of_ble_eq_true rfl⟩ hT hA hH [11, 12, 13, 14, 15, 16, 17, 18] [0, 1, 2, 3, 4, 5, 6, 7, 8, 9, 10] ⟨rfl, rfl, rfl, rfl, by decide⟩ 11 rfl rfl hl.1 rfl rfl (Nat.le_of_ble_eq_true rfl) dX6_drawn_120 (fun u25 H locs h hH => ?_)
                have hH : HH F D A (CX6 K x no tr tp ac se ak ro im ux ++ CX1 K no un ++ CX1 K tr u25) H locs := hH
                refine v_iload X dX6_drawn_123 (lv_at hl 4 rfl) ?_
                refine v_aload_n X dX6_drawn_125 rfl (lv_at hl 1 rfl) ?_
                refine v_get (v := .ref (tr 0)) X hH.1 0 rfl fk_X6_26 rfl dX6_drawn_126 ?_
                refine rdV (As := []) (rest := [.int x9]) X mv_X6_149 (c_X1_resting F.2.1 D K t tr u25 _ h) hF ⟨rfl, rfl, Nat.le_of_ble_eq_true rfl, Nat.le_of_ble_eq_true rfl⟩ (stW hT hH) hH.1 [11, 12, 13, 14, 15, 16, 17, 18] rfl 11 rfl rfl hl.1 rfl rfl (Nat.le_of_ble_eq_true rfl) dX6_drawn_129 (fun r26 h => ?_)
                refine rdS (As := [.int r26]) (rest := [.int x9]) X ms_X6_235 (c_J6_bitCount_0f7a4 F.2.1 D K t r26 _ h) hF ⟨rfl, rfl, Nat.le_of_ble_eq_true rfl, Nat.le_of_ble_eq_true rfl⟩ (stW hT hH) hH.1 [] rfl hl.1 rfl rfl (Nat.le_of_ble_eq_true rfl) dX6_drawn_132 (fun r27 h => ?_)
                refine v_iadd X dX6_drawn_135 ?_
                refine v_topi (fun x28 ex28 => ?_)
                have h := h x28 ex28
                refine v_istore (lv' := [(6, .int x28), (4, .long x21), (0, .ref (x 0)), (1, .int a0), (3, .int a2), (7, .int x10)]) X dX6_drawn_136 hl (by decide) rfl (fun ls hl => ?_)
                refine v_iinc (v := (x10 + (1 : Int32))) (lv' := [(7, .int (x10 + (1 : Int32))), (6, .int x28), (4, .long x21), (0, .ref (x 0)), (1, .int a0), (3, .int a2)]) X dX6_drawn_138 hl (k := 5) rfl rfl (by decide) rfl (fun ls hl => ?_)
                refine v_goto (tgt := 66) X dX6_drawn_141 (by decide) ?_
                exact ih66 x21 x28 (x10 + (1 : Int32)) u25 ls H locs h (lv_sub hl [3, 4, 5, 2, 1, 0] rfl) hH
          obtain ⟨n66, h⟩ := h
          have h : wL_X6_drawn_66 a0 a2 ux un post Kx66 n66 x7 (0 : Int32) (0 : Int32) u6 := by rw [hK66]; exact h
          exact lp66 n66 x7 (0 : Int32) (0 : Int32) u6 ls H locs h (lv_sub hl [3, 4, 6, 2, 1, 0] rfl) (hH.perm [0, 1, 2, 11, 12, 13, 14, 15, 16, 17, 18, 3, 4, 5, 6, 7, 8, 9, 10] rfl rfl)
        · have h := h.1 c30
          refine v_ldc X kc_X6_62 dX6_drawn_42 ?_
          exact v_wiret X hF ut hH h dX6_drawn_44
  · have h := h.1 c33
    refine v_ldc X kc_X6_138 dX6_drawn_10 ?_
    exact v_wiret X hF ut hH h dX6_drawn_12
def w_X6_image (ux : BX6) (un : BX1) (ui : BX1) (a0 : Int32) (post : Int32 → BX1 → Prop) : Prop := w_X6_isWithin a0 (0 : Int32) (1 : Int32) (fun r1 => (r1 = 0 → post (-1000001 : Int32) ui) ∧ (¬ r1 = 0 → w_X1_isOpen un (fun r2 => (r2 = 0 → post (-1000002 : Int32) ui) ∧ (¬ r2 = 0 → vp_in a0 2 ∧ (w_X1_copyFrom ui un (fun u4 => post (1 : Int32) u4))))))
set_option maxHeartbeats 4000000 in
set_option maxRecDepth 100000 in
theorem c_X6_image (l : Launch) (D : va_G) (K : Nat → ClassId) (t : Nat → Nat) (x no tr tp ac se ak : Nat → Nat) (ro im : Nat → Nat → Nat) (ux : BX6) (un : BX1) (ui : BX1) (a0 : Int32) (k1 : Nat) (hk1 : vp_in a0 2 → a0.toNatClampNeg = k1) (post : Int32 → BX1 → Prop) (h : w_X6_image ux un ui a0 post) : WrI l yX6_image cX6_image 2 (some .int) ({ frames := 2, cells := 0, slots := 0, locals := 81 } : Room) D (TY K) t (CX6 K x no tr tp ac se ak ro im ux ++ CX1 K no un ++ CX1 K (im k1) ui) [.ref (x 0), .int a0] (fun z : BX1 => CX6 K x no tr tp ac se ak ro im ux ++ CX1 K no un ++ CX1 K (im k1) z) (fun (r : Int32) (z : BX1) => post r z) := by
  refine WrI.mk rfl (Nat.le_of_ble_eq_true rfl) ?_
  intro F ls A _ hF X hH hA hl hT
  obtain ⟨H, hH0⟩ : ∃ z : Heap, z = (fxS F).heap := ⟨_, rfl⟩
  obtain ⟨locs, hL0⟩ : ∃ z : List Loc, z = [] := ⟨_, rfl⟩
  have hH : HH F D A (CX6 K x no tr tp ac se ak ro im ux ++ CX1 K no un ++ CX1 K (im k1) ui) H locs := by rw [hH0, hL0]; exact hH
  suffices goal : V F (WQI F D (TY K) A (fun z : BX1 => CX6 K x no tr tp ac se ak ro im ux ++ CX1 K no un ++ CX1 K (im k1) z) (fun (r : Int32) (z : BX1) => post r z)) H locs 0 ls [] by rw [hH0, hL0] at goal; exact goal
  clear hH0 hL0
  have X : Cx F cX6_image 2 RX6 D (TY K) := X
  have hl : lv_has ls 2 [(0, .ref (x 0)), (1, .int a0)] := hl
  unfold w_X6_image at h
  refine v_iload_n X dX6_image_0 rfl (lv_at hl 1 rfl) ?_
  refine v_iconst (v := (0 : Int32)) X dX6_image_1 (by decide) ?_
  refine v_iconst (v := (1 : Int32)) X dX6_image_2 (by decide) ?_
  refine rdS (As := [.int a0, .int (0 : Int32), .int (1 : Int32)]) (rest := []) X ms_X6_58 (c_X6_isWithin F.2.1 D K t a0 (0 : Int32) (1 : Int32) _ h) hF ⟨rfl, rfl, Nat.le_of_ble_eq_true rfl, Nat.le_of_ble_eq_true rfl⟩ (stW hT hH) hH.1 [] rfl hl.1 rfl rfl (Nat.le_of_ble_eq_true rfl) dX6_image_3 (fun r1 h => ?_)
  refine v_if_ne (tgt := 12) X dX6_image_6 (by decide) (fun c6 => ?_) (fun c6 => ?_)
  · have h := h.2 c6
    refine v_aload_n X dX6_image_12 rfl (lv_at hl 0 rfl) ?_
    refine v_get (v := .ref (no 0)) X hH.1 0 rfl fk_X6_22 rfl dX6_image_13 ?_
    refine rdV (As := []) (rest := []) X mv_X6_135 (c_X1_isOpen F.2.1 D K t no un _ h) hF ⟨rfl, rfl, Nat.le_of_ble_eq_true rfl, Nat.le_of_ble_eq_true rfl⟩ (stW hT hH) hH.1 [3, 4, 5, 6, 7, 8, 9, 10] rfl 3 rfl rfl hl.1 rfl rfl (Nat.le_of_ble_eq_true rfl) dX6_image_16 (fun r2 h => ?_)
    refine v_if_ne (tgt := 25) X dX6_image_19 (by decide) (fun c5 => ?_) (fun c5 => ?_)
    · have h := h.2 c5
      refine v_aload_n X dX6_image_25 rfl (lv_at hl 0 rfl) ?_
      refine v_get (v := .ref (x 2)) X hH.1 0 rfl fk_X6_17 rfl dX6_image_26 ?_
      refine v_iload_n X dX6_image_29 rfl (lv_at hl 1 rfl) ?_
      have hin := h.1
      have h := h.2
      refine v_aald X hH.1 2 3 rfl rfl hin (congrArg (fun j => some (im j 0)) (hk1 hin)) dX6_image_30 ?_
      refine v_aload_n X dX6_image_31 rfl (lv_at hl 0 rfl) ?_
      refine v_get (v := .ref (no 0)) X hH.1 0 rfl fk_X6_22 rfl dX6_image_32 ?_
      refine wrVV (As := [.ref (no 0)]) (rest := []) (wr := (CX6 K x no tr tp ac se ak ro im ux)) X mv_X6_126 (c_X1_copyFrom F.2.1 D K t (im k1) no ui un _ h) hF ⟨rfl, rfl, Nat.le_of_ble_eq_true rfl, Nat.le_of_ble_eq_true rfl⟩ hT hA hH [11, 12, 13, 14, 15, 16, 17, 18, 3, 4, 5, 6, 7, 8, 9, 10] [0, 1, 2] ⟨rfl, rfl, rfl, rfl, by decide⟩ 11 rfl rfl hl.1 rfl rfl (Nat.le_of_ble_eq_true rfl) dX6_image_35 (fun u4 H locs h hH => ?_)
      have hH : HH F D A (CX6 K x no tr tp ac se ak ro im ux ++ CX1 K (im k1) u4 ++ CX1 K no un) H locs := hH
      refine v_iconst (v := (1 : Int32)) X dX6_image_38 (by decide) ?_
      exact v_wiret X hF u4 (hH.perm [0, 1, 2, 11, 12, 13, 14, 15, 16, 17, 18, 3, 4, 5, 6, 7, 8, 9, 10] rfl rfl) h dX6_image_39
    · have h := h.1 c5
      refine v_ldc X kc_X6_138 dX6_image_22 ?_
      exact v_wiret X hF ui hH h dX6_image_24
  · have h := h.1 c6
    refine v_ldc X kc_X6_62 dX6_image_9 ?_
    exact v_wiret X hF ui hH h dX6_image_11
def w_X6_restore (ux : BX6) (un : BX1) (ua : BX0) (ui : BX1) (a0 : Int32) (post : Int32 → BX1 → BX0 → Prop) : Prop := w_X6_isWithin a0 (0 : Int32) (1 : Int32) (fun r1 => (r1 = 0 → post (-1000001 : Int32) un ua) ∧ (¬ r1 = 0 → vp_in a0 2 ∧ (w_X1_isOpen ui (fun r2 => (r2 = 0 → post (-1000002 : Int32) un ua) ∧ (¬ r2 = 0 → vp_in a0 2 ∧ (w_X1_copyFrom un ui (fun u4 => w_X0_forgetAll ua (fun u6 => post (1 : Int32) u4 u6))))))))
set_option maxHeartbeats 4000000 in
set_option maxRecDepth 100000 in
theorem c_X6_restore (l : Launch) (D : va_G) (K : Nat → ClassId) (t : Nat → Nat) (x no tr tp ac se ak : Nat → Nat) (ro im : Nat → Nat → Nat) (ux : BX6) (un : BX1) (ua : BX0) (ui : BX1) (a0 : Int32) (k1 : Nat) (hk1 : vp_in a0 2 → a0.toNatClampNeg = k1) (post : Int32 → BX1 → BX0 → Prop) (h : w_X6_restore ux un ua ui a0 post) : WrI l yX6_restore cX6_restore 2 (some .int) ({ frames := 2, cells := 0, slots := 0, locals := 81 } : Room) D (TY K) t (CX6 K x no tr tp ac se ak ro im ux ++ CX1 K no un ++ CX0 K ac ua ++ CX1 K (im k1) ui) [.ref (x 0), .int a0] (fun z : BX1 × BX0 => CX6 K x no tr tp ac se ak ro im ux ++ CX1 K no z.1 ++ CX0 K ac z.2 ++ CX1 K (im k1) ui) (fun (r : Int32) (z : BX1 × BX0) => post r z.1 z.2) := by
  refine WrI.mk rfl (Nat.le_of_ble_eq_true rfl) ?_
  intro F ls A _ hF X hH hA hl hT
  obtain ⟨H, hH0⟩ : ∃ z : Heap, z = (fxS F).heap := ⟨_, rfl⟩
  obtain ⟨locs, hL0⟩ : ∃ z : List Loc, z = [] := ⟨_, rfl⟩
  have hH : HH F D A (CX6 K x no tr tp ac se ak ro im ux ++ CX1 K no un ++ CX0 K ac ua ++ CX1 K (im k1) ui) H locs := by rw [hH0, hL0]; exact hH
  suffices goal : V F (WQI F D (TY K) A (fun z : BX1 × BX0 => CX6 K x no tr tp ac se ak ro im ux ++ CX1 K no z.1 ++ CX0 K ac z.2 ++ CX1 K (im k1) ui) (fun (r : Int32) (z : BX1 × BX0) => post r z.1 z.2)) H locs 0 ls [] by rw [hH0, hL0] at goal; exact goal
  clear hH0 hL0
  have X : Cx F cX6_restore 2 RX6 D (TY K) := X
  have hl : lv_has ls 2 [(0, .ref (x 0)), (1, .int a0)] := hl
  unfold w_X6_restore at h
  refine v_iload_n X dX6_restore_0 rfl (lv_at hl 1 rfl) ?_
  refine v_iconst (v := (0 : Int32)) X dX6_restore_1 (by decide) ?_
  refine v_iconst (v := (1 : Int32)) X dX6_restore_2 (by decide) ?_
  refine rdS (As := [.int a0, .int (0 : Int32), .int (1 : Int32)]) (rest := []) X ms_X6_58 (c_X6_isWithin F.2.1 D K t a0 (0 : Int32) (1 : Int32) _ h) hF ⟨rfl, rfl, Nat.le_of_ble_eq_true rfl, Nat.le_of_ble_eq_true rfl⟩ (stW hT hH) hH.1 [] rfl hl.1 rfl rfl (Nat.le_of_ble_eq_true rfl) dX6_restore_3 (fun r1 h => ?_)
  refine v_if_ne (tgt := 12) X dX6_restore_6 (by decide) (fun c8 => ?_) (fun c8 => ?_)
  · have h := h.2 c8
    refine v_aload_n X dX6_restore_12 rfl (lv_at hl 0 rfl) ?_
    refine v_get (v := .ref (x 2)) X hH.1 0 rfl fk_X6_17 rfl dX6_restore_13 ?_
    refine v_iload_n X dX6_restore_16 rfl (lv_at hl 1 rfl) ?_
    have hin := h.1
    have h := h.2
    refine v_aald X hH.1 2 3 rfl rfl hin (congrArg (fun j => some (im j 0)) (hk1 hin)) dX6_restore_17 ?_
    refine rdV (As := []) (rest := []) X mv_X6_135 (c_X1_isOpen F.2.1 D K t (im k1) ui _ h) hF ⟨rfl, rfl, Nat.le_of_ble_eq_true rfl, Nat.le_of_ble_eq_true rfl⟩ (stW hT hH) hH.1 [13, 14, 15, 16, 17, 18, 19, 20] rfl 13 rfl rfl hl.1 rfl rfl (Nat.le_of_ble_eq_true rfl) dX6_restore_18 (fun r2 h => ?_)
    refine v_if_ne (tgt := 27) X dX6_restore_21 (by decide) (fun c7 => ?_) (fun c7 => ?_)
    · have h := h.2 c7
      refine v_aload_n X dX6_restore_27 rfl (lv_at hl 0 rfl) ?_
      refine v_get (v := .ref (no 0)) X hH.1 0 rfl fk_X6_22 rfl dX6_restore_28 ?_
      refine v_aload_n X dX6_restore_31 rfl (lv_at hl 0 rfl) ?_
      refine v_get (v := .ref (x 2)) X hH.1 0 rfl fk_X6_17 rfl dX6_restore_32 ?_
      refine v_iload_n X dX6_restore_35 rfl (lv_at hl 1 rfl) ?_
      have hin := h.1
      have h := h.2
      refine v_aald X hH.1 2 3 rfl rfl hin (congrArg (fun j => some (im j 0)) (hk1 hin)) dX6_restore_36 ?_
      refine wrVV (As := [.ref ((im k1) 0)]) (rest := []) (wr := (CX6 K x no tr tp ac se ak ro im ux ++ CX0 K ac ua)) X mv_X6_126 (c_X1_copyFrom F.2.1 D K t no (im k1) un ui _ h) hF ⟨rfl, rfl, Nat.le_of_ble_eq_true rfl, Nat.le_of_ble_eq_true rfl⟩ hT hA hH [3, 4, 5, 6, 7, 8, 9, 10, 13, 14, 15, 16, 17, 18, 19, 20] [0, 1, 2, 11, 12] ⟨rfl, rfl, rfl, rfl, by decide⟩ 3 rfl rfl hl.1 rfl rfl (Nat.le_of_ble_eq_true rfl) dX6_restore_37 (fun u4 H locs h hH => ?_)
      have hH : HH F D A (CX6 K x no tr tp ac se ak ro im ux ++ CX0 K ac ua ++ CX1 K no u4 ++ CX1 K (im k1) ui) H locs := hH
      refine v_aload_n X dX6_restore_40 rfl (lv_at hl 0 rfl) ?_
      refine v_get (v := .ref (ac 0)) X hH.1 0 rfl fk_X6_39 rfl dX6_restore_41 ?_
      refine wrVV (As := []) (rest := []) (wr := (CX6 K x no tr tp ac se ak ro im ux ++ CX1 K no u4 ++ CX1 K (im k1) ui)) X mv_X6_129 (c_X0_forgetAll F.2.1 D K t ac ua _ h) hF ⟨rfl, rfl, Nat.le_of_ble_eq_true rfl, Nat.le_of_ble_eq_true rfl⟩ hT hA hH [3, 4] [0, 1, 2, 5, 6, 7, 8, 9, 10, 11, 12, 13, 14, 15, 16, 17, 18, 19, 20] ⟨rfl, rfl, rfl, rfl, by decide⟩ 3 rfl rfl hl.1 rfl rfl (Nat.le_of_ble_eq_true rfl) dX6_restore_44 (fun u6 H locs h hH => ?_)
      have hH : HH F D A (CX6 K x no tr tp ac se ak ro im ux ++ CX1 K no u4 ++ CX1 K (im k1) ui ++ CX0 K ac u6) H locs := hH
      refine v_iconst (v := (1 : Int32)) X dX6_restore_47 (by decide) ?_
      exact v_wiret X hF (u4, u6) (hH.perm [0, 1, 2, 3, 4, 5, 6, 7, 8, 9, 10, 19, 20, 11, 12, 13, 14, 15, 16, 17, 18] rfl rfl) h dX6_restore_48
    · have h := h.1 c7
      refine v_ldc X kc_X6_138 dX6_restore_24 ?_
      exact v_wiret X hF (un, ua) hH h dX6_restore_26
  · have h := h.1 c8
    refine v_ldc X kc_X6_62 dX6_restore_9 ?_
    exact v_wiret X hF (un, ua) hH h dX6_restore_11
def w_X6_kind (ux : BX6) (un : BX1) (a0 : Int32) (post : Int32 → Prop) : Prop := w_X1_hasWaker un a0 (fun r1 => (r1 = 0 → post (-1000001 : Int32)) ∧ (¬ r1 = 0 → vp_in a0 4 ∧ (post (un.2.2.1 a0.toNatClampNeg))))
set_option maxHeartbeats 4000000 in
set_option maxRecDepth 100000 in
theorem c_X6_kind (l : Launch) (D : va_G) (K : Nat → ClassId) (t : Nat → Nat) (x no tr tp ac se ak : Nat → Nat) (ro im : Nat → Nat → Nat) (ux : BX6) (un : BX1) (a0 : Int32) (post : Int32 → Prop) (h : w_X6_kind ux un a0 post) : RdM l yX6_kind cX6_kind 2 (some .int) ({ frames := 1, cells := 0, slots := 0, locals := 21 } : Room) D (TY K) t (CX6 K x no tr tp ac se ak ro im ux ++ CX1 K no un) [.ref (x 0), .int a0] post := by
  refine RdM.mk rfl (Nat.le_of_ble_eq_true rfl) ?_
  intro F ls _ hF X hP hl hT
  have X : Cx F cX6_kind 2 RX6 D (TY K) := X
  have hl : lv_has ls 2 [(0, .ref (x 0)), (1, .int a0)] := hl
  unfold w_X6_kind at h
  refine v_aload_n X dX6_kind_0 rfl (lv_at hl 0 rfl) ?_
  refine v_get (v := .ref (no 0)) X hP 0 rfl fk_X6_22 rfl dX6_kind_1 ?_
  refine v_iload_n X dX6_kind_4 rfl (lv_at hl 1 rfl) ?_
  refine rdV (As := [.int a0]) (rest := []) X mv_X6_152 (c_X1_hasWaker F.2.1 D K t no un a0 _ h) hF ⟨rfl, rfl, Nat.le_of_ble_eq_true rfl, Nat.le_of_ble_eq_true rfl⟩ hT hP [3, 4, 5, 6, 7, 8, 9, 10] rfl 3 rfl rfl hl.1 rfl rfl (Nat.le_of_ble_eq_true rfl) dX6_kind_5 (fun r1 h => ?_)
  refine v_if_eq (tgt := 23) X dX6_kind_8 (by decide) (fun c2 => ?_) (fun c2 => ?_)
  · have h := h.1 c2
    refine v_ldc X kc_X6_62 dX6_kind_23 ?_
    exact v_riret X hF h dX6_kind_25
  · have h := h.2 c2
    refine v_aload_n X dX6_kind_11 rfl (lv_at hl 0 rfl) ?_
    refine v_get (v := .ref (no 0)) X hP 0 rfl fk_X6_22 rfl dX6_kind_12 ?_
    refine v_get (v := .ref (no 3)) X hP 3 rfl fk_X6_261 rfl dX6_kind_15 ?_
    refine v_iload_n X dX6_kind_18 rfl (lv_at hl 1 rfl) ?_
    have hin := h.1
    have h := h.2
    refine v_iald (f := un.2.2.1) X hP 6 0 rfl rfl hin dX6_kind_19 ?_
    refine v_goto (tgt := 25) X dX6_kind_20 (by decide) ?_
    exact v_riret X hF h dX6_kind_25
def w_X6_as (ux : BX6) (un : BX1) (a0 : Int32) (a1 : Int32) (post : Int32 → BX6 → Prop) : Prop := w_X1_hasWaker un a0 (fun r1 => (r1 = 0 → post (-1000001 : Int32) ux) ∧ (¬ r1 = 0 → w_X6_isWithin a1 (0 : Int32) (5 : Int32) (fun r2 => (r2 = 0 → post (-1000001 : Int32) ux) ∧ (¬ r2 = 0 → vp_in a0 4 ∧ (w_X2_isOfKind (un.2.2.1 a0.toNatClampNeg) a1 (fun r3 => (r3 = 0 → w_X6_found ux (3 : Int32) (fun r6 u7 => post r6 u7)) ∧ (¬ r3 = 0 → w_X6_unfound ux a0 (fun r4 u5 => post r4 u5))))))))
set_option maxHeartbeats 4000000 in
set_option maxRecDepth 100000 in
theorem c_X6_as (l : Launch) (D : va_G) (K : Nat → ClassId) (t : Nat → Nat) (x no tr tp ac se ak : Nat → Nat) (ro im : Nat → Nat → Nat) (ux : BX6) (un : BX1) (a0 : Int32) (a1 : Int32) (post : Int32 → BX6 → Prop) (h : w_X6_as ux un a0 a1 post) : WrI l yX6_as cX6_as 3 (some .int) ({ frames := 2, cells := 0, slots := 0, locals := 43 } : Room) D (TY K) t (CX6 K x no tr tp ac se ak ro im ux ++ CX1 K no un) [.ref (x 0), .int a0, .int a1] (fun z : BX6 => CX6 K x no tr tp ac se ak ro im z ++ CX1 K no un) (fun (r : Int32) (z : BX6) => post r z) := by
  refine WrI.mk rfl (Nat.le_of_ble_eq_true rfl) ?_
  intro F ls A _ hF X hH hA hl hT
  obtain ⟨H, hH0⟩ : ∃ z : Heap, z = (fxS F).heap := ⟨_, rfl⟩
  obtain ⟨locs, hL0⟩ : ∃ z : List Loc, z = [] := ⟨_, rfl⟩
  have hH : HH F D A (CX6 K x no tr tp ac se ak ro im ux ++ CX1 K no un) H locs := by rw [hH0, hL0]; exact hH
  suffices goal : V F (WQI F D (TY K) A (fun z : BX6 => CX6 K x no tr tp ac se ak ro im z ++ CX1 K no un) (fun (r : Int32) (z : BX6) => post r z)) H locs 0 ls [] by rw [hH0, hL0] at goal; exact goal
  clear hH0 hL0
  have X : Cx F cX6_as 3 RX6 D (TY K) := X
  have hl : lv_has ls 3 [(0, .ref (x 0)), (1, .int a0), (2, .int a1)] := hl
  unfold w_X6_as at h
  refine v_aload_n X dX6_as_0 rfl (lv_at hl 0 rfl) ?_
  refine v_get (v := .ref (no 0)) X hH.1 0 rfl fk_X6_22 rfl dX6_as_1 ?_
  refine v_iload_n X dX6_as_4 rfl (lv_at hl 1 rfl) ?_
  refine rdV (As := [.int a0]) (rest := []) X mv_X6_152 (c_X1_hasWaker F.2.1 D K t no un a0 _ h) hF ⟨rfl, rfl, Nat.le_of_ble_eq_true rfl, Nat.le_of_ble_eq_true rfl⟩ (stW hT hH) hH.1 [3, 4, 5, 6, 7, 8, 9, 10] rfl 3 rfl rfl hl.1 rfl rfl (Nat.le_of_ble_eq_true rfl) dX6_as_5 (fun r1 h => ?_)
  refine v_if_eq (tgt := 20) X dX6_as_8 (by decide) (fun c10 => ?_) (fun c10 => ?_)
  · have h := h.1 c10
    refine v_ldc X kc_X6_62 dX6_as_20 ?_
    exact v_wiret X hF ux hH h dX6_as_22
  · have h := h.2 c10
    refine v_iload_n X dX6_as_11 rfl (lv_at hl 2 rfl) ?_
    refine v_iconst (v := (0 : Int32)) X dX6_as_12 (by decide) ?_
    refine v_iconst (v := (5 : Int32)) X dX6_as_13 (by decide) ?_
    refine rdS (As := [.int a1, .int (0 : Int32), .int (5 : Int32)]) (rest := []) X ms_X6_58 (c_X6_isWithin F.2.1 D K t a1 (0 : Int32) (5 : Int32) _ h) hF ⟨rfl, rfl, Nat.le_of_ble_eq_true rfl, Nat.le_of_ble_eq_true rfl⟩ (stW hT hH) hH.1 [] rfl hl.1 rfl rfl (Nat.le_of_ble_eq_true rfl) dX6_as_14 (fun r2 h => ?_)
    refine v_if_ne (tgt := 23) X dX6_as_17 (by decide) (fun c9 => ?_) (fun c9 => ?_)
    · have h := h.2 c9
      refine v_aload_n X dX6_as_23 rfl (lv_at hl 0 rfl) ?_
      refine v_get (v := .ref (no 0)) X hH.1 0 rfl fk_X6_22 rfl dX6_as_24 ?_
      refine v_get (v := .ref (no 3)) X hH.1 3 rfl fk_X6_261 rfl dX6_as_27 ?_
      refine v_iload_n X dX6_as_30 rfl (lv_at hl 1 rfl) ?_
      have hin := h.1
      have h := h.2
      refine v_iald (f := un.2.2.1) X hH.1 6 0 rfl rfl hin dX6_as_31 ?_
      refine v_iload_n X dX6_as_32 rfl (lv_at hl 2 rfl) ?_
      refine rdS (As := [.int (un.2.2.1 a0.toNatClampNeg), .int a1]) (rest := []) X ms_X6_264 (c_X2_isOfKind F.2.1 D K t (un.2.2.1 a0.toNatClampNeg) a1 _ h) hF ⟨rfl, rfl, Nat.le_of_ble_eq_true rfl, Nat.le_of_ble_eq_true rfl⟩ (stW hT hH) hH.1 [] rfl hl.1 rfl rfl (Nat.le_of_ble_eq_true rfl) dX6_as_33 (fun r3 h => ?_)
      refine v_if_ne (tgt := 45) X dX6_as_36 (by decide) (fun c8 => ?_) (fun c8 => ?_)
      · have h := h.2 c8
        refine v_aload_n X dX6_as_45 rfl (lv_at hl 0 rfl) ?_
        refine v_iload_n X dX6_as_46 rfl (lv_at hl 1 rfl) ?_
        refine wrVI (As := [.int a0]) (rest := []) (wr := (CX1 K no un)) X mv_X6_71 (c_X6_unfound F.2.1 D K t x no tr tp ac se ak ro im ux a0 _ h) hF ⟨rfl, rfl, Nat.le_of_ble_eq_true rfl, Nat.le_of_ble_eq_true rfl⟩ hT hA hH [0, 1, 2] [3, 4, 5, 6, 7, 8, 9, 10] ⟨rfl, rfl, rfl, rfl, by decide⟩ 0 rfl rfl hl.1 rfl rfl (Nat.le_of_ble_eq_true rfl) dX6_as_47 (fun r4 u5 H locs h hH => ?_)
        have hH : HH F D A (CX1 K no un ++ CX6 K x no tr tp ac se ak ro im u5) H locs := hH
        exact v_wiret X hF u5 (hH.perm [8, 9, 10, 0, 1, 2, 3, 4, 5, 6, 7] rfl rfl) h dX6_as_50
      · have h := h.1 c8
        refine v_aload_n X dX6_as_39 rfl (lv_at hl 0 rfl) ?_
        refine v_iconst (v := (3 : Int32)) X dX6_as_40 (by decide) ?_
        refine wrVI (As := [.int (3 : Int32)]) (rest := []) (wr := (CX1 K no un)) X mv_X6_63 (c_X6_found F.2.1 D K t x no tr tp ac se ak ro im ux (3 : Int32) _ h) hF ⟨rfl, rfl, Nat.le_of_ble_eq_true rfl, Nat.le_of_ble_eq_true rfl⟩ hT hA hH [0, 1, 2] [3, 4, 5, 6, 7, 8, 9, 10] ⟨rfl, rfl, rfl, rfl, by decide⟩ 0 rfl rfl hl.1 rfl rfl (Nat.le_of_ble_eq_true rfl) dX6_as_41 (fun r6 u7 H locs h hH => ?_)
        have hH : HH F D A (CX1 K no un ++ CX6 K x no tr tp ac se ak ro im u7) H locs := hH
        exact v_wiret X hF u7 (hH.perm [8, 9, 10, 0, 1, 2, 3, 4, 5, 6, 7] rfl rfl) h dX6_as_44
    · have h := h.1 c9
      refine v_ldc X kc_X6_62 dX6_as_20 ?_
      exact v_wiret X hF ux hH h dX6_as_22
def w_X6_ask (ux : BX6) (un : BX1) (uk : BX2) (a0 : Int32) (a1 : Int32) (post : Int32 → BX2 → Prop) : Prop := w_X1_hasWaker un a0 (fun r1 => (r1 = 0 → post (-1000001 : Int32) uk) ∧ (¬ r1 = 0 → w_X6_isWithin a1 (0 : Int32) (1 : Int32) (fun r2 => (r2 = 0 → post (-1000001 : Int32) uk) ∧ (¬ r2 = 0 → w_X2_begin uk un a0 a1 (fun r3 u4 => post r3 u4)))))
set_option maxHeartbeats 4000000 in
set_option maxRecDepth 100000 in
theorem c_X6_ask (l : Launch) (D : va_G) (K : Nat → ClassId) (t : Nat → Nat) (x no tr tp ac se ak : Nat → Nat) (ro im : Nat → Nat → Nat) (ux : BX6) (un : BX1) (uk : BX2) (a0 : Int32) (a1 : Int32) (post : Int32 → BX2 → Prop) (h : w_X6_ask ux un uk a0 a1 post) : WrI l yX6_ask cX6_ask 3 (some .int) ({ frames := 48, cells := 0, slots := 0, locals := 1272 } : Room) D (TY K) t (CX6 K x no tr tp ac se ak ro im ux ++ CX1 K no un ++ CX2 K ak uk) [.ref (x 0), .int a0, .int a1] (fun z : BX2 => CX6 K x no tr tp ac se ak ro im ux ++ CX1 K no un ++ CX2 K ak z) (fun (r : Int32) (z : BX2) => post r z) := by
  refine WrI.mk rfl (Nat.le_of_ble_eq_true rfl) ?_
  intro F ls A _ hF X hH hA hl hT
  obtain ⟨H, hH0⟩ : ∃ z : Heap, z = (fxS F).heap := ⟨_, rfl⟩
  obtain ⟨locs, hL0⟩ : ∃ z : List Loc, z = [] := ⟨_, rfl⟩
  have hH : HH F D A (CX6 K x no tr tp ac se ak ro im ux ++ CX1 K no un ++ CX2 K ak uk) H locs := by rw [hH0, hL0]; exact hH
  suffices goal : V F (WQI F D (TY K) A (fun z : BX2 => CX6 K x no tr tp ac se ak ro im ux ++ CX1 K no un ++ CX2 K ak z) (fun (r : Int32) (z : BX2) => post r z)) H locs 0 ls [] by rw [hH0, hL0] at goal; exact goal
  clear hH0 hL0
  have X : Cx F cX6_ask 3 RX6 D (TY K) := X
  have hl : lv_has ls 3 [(0, .ref (x 0)), (1, .int a0), (2, .int a1)] := hl
  unfold w_X6_ask at h
  refine v_aload_n X dX6_ask_0 rfl (lv_at hl 0 rfl) ?_
  refine v_get (v := .ref (no 0)) X hH.1 0 rfl fk_X6_22 rfl dX6_ask_1 ?_
  refine v_iload_n X dX6_ask_4 rfl (lv_at hl 1 rfl) ?_
  refine rdV (As := [.int a0]) (rest := []) X mv_X6_152 (c_X1_hasWaker F.2.1 D K t no un a0 _ h) hF ⟨rfl, rfl, Nat.le_of_ble_eq_true rfl, Nat.le_of_ble_eq_true rfl⟩ (stW hT hH) hH.1 [3, 4, 5, 6, 7, 8, 9, 10] rfl 3 rfl rfl hl.1 rfl rfl (Nat.le_of_ble_eq_true rfl) dX6_ask_5 (fun r1 h => ?_)
  refine v_if_eq (tgt := 20) X dX6_ask_8 (by decide) (fun c6 => ?_) (fun c6 => ?_)
  · have h := h.1 c6
    refine v_ldc X kc_X6_62 dX6_ask_20 ?_
    exact v_wiret X hF uk hH h dX6_ask_22
  · have h := h.2 c6
    refine v_iload_n X dX6_ask_11 rfl (lv_at hl 2 rfl) ?_
    refine v_iconst (v := (0 : Int32)) X dX6_ask_12 (by decide) ?_
    refine v_iconst (v := (1 : Int32)) X dX6_ask_13 (by decide) ?_
    refine rdS (As := [.int a1, .int (0 : Int32), .int (1 : Int32)]) (rest := []) X ms_X6_58 (c_X6_isWithin F.2.1 D K t a1 (0 : Int32) (1 : Int32) _ h) hF ⟨rfl, rfl, Nat.le_of_ble_eq_true rfl, Nat.le_of_ble_eq_true rfl⟩ (stW hT hH) hH.1 [] rfl hl.1 rfl rfl (Nat.le_of_ble_eq_true rfl) dX6_ask_14 (fun r2 h => ?_)
    refine v_if_ne (tgt := 23) X dX6_ask_17 (by decide) (fun c5 => ?_) (fun c5 => ?_)
    · have h := h.2 c5
      refine v_aload_n X dX6_ask_23 rfl (lv_at hl 0 rfl) ?_
      refine v_get (v := .ref (ak 0)) X hH.1 0 rfl fk_X6_53 rfl dX6_ask_24 ?_
      refine v_aload_n X dX6_ask_27 rfl (lv_at hl 0 rfl) ?_
      refine v_get (v := .ref (no 0)) X hH.1 0 rfl fk_X6_22 rfl dX6_ask_28 ?_
      refine v_iload_n X dX6_ask_31 rfl (lv_at hl 1 rfl) ?_
      refine v_iload_n X dX6_ask_32 rfl (lv_at hl 2 rfl) ?_
      refine wrVI (As := [.ref (no 0), .int a0, .int a1]) (rest := []) (wr := (CX6 K x no tr tp ac se ak ro im ux)) X mv_X6_267 (c_X2_begin F.2.1 D K t ak no uk un a0 a1 _ h) hF ⟨rfl, rfl, Nat.le_of_ble_eq_true rfl, Nat.le_of_ble_eq_true rfl⟩ hT hA hH [11, 12, 3, 4, 5, 6, 7, 8, 9, 10] [0, 1, 2] ⟨rfl, rfl, rfl, rfl, by decide⟩ 11 rfl rfl hl.1 rfl rfl (Nat.le_of_ble_eq_true rfl) dX6_ask_33 (fun r3 u4 H locs h hH => ?_)
      have hH : HH F D A (CX6 K x no tr tp ac se ak ro im ux ++ CX2 K ak u4 ++ CX1 K no un) H locs := hH
      exact v_wiret X hF u4 (hH.perm [0, 1, 2, 5, 6, 7, 8, 9, 10, 11, 12, 3, 4] rfl rfl) h dX6_ask_36
    · have h := h.1 c5
      refine v_ldc X kc_X6_62 dX6_ask_20 ?_
      exact v_wiret X hF uk hH h dX6_ask_22
def w_X6_trace (ux : BX6) (uk : BX2) (a0 : Int32) (post : Int32 → Prop) : Prop := w_X6_isWithin a0 (0 : Int32) (uk.2 - (1 : Int32)) (fun r1 => (r1 = 0 → post (-1000000 : Int32)) ∧ (¬ r1 = 0 → vp_in a0 16 ∧ (post (uk.1 a0.toNatClampNeg))))
set_option maxHeartbeats 4000000 in
set_option maxRecDepth 100000 in
theorem c_X6_trace (l : Launch) (D : va_G) (K : Nat → ClassId) (t : Nat → Nat) (x no tr tp ac se ak : Nat → Nat) (ro im : Nat → Nat → Nat) (ux : BX6) (uk : BX2) (a0 : Int32) (post : Int32 → Prop) (h : w_X6_trace ux uk a0 post) : RdM l yX6_trace cX6_trace 2 (some .int) ({ frames := 1, cells := 0, slots := 0, locals := 22 } : Room) D (TY K) t (CX6 K x no tr tp ac se ak ro im ux ++ CX2 K ak uk) [.ref (x 0), .int a0] post := by
  refine RdM.mk rfl (Nat.le_of_ble_eq_true rfl) ?_
  intro F ls _ hF X hP hl hT
  have X : Cx F cX6_trace 2 RX6 D (TY K) := X
  have hl : lv_has ls 2 [(0, .ref (x 0)), (1, .int a0)] := hl
  unfold w_X6_trace at h
  refine v_iload_n X dX6_trace_0 rfl (lv_at hl 1 rfl) ?_
  refine v_iconst (v := (0 : Int32)) X dX6_trace_1 (by decide) ?_
  refine v_aload_n X dX6_trace_2 rfl (lv_at hl 0 rfl) ?_
  refine v_get (v := .ref (ak 0)) X hP 0 rfl fk_X6_53 rfl dX6_trace_3 ?_
  refine v_get (v := .int uk.2) X hP 3 rfl fk_X6_271 rfl dX6_trace_6 ?_
  refine v_iconst (v := (1 : Int32)) X dX6_trace_9 (by decide) ?_
  refine v_isub X dX6_trace_10 ?_
  refine rdS (As := [.int a0, .int (0 : Int32), .int (uk.2 - (1 : Int32))]) (rest := []) X ms_X6_58 (c_X6_isWithin F.2.1 D K t a0 (0 : Int32) (uk.2 - (1 : Int32)) _ h) hF ⟨rfl, rfl, Nat.le_of_ble_eq_true rfl, Nat.le_of_ble_eq_true rfl⟩ hT hP [] rfl hl.1 rfl rfl (Nat.le_of_ble_eq_true rfl) dX6_trace_11 (fun r1 h => ?_)
  refine v_if_eq (tgt := 29) X dX6_trace_14 (by decide) (fun c2 => ?_) (fun c2 => ?_)
  · have h := h.1 c2
    refine v_ldc X kc_X6_224 dX6_trace_29 ?_
    exact v_riret X hF h dX6_trace_31
  · have h := h.2 c2
    refine v_aload_n X dX6_trace_17 rfl (lv_at hl 0 rfl) ?_
    refine v_get (v := .ref (ak 0)) X hP 0 rfl fk_X6_53 rfl dX6_trace_18 ?_
    refine v_get (v := .ref (ak 1)) X hP 3 rfl fk_X6_274 rfl dX6_trace_21 ?_
    refine v_iload_n X dX6_trace_24 rfl (lv_at hl 1 rfl) ?_
    have hin := h.1
    have h := h.2
    refine v_iald (f := uk.1) X hP 4 0 rfl rfl hin dX6_trace_25 ?_
    refine v_goto (tgt := 31) X dX6_trace_26 (by decide) ?_
    exact v_riret X hF h dX6_trace_31
def w_X6_rowsThere (ux : BX6) (urow10 : BX3) (urow11 : BX3) (urow12 : BX3) (urow13 : BX3) (urow14 : BX3) (urow15 : BX3) (urow16 : BX3) (urow17 : BX3) (post : Int32 → Prop) : Prop := w_X3_isMissing urow10 (fun r1 => wpJ (T := Int32 → Prop) (fun (x3 : Int32) => w_X3_isMissing urow11 (fun r4 => wpJ (T := Int32 → Prop) (fun (x6 : Int32) => w_X3_isMissing urow12 (fun r7 => wpJ (T := Int32 → Prop) (fun (x9 : Int32) => w_X3_isMissing urow13 (fun r10 => wpJ (T := Int32 → Prop) (fun (x12 : Int32) => w_X3_isMissing urow14 (fun r13 => wpJ (T := Int32 → Prop) (fun (x15 : Int32) => w_X3_isMissing urow15 (fun r16 => wpJ (T := Int32 → Prop) (fun (x18 : Int32) => w_X3_isMissing urow16 (fun r19 => wpJ (T := Int32 → Prop) (fun (x21 : Int32) => w_X3_isMissing urow17 (fun r22 => wpJ (T := Int32 → Prop) (fun (x24 : Int32) => post x24) (fun J23 => (r22 = 0 → J23 (x21 + (1 : Int32))) ∧ (¬ r22 = 0 → J23 x21)))) (fun J20 => (r19 = 0 → J20 (x18 + (1 : Int32))) ∧ (¬ r19 = 0 → J20 x18)))) (fun J17 => (r16 = 0 → J17 (x15 + (1 : Int32))) ∧ (¬ r16 = 0 → J17 x15)))) (fun J14 => (r13 = 0 → J14 (x12 + (1 : Int32))) ∧ (¬ r13 = 0 → J14 x12)))) (fun J11 => (r10 = 0 → J11 (x9 + (1 : Int32))) ∧ (¬ r10 = 0 → J11 x9)))) (fun J8 => (r7 = 0 → J8 (x6 + (1 : Int32))) ∧ (¬ r7 = 0 → J8 x6)))) (fun J5 => (r4 = 0 → J5 (x3 + (1 : Int32))) ∧ (¬ r4 = 0 → J5 x3)))) (fun J2 => (r1 = 0 → J2 (1 : Int32)) ∧ (¬ r1 = 0 → J2 (0 : Int32))))
set_option maxHeartbeats 4000000 in
set_option maxRecDepth 100000 in
theorem c_X6_rowsThere (l : Launch) (D : va_G) (K : Nat → ClassId) (t : Nat → Nat) (x no tr tp ac se ak : Nat → Nat) (ro im : Nat → Nat → Nat) (ux : BX6) (urow10 : BX3) (urow11 : BX3) (urow12 : BX3) (urow13 : BX3) (urow14 : BX3) (urow15 : BX3) (urow16 : BX3) (urow17 : BX3) (post : Int32 → Prop) (h : w_X6_rowsThere ux urow10 urow11 urow12 urow13 urow14 urow15 urow16 urow17 post) : RdM l yX6_rowsThere cX6_rowsThere 3 (some .int) ({ frames := 1, cells := 0, slots := 0, locals := 20 } : Room) D (TY K) t (CX6 K x no tr tp ac se ak ro im ux ++ CX3 K (ro 0) urow10 ++ CX3 K (ro 1) urow11 ++ CX3 K (ro 2) urow12 ++ CX3 K (ro 3) urow13 ++ CX3 K (ro 4) urow14 ++ CX3 K (ro 5) urow15 ++ CX3 K (ro 6) urow16 ++ CX3 K (ro 7) urow17) [.ref (x 0)] post := by
  refine RdM.mk rfl (Nat.le_of_ble_eq_true rfl) ?_
  intro F ls _ hF X hP hl hT
  have X : Cx F cX6_rowsThere 3 RX6 D (TY K) := X
  have hl : lv_has ls 3 [(0, .ref (x 0))] := hl
  unfold w_X6_rowsThere at h
  refine v_iconst (v := (0 : Int32)) X dX6_rowsThere_0 (by decide) ?_
  refine v_istore_n (lv' := [(1, .int (0 : Int32)), (0, .ref (x 0))]) X dX6_rowsThere_1 rfl hl (by decide) rfl (fun ls hl => ?_)
  refine v_iconst (v := (0 : Int32)) X dX6_rowsThere_2 (by decide) ?_
  refine v_istore_n (lv' := [(2, .int (0 : Int32)), (1, .int (0 : Int32)), (0, .ref (x 0))]) X dX6_rowsThere_3 rfl hl (by decide) rfl (fun ls hl => ?_)
  refine v_iload_n X dX6_rowsThere_4 rfl (lv_at hl 0 rfl) ?_
  refine v_bipush (v := (8 : Int32)) X dX6_rowsThere_5 (by decide) ?_
  refine v_icmp_ge (tgt := 31) X dX6_rowsThere_7 (by decide) (fun c => absurd c (by decide)) (fun _ => ?_)
  refine v_aload_n X dX6_rowsThere_10 rfl (lv_at hl 2 rfl) ?_
  refine v_get (v := .ref (x 1)) X hP 0 rfl fk_X6_11 rfl dX6_rowsThere_11 ?_
  refine v_iload_n X dX6_rowsThere_14 rfl (lv_at hl 0 rfl) ?_
  refine v_aald X hP 1 2 rfl rfl (by unfold vp_in; decide) rfl dX6_rowsThere_15 ?_
  refine rdV (As := []) (rest := []) X mv_X6_74 (c_X3_isMissing F.2.1 D K t (ro 0) urow10 _ h) hF ⟨rfl, rfl, Nat.le_of_ble_eq_true rfl, Nat.le_of_ble_eq_true rfl⟩ hT hP [3, 4] rfl 3 rfl rfl hl.1 rfl rfl (Nat.le_of_ble_eq_true rfl) dX6_rowsThere_16 (fun r1 h => ?_)
  obtain ⟨J2, hJ2⟩ : ∃ f : Int32 → Prop, f = (fun (x3 : Int32) => w_X3_isMissing urow11 (fun r4 => wpJ (T := Int32 → Prop) (fun (x6 : Int32) => w_X3_isMissing urow12 (fun r7 => wpJ (T := Int32 → Prop) (fun (x9 : Int32) => w_X3_isMissing urow13 (fun r10 => wpJ (T := Int32 → Prop) (fun (x12 : Int32) => w_X3_isMissing urow14 (fun r13 => wpJ (T := Int32 → Prop) (fun (x15 : Int32) => w_X3_isMissing urow15 (fun r16 => wpJ (T := Int32 → Prop) (fun (x18 : Int32) => w_X3_isMissing urow16 (fun r19 => wpJ (T := Int32 → Prop) (fun (x21 : Int32) => w_X3_isMissing urow17 (fun r22 => wpJ (T := Int32 → Prop) (fun (x24 : Int32) => post x24) (fun J23 => (r22 = 0 → J23 (x21 + (1 : Int32))) ∧ (¬ r22 = 0 → J23 x21)))) (fun J20 => (r19 = 0 → J20 (x18 + (1 : Int32))) ∧ (¬ r19 = 0 → J20 x18)))) (fun J17 => (r16 = 0 → J17 (x15 + (1 : Int32))) ∧ (¬ r16 = 0 → J17 x15)))) (fun J14 => (r13 = 0 → J14 (x12 + (1 : Int32))) ∧ (¬ r13 = 0 → J14 x12)))) (fun J11 => (r10 = 0 → J11 (x9 + (1 : Int32))) ∧ (¬ r10 = 0 → J11 x9)))) (fun J8 => (r7 = 0 → J8 (x6 + (1 : Int32))) ∧ (¬ r7 = 0 → J8 x6)))) (fun J5 => (r4 = 0 → J5 (x3 + (1 : Int32))) ∧ (¬ r4 = 0 → J5 x3)))) := ⟨_, rfl⟩
  have kJ2 : ∀ (x3 : Int32) (ls : Array Slot), (J2 x3) → lv_has ls 3 [(0, .ref (x 0)), (1, .int x3), (2, .int (0 : Int32))] → V F (RQ F post) (fxS F).heap [] 25 ls [] := by
    intro x3 ls h hl
    have h : w_X3_isMissing urow11 (fun r4 => wpJ (T := Int32 → Prop) (fun (x6 : Int32) => w_X3_isMissing urow12 (fun r7 => wpJ (T := Int32 → Prop) (fun (x9 : Int32) => w_X3_isMissing urow13 (fun r10 => wpJ (T := Int32 → Prop) (fun (x12 : Int32) => w_X3_isMissing urow14 (fun r13 => wpJ (T := Int32 → Prop) (fun (x15 : Int32) => w_X3_isMissing urow15 (fun r16 => wpJ (T := Int32 → Prop) (fun (x18 : Int32) => w_X3_isMissing urow16 (fun r19 => wpJ (T := Int32 → Prop) (fun (x21 : Int32) => w_X3_isMissing urow17 (fun r22 => wpJ (T := Int32 → Prop) (fun (x24 : Int32) => post x24) (fun J23 => (r22 = 0 → J23 (x21 + (1 : Int32))) ∧ (¬ r22 = 0 → J23 x21)))) (fun J20 => (r19 = 0 → J20 (x18 + (1 : Int32))) ∧ (¬ r19 = 0 → J20 x18)))) (fun J17 => (r16 = 0 → J17 (x15 + (1 : Int32))) ∧ (¬ r16 = 0 → J17 x15)))) (fun J14 => (r13 = 0 → J14 (x12 + (1 : Int32))) ∧ (¬ r13 = 0 → J14 x12)))) (fun J11 => (r10 = 0 → J11 (x9 + (1 : Int32))) ∧ (¬ r10 = 0 → J11 x9)))) (fun J8 => (r7 = 0 → J8 (x6 + (1 : Int32))) ∧ (¬ r7 = 0 → J8 x6)))) (fun J5 => (r4 = 0 → J5 (x3 + (1 : Int32))) ∧ (¬ r4 = 0 → J5 x3))) := by rw [hJ2] at h; exact h
    refine v_iinc (v := (1 : Int32)) (lv' := [(2, .int (1 : Int32)), (0, .ref (x 0)), (1, .int x3)]) X dX6_rowsThere_25 hl (k := 2) rfl rfl (by decide) rfl (fun ls hl => ?_)
    refine v_goto (tgt := 4) X dX6_rowsThere_28 (by decide) ?_
    refine v_iload_n X dX6_rowsThere_4 rfl (lv_at hl 0 rfl) ?_
    refine v_bipush (v := (8 : Int32)) X dX6_rowsThere_5 (by decide) ?_
    refine v_icmp_ge (tgt := 31) X dX6_rowsThere_7 (by decide) (fun c => absurd c (by decide)) (fun _ => ?_)
    refine v_aload_n X dX6_rowsThere_10 rfl (lv_at hl 1 rfl) ?_
    refine v_get (v := .ref (x 1)) X hP 0 rfl fk_X6_11 rfl dX6_rowsThere_11 ?_
    refine v_iload_n X dX6_rowsThere_14 rfl (lv_at hl 0 rfl) ?_
    refine v_aald X hP 1 2 rfl rfl (by unfold vp_in; decide) rfl dX6_rowsThere_15 ?_
    refine rdV (As := []) (rest := []) X mv_X6_74 (c_X3_isMissing F.2.1 D K t (ro 1) urow11 _ h) hF ⟨rfl, rfl, Nat.le_of_ble_eq_true rfl, Nat.le_of_ble_eq_true rfl⟩ hT hP [5, 6] rfl 5 rfl rfl hl.1 rfl rfl (Nat.le_of_ble_eq_true rfl) dX6_rowsThere_16 (fun r4 h => ?_)
    obtain ⟨J5, hJ5⟩ : ∃ f : Int32 → Prop, f = (fun (x6 : Int32) => w_X3_isMissing urow12 (fun r7 => wpJ (T := Int32 → Prop) (fun (x9 : Int32) => w_X3_isMissing urow13 (fun r10 => wpJ (T := Int32 → Prop) (fun (x12 : Int32) => w_X3_isMissing urow14 (fun r13 => wpJ (T := Int32 → Prop) (fun (x15 : Int32) => w_X3_isMissing urow15 (fun r16 => wpJ (T := Int32 → Prop) (fun (x18 : Int32) => w_X3_isMissing urow16 (fun r19 => wpJ (T := Int32 → Prop) (fun (x21 : Int32) => w_X3_isMissing urow17 (fun r22 => wpJ (T := Int32 → Prop) (fun (x24 : Int32) => post x24) (fun J23 => (r22 = 0 → J23 (x21 + (1 : Int32))) ∧ (¬ r22 = 0 → J23 x21)))) (fun J20 => (r19 = 0 → J20 (x18 + (1 : Int32))) ∧ (¬ r19 = 0 → J20 x18)))) (fun J17 => (r16 = 0 → J17 (x15 + (1 : Int32))) ∧ (¬ r16 = 0 → J17 x15)))) (fun J14 => (r13 = 0 → J14 (x12 + (1 : Int32))) ∧ (¬ r13 = 0 → J14 x12)))) (fun J11 => (r10 = 0 → J11 (x9 + (1 : Int32))) ∧ (¬ r10 = 0 → J11 x9)))) (fun J8 => (r7 = 0 → J8 (x6 + (1 : Int32))) ∧ (¬ r7 = 0 → J8 x6)))) := ⟨_, rfl⟩
    have kJ5 : ∀ (x6 : Int32) (ls : Array Slot), (J5 x6) → lv_has ls 3 [(0, .ref (x 0)), (1, .int x6), (2, .int (1 : Int32))] → V F (RQ F post) (fxS F).heap [] 25 ls [] := by
      intro x6 ls h hl
      have h : w_X3_isMissing urow12 (fun r7 => wpJ (T := Int32 → Prop) (fun (x9 : Int32) => w_X3_isMissing urow13 (fun r10 => wpJ (T := Int32 → Prop) (fun (x12 : Int32) => w_X3_isMissing urow14 (fun r13 => wpJ (T := Int32 → Prop) (fun (x15 : Int32) => w_X3_isMissing urow15 (fun r16 => wpJ (T := Int32 → Prop) (fun (x18 : Int32) => w_X3_isMissing urow16 (fun r19 => wpJ (T := Int32 → Prop) (fun (x21 : Int32) => w_X3_isMissing urow17 (fun r22 => wpJ (T := Int32 → Prop) (fun (x24 : Int32) => post x24) (fun J23 => (r22 = 0 → J23 (x21 + (1 : Int32))) ∧ (¬ r22 = 0 → J23 x21)))) (fun J20 => (r19 = 0 → J20 (x18 + (1 : Int32))) ∧ (¬ r19 = 0 → J20 x18)))) (fun J17 => (r16 = 0 → J17 (x15 + (1 : Int32))) ∧ (¬ r16 = 0 → J17 x15)))) (fun J14 => (r13 = 0 → J14 (x12 + (1 : Int32))) ∧ (¬ r13 = 0 → J14 x12)))) (fun J11 => (r10 = 0 → J11 (x9 + (1 : Int32))) ∧ (¬ r10 = 0 → J11 x9)))) (fun J8 => (r7 = 0 → J8 (x6 + (1 : Int32))) ∧ (¬ r7 = 0 → J8 x6))) := by rw [hJ5] at h; exact h
      refine v_iinc (v := (2 : Int32)) (lv' := [(2, .int (2 : Int32)), (0, .ref (x 0)), (1, .int x6)]) X dX6_rowsThere_25 hl (k := 2) rfl rfl (by decide) rfl (fun ls hl => ?_)
      refine v_goto (tgt := 4) X dX6_rowsThere_28 (by decide) ?_
      refine v_iload_n X dX6_rowsThere_4 rfl (lv_at hl 0 rfl) ?_
      refine v_bipush (v := (8 : Int32)) X dX6_rowsThere_5 (by decide) ?_
      refine v_icmp_ge (tgt := 31) X dX6_rowsThere_7 (by decide) (fun c => absurd c (by decide)) (fun _ => ?_)
      refine v_aload_n X dX6_rowsThere_10 rfl (lv_at hl 1 rfl) ?_
      refine v_get (v := .ref (x 1)) X hP 0 rfl fk_X6_11 rfl dX6_rowsThere_11 ?_
      refine v_iload_n X dX6_rowsThere_14 rfl (lv_at hl 0 rfl) ?_
      refine v_aald X hP 1 2 rfl rfl (by unfold vp_in; decide) rfl dX6_rowsThere_15 ?_
      refine rdV (As := []) (rest := []) X mv_X6_74 (c_X3_isMissing F.2.1 D K t (ro 2) urow12 _ h) hF ⟨rfl, rfl, Nat.le_of_ble_eq_true rfl, Nat.le_of_ble_eq_true rfl⟩ hT hP [7, 8] rfl 7 rfl rfl hl.1 rfl rfl (Nat.le_of_ble_eq_true rfl) dX6_rowsThere_16 (fun r7 h => ?_)
      obtain ⟨J8, hJ8⟩ : ∃ f : Int32 → Prop, f = (fun (x9 : Int32) => w_X3_isMissing urow13 (fun r10 => wpJ (T := Int32 → Prop) (fun (x12 : Int32) => w_X3_isMissing urow14 (fun r13 => wpJ (T := Int32 → Prop) (fun (x15 : Int32) => w_X3_isMissing urow15 (fun r16 => wpJ (T := Int32 → Prop) (fun (x18 : Int32) => w_X3_isMissing urow16 (fun r19 => wpJ (T := Int32 → Prop) (fun (x21 : Int32) => w_X3_isMissing urow17 (fun r22 => wpJ (T := Int32 → Prop) (fun (x24 : Int32) => post x24) (fun J23 => (r22 = 0 → J23 (x21 + (1 : Int32))) ∧ (¬ r22 = 0 → J23 x21)))) (fun J20 => (r19 = 0 → J20 (x18 + (1 : Int32))) ∧ (¬ r19 = 0 → J20 x18)))) (fun J17 => (r16 = 0 → J17 (x15 + (1 : Int32))) ∧ (¬ r16 = 0 → J17 x15)))) (fun J14 => (r13 = 0 → J14 (x12 + (1 : Int32))) ∧ (¬ r13 = 0 → J14 x12)))) (fun J11 => (r10 = 0 → J11 (x9 + (1 : Int32))) ∧ (¬ r10 = 0 → J11 x9)))) := ⟨_, rfl⟩
      have kJ8 : ∀ (x9 : Int32) (ls : Array Slot), (J8 x9) → lv_has ls 3 [(0, .ref (x 0)), (1, .int x9), (2, .int (2 : Int32))] → V F (RQ F post) (fxS F).heap [] 25 ls [] := by
        intro x9 ls h hl
        have h : w_X3_isMissing urow13 (fun r10 => wpJ (T := Int32 → Prop) (fun (x12 : Int32) => w_X3_isMissing urow14 (fun r13 => wpJ (T := Int32 → Prop) (fun (x15 : Int32) => w_X3_isMissing urow15 (fun r16 => wpJ (T := Int32 → Prop) (fun (x18 : Int32) => w_X3_isMissing urow16 (fun r19 => wpJ (T := Int32 → Prop) (fun (x21 : Int32) => w_X3_isMissing urow17 (fun r22 => wpJ (T := Int32 → Prop) (fun (x24 : Int32) => post x24) (fun J23 => (r22 = 0 → J23 (x21 + (1 : Int32))) ∧ (¬ r22 = 0 → J23 x21)))) (fun J20 => (r19 = 0 → J20 (x18 + (1 : Int32))) ∧ (¬ r19 = 0 → J20 x18)))) (fun J17 => (r16 = 0 → J17 (x15 + (1 : Int32))) ∧ (¬ r16 = 0 → J17 x15)))) (fun J14 => (r13 = 0 → J14 (x12 + (1 : Int32))) ∧ (¬ r13 = 0 → J14 x12)))) (fun J11 => (r10 = 0 → J11 (x9 + (1 : Int32))) ∧ (¬ r10 = 0 → J11 x9))) := by rw [hJ8] at h; exact h
        refine v_iinc (v := (3 : Int32)) (lv' := [(2, .int (3 : Int32)), (0, .ref (x 0)), (1, .int x9)]) X dX6_rowsThere_25 hl (k := 2) rfl rfl (by decide) rfl (fun ls hl => ?_)
        refine v_goto (tgt := 4) X dX6_rowsThere_28 (by decide) ?_
        refine v_iload_n X dX6_rowsThere_4 rfl (lv_at hl 0 rfl) ?_
        refine v_bipush (v := (8 : Int32)) X dX6_rowsThere_5 (by decide) ?_
        refine v_icmp_ge (tgt := 31) X dX6_rowsThere_7 (by decide) (fun c => absurd c (by decide)) (fun _ => ?_)
        refine v_aload_n X dX6_rowsThere_10 rfl (lv_at hl 1 rfl) ?_
        refine v_get (v := .ref (x 1)) X hP 0 rfl fk_X6_11 rfl dX6_rowsThere_11 ?_
        refine v_iload_n X dX6_rowsThere_14 rfl (lv_at hl 0 rfl) ?_
        refine v_aald X hP 1 2 rfl rfl (by unfold vp_in; decide) rfl dX6_rowsThere_15 ?_
        refine rdV (As := []) (rest := []) X mv_X6_74 (c_X3_isMissing F.2.1 D K t (ro 3) urow13 _ h) hF ⟨rfl, rfl, Nat.le_of_ble_eq_true rfl, Nat.le_of_ble_eq_true rfl⟩ hT hP [9, 10] rfl 9 rfl rfl hl.1 rfl rfl (Nat.le_of_ble_eq_true rfl) dX6_rowsThere_16 (fun r10 h => ?_)
        obtain ⟨J11, hJ11⟩ : ∃ f : Int32 → Prop, f = (fun (x12 : Int32) => w_X3_isMissing urow14 (fun r13 => wpJ (T := Int32 → Prop) (fun (x15 : Int32) => w_X3_isMissing urow15 (fun r16 => wpJ (T := Int32 → Prop) (fun (x18 : Int32) => w_X3_isMissing urow16 (fun r19 => wpJ (T := Int32 → Prop) (fun (x21 : Int32) => w_X3_isMissing urow17 (fun r22 => wpJ (T := Int32 → Prop) (fun (x24 : Int32) => post x24) (fun J23 => (r22 = 0 → J23 (x21 + (1 : Int32))) ∧ (¬ r22 = 0 → J23 x21)))) (fun J20 => (r19 = 0 → J20 (x18 + (1 : Int32))) ∧ (¬ r19 = 0 → J20 x18)))) (fun J17 => (r16 = 0 → J17 (x15 + (1 : Int32))) ∧ (¬ r16 = 0 → J17 x15)))) (fun J14 => (r13 = 0 → J14 (x12 + (1 : Int32))) ∧ (¬ r13 = 0 → J14 x12)))) := ⟨_, rfl⟩
        have kJ11 : ∀ (x12 : Int32) (ls : Array Slot), (J11 x12) → lv_has ls 3 [(0, .ref (x 0)), (1, .int x12), (2, .int (3 : Int32))] → V F (RQ F post) (fxS F).heap [] 25 ls [] := by
          intro x12 ls h hl
          have h : w_X3_isMissing urow14 (fun r13 => wpJ (T := Int32 → Prop) (fun (x15 : Int32) => w_X3_isMissing urow15 (fun r16 => wpJ (T := Int32 → Prop) (fun (x18 : Int32) => w_X3_isMissing urow16 (fun r19 => wpJ (T := Int32 → Prop) (fun (x21 : Int32) => w_X3_isMissing urow17 (fun r22 => wpJ (T := Int32 → Prop) (fun (x24 : Int32) => post x24) (fun J23 => (r22 = 0 → J23 (x21 + (1 : Int32))) ∧ (¬ r22 = 0 → J23 x21)))) (fun J20 => (r19 = 0 → J20 (x18 + (1 : Int32))) ∧ (¬ r19 = 0 → J20 x18)))) (fun J17 => (r16 = 0 → J17 (x15 + (1 : Int32))) ∧ (¬ r16 = 0 → J17 x15)))) (fun J14 => (r13 = 0 → J14 (x12 + (1 : Int32))) ∧ (¬ r13 = 0 → J14 x12))) := by rw [hJ11] at h; exact h
          refine v_iinc (v := (4 : Int32)) (lv' := [(2, .int (4 : Int32)), (0, .ref (x 0)), (1, .int x12)]) X dX6_rowsThere_25 hl (k := 2) rfl rfl (by decide) rfl (fun ls hl => ?_)
          refine v_goto (tgt := 4) X dX6_rowsThere_28 (by decide) ?_
          refine v_iload_n X dX6_rowsThere_4 rfl (lv_at hl 0 rfl) ?_
          refine v_bipush (v := (8 : Int32)) X dX6_rowsThere_5 (by decide) ?_
          refine v_icmp_ge (tgt := 31) X dX6_rowsThere_7 (by decide) (fun c => absurd c (by decide)) (fun _ => ?_)
          refine v_aload_n X dX6_rowsThere_10 rfl (lv_at hl 1 rfl) ?_
          refine v_get (v := .ref (x 1)) X hP 0 rfl fk_X6_11 rfl dX6_rowsThere_11 ?_
          refine v_iload_n X dX6_rowsThere_14 rfl (lv_at hl 0 rfl) ?_
          refine v_aald X hP 1 2 rfl rfl (by unfold vp_in; decide) rfl dX6_rowsThere_15 ?_
          refine rdV (As := []) (rest := []) X mv_X6_74 (c_X3_isMissing F.2.1 D K t (ro 4) urow14 _ h) hF ⟨rfl, rfl, Nat.le_of_ble_eq_true rfl, Nat.le_of_ble_eq_true rfl⟩ hT hP [11, 12] rfl 11 rfl rfl hl.1 rfl rfl (Nat.le_of_ble_eq_true rfl) dX6_rowsThere_16 (fun r13 h => ?_)
          obtain ⟨J14, hJ14⟩ : ∃ f : Int32 → Prop, f = (fun (x15 : Int32) => w_X3_isMissing urow15 (fun r16 => wpJ (T := Int32 → Prop) (fun (x18 : Int32) => w_X3_isMissing urow16 (fun r19 => wpJ (T := Int32 → Prop) (fun (x21 : Int32) => w_X3_isMissing urow17 (fun r22 => wpJ (T := Int32 → Prop) (fun (x24 : Int32) => post x24) (fun J23 => (r22 = 0 → J23 (x21 + (1 : Int32))) ∧ (¬ r22 = 0 → J23 x21)))) (fun J20 => (r19 = 0 → J20 (x18 + (1 : Int32))) ∧ (¬ r19 = 0 → J20 x18)))) (fun J17 => (r16 = 0 → J17 (x15 + (1 : Int32))) ∧ (¬ r16 = 0 → J17 x15)))) := ⟨_, rfl⟩
          have kJ14 : ∀ (x15 : Int32) (ls : Array Slot), (J14 x15) → lv_has ls 3 [(0, .ref (x 0)), (1, .int x15), (2, .int (4 : Int32))] → V F (RQ F post) (fxS F).heap [] 25 ls [] := by
            intro x15 ls h hl
            have h : w_X3_isMissing urow15 (fun r16 => wpJ (T := Int32 → Prop) (fun (x18 : Int32) => w_X3_isMissing urow16 (fun r19 => wpJ (T := Int32 → Prop) (fun (x21 : Int32) => w_X3_isMissing urow17 (fun r22 => wpJ (T := Int32 → Prop) (fun (x24 : Int32) => post x24) (fun J23 => (r22 = 0 → J23 (x21 + (1 : Int32))) ∧ (¬ r22 = 0 → J23 x21)))) (fun J20 => (r19 = 0 → J20 (x18 + (1 : Int32))) ∧ (¬ r19 = 0 → J20 x18)))) (fun J17 => (r16 = 0 → J17 (x15 + (1 : Int32))) ∧ (¬ r16 = 0 → J17 x15))) := by rw [hJ14] at h; exact h
            refine v_iinc (v := (5 : Int32)) (lv' := [(2, .int (5 : Int32)), (0, .ref (x 0)), (1, .int x15)]) X dX6_rowsThere_25 hl (k := 2) rfl rfl (by decide) rfl (fun ls hl => ?_)
            refine v_goto (tgt := 4) X dX6_rowsThere_28 (by decide) ?_
            refine v_iload_n X dX6_rowsThere_4 rfl (lv_at hl 0 rfl) ?_
            refine v_bipush (v := (8 : Int32)) X dX6_rowsThere_5 (by decide) ?_
            refine v_icmp_ge (tgt := 31) X dX6_rowsThere_7 (by decide) (fun c => absurd c (by decide)) (fun _ => ?_)
            refine v_aload_n X dX6_rowsThere_10 rfl (lv_at hl 1 rfl) ?_
            refine v_get (v := .ref (x 1)) X hP 0 rfl fk_X6_11 rfl dX6_rowsThere_11 ?_
            refine v_iload_n X dX6_rowsThere_14 rfl (lv_at hl 0 rfl) ?_
            refine v_aald X hP 1 2 rfl rfl (by unfold vp_in; decide) rfl dX6_rowsThere_15 ?_
            refine rdV (As := []) (rest := []) X mv_X6_74 (c_X3_isMissing F.2.1 D K t (ro 5) urow15 _ h) hF ⟨rfl, rfl, Nat.le_of_ble_eq_true rfl, Nat.le_of_ble_eq_true rfl⟩ hT hP [13, 14] rfl 13 rfl rfl hl.1 rfl rfl (Nat.le_of_ble_eq_true rfl) dX6_rowsThere_16 (fun r16 h => ?_)
            obtain ⟨J17, hJ17⟩ : ∃ f : Int32 → Prop, f = (fun (x18 : Int32) => w_X3_isMissing urow16 (fun r19 => wpJ (T := Int32 → Prop) (fun (x21 : Int32) => w_X3_isMissing urow17 (fun r22 => wpJ (T := Int32 → Prop) (fun (x24 : Int32) => post x24) (fun J23 => (r22 = 0 → J23 (x21 + (1 : Int32))) ∧ (¬ r22 = 0 → J23 x21)))) (fun J20 => (r19 = 0 → J20 (x18 + (1 : Int32))) ∧ (¬ r19 = 0 → J20 x18)))) := ⟨_, rfl⟩
            have kJ17 : ∀ (x18 : Int32) (ls : Array Slot), (J17 x18) → lv_has ls 3 [(0, .ref (x 0)), (1, .int x18), (2, .int (5 : Int32))] → V F (RQ F post) (fxS F).heap [] 25 ls [] := by
              intro x18 ls h hl
              have h : w_X3_isMissing urow16 (fun r19 => wpJ (T := Int32 → Prop) (fun (x21 : Int32) => w_X3_isMissing urow17 (fun r22 => wpJ (T := Int32 → Prop) (fun (x24 : Int32) => post x24) (fun J23 => (r22 = 0 → J23 (x21 + (1 : Int32))) ∧ (¬ r22 = 0 → J23 x21)))) (fun J20 => (r19 = 0 → J20 (x18 + (1 : Int32))) ∧ (¬ r19 = 0 → J20 x18))) := by rw [hJ17] at h; exact h
              refine v_iinc (v := (6 : Int32)) (lv' := [(2, .int (6 : Int32)), (0, .ref (x 0)), (1, .int x18)]) X dX6_rowsThere_25 hl (k := 2) rfl rfl (by decide) rfl (fun ls hl => ?_)
              refine v_goto (tgt := 4) X dX6_rowsThere_28 (by decide) ?_
              refine v_iload_n X dX6_rowsThere_4 rfl (lv_at hl 0 rfl) ?_
              refine v_bipush (v := (8 : Int32)) X dX6_rowsThere_5 (by decide) ?_
              refine v_icmp_ge (tgt := 31) X dX6_rowsThere_7 (by decide) (fun c => absurd c (by decide)) (fun _ => ?_)
              refine v_aload_n X dX6_rowsThere_10 rfl (lv_at hl 1 rfl) ?_
              refine v_get (v := .ref (x 1)) X hP 0 rfl fk_X6_11 rfl dX6_rowsThere_11 ?_
              refine v_iload_n X dX6_rowsThere_14 rfl (lv_at hl 0 rfl) ?_
              refine v_aald X hP 1 2 rfl rfl (by unfold vp_in; decide) rfl dX6_rowsThere_15 ?_
              refine rdV (As := []) (rest := []) X mv_X6_74 (c_X3_isMissing F.2.1 D K t (ro 6) urow16 _ h) hF ⟨rfl, rfl, Nat.le_of_ble_eq_true rfl, Nat.le_of_ble_eq_true rfl⟩ hT hP [15, 16] rfl 15 rfl rfl hl.1 rfl rfl (Nat.le_of_ble_eq_true rfl) dX6_rowsThere_16 (fun r19 h => ?_)
              obtain ⟨J20, hJ20⟩ : ∃ f : Int32 → Prop, f = (fun (x21 : Int32) => w_X3_isMissing urow17 (fun r22 => wpJ (T := Int32 → Prop) (fun (x24 : Int32) => post x24) (fun J23 => (r22 = 0 → J23 (x21 + (1 : Int32))) ∧ (¬ r22 = 0 → J23 x21)))) := ⟨_, rfl⟩
              have kJ20 : ∀ (x21 : Int32) (ls : Array Slot), (J20 x21) → lv_has ls 3 [(0, .ref (x 0)), (1, .int x21), (2, .int (6 : Int32))] → V F (RQ F post) (fxS F).heap [] 25 ls [] := by
                intro x21 ls h hl
                have h : w_X3_isMissing urow17 (fun r22 => wpJ (T := Int32 → Prop) (fun (x24 : Int32) => post x24) (fun J23 => (r22 = 0 → J23 (x21 + (1 : Int32))) ∧ (¬ r22 = 0 → J23 x21))) := by rw [hJ20] at h; exact h
                refine v_iinc (v := (7 : Int32)) (lv' := [(2, .int (7 : Int32)), (0, .ref (x 0)), (1, .int x21)]) X dX6_rowsThere_25 hl (k := 2) rfl rfl (by decide) rfl (fun ls hl => ?_)
                refine v_goto (tgt := 4) X dX6_rowsThere_28 (by decide) ?_
                refine v_iload_n X dX6_rowsThere_4 rfl (lv_at hl 0 rfl) ?_
                refine v_bipush (v := (8 : Int32)) X dX6_rowsThere_5 (by decide) ?_
                refine v_icmp_ge (tgt := 31) X dX6_rowsThere_7 (by decide) (fun c => absurd c (by decide)) (fun _ => ?_)
                refine v_aload_n X dX6_rowsThere_10 rfl (lv_at hl 1 rfl) ?_
                refine v_get (v := .ref (x 1)) X hP 0 rfl fk_X6_11 rfl dX6_rowsThere_11 ?_
                refine v_iload_n X dX6_rowsThere_14 rfl (lv_at hl 0 rfl) ?_
                refine v_aald X hP 1 2 rfl rfl (by unfold vp_in; decide) rfl dX6_rowsThere_15 ?_
                refine rdV (As := []) (rest := []) X mv_X6_74 (c_X3_isMissing F.2.1 D K t (ro 7) urow17 _ h) hF ⟨rfl, rfl, Nat.le_of_ble_eq_true rfl, Nat.le_of_ble_eq_true rfl⟩ hT hP [17, 18] rfl 17 rfl rfl hl.1 rfl rfl (Nat.le_of_ble_eq_true rfl) dX6_rowsThere_16 (fun r22 h => ?_)
                obtain ⟨J23, hJ23⟩ : ∃ f : Int32 → Prop, f = (fun (x24 : Int32) => post x24) := ⟨_, rfl⟩
                have kJ23 : ∀ (x24 : Int32) (ls : Array Slot), (J23 x24) → lv_has ls 3 [(0, .ref (x 0)), (1, .int x24), (2, .int (7 : Int32))] → V F (RQ F post) (fxS F).heap [] 25 ls [] := by
                  intro x24 ls h hl
                  have h : post x24 := by rw [hJ23] at h; exact h
                  refine v_iinc (v := (8 : Int32)) (lv' := [(2, .int (8 : Int32)), (0, .ref (x 0)), (1, .int x24)]) X dX6_rowsThere_25 hl (k := 2) rfl rfl (by decide) rfl (fun ls hl => ?_)
                  refine v_goto (tgt := 4) X dX6_rowsThere_28 (by decide) ?_
                  refine v_iload_n X dX6_rowsThere_4 rfl (lv_at hl 0 rfl) ?_
                  refine v_bipush (v := (8 : Int32)) X dX6_rowsThere_5 (by decide) ?_
                  refine v_icmp_ge (tgt := 31) X dX6_rowsThere_7 (by decide) (fun _ => ?_) (fun c => absurd c (by decide))
                  refine v_iload_n X dX6_rowsThere_31 rfl (lv_at hl 2 rfl) ?_
                  exact v_riret X hF h dX6_rowsThere_32
                have h : (r22 = 0 → J23 (x21 + (1 : Int32))) ∧ (¬ r22 = 0 → J23 x21) := by rw [hJ23]; exact h
                refine v_if_ne (tgt := 25) X dX6_rowsThere_19 (by decide) (fun c25 => ?_) (fun c25 => ?_)
                · have h := h.2 c25
                  exact kJ23 x21 ls h (lv_sub hl [1, 2, 0] rfl)
                · have h := h.1 c25
                  refine v_iinc (v := (x21 + (1 : Int32))) (lv' := [(1, .int (x21 + (1 : Int32))), (2, .int (7 : Int32)), (0, .ref (x 0))]) X dX6_rowsThere_22 hl (k := 2) rfl rfl (by decide) rfl (fun ls hl => ?_)
                  exact kJ23 (x21 + (1 : Int32)) ls h (lv_sub hl [2, 0, 1] rfl)
              have h : (r19 = 0 → J20 (x18 + (1 : Int32))) ∧ (¬ r19 = 0 → J20 x18) := by rw [hJ20]; exact h
              refine v_if_ne (tgt := 25) X dX6_rowsThere_19 (by decide) (fun c26 => ?_) (fun c26 => ?_)
              · have h := h.2 c26
                exact kJ20 x18 ls h (lv_sub hl [1, 2, 0] rfl)
              · have h := h.1 c26
                refine v_iinc (v := (x18 + (1 : Int32))) (lv' := [(1, .int (x18 + (1 : Int32))), (2, .int (6 : Int32)), (0, .ref (x 0))]) X dX6_rowsThere_22 hl (k := 2) rfl rfl (by decide) rfl (fun ls hl => ?_)
                exact kJ20 (x18 + (1 : Int32)) ls h (lv_sub hl [2, 0, 1] rfl)
            have h : (r16 = 0 → J17 (x15 + (1 : Int32))) ∧ (¬ r16 = 0 → J17 x15) := by rw [hJ17]; exact h
            refine v_if_ne (tgt := 25) X dX6_rowsThere_19 (by decide) (fun c27 => ?_) (fun c27 => ?_)
            · have h := h.2 c27
              exact kJ17 x15 ls h (lv_sub hl [1, 2, 0] rfl)
            · have h := h.1 c27
              refine v_iinc (v := (x15 + (1 : Int32))) (lv' := [(1, .int (x15 + (1 : Int32))), (2, .int (5 : Int32)), (0, .ref (x 0))]) X dX6_rowsThere_22 hl (k := 2) rfl rfl (by decide) rfl (fun ls hl => ?_)
              exact kJ17 (x15 + (1 : Int32)) ls h (lv_sub hl [2, 0, 1] rfl)
          have h : (r13 = 0 → J14 (x12 + (1 : Int32))) ∧ (¬ r13 = 0 → J14 x12) := by rw [hJ14]; exact h
          refine v_if_ne (tgt := 25) X dX6_rowsThere_19 (by decide) (fun c28 => ?_) (fun c28 => ?_)
          · have h := h.2 c28
            exact kJ14 x12 ls h (lv_sub hl [1, 2, 0] rfl)
          · have h := h.1 c28
            refine v_iinc (v := (x12 + (1 : Int32))) (lv' := [(1, .int (x12 + (1 : Int32))), (2, .int (4 : Int32)), (0, .ref (x 0))]) X dX6_rowsThere_22 hl (k := 2) rfl rfl (by decide) rfl (fun ls hl => ?_)
            exact kJ14 (x12 + (1 : Int32)) ls h (lv_sub hl [2, 0, 1] rfl)
        have h : (r10 = 0 → J11 (x9 + (1 : Int32))) ∧ (¬ r10 = 0 → J11 x9) := by rw [hJ11]; exact h
        refine v_if_ne (tgt := 25) X dX6_rowsThere_19 (by decide) (fun c29 => ?_) (fun c29 => ?_)
        · have h := h.2 c29
          exact kJ11 x9 ls h (lv_sub hl [1, 2, 0] rfl)
        · have h := h.1 c29
          refine v_iinc (v := (x9 + (1 : Int32))) (lv' := [(1, .int (x9 + (1 : Int32))), (2, .int (3 : Int32)), (0, .ref (x 0))]) X dX6_rowsThere_22 hl (k := 2) rfl rfl (by decide) rfl (fun ls hl => ?_)
          exact kJ11 (x9 + (1 : Int32)) ls h (lv_sub hl [2, 0, 1] rfl)
      have h : (r7 = 0 → J8 (x6 + (1 : Int32))) ∧ (¬ r7 = 0 → J8 x6) := by rw [hJ8]; exact h
      refine v_if_ne (tgt := 25) X dX6_rowsThere_19 (by decide) (fun c30 => ?_) (fun c30 => ?_)
      · have h := h.2 c30
        exact kJ8 x6 ls h (lv_sub hl [1, 2, 0] rfl)
      · have h := h.1 c30
        refine v_iinc (v := (x6 + (1 : Int32))) (lv' := [(1, .int (x6 + (1 : Int32))), (2, .int (2 : Int32)), (0, .ref (x 0))]) X dX6_rowsThere_22 hl (k := 2) rfl rfl (by decide) rfl (fun ls hl => ?_)
        exact kJ8 (x6 + (1 : Int32)) ls h (lv_sub hl [2, 0, 1] rfl)
    have h : (r4 = 0 → J5 (x3 + (1 : Int32))) ∧ (¬ r4 = 0 → J5 x3) := by rw [hJ5]; exact h
    refine v_if_ne (tgt := 25) X dX6_rowsThere_19 (by decide) (fun c31 => ?_) (fun c31 => ?_)
    · have h := h.2 c31
      exact kJ5 x3 ls h (lv_sub hl [1, 2, 0] rfl)
    · have h := h.1 c31
      refine v_iinc (v := (x3 + (1 : Int32))) (lv' := [(1, .int (x3 + (1 : Int32))), (2, .int (1 : Int32)), (0, .ref (x 0))]) X dX6_rowsThere_22 hl (k := 2) rfl rfl (by decide) rfl (fun ls hl => ?_)
      exact kJ5 (x3 + (1 : Int32)) ls h (lv_sub hl [2, 0, 1] rfl)
  have h : (r1 = 0 → J2 (1 : Int32)) ∧ (¬ r1 = 0 → J2 (0 : Int32)) := by rw [hJ2]; exact h
  refine v_if_ne (tgt := 25) X dX6_rowsThere_19 (by decide) (fun c32 => ?_) (fun c32 => ?_)
  · have h := h.2 c32
    exact kJ2 (0 : Int32) ls h (lv_sub hl [2, 1, 0] rfl)
  · have h := h.1 c32
    refine v_iinc (v := (1 : Int32)) (lv' := [(1, .int (1 : Int32)), (2, .int (0 : Int32)), (0, .ref (x 0))]) X dX6_rowsThere_22 hl (k := 1) rfl rfl (by decide) rfl (fun ls hl => ?_)
    exact kJ2 (1 : Int32) ls h (lv_sub hl [2, 0, 1] rfl)
def w_X6_count (ux : BX6) (un : BX1) (up : BX5) (ua : BX0) (urow10 : BX3) (urow11 : BX3) (urow12 : BX3) (urow13 : BX3) (urow14 : BX3) (urow15 : BX3) (urow16 : BX3) (urow17 : BX3) (a0 : Int32) (post : Int32 → Prop) : Prop := (a0 = (0 : Int32) → w_X6_rowsThere ux urow10 urow11 urow12 urow13 urow14 urow15 urow16 urow17 (fun r2 => post r2)) ∧ (¬ a0 = (0 : Int32) → (a0 = (1 : Int32) → post un.2.2.2.2.2.2.2.1) ∧ (¬ a0 = (1 : Int32) → (a0 = (2 : Int32) → post un.2.2.2.2.2.2.2.2.1) ∧ (¬ a0 = (2 : Int32) → (a0 = (3 : Int32) → post un.2.2.2.2.2.2.2.2.2.2.2) ∧ (¬ a0 = (3 : Int32) → (a0 = (4 : Int32) → w_X1_resting un (fun r7 => post r7)) ∧ (¬ a0 = (4 : Int32) → (a0 = (5 : Int32) → w_X1_wagesTogether un (fun r9 => post r9)) ∧ (¬ a0 = (5 : Int32) → (a0 = (6 : Int32) → post ua.2.2) ∧ (¬ a0 = (6 : Int32) → (a0 = (7 : Int32) → post up.2.1) ∧ (¬ a0 = (7 : Int32) → post (-1000001 : Int32)))))))))
set_option maxHeartbeats 4000000 in
set_option maxRecDepth 100000 in
theorem c_X6_count (l : Launch) (D : va_G) (K : Nat → ClassId) (t : Nat → Nat) (x no tr tp ac se ak : Nat → Nat) (ro im : Nat → Nat → Nat) (ux : BX6) (un : BX1) (up : BX5) (ua : BX0) (urow10 : BX3) (urow11 : BX3) (urow12 : BX3) (urow13 : BX3) (urow14 : BX3) (urow15 : BX3) (urow16 : BX3) (urow17 : BX3) (a0 : Int32) (post : Int32 → Prop) (h : w_X6_count ux un up ua urow10 urow11 urow12 urow13 urow14 urow15 urow16 urow17 a0 post) : RdM l yX6_count cX6_count 2 (some .int) ({ frames := 2, cells := 0, slots := 0, locals := 42 } : Room) D (TY K) t (CX6 K x no tr tp ac se ak ro im ux ++ CX1 K no un ++ CX5 K tp up ++ CX0 K ac ua ++ CX3 K (ro 0) urow10 ++ CX3 K (ro 1) urow11 ++ CX3 K (ro 2) urow12 ++ CX3 K (ro 3) urow13 ++ CX3 K (ro 4) urow14 ++ CX3 K (ro 5) urow15 ++ CX3 K (ro 6) urow16 ++ CX3 K (ro 7) urow17) [.ref (x 0), .int a0] post := by
  refine RdM.mk rfl (Nat.le_of_ble_eq_true rfl) ?_
  intro F ls _ hF X hP hl hT
  have X : Cx F cX6_count 2 RX6 D (TY K) := X
  have hl : lv_has ls 2 [(0, .ref (x 0)), (1, .int a0)] := hl
  unfold w_X6_count at h
  refine v_iload_n X dX6_count_0 rfl (lv_at hl 1 rfl) ?_
  by_cases c1 : a0 = (0 : Int32)
  · have h := h.1 c1
    refine v_tableIn (tgt := 48) (off := 47) X dX6_count_1 (by rw [c1]; decide) (by rw [c1]; decide) (by rw [c1]; rfl) (by decide) ?_
    refine v_aload_n X dX6_count_48 rfl (lv_at hl 0 rfl) ?_
    refine rdV (As := []) (rest := []) X mv_X6_277 (c_X6_rowsThere F.2.1 D K t x no tr tp ac se ak ro im ux urow10 urow11 urow12 urow13 urow14 urow15 urow16 urow17 _ h) hF ⟨rfl, rfl, Nat.le_of_ble_eq_true rfl, Nat.le_of_ble_eq_true rfl⟩ hT hP [0, 1, 2, 15, 16, 17, 18, 19, 20, 21, 22, 23, 24, 25, 26, 27, 28, 29, 30] rfl 0 rfl rfl hl.1 rfl rfl (Nat.le_of_ble_eq_true rfl) dX6_count_49 (fun r2 h => ?_)
    exact v_riret X hF h dX6_count_52
  · have h := h.2 c1
    by_cases c3 : a0 = (1 : Int32)
    · have h := h.1 c3
      refine v_tableIn (tgt := 53) (off := 52) X dX6_count_1 (by rw [c3]; decide) (by rw [c3]; decide) (by rw [c3]; rfl) (by decide) ?_
      refine v_aload_n X dX6_count_53 rfl (lv_at hl 0 rfl) ?_
      refine v_get (v := .ref (no 0)) X hP 0 rfl fk_X6_22 rfl dX6_count_54 ?_
      refine v_get (v := .int un.2.2.2.2.2.2.2.1) X hP 3 rfl fk_X6_132 rfl dX6_count_57 ?_
      exact v_riret X hF h dX6_count_60
    · have h := h.2 c3
      by_cases c4 : a0 = (2 : Int32)
      · have h := h.1 c4
        refine v_tableIn (tgt := 61) (off := 60) X dX6_count_1 (by rw [c4]; decide) (by rw [c4]; decide) (by rw [c4]; rfl) (by decide) ?_
        refine v_aload_n X dX6_count_61 rfl (lv_at hl 0 rfl) ?_
        refine v_get (v := .ref (no 0)) X hP 0 rfl fk_X6_22 rfl dX6_count_62 ?_
        refine v_get (v := .int un.2.2.2.2.2.2.2.2.1) X hP 3 rfl fk_X6_232 rfl dX6_count_65 ?_
        exact v_riret X hF h dX6_count_68
      · have h := h.2 c4
        by_cases c5 : a0 = (3 : Int32)
        · have h := h.1 c5
          refine v_tableIn (tgt := 69) (off := 68) X dX6_count_1 (by rw [c5]; decide) (by rw [c5]; decide) (by rw [c5]; rfl) (by decide) ?_
          refine v_aload_n X dX6_count_69 rfl (lv_at hl 0 rfl) ?_
          refine v_get (v := .ref (no 0)) X hP 0 rfl fk_X6_22 rfl dX6_count_70 ?_
          refine v_get (v := .int un.2.2.2.2.2.2.2.2.2.2.2) X hP 3 rfl fk_X6_139 rfl dX6_count_73 ?_
          exact v_riret X hF h dX6_count_76
        · have h := h.2 c5
          by_cases c6 : a0 = (4 : Int32)
          · have h := h.1 c6
            refine v_tableIn (tgt := 77) (off := 76) X dX6_count_1 (by rw [c6]; decide) (by rw [c6]; decide) (by rw [c6]; rfl) (by decide) ?_
            refine v_aload_n X dX6_count_77 rfl (lv_at hl 0 rfl) ?_
            refine v_get (v := .ref (no 0)) X hP 0 rfl fk_X6_22 rfl dX6_count_78 ?_
            refine rdV (As := []) (rest := []) X mv_X6_149 (c_X1_resting F.2.1 D K t no un _ h) hF ⟨rfl, rfl, Nat.le_of_ble_eq_true rfl, Nat.le_of_ble_eq_true rfl⟩ hT hP [3, 4, 5, 6, 7, 8, 9, 10] rfl 3 rfl rfl hl.1 rfl rfl (Nat.le_of_ble_eq_true rfl) dX6_count_81 (fun r7 h => ?_)
            exact v_riret X hF h dX6_count_84
          · have h := h.2 c6
            by_cases c8 : a0 = (5 : Int32)
            · have h := h.1 c8
              refine v_tableIn (tgt := 85) (off := 84) X dX6_count_1 (by rw [c8]; decide) (by rw [c8]; decide) (by rw [c8]; rfl) (by decide) ?_
              refine v_aload_n X dX6_count_85 rfl (lv_at hl 0 rfl) ?_
              refine v_get (v := .ref (no 0)) X hP 0 rfl fk_X6_22 rfl dX6_count_86 ?_
              refine rdV (As := []) (rest := []) X mv_X6_280 (c_X1_wagesTogether F.2.1 D K t no un _ h) hF ⟨rfl, rfl, Nat.le_of_ble_eq_true rfl, Nat.le_of_ble_eq_true rfl⟩ hT hP [3, 4, 5, 6, 7, 8, 9, 10] rfl 3 rfl rfl hl.1 rfl rfl (Nat.le_of_ble_eq_true rfl) dX6_count_89 (fun r9 h => ?_)
              exact v_riret X hF h dX6_count_92
            · have h := h.2 c8
              by_cases c10 : a0 = (6 : Int32)
              · have h := h.1 c10
                refine v_tableIn (tgt := 93) (off := 92) X dX6_count_1 (by rw [c10]; decide) (by rw [c10]; decide) (by rw [c10]; rfl) (by decide) ?_
                refine v_aload_n X dX6_count_93 rfl (lv_at hl 0 rfl) ?_
                refine v_get (v := .ref (ac 0)) X hP 0 rfl fk_X6_39 rfl dX6_count_94 ?_
                refine v_get (v := .int ua.2.2) X hP 13 rfl fk_X6_174 rfl dX6_count_97 ?_
                exact v_riret X hF h dX6_count_100
              · have h := h.2 c10
                by_cases c11 : a0 = (7 : Int32)
                · have h := h.1 c11
                  refine v_tableIn (tgt := 101) (off := 100) X dX6_count_1 (by rw [c11]; decide) (by rw [c11]; decide) (by rw [c11]; rfl) (by decide) ?_
                  refine v_aload_n X dX6_count_101 rfl (lv_at hl 0 rfl) ?_
                  refine v_get (v := .ref (tp 0)) X hP 0 rfl fk_X6_32 rfl dX6_count_102 ?_
                  refine v_get (v := .int up.2.1) X hP 11 rfl fk_X6_108 rfl dX6_count_105 ?_
                  exact v_riret X hF h dX6_count_108
                · have h := h.2 c11
                  refine v_tableOut (tgt := 109) X dX6_count_1 (by have e0 : a0.toInt ≠ 0 := fun q => c1 (Int32.toInt_inj.mp (by rw [q]; rfl)); have e1 : a0.toInt ≠ 1 := fun q => c3 (Int32.toInt_inj.mp (by rw [q]; rfl)); have e2 : a0.toInt ≠ 2 := fun q => c4 (Int32.toInt_inj.mp (by rw [q]; rfl)); have e3 : a0.toInt ≠ 3 := fun q => c5 (Int32.toInt_inj.mp (by rw [q]; rfl)); have e4 : a0.toInt ≠ 4 := fun q => c6 (Int32.toInt_inj.mp (by rw [q]; rfl)); have e5 : a0.toInt ≠ 5 := fun q => c8 (Int32.toInt_inj.mp (by rw [q]; rfl)); have e6 : a0.toInt ≠ 6 := fun q => c10 (Int32.toInt_inj.mp (by rw [q]; rfl)); have e7 : a0.toInt ≠ 7 := fun q => c11 (Int32.toInt_inj.mp (by rw [q]; rfl)); omega) (by decide) ?_
                  refine v_ldc X kc_X6_62 dX6_count_109 ?_
                  exact v_riret X hF h dX6_count_111
def w_X6_status (ux : BX6) (post : Int32 → Prop) : Prop := post ux.2
set_option maxHeartbeats 4000000 in
set_option maxRecDepth 100000 in
theorem c_X6_status (l : Launch) (D : va_G) (K : Nat → ClassId) (t : Nat → Nat) (x no tr tp ac se ak : Nat → Nat) (ro im : Nat → Nat → Nat) (ux : BX6) (post : Int32 → Prop) (h : w_X6_status ux post) : RdM l yX6_status cX6_status 1 (some .int) ({ frames := 0, cells := 0, slots := 0, locals := 0 } : Room) D (TY K) t (CX6 K x no tr tp ac se ak ro im ux) [.ref (x 0)] post := by
  refine RdM.mk rfl (Nat.le_of_ble_eq_true rfl) ?_
  intro F ls _ hF X hP hl hT
  have X : Cx F cX6_status 1 RX6 D (TY K) := X
  have hl : lv_has ls 1 [(0, .ref (x 0))] := hl
  unfold w_X6_status at h
  refine v_aload_n X dX6_status_0 rfl (lv_at hl 0 rfl) ?_
  refine v_get (v := .int ux.2) X hP 0 rfl fk_X6_283 rfl dX6_status_1 ?_
  exact v_riret X hF h dX6_status_4
def w_X6_copy_same (ux : BX6) (ur : BX3) (a0 : Int32) (a1 : Int32) (a2 : Int32) (a3 : Int32) (a4 : Int32) (post : Int32 → BX6 → BX3 → Prop) : Prop := w_X6_isWithin a0 (0 : Int32) (7 : Int32) (fun r1 => (r1 = 0 → post (-1000001 : Int32) ux ur) ∧ (¬ r1 = 0 → w_X6_isWithin a2 (0 : Int32) (7 : Int32) (fun r2 => (r2 = 0 → post (-1000001 : Int32) ux ur) ∧ (¬ r2 = 0 → vp_in a0 8 ∧ (vp_in a2 8 ∧ (w_X3_isMissing ur (fun r3 => (r3 = 0 → w_X3_isMissing ur (fun r6 => (r6 = 0 → (ur.2.1 = ur.2.1 → w_X3_holds ur a1 a4 (fun r7 => (r7 = 0 → w_X6_found ux (2 : Int32) (fun r8 u9 => post r8 u9 ur)) ∧ (¬ r7 = 0 → w_X3_holds ur a3 a4 (fun r10 => (r10 = 0 → w_X6_found ux (2 : Int32) (fun r13 u14 => post r13 u14 ur)) ∧ (¬ r10 = 0 → ((¬ a1 < 0 ∧ ¬ a3 < 0 ∧ ¬ a4 < 0) ∧ a1.toNatClampNeg + a4.toNatClampNeg ≤ 40 ∧ a3.toNatClampNeg + a4.toNatClampNeg ≤ 40) ∧ (w_X6_unfound ux a4 (fun r11 u12 => post r11 u12 ((va_cpy ur.1 ur.1 a1.toNatClampNeg a3.toNatClampNeg a4.toNatClampNeg), ur.2.1, ur.2.2)))))))) ∧ (¬ ur.2.1 = ur.2.1 → w_X6_found ux (5 : Int32) (fun r17 u18 => post r17 u18 ur))) ∧ (¬ r6 = 0 → w_X6_found ux (1 : Int32) (fun r20 u21 => post r20 u21 ur)))) ∧ (¬ r3 = 0 → w_X6_found ux (1 : Int32) (fun r4 u5 => post r4 u5 ur)))))))))
set_option maxHeartbeats 4000000 in
set_option maxRecDepth 100000 in
theorem c_X6_copy_same (l : Launch) (D : va_G) (K : Nat → ClassId) (t : Nat → Nat) (x no tr tp ac se ak : Nat → Nat) (ro im : Nat → Nat → Nat) (ux : BX6) (ur : BX3) (a0 : Int32) (a1 : Int32) (a2 : Int32) (a3 : Int32) (a4 : Int32) (k1 : Nat) (hk1 : vp_in a0 8 → a0.toNatClampNeg = k1) (hk2 : vp_in a2 8 → a2.toNatClampNeg = k1) (post : Int32 → BX6 → BX3 → Prop) (h : w_X6_copy_same ux ur a0 a1 a2 a3 a4 post) : WrI l yX6_copy cX6_copy 8 (some .int) ({ frames := 1, cells := 0, slots := 0, locals := 60 } : Room) D (TY K) t (CX6 K x no tr tp ac se ak ro im ux ++ CX3 K (ro k1) ur) [.ref (x 0), .int a0, .int a1, .int a2, .int a3, .int a4] (fun z : BX6 × BX3 => CX6 K x no tr tp ac se ak ro im z.1 ++ CX3 K (ro k1) z.2) (fun (r : Int32) (z : BX6 × BX3) => post r z.1 z.2) := by
  refine WrI.mk rfl (Nat.le_of_ble_eq_true rfl) ?_
  intro F ls A _ hF X hH hA hl hT
  obtain ⟨H, hH0⟩ : ∃ z : Heap, z = (fxS F).heap := ⟨_, rfl⟩
  obtain ⟨locs, hL0⟩ : ∃ z : List Loc, z = [] := ⟨_, rfl⟩
  have hH : HH F D A (CX6 K x no tr tp ac se ak ro im ux ++ CX3 K (ro k1) ur) H locs := by rw [hH0, hL0]; exact hH
  suffices goal : V F (WQI F D (TY K) A (fun z : BX6 × BX3 => CX6 K x no tr tp ac se ak ro im z.1 ++ CX3 K (ro k1) z.2) (fun (r : Int32) (z : BX6 × BX3) => post r z.1 z.2)) H locs 0 ls [] by rw [hH0, hL0] at goal; exact goal
  clear hH0 hL0
  have X : Cx F cX6_copy 8 RX6 D (TY K) := X
  have hl : lv_has ls 8 [(0, .ref (x 0)), (1, .int a0), (2, .int a1), (3, .int a2), (4, .int a3), (5, .int a4)] := hl
  unfold w_X6_copy_same at h
  refine v_iload_n X dX6_copy_0 rfl (lv_at hl 1 rfl) ?_
  refine v_iconst (v := (0 : Int32)) X dX6_copy_1 (by decide) ?_
  refine v_bipush (v := (7 : Int32)) X dX6_copy_2 (by decide) ?_
  refine rdS (As := [.int a0, .int (0 : Int32), .int (7 : Int32)]) (rest := []) X ms_X6_58 (c_X6_isWithin F.2.1 D K t a0 (0 : Int32) (7 : Int32) _ h) hF ⟨rfl, rfl, Nat.le_of_ble_eq_true rfl, Nat.le_of_ble_eq_true rfl⟩ (stW hT hH) hH.1 [] rfl hl.1 rfl rfl (Nat.le_of_ble_eq_true rfl) dX6_copy_4 (fun r1 h => ?_)
  refine v_if_eq (tgt := 20) X dX6_copy_7 (by decide) (fun c25 => ?_) (fun c25 => ?_)
  · have h := h.1 c25
    refine v_ldc X kc_X6_62 dX6_copy_20 ?_
    exact v_wiret X hF (ux, ur) hH h dX6_copy_22
  · have h := h.2 c25
    refine v_iload_n X dX6_copy_10 rfl (lv_at hl 3 rfl) ?_
    refine v_iconst (v := (0 : Int32)) X dX6_copy_11 (by decide) ?_
    refine v_bipush (v := (7 : Int32)) X dX6_copy_12 (by decide) ?_
    refine rdS (As := [.int a2, .int (0 : Int32), .int (7 : Int32)]) (rest := []) X ms_X6_58 (c_X6_isWithin F.2.1 D K t a2 (0 : Int32) (7 : Int32) _ h) hF ⟨rfl, rfl, Nat.le_of_ble_eq_true rfl, Nat.le_of_ble_eq_true rfl⟩ (stW hT hH) hH.1 [] rfl hl.1 rfl rfl (Nat.le_of_ble_eq_true rfl) dX6_copy_14 (fun r2 h => ?_)
    refine v_if_ne (tgt := 23) X dX6_copy_17 (by decide) (fun c24 => ?_) (fun c24 => ?_)
    · have h := h.2 c24
      refine v_aload_n X dX6_copy_23 rfl (lv_at hl 0 rfl) ?_
      refine v_get (v := .ref (x 1)) X hH.1 0 rfl fk_X6_11 rfl dX6_copy_24 ?_
      refine v_iload_n X dX6_copy_27 rfl (lv_at hl 1 rfl) ?_
      have hin := h.1
      have h := h.2
      refine v_aald X hH.1 1 2 rfl rfl hin (congrArg (fun j => some (ro j 0)) (hk1 hin)) dX6_copy_28 ?_
      refine v_astore (lv' := [(6, .ref ((ro k1) 0)), (0, .ref (x 0)), (1, .int a0), (2, .int a1), (3, .int a2), (4, .int a3), (5, .int a4)]) X dX6_copy_29 hl (by decide) rfl (fun ls hl => ?_)
      refine v_aload_n X dX6_copy_31 rfl (lv_at hl 1 rfl) ?_
      refine v_get (v := .ref (x 1)) X hH.1 0 rfl fk_X6_11 rfl dX6_copy_32 ?_
      refine v_iload_n X dX6_copy_35 rfl (lv_at hl 4 rfl) ?_
      have hin := h.1
      have h := h.2
      refine v_aald X hH.1 1 2 rfl rfl hin (congrArg (fun j => some (ro j 0)) (hk2 hin)) dX6_copy_36 ?_
      refine v_astore (lv' := [(7, .ref ((ro k1) 0)), (6, .ref ((ro k1) 0)), (0, .ref (x 0)), (1, .int a0), (2, .int a1), (3, .int a2), (4, .int a3), (5, .int a4)]) X dX6_copy_37 hl (by decide) rfl (fun ls hl => ?_)
      refine v_aload X dX6_copy_39 (lv_at hl 1 rfl) ?_
      refine rdV (As := []) (rest := []) X mv_X6_74 (c_X3_isMissing F.2.1 D K t (ro k1) ur _ h) hF ⟨rfl, rfl, Nat.le_of_ble_eq_true rfl, Nat.le_of_ble_eq_true rfl⟩ (stW hT hH) hH.1 [3, 4] rfl 3 rfl rfl hl.1 rfl rfl (Nat.le_of_ble_eq_true rfl) dX6_copy_41 (fun r3 h => ?_)
      refine v_if_ne (tgt := 55) X dX6_copy_44 (by decide) (fun c23 => ?_) (fun c23 => ?_)
      · have h := h.2 c23
        refine v_aload_n X dX6_copy_55 rfl (lv_at hl 2 rfl) ?_
        refine v_iconst (v := (1 : Int32)) X dX6_copy_56 (by decide) ?_
        refine wrVI (As := [.int (1 : Int32)]) (rest := []) (wr := (CX3 K (ro k1) ur)) X mv_X6_63 (c_X6_found F.2.1 D K t x no tr tp ac se ak ro im ux (1 : Int32) _ h) hF ⟨rfl, rfl, Nat.le_of_ble_eq_true rfl, Nat.le_of_ble_eq_true rfl⟩ hT hA hH [0, 1, 2] [3, 4] ⟨rfl, rfl, rfl, rfl, by decide⟩ 0 rfl rfl hl.1 rfl rfl (Nat.le_of_ble_eq_true rfl) dX6_copy_57 (fun r4 u5 H locs h hH => ?_)
        have hH : HH F D A (CX3 K (ro k1) ur ++ CX6 K x no tr tp ac se ak ro im u5) H locs := hH
        exact v_wiret X hF (u5, ur) (hH.perm [2, 3, 4, 0, 1] rfl rfl) h dX6_copy_60
      · have h := h.1 c23
        refine v_aload X dX6_copy_47 (lv_at hl 0 rfl) ?_
        refine rdV (As := []) (rest := []) X mv_X6_74 (c_X3_isMissing F.2.1 D K t (ro k1) ur _ h) hF ⟨rfl, rfl, Nat.le_of_ble_eq_true rfl, Nat.le_of_ble_eq_true rfl⟩ (stW hT hH) hH.1 [3, 4] rfl 3 rfl rfl hl.1 rfl rfl (Nat.le_of_ble_eq_true rfl) dX6_copy_49 (fun r6 h => ?_)
        refine v_if_eq (tgt := 61) X dX6_copy_52 (by decide) (fun c22 => ?_) (fun c22 => ?_)
        · have h := h.1 c22
          refine v_aload X dX6_copy_61 (lv_at hl 1 rfl) ?_
          refine v_get (v := .int ur.2.1) X hH.1 3 rfl fk_X6_86 rfl dX6_copy_63 ?_
          refine v_aload X dX6_copy_66 (lv_at hl 0 rfl) ?_
          refine v_get (v := .int ur.2.1) X hH.1 3 rfl fk_X6_86 rfl dX6_copy_68 ?_
          refine v_icmp_eq (tgt := 80) X dX6_copy_71 (by decide) (fun c19 => ?_) (fun c19 => ?_)
          · have h := h.1 c19
            refine v_aload X dX6_copy_80 (lv_at hl 1 rfl) ?_
            refine v_iload_n X dX6_copy_82 rfl (lv_at hl 4 rfl) ?_
            refine v_iload X dX6_copy_83 (lv_at hl 7 rfl) ?_
            refine rdV (As := [.int a1, .int a4]) (rest := []) X mv_X6_78 (c_X3_holds F.2.1 D K t (ro k1) ur a1 a4 _ h) hF ⟨rfl, rfl, Nat.le_of_ble_eq_true rfl, Nat.le_of_ble_eq_true rfl⟩ (stW hT hH) hH.1 [3, 4] rfl 3 rfl rfl hl.1 rfl rfl (Nat.le_of_ble_eq_true rfl) dX6_copy_85 (fun r7 h => ?_)
            refine v_if_eq (tgt := 103) X dX6_copy_88 (by decide) (fun c16 => ?_) (fun c16 => ?_)
            · have h := h.1 c16
              refine v_aload_n X dX6_copy_103 rfl (lv_at hl 2 rfl) ?_
              refine v_iconst (v := (2 : Int32)) X dX6_copy_104 (by decide) ?_
              refine wrVI (As := [.int (2 : Int32)]) (rest := []) (wr := (CX3 K (ro k1) ur)) X mv_X6_63 (c_X6_found F.2.1 D K t x no tr tp ac se ak ro im ux (2 : Int32) _ h) hF ⟨rfl, rfl, Nat.le_of_ble_eq_true rfl, Nat.le_of_ble_eq_true rfl⟩ hT hA hH [0, 1, 2] [3, 4] ⟨rfl, rfl, rfl, rfl, by decide⟩ 0 rfl rfl hl.1 rfl rfl (Nat.le_of_ble_eq_true rfl) dX6_copy_105 (fun r8 u9 H locs h hH => ?_)
              have hH : HH F D A (CX3 K (ro k1) ur ++ CX6 K x no tr tp ac se ak ro im u9) H locs := hH
              exact v_wiret X hF (u9, ur) (hH.perm [2, 3, 4, 0, 1] rfl rfl) h dX6_copy_108
            · have h := h.2 c16
              refine v_aload X dX6_copy_91 (lv_at hl 0 rfl) ?_
              refine v_iload X dX6_copy_93 (lv_at hl 6 rfl) ?_
              refine v_iload X dX6_copy_95 (lv_at hl 7 rfl) ?_
              refine rdV (As := [.int a3, .int a4]) (rest := []) X mv_X6_78 (c_X3_holds F.2.1 D K t (ro k1) ur a3 a4 _ h) hF ⟨rfl, rfl, Nat.le_of_ble_eq_true rfl, Nat.le_of_ble_eq_true rfl⟩ (stW hT hH) hH.1 [3, 4] rfl 3 rfl rfl hl.1 rfl rfl (Nat.le_of_ble_eq_true rfl) dX6_copy_97 (fun r10 h => ?_)
              refine v_if_ne (tgt := 109) X dX6_copy_100 (by decide) (fun c15 => ?_) (fun c15 => ?_)
              · have h := h.2 c15
                refine v_aload X dX6_copy_109 (lv_at hl 1 rfl) ?_
                refine v_get (v := .ref ((ro k1) 1)) X hH.1 3 rfl fk_X6_90 rfl dX6_copy_111 ?_
                refine v_iload_n X dX6_copy_114 rfl (lv_at hl 4 rfl) ?_
                refine v_aload X dX6_copy_115 (lv_at hl 0 rfl) ?_
                refine v_get (v := .ref ((ro k1) 1)) X hH.1 3 rfl fk_X6_90 rfl dX6_copy_117 ?_
                refine v_iload X dX6_copy_120 (lv_at hl 6 rfl) ?_
                refine v_iload X dX6_copy_122 (lv_at hl 7 rfl) ?_
                have hin := h.1
                have h := h.2
                refine v_copy (f := ur.1) (g := ur.1) X hl.1 hF ka_X6_94 hH 4 4 0 rfl rfl rfl hin ⟨Nat.le_of_ble_eq_true rfl, Nat.le_of_ble_eq_true rfl⟩ dX6_copy_124 (fun H locs hH => ?_)
                have hH : HH F D A (CX6 K x no tr tp ac se ak ro im ux ++ CX3 K (ro k1) ((va_cpy ur.1 ur.1 a1.toNatClampNeg a3.toNatClampNeg a4.toNatClampNeg), ur.2.1, ur.2.2)) H locs := hH
                refine v_aload_n X dX6_copy_127 rfl (lv_at hl 2 rfl) ?_
                refine v_iload X dX6_copy_128 (lv_at hl 7 rfl) ?_
                refine wrVI (As := [.int a4]) (rest := []) (wr := (CX3 K (ro k1) ((va_cpy ur.1 ur.1 a1.toNatClampNeg a3.toNatClampNeg a4.toNatClampNeg), ur.2.1, ur.2.2))) X mv_X6_71 (c_X6_unfound F.2.1 D K t x no tr tp ac se ak ro im ux a4 _ h) hF ⟨rfl, rfl, Nat.le_of_ble_eq_true rfl, Nat.le_of_ble_eq_true rfl⟩ hT hA hH [0, 1, 2] [3, 4] ⟨rfl, rfl, rfl, rfl, by decide⟩ 0 rfl rfl hl.1 rfl rfl (Nat.le_of_ble_eq_true rfl) dX6_copy_130 (fun r11 u12 H locs h hH => ?_)
                have hH : HH F D A (CX3 K (ro k1) ((va_cpy ur.1 ur.1 a1.toNatClampNeg a3.toNatClampNeg a4.toNatClampNeg), ur.2.1, ur.2.2) ++ CX6 K x no tr tp ac se ak ro im u12) H locs := hH
                exact v_wiret X hF (u12, ((va_cpy ur.1 ur.1 a1.toNatClampNeg a3.toNatClampNeg a4.toNatClampNeg), ur.2.1, ur.2.2)) (hH.perm [2, 3, 4, 0, 1] rfl rfl) h dX6_copy_133
              · have h := h.1 c15
                refine v_aload_n X dX6_copy_103 rfl (lv_at hl 2 rfl) ?_
                refine v_iconst (v := (2 : Int32)) X dX6_copy_104 (by decide) ?_
                refine wrVI (As := [.int (2 : Int32)]) (rest := []) (wr := (CX3 K (ro k1) ur)) X mv_X6_63 (c_X6_found F.2.1 D K t x no tr tp ac se ak ro im ux (2 : Int32) _ h) hF ⟨rfl, rfl, Nat.le_of_ble_eq_true rfl, Nat.le_of_ble_eq_true rfl⟩ hT hA hH [0, 1, 2] [3, 4] ⟨rfl, rfl, rfl, rfl, by decide⟩ 0 rfl rfl hl.1 rfl rfl (Nat.le_of_ble_eq_true rfl) dX6_copy_105 (fun r13 u14 H locs h hH => ?_)
                have hH : HH F D A (CX3 K (ro k1) ur ++ CX6 K x no tr tp ac se ak ro im u14) H locs := hH
                exact v_wiret X hF (u14, ur) (hH.perm [2, 3, 4, 0, 1] rfl rfl) h dX6_copy_108
          · have h := h.2 c19
            refine v_aload_n X dX6_copy_74 rfl (lv_at hl 2 rfl) ?_
            refine v_iconst (v := (5 : Int32)) X dX6_copy_75 (by decide) ?_
            refine wrVI (As := [.int (5 : Int32)]) (rest := []) (wr := (CX3 K (ro k1) ur)) X mv_X6_63 (c_X6_found F.2.1 D K t x no tr tp ac se ak ro im ux (5 : Int32) _ h) hF ⟨rfl, rfl, Nat.le_of_ble_eq_true rfl, Nat.le_of_ble_eq_true rfl⟩ hT hA hH [0, 1, 2] [3, 4] ⟨rfl, rfl, rfl, rfl, by decide⟩ 0 rfl rfl hl.1 rfl rfl (Nat.le_of_ble_eq_true rfl) dX6_copy_76 (fun r17 u18 H locs h hH => ?_)
            have hH : HH F D A (CX3 K (ro k1) ur ++ CX6 K x no tr tp ac se ak ro im u18) H locs := hH
            exact v_wiret X hF (u18, ur) (hH.perm [2, 3, 4, 0, 1] rfl rfl) h dX6_copy_79
        · have h := h.2 c22
          refine v_aload_n X dX6_copy_55 rfl (lv_at hl 2 rfl) ?_
          refine v_iconst (v := (1 : Int32)) X dX6_copy_56 (by decide) ?_
          refine wrVI (As := [.int (1 : Int32)]) (rest := []) (wr := (CX3 K (ro k1) ur)) X mv_X6_63 (c_X6_found F.2.1 D K t x no tr tp ac se ak ro im ux (1 : Int32) _ h) hF ⟨rfl, rfl, Nat.le_of_ble_eq_true rfl, Nat.le_of_ble_eq_true rfl⟩ hT hA hH [0, 1, 2] [3, 4] ⟨rfl, rfl, rfl, rfl, by decide⟩ 0 rfl rfl hl.1 rfl rfl (Nat.le_of_ble_eq_true rfl) dX6_copy_57 (fun r20 u21 H locs h hH => ?_)
          have hH : HH F D A (CX3 K (ro k1) ur ++ CX6 K x no tr tp ac se ak ro im u21) H locs := hH
          exact v_wiret X hF (u21, ur) (hH.perm [2, 3, 4, 0, 1] rfl rfl) h dX6_copy_60
    · have h := h.1 c24
      refine v_ldc X kc_X6_62 dX6_copy_20 ?_
      exact v_wiret X hF (ux, ur) hH h dX6_copy_22
