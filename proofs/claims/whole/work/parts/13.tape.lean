def w_X5_append (u : BX5) (a0 : Int32) (post : Int32 → BX5 → Prop) : Prop := (u.2.1 < (100 : Int32) → vp_in u.2.1 100 ∧ (post (1 : Int32) ((upd u.1 u.2.1.toNatClampNeg a0), (u.2.1 + (1 : Int32)), u.2.2.1, u.2.2.2.1, u.2.2.2.2))) ∧ (¬ u.2.1 < (100 : Int32) → post (0 : Int32) u)
set_option maxHeartbeats 4000000 in
set_option maxRecDepth 100000 in
theorem c_X5_append (l : Launch) (D : va_G) (K : Nat → ClassId) (t : Nat → Nat) (o : Nat → Nat) (u : BX5) (a0 : Int32) (post : Int32 → BX5 → Prop) (h : w_X5_append u a0 post) : WrI l yX5_append cX5_append 2 (some .boolean) ({ frames := 0, cells := 0, slots := 0, locals := 0 } : Room) D (TY K) t (CX5 K o u) [.ref (o 0), .int a0] (fun z : BX5 => CX5 K o z) (fun (r : Int32) (z : BX5) => post r z) := by
  refine WrI.mk rfl (Nat.le_of_ble_eq_true rfl) ?_
  intro F ls A _ hF X hH hA hl hT
  obtain ⟨H, hH0⟩ : ∃ z : Heap, z = (fxS F).heap := ⟨_, rfl⟩
  obtain ⟨locs, hL0⟩ : ∃ z : List Loc, z = [] := ⟨_, rfl⟩
  have hH : HH F D A (CX5 K o u) H locs := by rw [hH0, hL0]; exact hH
  suffices goal : V F (WQI F D (TY K) A (fun z : BX5 => CX5 K o z) (fun (r : Int32) (z : BX5) => post r z)) H locs 0 ls [] by rw [hH0, hL0] at goal; exact goal
  clear hH0 hL0
  have X : Cx F cX5_append 2 RX5 D (TY K) := X
  have hl : lv_has ls 2 [(0, .ref (o 0)), (1, .int a0)] := hl
  unfold w_X5_append at h
  refine v_aload_n X dX5_append_0 rfl (lv_at hl 0 rfl) ?_
  refine v_get (v := .int u.2.1) X hH.1 0 rfl fk_X5_15 rfl dX5_append_1 ?_
  refine v_bipush (v := (100 : Int32)) X dX5_append_4 (by decide) ?_
  refine v_icmp_lt (tgt := 11) X dX5_append_6 (by decide) (fun c1 => ?_) (fun c1 => ?_)
  · have h := h.1 c1
    refine v_aload_n X dX5_append_11 rfl (lv_at hl 0 rfl) ?_
    refine v_get (v := .ref (o 1)) X hH.1 0 rfl fk_X5_9 rfl dX5_append_12 ?_
    refine v_aload_n X dX5_append_15 rfl (lv_at hl 0 rfl) ?_
    refine v_get (v := .int u.2.1) X hH.1 0 rfl fk_X5_15 rfl dX5_append_16 ?_
    refine v_iload_n X dX5_append_19 rfl (lv_at hl 1 rfl) ?_
    have hin := h.1
    have h := h.2
    refine v_iast (f := u.1) X hH 1 0 rfl rfl hin dX5_append_20 (fun H locs hH => ?_)
    have hH : HH F D A (CX5 K o ((upd u.1 u.2.1.toNatClampNeg a0), u.2.1, u.2.2.1, u.2.2.2.1, u.2.2.2.2)) H locs := hH
    refine v_aload_n X dX5_append_21 rfl (lv_at hl 0 rfl) ?_
    refine v_dup X dX5_append_22 rfl ?_
    refine v_get (v := .int u.2.1) X hH.1 0 rfl fk_X5_15 rfl dX5_append_23 ?_
    refine v_iconst (v := (1 : Int32)) X dX5_append_26 (by decide) ?_
    refine v_iadd X dX5_append_27 ?_
    refine v_put X hH 0 rfl fi_X5_15 (Nat.le_of_ble_eq_true rfl) dX5_append_28 (fun H locs hH => ?_)
    have hH : HH F D A (CX5 K o ((upd u.1 u.2.1.toNatClampNeg a0), (u.2.1 + (1 : Int32)), u.2.2.1, u.2.2.2.1, u.2.2.2.2)) H locs := hH
    refine v_iconst (v := (1 : Int32)) X dX5_append_31 (by decide) ?_
    exact v_wzret X hF ((upd u.1 u.2.1.toNatClampNeg a0), (u.2.1 + (1 : Int32)), u.2.2.1, u.2.2.2.1, u.2.2.2.2) hH rfl h dX5_append_32
  · have h := h.2 c1
    refine v_iconst (v := (0 : Int32)) X dX5_append_9 (by decide) ?_
    exact v_wzret X hF u hH rfl h dX5_append_10
def w_X5_next (u : BX5) (post : Int32 → Prop) : Prop := (u.2.2.2.1 = 0 → (u.2.1 ≤ u.2.2.1 → post (-1 : Int32)) ∧ (¬ u.2.1 ≤ u.2.2.1 → vp_in u.2.2.1 100 ∧ (post (u.1 u.2.2.1.toNatClampNeg)))) ∧ (¬ u.2.2.2.1 = 0 → post (-1 : Int32))
set_option maxHeartbeats 4000000 in
set_option maxRecDepth 100000 in
theorem c_X5_next (l : Launch) (D : va_G) (K : Nat → ClassId) (t : Nat → Nat) (o : Nat → Nat) (u : BX5) (post : Int32 → Prop) (h : w_X5_next u post) : RdM l yX5_next cX5_next 1 (some .int) ({ frames := 0, cells := 0, slots := 0, locals := 0 } : Room) D (TY K) t (CX5 K o u) [.ref (o 0)] post := by
  refine RdM.mk rfl (Nat.le_of_ble_eq_true rfl) ?_
  intro F ls _ hF X hP hl hT
  have X : Cx F cX5_next 1 RX5 D (TY K) := X
  have hl : lv_has ls 1 [(0, .ref (o 0))] := hl
  unfold w_X5_next at h
  refine v_aload_n X dX5_next_0 rfl (lv_at hl 0 rfl) ?_
  refine v_get (v := .int u.2.2.2.1) X hP 0 rfl fk_X5_22 rfl dX5_next_1 ?_
  refine v_if_ne (tgt := 30) X dX5_next_4 (by decide) (fun c2 => ?_) (fun c2 => ?_)
  · have h := h.2 c2
    refine v_iconst (v := (-1 : Int32)) X dX5_next_30 (by decide) ?_
    exact v_riret X hF h dX5_next_31
  · have h := h.1 c2
    refine v_aload_n X dX5_next_7 rfl (lv_at hl 0 rfl) ?_
    refine v_get (v := .int u.2.2.1) X hP 0 rfl fk_X5_19 rfl dX5_next_8 ?_
    refine v_aload_n X dX5_next_11 rfl (lv_at hl 0 rfl) ?_
    refine v_get (v := .int u.2.1) X hP 0 rfl fk_X5_15 rfl dX5_next_12 ?_
    refine v_icmp_ge (tgt := 30) X dX5_next_15 (by decide) (fun c1 => ?_) (fun c1 => ?_)
    · have h := h.1 c1
      refine v_iconst (v := (-1 : Int32)) X dX5_next_30 (by decide) ?_
      exact v_riret X hF h dX5_next_31
    · have h := h.2 c1
      refine v_aload_n X dX5_next_18 rfl (lv_at hl 0 rfl) ?_
      refine v_get (v := .ref (o 1)) X hP 0 rfl fk_X5_9 rfl dX5_next_19 ?_
      refine v_aload_n X dX5_next_22 rfl (lv_at hl 0 rfl) ?_
      refine v_get (v := .int u.2.2.1) X hP 0 rfl fk_X5_19 rfl dX5_next_23 ?_
      have hin := h.1
      have h := h.2
      refine v_iald (f := u.1) X hP 1 0 rfl rfl hin dX5_next_26 ?_
      refine v_goto (tgt := 31) X dX5_next_27 (by decide) ?_
      exact v_riret X hF h dX5_next_31
def w_X5_fail (u : BX5) (a0 : Int32) (a1 : Int32) (post : BX5 → Prop) : Prop := (u.2.2.2.1 = 0 → post (u.1, u.2.1, u.2.2.1, a0, a1)) ∧ (¬ u.2.2.2.1 = 0 → post u)
set_option maxHeartbeats 4000000 in
set_option maxRecDepth 100000 in
theorem c_X5_fail (l : Launch) (D : va_G) (K : Nat → ClassId) (t : Nat → Nat) (o : Nat → Nat) (u : BX5) (a0 : Int32) (a1 : Int32) (post : BX5 → Prop) (h : w_X5_fail u a0 a1 post) : WrV l yX5_fail cX5_fail 3 ({ frames := 0, cells := 0, slots := 0, locals := 0 } : Room) D (TY K) t (CX5 K o u) [.ref (o 0), .int a0, .int a1] (fun z : BX5 => CX5 K o z) (fun z : BX5 => post z) := by
  refine WrV.mk rfl (Nat.le_of_ble_eq_true rfl) ?_
  intro F ls A _ hF X hH hA hl hT
  obtain ⟨H, hH0⟩ : ∃ z : Heap, z = (fxS F).heap := ⟨_, rfl⟩
  obtain ⟨locs, hL0⟩ : ∃ z : List Loc, z = [] := ⟨_, rfl⟩
  have hH : HH F D A (CX5 K o u) H locs := by rw [hH0, hL0]; exact hH
  suffices goal : V F (WQV F D (TY K) A (fun z : BX5 => CX5 K o z) (fun z : BX5 => post z)) H locs 0 ls [] by rw [hH0, hL0] at goal; exact goal
  clear hH0 hL0
  have X : Cx F cX5_fail 3 RX5 D (TY K) := X
  have hl : lv_has ls 3 [(0, .ref (o 0)), (1, .int a0), (2, .int a1)] := hl
  unfold w_X5_fail at h
  refine v_aload_n X dX5_fail_0 rfl (lv_at hl 0 rfl) ?_
  refine v_get (v := .int u.2.2.2.1) X hH.1 0 rfl fk_X5_22 rfl dX5_fail_1 ?_
  refine v_if_ne (tgt := 17) X dX5_fail_4 (by decide) (fun c1 => ?_) (fun c1 => ?_)
  · have h := h.2 c1
    exact v_wvret X hF u hH h dX5_fail_17
  · have h := h.1 c1
    refine v_aload_n X dX5_fail_7 rfl (lv_at hl 0 rfl) ?_
    refine v_iload_n X dX5_fail_8 rfl (lv_at hl 1 rfl) ?_
    refine v_put X hH 0 rfl fi_X5_22 (Nat.le_of_ble_eq_true rfl) dX5_fail_9 (fun H locs hH => ?_)
    have hH : HH F D A (CX5 K o (u.1, u.2.1, u.2.2.1, a0, u.2.2.2.2)) H locs := hH
    refine v_aload_n X dX5_fail_12 rfl (lv_at hl 0 rfl) ?_
    refine v_iload_n X dX5_fail_13 rfl (lv_at hl 2 rfl) ?_
    refine v_put X hH 0 rfl fi_X5_115 (Nat.le_of_ble_eq_true rfl) dX5_fail_14 (fun H locs hH => ?_)
    have hH : HH F D A (CX5 K o (u.1, u.2.1, u.2.2.1, a0, a1)) H locs := hH
    exact v_wvret X hF (u.1, u.2.1, u.2.2.1, a0, a1) hH h dX5_fail_17
def w_X5_expect (u : BX5) (a0 : Int32) (post : BX5 → Prop) : Prop := w_X5_next u (fun r1 => (r1 = a0 → post (u.1, u.2.1, (u.2.2.1 + (1 : Int32)), u.2.2.2.1, u.2.2.2.2)) ∧ (¬ r1 = a0 → w_X5_fail u (1 : Int32) u.2.2.1 (fun u3 => post u3)))
set_option maxHeartbeats 4000000 in
set_option maxRecDepth 100000 in
theorem c_X5_expect (l : Launch) (D : va_G) (K : Nat → ClassId) (t : Nat → Nat) (o : Nat → Nat) (u : BX5) (a0 : Int32) (post : BX5 → Prop) (h : w_X5_expect u a0 post) : WrV l yX5_expect cX5_expect 2 ({ frames := 1, cells := 0, slots := 0, locals := 22 } : Room) D (TY K) t (CX5 K o u) [.ref (o 0), .int a0] (fun z : BX5 => CX5 K o z) (fun z : BX5 => post z) := by
  refine WrV.mk rfl (Nat.le_of_ble_eq_true rfl) ?_
  intro F ls A _ hF X hH hA hl hT
  obtain ⟨H, hH0⟩ : ∃ z : Heap, z = (fxS F).heap := ⟨_, rfl⟩
  obtain ⟨locs, hL0⟩ : ∃ z : List Loc, z = [] := ⟨_, rfl⟩
  have hH : HH F D A (CX5 K o u) H locs := by rw [hH0, hL0]; exact hH
  suffices goal : V F (WQV F D (TY K) A (fun z : BX5 => CX5 K o z) (fun z : BX5 => post z)) H locs 0 ls [] by rw [hH0, hL0] at goal; exact goal
  clear hH0 hL0
  have X : Cx F cX5_expect 2 RX5 D (TY K) := X
  have hl : lv_has ls 2 [(0, .ref (o 0)), (1, .int a0)] := hl
  unfold w_X5_expect at h
  refine v_aload_n X dX5_expect_0 rfl (lv_at hl 0 rfl) ?_
  refine rdV (As := []) (rest := []) X mv_X5_61 (c_X5_next F.2.1 D K t o u _ h) hF ⟨rfl, rfl, Nat.le_of_ble_eq_true rfl, Nat.le_of_ble_eq_true rfl⟩ (stW hT hH) hH.1 [0, 1] rfl 0 rfl rfl hl.1 rfl rfl (Nat.le_of_ble_eq_true rfl) dX5_expect_1 (fun r1 h => ?_)
  refine v_iload_n X dX5_expect_4 rfl (lv_at hl 1 rfl) ?_
  refine v_icmp_ne (tgt := 21) X dX5_expect_5 (by decide) (fun c4 => ?_) (fun c4 => ?_)
  · have h := h.2 c4
    refine v_aload_n X dX5_expect_21 rfl (lv_at hl 0 rfl) ?_
    refine v_iconst (v := (1 : Int32)) X dX5_expect_22 (by decide) ?_
    refine v_aload_n X dX5_expect_23 rfl (lv_at hl 0 rfl) ?_
    refine v_get (v := .int u.2.2.1) X hH.1 0 rfl fk_X5_19 rfl dX5_expect_24 ?_
    refine wrVV (As := [.int (1 : Int32), .int u.2.2.1]) (rest := []) (wr := ([] : va_W)) X mv_X5_40 (c_X5_fail F.2.1 D K t o u (1 : Int32) u.2.2.1 _ h) hF ⟨rfl, rfl, Nat.le_of_ble_eq_true rfl, Nat.le_of_ble_eq_true rfl⟩ hT hA hH [0, 1] [] ⟨rfl, rfl, rfl, rfl, by decide⟩ 0 rfl rfl hl.1 rfl rfl (Nat.le_of_ble_eq_true rfl) dX5_expect_27 (fun u3 H locs h hH => ?_)
    have hH : HH F D A (CX5 K o u3) H locs := hH
    exact v_wvret X hF u3 hH h dX5_expect_30
  · have h := h.1 c4
    refine v_aload_n X dX5_expect_8 rfl (lv_at hl 0 rfl) ?_
    refine v_dup X dX5_expect_9 rfl ?_
    refine v_get (v := .int u.2.2.1) X hH.1 0 rfl fk_X5_19 rfl dX5_expect_10 ?_
    refine v_iconst (v := (1 : Int32)) X dX5_expect_13 (by decide) ?_
    refine v_iadd X dX5_expect_14 ?_
    refine v_put X hH 0 rfl fi_X5_19 (Nat.le_of_ble_eq_true rfl) dX5_expect_15 (fun H locs hH => ?_)
    have hH : HH F D A (CX5 K o (u.1, u.2.1, (u.2.2.1 + (1 : Int32)), u.2.2.2.1, u.2.2.2.2)) H locs := hH
    refine v_goto (tgt := 30) X dX5_expect_18 (by decide) ?_
    exact v_wvret X hF (u.1, u.2.1, (u.2.2.1 + (1 : Int32)), u.2.2.2.1, u.2.2.2.2) hH h dX5_expect_30
def w_X5_isFigure (a0 : Int32) (post : Int32 → Prop) : Prop := (a0 < (48 : Int32) → post (0 : Int32)) ∧ (¬ a0 < (48 : Int32) → ((57 : Int32) < a0 → post (0 : Int32)) ∧ (¬ (57 : Int32) < a0 → post (1 : Int32)))
set_option maxHeartbeats 4000000 in
set_option maxRecDepth 100000 in
theorem c_X5_isFigure (l : Launch) (D : va_G) (K : Nat → ClassId) (t : Nat → Nat) (a0 : Int32) (post : Int32 → Prop) (h : w_X5_isFigure a0 post) : RdM l yX5_isFigure cX5_isFigure 1 (some .boolean) ({ frames := 0, cells := 0, slots := 0, locals := 0 } : Room) D (TY K) t ([] : va_W) [.int a0] post := by
  refine RdM.mk rfl (Nat.le_of_ble_eq_true rfl) ?_
  intro F ls _ hF X hP hl hT
  have X : Cx F cX5_isFigure 1 RX5 D (TY K) := X
  have hl : lv_has ls 1 [(0, .int a0)] := hl
  unfold w_X5_isFigure at h
  refine v_iload_n X dX5_isFigure_0 rfl (lv_at hl 0 rfl) ?_
  refine v_bipush (v := (48 : Int32)) X dX5_isFigure_1 (by decide) ?_
  refine v_icmp_lt (tgt := 16) X dX5_isFigure_3 (by decide) (fun c2 => ?_) (fun c2 => ?_)
  · have h := h.1 c2
    refine v_iconst (v := (0 : Int32)) X dX5_isFigure_16 (by decide) ?_
    exact v_rzret X hF rfl h dX5_isFigure_17
  · have h := h.2 c2
    refine v_iload_n X dX5_isFigure_6 rfl (lv_at hl 0 rfl) ?_
    refine v_bipush (v := (57 : Int32)) X dX5_isFigure_7 (by decide) ?_
    refine v_icmp_gt (tgt := 16) X dX5_isFigure_9 (by decide) (fun c1 => ?_) (fun c1 => ?_)
    · have h := h.1 c1
      refine v_iconst (v := (0 : Int32)) X dX5_isFigure_16 (by decide) ?_
      exact v_rzret X hF rfl h dX5_isFigure_17
    · have h := h.2 c1
      refine v_iconst (v := (1 : Int32)) X dX5_isFigure_12 (by decide) ?_
      refine v_goto (tgt := 17) X dX5_isFigure_13 (by decide) ?_
      exact v_rzret X hF rfl h dX5_isFigure_17
def wL_X5_number_10 (y5 : Int32) (y6 : Int32) (post : Int32 → BX5 → Prop) (Kx10 : Int32 → BX5 → Prop) : Nat → Int32 → Int32 → BX5 → Prop
  | 0, _, _, _ => False
  | n10 + 1, x2, x3, u4 => ((100 : Int32) ≤ x3 → Kx10 x2 u4) ∧ (¬ (100 : Int32) ≤ x3 → w_X5_next u4 (fun r19 => w_X5_isFigure r19 (fun r20 => (r20 = 0 → Kx10 x2 u4) ∧ (¬ r20 = 0 → w_X5_next u4 (fun r21 => ∀ x22 : Int32, x22 = (if (((x2 * (10 : Int32)) + r21) - (48 : Int32)) < (1000 : Int32) then (((x2 * (10 : Int32)) + r21) - (48 : Int32)) else (1000 : Int32)) → wL_X5_number_10 y5 y6 post Kx10 n10 x22 (x3 + (1 : Int32)) (u4.1, u4.2.1, (u4.2.2.1 + (1 : Int32)), u4.2.2.2.1, u4.2.2.2.2))))))
def w_X5_number (u : BX5) (a0 : Int32) (post : Int32 → BX5 → Prop) : Prop := ∀ x1 : Int32, x1 = u.2.2.1 → ∃ n10, wL_X5_number_10 a0 x1 post (fun (x7 : Int32) (u8 : BX5) => (u8.2.2.1 = x1 → w_X5_fail u8 (1 : Int32) x1 (fun u10 => post x7 u10)) ∧ (¬ u8.2.2.1 = x1 → ((u8.2.2.1 - x1) ≤ (2 : Int32) → (x7 ≤ a0 → post x7 u8) ∧ (¬ x7 ≤ a0 → w_X5_fail u8 (2 : Int32) x1 (fun u12 => post x7 u12))) ∧ (¬ (u8.2.2.1 - x1) ≤ (2 : Int32) → w_X5_fail u8 (1 : Int32) x1 (fun u15 => post x7 u15)))) n10 (0 : Int32) (0 : Int32) u
set_option maxHeartbeats 4000000 in
set_option maxRecDepth 100000 in
theorem c_X5_number (l : Launch) (D : va_G) (K : Nat → ClassId) (t : Nat → Nat) (o : Nat → Nat) (u : BX5) (a0 : Int32) (post : Int32 → BX5 → Prop) (h : w_X5_number u a0 post) : WrI l yX5_number cX5_number 5 (some .int) ({ frames := 1, cells := 0, slots := 0, locals := 40 } : Room) D (TY K) t (CX5 K o u) [.ref (o 0), .int a0] (fun z : BX5 => CX5 K o z) (fun (r : Int32) (z : BX5) => post r z) := by
  refine WrI.mk rfl (Nat.le_of_ble_eq_true rfl) ?_
  intro F ls A _ hF X hH hA hl hT
  obtain ⟨H, hH0⟩ : ∃ z : Heap, z = (fxS F).heap := ⟨_, rfl⟩
  obtain ⟨locs, hL0⟩ : ∃ z : List Loc, z = [] := ⟨_, rfl⟩
  have hH : HH F D A (CX5 K o u) H locs := by rw [hH0, hL0]; exact hH
  suffices goal : V F (WQI F D (TY K) A (fun z : BX5 => CX5 K o z) (fun (r : Int32) (z : BX5) => post r z)) H locs 0 ls [] by rw [hH0, hL0] at goal; exact goal
  clear hH0 hL0
  have X : Cx F cX5_number 5 RX5 D (TY K) := X
  have hl : lv_has ls 5 [(0, .ref (o 0)), (1, .int a0)] := hl
  unfold w_X5_number at h
  refine v_aload_n X dX5_number_0 rfl (lv_at hl 0 rfl) ?_
  refine v_get (v := .int u.2.2.1) X hH.1 0 rfl fk_X5_19 rfl dX5_number_1 ?_
  refine v_topi (fun x1 ex1 => ?_)
  have h := h x1 ex1
  refine v_istore_n (lv' := [(2, .int x1), (0, .ref (o 0)), (1, .int a0)]) X dX5_number_4 rfl hl (by decide) rfl (fun ls hl => ?_)
  refine v_iconst (v := (0 : Int32)) X dX5_number_5 (by decide) ?_
  refine v_istore_n (lv' := [(3, .int (0 : Int32)), (2, .int x1), (0, .ref (o 0)), (1, .int a0)]) X dX5_number_6 rfl hl (by decide) rfl (fun ls hl => ?_)
  refine v_iconst (v := (0 : Int32)) X dX5_number_7 (by decide) ?_
  refine v_istore (lv' := [(4, .int (0 : Int32)), (3, .int (0 : Int32)), (2, .int x1), (0, .ref (o 0)), (1, .int a0)]) X dX5_number_8 hl (by decide) rfl (fun ls hl => ?_)
  obtain ⟨Kx10, hK10⟩ : ∃ f : Int32 → BX5 → Prop, f = (fun (x7 : Int32) (u8 : BX5) => (u8.2.2.1 = x1 → w_X5_fail u8 (1 : Int32) x1 (fun u10 => post x7 u10)) ∧ (¬ u8.2.2.1 = x1 → ((u8.2.2.1 - x1) ≤ (2 : Int32) → (x7 ≤ a0 → post x7 u8) ∧ (¬ x7 ≤ a0 → w_X5_fail u8 (2 : Int32) x1 (fun u12 => post x7 u12))) ∧ (¬ (u8.2.2.1 - x1) ≤ (2 : Int32) → w_X5_fail u8 (1 : Int32) x1 (fun u15 => post x7 u15)))) := ⟨_, rfl⟩
  have kx18 : ∀ (x7 : Int32) (u8 : BX5) (ls : Array Slot) (H : Heap) (locs : List Loc), (Kx10 x7 u8) → lv_has ls 5 [(0, .ref (o 0)), (1, .int a0), (2, .int x1), (3, .int x7)] → HH F D A (CX5 K o u8) H locs → V F (WQI F D (TY K) A (fun z : BX5 => CX5 K o z) (fun (r : Int32) (z : BX5) => post r z)) H locs 62 ls [] := by
    intro x7 u8 ls H locs h hl hH
    have h : (u8.2.2.1 = x1 → w_X5_fail u8 (1 : Int32) x1 (fun u10 => post x7 u10)) ∧ (¬ u8.2.2.1 = x1 → ((u8.2.2.1 - x1) ≤ (2 : Int32) → (x7 ≤ a0 → post x7 u8) ∧ (¬ x7 ≤ a0 → w_X5_fail u8 (2 : Int32) x1 (fun u12 => post x7 u12))) ∧ (¬ (u8.2.2.1 - x1) ≤ (2 : Int32) → w_X5_fail u8 (1 : Int32) x1 (fun u15 => post x7 u15))) := by rw [hK10] at h; exact h
    refine v_aload_n X dX5_number_62 rfl (lv_at hl 0 rfl) ?_
    refine v_get (v := .int u8.2.2.1) X hH.1 0 rfl fk_X5_19 rfl dX5_number_63 ?_
    refine v_iload_n X dX5_number_66 rfl (lv_at hl 2 rfl) ?_
    refine v_icmp_eq (tgt := 80) X dX5_number_67 (by decide) (fun c17 => ?_) (fun c17 => ?_)
    · have h := h.1 c17
      refine v_aload_n X dX5_number_80 rfl (lv_at hl 0 rfl) ?_
      refine v_iconst (v := (1 : Int32)) X dX5_number_81 (by decide) ?_
      refine v_iload_n X dX5_number_82 rfl (lv_at hl 2 rfl) ?_
      refine wrVV (As := [.int (1 : Int32), .int x1]) (rest := []) (wr := ([] : va_W)) X mv_X5_40 (c_X5_fail F.2.1 D K t o u8 (1 : Int32) x1 _ h) hF ⟨rfl, rfl, Nat.le_of_ble_eq_true rfl, Nat.le_of_ble_eq_true rfl⟩ hT hA hH [0, 1] [] ⟨rfl, rfl, rfl, rfl, by decide⟩ 0 rfl rfl hl.1 rfl rfl (Nat.le_of_ble_eq_true rfl) dX5_number_83 (fun u10 H locs h hH => ?_)
      have hH : HH F D A (CX5 K o u10) H locs := hH
      refine v_goto (tgt := 100) X dX5_number_86 (by decide) ?_
      refine v_iload_n X dX5_number_100 rfl (lv_at hl 3 rfl) ?_
      exact v_wiret X hF u10 hH h dX5_number_101
    · have h := h.2 c17
      refine v_aload_n X dX5_number_70 rfl (lv_at hl 0 rfl) ?_
      refine v_get (v := .int u8.2.2.1) X hH.1 0 rfl fk_X5_19 rfl dX5_number_71 ?_
      refine v_iload_n X dX5_number_74 rfl (lv_at hl 2 rfl) ?_
      refine v_isub X dX5_number_75 ?_
      refine v_iconst (v := (2 : Int32)) X dX5_number_76 (by decide) ?_
      refine v_icmp_le (tgt := 89) X dX5_number_77 (by decide) (fun c16 => ?_) (fun c16 => ?_)
      · have h := h.1 c16
        refine v_iload_n X dX5_number_89 rfl (lv_at hl 3 rfl) ?_
        refine v_iload_n X dX5_number_90 rfl (lv_at hl 1 rfl) ?_
        refine v_icmp_le (tgt := 100) X dX5_number_91 (by decide) (fun c13 => ?_) (fun c13 => ?_)
        · have h := h.1 c13
          refine v_iload_n X dX5_number_100 rfl (lv_at hl 3 rfl) ?_
          exact v_wiret X hF u8 hH h dX5_number_101
        · have h := h.2 c13
          refine v_aload_n X dX5_number_94 rfl (lv_at hl 0 rfl) ?_
          refine v_iconst (v := (2 : Int32)) X dX5_number_95 (by decide) ?_
          refine v_iload_n X dX5_number_96 rfl (lv_at hl 2 rfl) ?_
          refine wrVV (As := [.int (2 : Int32), .int x1]) (rest := []) (wr := ([] : va_W)) X mv_X5_40 (c_X5_fail F.2.1 D K t o u8 (2 : Int32) x1 _ h) hF ⟨rfl, rfl, Nat.le_of_ble_eq_true rfl, Nat.le_of_ble_eq_true rfl⟩ hT hA hH [0, 1] [] ⟨rfl, rfl, rfl, rfl, by decide⟩ 0 rfl rfl hl.1 rfl rfl (Nat.le_of_ble_eq_true rfl) dX5_number_97 (fun u12 H locs h hH => ?_)
          have hH : HH F D A (CX5 K o u12) H locs := hH
          refine v_iload_n X dX5_number_100 rfl (lv_at hl 3 rfl) ?_
          exact v_wiret X hF u12 hH h dX5_number_101
      · have h := h.2 c16
        refine v_aload_n X dX5_number_80 rfl (lv_at hl 0 rfl) ?_
        refine v_iconst (v := (1 : Int32)) X dX5_number_81 (by decide) ?_
        refine v_iload_n X dX5_number_82 rfl (lv_at hl 2 rfl) ?_
        refine wrVV (As := [.int (1 : Int32), .int x1]) (rest := []) (wr := ([] : va_W)) X mv_X5_40 (c_X5_fail F.2.1 D K t o u8 (1 : Int32) x1 _ h) hF ⟨rfl, rfl, Nat.le_of_ble_eq_true rfl, Nat.le_of_ble_eq_true rfl⟩ hT hA hH [0, 1] [] ⟨rfl, rfl, rfl, rfl, by decide⟩ 0 rfl rfl hl.1 rfl rfl (Nat.le_of_ble_eq_true rfl) dX5_number_83 (fun u15 H locs h hH => ?_)
        have hH : HH F D A (CX5 K o u15) H locs := hH
        refine v_goto (tgt := 100) X dX5_number_86 (by decide) ?_
        refine v_iload_n X dX5_number_100 rfl (lv_at hl 3 rfl) ?_
        exact v_wiret X hF u15 hH h dX5_number_101
  have lp10 : ∀ (n10 : Nat) (x2 : Int32) (x3 : Int32) (u4 : BX5) (ls : Array Slot) (H : Heap) (locs : List Loc), wL_X5_number_10 a0 x1 post Kx10 n10 x2 x3 u4 → lv_has ls 5 [(0, .ref (o 0)), (1, .int a0), (2, .int x1), (3, .int x2), (4, .int x3)] → HH F D A (CX5 K o u4) H locs → V F (WQI F D (TY K) A (fun z : BX5 => CX5 K o z) (fun (r : Int32) (z : BX5) => post r z)) H locs 10 ls [] := by
    intro n10
    induction n10 with
    | zero => intro x2 x3 u4 ls H locs h hl hH; exact h.elim
    | succ n10 ih10 =>
      intro x2 x3 u4 ls H locs h hl hH
      refine v_iload X dX5_number_10 (lv_at hl 4 rfl) ?_
      refine v_bipush (v := (100 : Int32)) X dX5_number_12 (by decide) ?_
      refine v_icmp_ge (tgt := 62) X dX5_number_14 (by decide) (fun c24 => ?_) (fun c24 => ?_)
      · have h := h.1 c24
        exact kx18 x2 u4 ls H locs h (lv_sub hl [0, 1, 2, 3] rfl) hH
      · have h := h.2 c24
        refine v_aload_n X dX5_number_17 rfl (lv_at hl 0 rfl) ?_
        refine rdV (As := []) (rest := []) X mv_X5_61 (c_X5_next F.2.1 D K t o u4 _ h) hF ⟨rfl, rfl, Nat.le_of_ble_eq_true rfl, Nat.le_of_ble_eq_true rfl⟩ (stW hT hH) hH.1 [0, 1] rfl 0 rfl rfl hl.1 rfl rfl (Nat.le_of_ble_eq_true rfl) dX5_number_18 (fun r19 h => ?_)
        refine rdS (As := [.int r19]) (rest := []) X ms_X5_106 (c_X5_isFigure F.2.1 D K t r19 _ h) hF ⟨rfl, rfl, Nat.le_of_ble_eq_true rfl, Nat.le_of_ble_eq_true rfl⟩ (stW hT hH) hH.1 [] rfl hl.1 rfl rfl (Nat.le_of_ble_eq_true rfl) dX5_number_21 (fun r20 h => ?_)
        refine v_if_eq (tgt := 62) X dX5_number_24 (by decide) (fun c23 => ?_) (fun c23 => ?_)
        · have h := h.1 c23
          exact kx18 x2 u4 ls H locs h (lv_sub hl [0, 1, 2, 3] rfl) hH
        · have h := h.2 c23
          refine v_sipush (v := (1000 : Int32)) X dX5_number_27 (by decide) ?_
          refine v_iload_n X dX5_number_30 rfl (lv_at hl 3 rfl) ?_
          refine v_bipush (v := (10 : Int32)) X dX5_number_31 (by decide) ?_
          refine v_imul X dX5_number_33 ?_
          refine v_aload_n X dX5_number_34 rfl (lv_at hl 0 rfl) ?_
          refine rdV (As := []) (rest := [.int (x2 * (10 : Int32)), .int (1000 : Int32)]) X mv_X5_61 (c_X5_next F.2.1 D K t o u4 _ h) hF ⟨rfl, rfl, Nat.le_of_ble_eq_true rfl, Nat.le_of_ble_eq_true rfl⟩ (stW hT hH) hH.1 [0, 1] rfl 0 rfl rfl hl.1 rfl rfl (Nat.le_of_ble_eq_true rfl) dX5_number_35 (fun r21 h => ?_)
          refine v_iadd X dX5_number_38 ?_
          refine v_bipush (v := (48 : Int32)) X dX5_number_39 (by decide) ?_
          refine v_isub X dX5_number_41 ?_
          refine v_mmin X hl.1 hF km_X5_109 ⟨Nat.le_of_ble_eq_true rfl, Nat.le_of_ble_eq_true rfl⟩ dX5_number_42 ?_
          refine v_topi (fun x22 ex22 => ?_)
          have h := h x22 ex22
          refine v_istore_n (lv' := [(3, .int x22), (0, .ref (o 0)), (1, .int a0), (2, .int x1), (4, .int x3)]) X dX5_number_45 rfl hl (by decide) rfl (fun ls hl => ?_)
          refine v_aload_n X dX5_number_46 rfl (lv_at hl 1 rfl) ?_
          refine v_dup X dX5_number_47 rfl ?_
          refine v_get (v := .int u4.2.2.1) X hH.1 0 rfl fk_X5_19 rfl dX5_number_48 ?_
          refine v_iconst (v := (1 : Int32)) X dX5_number_51 (by decide) ?_
          refine v_iadd X dX5_number_52 ?_
          refine v_put X hH 0 rfl fi_X5_19 (Nat.le_of_ble_eq_true rfl) dX5_number_53 (fun H locs hH => ?_)
          have hH : HH F D A (CX5 K o (u4.1, u4.2.1, (u4.2.2.1 + (1 : Int32)), u4.2.2.2.1, u4.2.2.2.2)) H locs := hH
          refine v_iinc (v := (x3 + (1 : Int32))) (lv' := [(4, .int (x3 + (1 : Int32))), (3, .int x22), (0, .ref (o 0)), (1, .int a0), (2, .int x1)]) X dX5_number_56 hl (k := 4) rfl rfl (by decide) rfl (fun ls hl => ?_)
          refine v_goto (tgt := 10) X dX5_number_59 (by decide) ?_
          exact ih10 x22 (x3 + (1 : Int32)) (u4.1, u4.2.1, (u4.2.2.1 + (1 : Int32)), u4.2.2.2.1, u4.2.2.2.2) ls H locs h (lv_sub hl [2, 3, 4, 1, 0] rfl) hH
  obtain ⟨n10, h⟩ := h
  have h : wL_X5_number_10 a0 x1 post Kx10 n10 (0 : Int32) (0 : Int32) u := by rw [hK10]; exact h
  exact lp10 n10 (0 : Int32) (0 : Int32) u ls H locs h (lv_sub hl [3, 4, 2, 1, 0] rfl) hH
def w_X5_readLaw (u : BX5) (up0 : BX1) (post : BX5 → BX1 → Prop) : Prop := w_X5_expect u (108 : Int32) (fun u2 => w_X5_number u2 (20 : Int32) (fun r3 u4 => w_X5_expect u4 (44 : Int32) (fun u6 => w_X5_number u6 (6 : Int32) (fun r7 u8 => w_X5_expect u8 (59 : Int32) (fun u10 => post u10 (up0.1, up0.2.1, up0.2.2.1, up0.2.2.2.1, up0.2.2.2.2.1, up0.2.2.2.2.2.1, up0.2.2.2.2.2.2.1, up0.2.2.2.2.2.2.2.1, up0.2.2.2.2.2.2.2.2.1, r3, r7, up0.2.2.2.2.2.2.2.2.2.2.2))))))
set_option maxHeartbeats 4000000 in
set_option maxRecDepth 100000 in
theorem c_X5_readLaw (l : Launch) (D : va_G) (K : Nat → ClassId) (t : Nat → Nat) (o : Nat → Nat) (o0 : Nat → Nat) (u : BX5) (up0 : BX1) (post : BX5 → BX1 → Prop) (h : w_X5_readLaw u up0 post) : WrV l yX5_readLaw cX5_readLaw 2 ({ frames := 2, cells := 0, slots := 0, locals := 64 } : Room) D (TY K) t (CX5 K o u ++ CX1 K o0 up0) [.ref (o 0), .ref (o0 0)] (fun z : BX5 × BX1 => CX5 K o z.1 ++ CX1 K o0 z.2) (fun z : BX5 × BX1 => post z.1 z.2) := by
  refine WrV.mk rfl (Nat.le_of_ble_eq_true rfl) ?_
  intro F ls A _ hF X hH hA hl hT
  obtain ⟨H, hH0⟩ : ∃ z : Heap, z = (fxS F).heap := ⟨_, rfl⟩
  obtain ⟨locs, hL0⟩ : ∃ z : List Loc, z = [] := ⟨_, rfl⟩
  have hH : HH F D A (CX5 K o u ++ CX1 K o0 up0) H locs := by rw [hH0, hL0]; exact hH
  suffices goal : V F (WQV F D (TY K) A (fun z : BX5 × BX1 => CX5 K o z.1 ++ CX1 K o0 z.2) (fun z : BX5 × BX1 => post z.1 z.2)) H locs 0 ls [] by rw [hH0, hL0] at goal; exact goal
  clear hH0 hL0
  have X : Cx F cX5_readLaw 2 RX5 D (TY K) := X
  have hl : lv_has ls 2 [(0, .ref (o 0)), (1, .ref (o0 0))] := hl
  unfold w_X5_readLaw at h
  refine v_aload_n X dX5_readLaw_0 rfl (lv_at hl 0 rfl) ?_
  refine v_bipush (v := (108 : Int32)) X dX5_readLaw_1 (by decide) ?_
  refine wrVV (As := [.int (108 : Int32)]) (rest := []) (wr := (CX1 K o0 up0)) X mv_X5_44 (c_X5_expect F.2.1 D K t o u (108 : Int32) _ h) hF ⟨rfl, rfl, Nat.le_of_ble_eq_true rfl, Nat.le_of_ble_eq_true rfl⟩ hT hA hH [0, 1] [2, 3, 4, 5, 6, 7, 8, 9] ⟨rfl, rfl, rfl, rfl, by decide⟩ 0 rfl rfl hl.1 rfl rfl (Nat.le_of_ble_eq_true rfl) dX5_readLaw_3 (fun u2 H locs h hH => ?_)
  have hH : HH F D A (CX1 K o0 up0 ++ CX5 K o u2) H locs := hH
  refine v_aload_n X dX5_readLaw_6 rfl (lv_at hl 1 rfl) ?_
  refine v_aload_n X dX5_readLaw_7 rfl (lv_at hl 0 rfl) ?_
  refine v_bipush (v := (20 : Int32)) X dX5_readLaw_8 (by decide) ?_
  refine wrVI (As := [.int (20 : Int32)]) (rest := [.ref (o0 0)]) (wr := (CX1 K o0 up0)) X mv_X5_48 (c_X5_number F.2.1 D K t o u2 (20 : Int32) _ h) hF ⟨rfl, rfl, Nat.le_of_ble_eq_true rfl, Nat.le_of_ble_eq_true rfl⟩ hT hA hH [8, 9] [0, 1, 2, 3, 4, 5, 6, 7] ⟨rfl, rfl, rfl, rfl, by decide⟩ 8 rfl rfl hl.1 rfl rfl (Nat.le_of_ble_eq_true rfl) dX5_readLaw_10 (fun r3 u4 H locs h hH => ?_)
  have hH : HH F D A (CX1 K o0 up0 ++ CX5 K o u4) H locs := hH
  refine v_put X hH 0 rfl fi_X5_52 (Nat.le_of_ble_eq_true rfl) dX5_readLaw_13 (fun H locs hH => ?_)
  have hH : HH F D A (CX1 K o0 (up0.1, up0.2.1, up0.2.2.1, up0.2.2.2.1, up0.2.2.2.2.1, up0.2.2.2.2.2.1, up0.2.2.2.2.2.2.1, up0.2.2.2.2.2.2.2.1, up0.2.2.2.2.2.2.2.2.1, r3, up0.2.2.2.2.2.2.2.2.2.2.1, up0.2.2.2.2.2.2.2.2.2.2.2) ++ CX5 K o u4) H locs := hH
  refine v_aload_n X dX5_readLaw_16 rfl (lv_at hl 0 rfl) ?_
  refine v_bipush (v := (44 : Int32)) X dX5_readLaw_17 (by decide) ?_
  refine wrVV (As := [.int (44 : Int32)]) (rest := []) (wr := (CX1 K o0 (up0.1, up0.2.1, up0.2.2.1, up0.2.2.2.1, up0.2.2.2.2.1, up0.2.2.2.2.2.1, up0.2.2.2.2.2.2.1, up0.2.2.2.2.2.2.2.1, up0.2.2.2.2.2.2.2.2.1, r3, up0.2.2.2.2.2.2.2.2.2.2.1, up0.2.2.2.2.2.2.2.2.2.2.2))) X mv_X5_44 (c_X5_expect F.2.1 D K t o u4 (44 : Int32) _ h) hF ⟨rfl, rfl, Nat.le_of_ble_eq_true rfl, Nat.le_of_ble_eq_true rfl⟩ hT hA hH [8, 9] [0, 1, 2, 3, 4, 5, 6, 7] ⟨rfl, rfl, rfl, rfl, by decide⟩ 8 rfl rfl hl.1 rfl rfl (Nat.le_of_ble_eq_true rfl) dX5_readLaw_19 (fun u6 H locs h hH => ?_)
  have hH : HH F D A (CX1 K o0 (up0.1, up0.2.1, up0.2.2.1, up0.2.2.2.1, up0.2.2.2.2.1, up0.2.2.2.2.2.1, up0.2.2.2.2.2.2.1, up0.2.2.2.2.2.2.2.1, up0.2.2.2.2.2.2.2.2.1, r3, up0.2.2.2.2.2.2.2.2.2.2.1, up0.2.2.2.2.2.2.2.2.2.2.2) ++ CX5 K o u6) H locs := hH
  refine v_aload_n X dX5_readLaw_22 rfl (lv_at hl 1 rfl) ?_
  refine v_aload_n X dX5_readLaw_23 rfl (lv_at hl 0 rfl) ?_
  refine v_bipush (v := (6 : Int32)) X dX5_readLaw_24 (by decide) ?_
  refine wrVI (As := [.int (6 : Int32)]) (rest := [.ref (o0 0)]) (wr := (CX1 K o0 (up0.1, up0.2.1, up0.2.2.1, up0.2.2.2.1, up0.2.2.2.2.1, up0.2.2.2.2.2.1, up0.2.2.2.2.2.2.1, up0.2.2.2.2.2.2.2.1, up0.2.2.2.2.2.2.2.2.1, r3, up0.2.2.2.2.2.2.2.2.2.2.1, up0.2.2.2.2.2.2.2.2.2.2.2))) X mv_X5_48 (c_X5_number F.2.1 D K t o u6 (6 : Int32) _ h) hF ⟨rfl, rfl, Nat.le_of_ble_eq_true rfl, Nat.le_of_ble_eq_true rfl⟩ hT hA hH [8, 9] [0, 1, 2, 3, 4, 5, 6, 7] ⟨rfl, rfl, rfl, rfl, by decide⟩ 8 rfl rfl hl.1 rfl rfl (Nat.le_of_ble_eq_true rfl) dX5_readLaw_26 (fun r7 u8 H locs h hH => ?_)
  have hH : HH F D A (CX1 K o0 (up0.1, up0.2.1, up0.2.2.1, up0.2.2.2.1, up0.2.2.2.2.1, up0.2.2.2.2.2.1, up0.2.2.2.2.2.2.1, up0.2.2.2.2.2.2.2.1, up0.2.2.2.2.2.2.2.2.1, r3, up0.2.2.2.2.2.2.2.2.2.2.1, up0.2.2.2.2.2.2.2.2.2.2.2) ++ CX5 K o u8) H locs := hH
  refine v_put X hH 0 rfl fi_X5_55 (Nat.le_of_ble_eq_true rfl) dX5_readLaw_29 (fun H locs hH => ?_)
  have hH : HH F D A (CX1 K o0 (up0.1, up0.2.1, up0.2.2.1, up0.2.2.2.1, up0.2.2.2.2.1, up0.2.2.2.2.2.1, up0.2.2.2.2.2.2.1, up0.2.2.2.2.2.2.2.1, up0.2.2.2.2.2.2.2.2.1, r3, r7, up0.2.2.2.2.2.2.2.2.2.2.2) ++ CX5 K o u8) H locs := hH
  refine v_aload_n X dX5_readLaw_32 rfl (lv_at hl 0 rfl) ?_
  refine v_bipush (v := (59 : Int32)) X dX5_readLaw_33 (by decide) ?_
  refine wrVV (As := [.int (59 : Int32)]) (rest := []) (wr := (CX1 K o0 (up0.1, up0.2.1, up0.2.2.1, up0.2.2.2.1, up0.2.2.2.2.1, up0.2.2.2.2.2.1, up0.2.2.2.2.2.2.1, up0.2.2.2.2.2.2.2.1, up0.2.2.2.2.2.2.2.2.1, r3, r7, up0.2.2.2.2.2.2.2.2.2.2.2))) X mv_X5_44 (c_X5_expect F.2.1 D K t o u8 (59 : Int32) _ h) hF ⟨rfl, rfl, Nat.le_of_ble_eq_true rfl, Nat.le_of_ble_eq_true rfl⟩ hT hA hH [8, 9] [0, 1, 2, 3, 4, 5, 6, 7] ⟨rfl, rfl, rfl, rfl, by decide⟩ 8 rfl rfl hl.1 rfl rfl (Nat.le_of_ble_eq_true rfl) dX5_readLaw_35 (fun u10 H locs h hH => ?_)
  have hH : HH F D A (CX1 K o0 (up0.1, up0.2.1, up0.2.2.1, up0.2.2.2.1, up0.2.2.2.2.1, up0.2.2.2.2.2.1, up0.2.2.2.2.2.2.1, up0.2.2.2.2.2.2.2.1, up0.2.2.2.2.2.2.2.2.1, r3, r7, up0.2.2.2.2.2.2.2.2.2.2.2) ++ CX5 K o u10) H locs := hH
  exact v_wvret X hF (u10, (up0.1, up0.2.1, up0.2.2.1, up0.2.2.2.1, up0.2.2.2.2.1, up0.2.2.2.2.2.1, up0.2.2.2.2.2.2.1, up0.2.2.2.2.2.2.2.1, up0.2.2.2.2.2.2.2.2.1, r3, r7, up0.2.2.2.2.2.2.2.2.2.2.2)) (hH.perm [8, 9, 0, 1, 2, 3, 4, 5, 6, 7] rfl rfl) h dX5_readLaw_38
def w_X5_readClient (u : BX5) (up0 : BX1) (post : BX5 → BX1 → Prop) : Prop := ∀ x1 : Int32, x1 = up0.2.2.2.2.2.2.2.1 → (x1 < (5 : Int32) → w_X5_expect u (119 : Int32) (fun u3 => w_X5_number u3 (40 : Int32) (fun r4 u5 => vp_in x1 5 ∧ (w_X5_expect u5 (44 : Int32) (fun u7 => w_X5_number u7 (5 : Int32) (fun r8 u9 => vp_in x1 5 ∧ (w_X5_expect u9 (59 : Int32) (fun u11 => post u11 ((upd up0.1 x1.toNatClampNeg r4), (upd up0.2.1 x1.toNatClampNeg r8), up0.2.2.1, up0.2.2.2.1, up0.2.2.2.2.1, up0.2.2.2.2.2.1, up0.2.2.2.2.2.2.1, (x1 + (1 : Int32)), up0.2.2.2.2.2.2.2.2.1, up0.2.2.2.2.2.2.2.2.2.1, up0.2.2.2.2.2.2.2.2.2.2.1, up0.2.2.2.2.2.2.2.2.2.2.2))))))))) ∧ (¬ x1 < (5 : Int32) → w_X5_fail u (3 : Int32) u.2.2.1 (fun u13 => post u13 up0))
set_option maxHeartbeats 4000000 in
set_option maxRecDepth 100000 in
theorem c_X5_readClient (l : Launch) (D : va_G) (K : Nat → ClassId) (t : Nat → Nat) (o : Nat → Nat) (o0 : Nat → Nat) (u : BX5) (up0 : BX1) (post : BX5 → BX1 → Prop) (h : w_X5_readClient u up0 post) : WrV l yX5_readClient cX5_readClient 3 ({ frames := 2, cells := 0, slots := 0, locals := 64 } : Room) D (TY K) t (CX5 K o u ++ CX1 K o0 up0) [.ref (o 0), .ref (o0 0)] (fun z : BX5 × BX1 => CX5 K o z.1 ++ CX1 K o0 z.2) (fun z : BX5 × BX1 => post z.1 z.2) := by
  refine WrV.mk rfl (Nat.le_of_ble_eq_true rfl) ?_
  intro F ls A _ hF X hH hA hl hT
  obtain ⟨H, hH0⟩ : ∃ z : Heap, z = (fxS F).heap := ⟨_, rfl⟩
  obtain ⟨locs, hL0⟩ : ∃ z : List Loc, z = [] := ⟨_, rfl⟩
  have hH : HH F D A (CX5 K o u ++ CX1 K o0 up0) H locs := by rw [hH0, hL0]; exact hH
  suffices goal : V F (WQV F D (TY K) A (fun z : BX5 × BX1 => CX5 K o z.1 ++ CX1 K o0 z.2) (fun z : BX5 × BX1 => post z.1 z.2)) H locs 0 ls [] by rw [hH0, hL0] at goal; exact goal
  clear hH0 hL0
  have X : Cx F cX5_readClient 3 RX5 D (TY K) := X
  have hl : lv_has ls 3 [(0, .ref (o 0)), (1, .ref (o0 0))] := hl
  unfold w_X5_readClient at h
  refine v_aload_n X dX5_readClient_0 rfl (lv_at hl 1 rfl) ?_
  refine v_get (v := .int up0.2.2.2.2.2.2.2.1) X hH.1 2 rfl fk_X5_65 rfl dX5_readClient_1 ?_
  refine v_topi (fun x1 ex1 => ?_)
  have h := h x1 ex1
  refine v_istore_n (lv' := [(2, .int x1), (0, .ref (o 0)), (1, .ref (o0 0))]) X dX5_readClient_4 rfl hl (by decide) rfl (fun ls hl => ?_)
  refine v_iload_n X dX5_readClient_5 rfl (lv_at hl 0 rfl) ?_
  refine v_iconst (v := (5 : Int32)) X dX5_readClient_6 (by decide) ?_
  refine v_icmp_lt (tgt := 20) X dX5_readClient_7 (by decide) (fun c14 => ?_) (fun c14 => ?_)
  · have h := h.1 c14
    refine v_aload_n X dX5_readClient_20 rfl (lv_at hl 1 rfl) ?_
    refine v_bipush (v := (119 : Int32)) X dX5_readClient_21 (by decide) ?_
    refine wrVV (As := [.int (119 : Int32)]) (rest := []) (wr := (CX1 K o0 up0)) X mv_X5_44 (c_X5_expect F.2.1 D K t o u (119 : Int32) _ h) hF ⟨rfl, rfl, Nat.le_of_ble_eq_true rfl, Nat.le_of_ble_eq_true rfl⟩ hT hA hH [0, 1] [2, 3, 4, 5, 6, 7, 8, 9] ⟨rfl, rfl, rfl, rfl, by decide⟩ 0 rfl rfl hl.1 rfl rfl (Nat.le_of_ble_eq_true rfl) dX5_readClient_23 (fun u3 H locs h hH => ?_)
    have hH : HH F D A (CX1 K o0 up0 ++ CX5 K o u3) H locs := hH
    refine v_aload_n X dX5_readClient_26 rfl (lv_at hl 2 rfl) ?_
    refine v_get (v := .ref (o0 1)) X hH.1 0 rfl fk_X5_68 rfl dX5_readClient_27 ?_
    refine v_iload_n X dX5_readClient_30 rfl (lv_at hl 0 rfl) ?_
    refine v_aload_n X dX5_readClient_31 rfl (lv_at hl 1 rfl) ?_
    refine v_bipush (v := (40 : Int32)) X dX5_readClient_32 (by decide) ?_
    refine wrVI (As := [.int (40 : Int32)]) (rest := [.int x1, .ref (o0 1)]) (wr := (CX1 K o0 up0)) X mv_X5_48 (c_X5_number F.2.1 D K t o u3 (40 : Int32) _ h) hF ⟨rfl, rfl, Nat.le_of_ble_eq_true rfl, Nat.le_of_ble_eq_true rfl⟩ hT hA hH [8, 9] [0, 1, 2, 3, 4, 5, 6, 7] ⟨rfl, rfl, rfl, rfl, by decide⟩ 8 rfl rfl hl.1 rfl rfl (Nat.le_of_ble_eq_true rfl) dX5_readClient_34 (fun r4 u5 H locs h hH => ?_)
    have hH : HH F D A (CX1 K o0 up0 ++ CX5 K o u5) H locs := hH
    have hin := h.1
    have h := h.2
    refine v_iast (f := up0.1) X hH 1 0 rfl rfl hin dX5_readClient_37 (fun H locs hH => ?_)
    have hH : HH F D A (CX1 K o0 ((upd up0.1 x1.toNatClampNeg r4), up0.2.1, up0.2.2.1, up0.2.2.2.1, up0.2.2.2.2.1, up0.2.2.2.2.2.1, up0.2.2.2.2.2.2.1, up0.2.2.2.2.2.2.2.1, up0.2.2.2.2.2.2.2.2.1, up0.2.2.2.2.2.2.2.2.2.1, up0.2.2.2.2.2.2.2.2.2.2.1, up0.2.2.2.2.2.2.2.2.2.2.2) ++ CX5 K o u5) H locs := hH
    refine v_aload_n X dX5_readClient_38 rfl (lv_at hl 1 rfl) ?_
    refine v_bipush (v := (44 : Int32)) X dX5_readClient_39 (by decide) ?_
    refine wrVV (As := [.int (44 : Int32)]) (rest := []) (wr := (CX1 K o0 ((upd up0.1 x1.toNatClampNeg r4), up0.2.1, up0.2.2.1, up0.2.2.2.1, up0.2.2.2.2.1, up0.2.2.2.2.2.1, up0.2.2.2.2.2.2.1, up0.2.2.2.2.2.2.2.1, up0.2.2.2.2.2.2.2.2.1, up0.2.2.2.2.2.2.2.2.2.1, up0.2.2.2.2.2.2.2.2.2.2.1, up0.2.2.2.2.2.2.2.2.2.2.2))) X mv_X5_44 (c_X5_expect F.2.1 D K t o u5 (44 : Int32) _ h) hF ⟨rfl, rfl, Nat.le_of_ble_eq_true rfl, Nat.le_of_ble_eq_true rfl⟩ hT hA hH [8, 9] [0, 1, 2, 3, 4, 5, 6, 7] ⟨rfl, rfl, rfl, rfl, by decide⟩ 8 rfl rfl hl.1 rfl rfl (Nat.le_of_ble_eq_true rfl) dX5_readClient_41 (fun u7 H locs h hH => ?_)
    have hH : HH F D A (CX1 K o0 ((upd up0.1 x1.toNatClampNeg r4), up0.2.1, up0.2.2.1, up0.2.2.2.1, up0.2.2.2.2.1, up0.2.2.2.2.2.1, up0.2.2.2.2.2.2.1, up0.2.2.2.2.2.2.2.1, up0.2.2.2.2.2.2.2.2.1, up0.2.2.2.2.2.2.2.2.2.1, up0.2.2.2.2.2.2.2.2.2.2.1, up0.2.2.2.2.2.2.2.2.2.2.2) ++ CX5 K o u7) H locs := hH
    refine v_aload_n X dX5_readClient_44 rfl (lv_at hl 2 rfl) ?_
    refine v_get (v := .ref (o0 2)) X hH.1 0 rfl fk_X5_71 rfl dX5_readClient_45 ?_
    refine v_iload_n X dX5_readClient_48 rfl (lv_at hl 0 rfl) ?_
    refine v_aload_n X dX5_readClient_49 rfl (lv_at hl 1 rfl) ?_
    refine v_iconst (v := (5 : Int32)) X dX5_readClient_50 (by decide) ?_
    refine wrVI (As := [.int (5 : Int32)]) (rest := [.int x1, .ref (o0 2)]) (wr := (CX1 K o0 ((upd up0.1 x1.toNatClampNeg r4), up0.2.1, up0.2.2.1, up0.2.2.2.1, up0.2.2.2.2.1, up0.2.2.2.2.2.1, up0.2.2.2.2.2.2.1, up0.2.2.2.2.2.2.2.1, up0.2.2.2.2.2.2.2.2.1, up0.2.2.2.2.2.2.2.2.2.1, up0.2.2.2.2.2.2.2.2.2.2.1, up0.2.2.2.2.2.2.2.2.2.2.2))) X mv_X5_48 (c_X5_number F.2.1 D K t o u7 (5 : Int32) _ h) hF ⟨rfl, rfl, Nat.le_of_ble_eq_true rfl, Nat.le_of_ble_eq_true rfl⟩ hT hA hH [8, 9] [0, 1, 2, 3, 4, 5, 6, 7] ⟨rfl, rfl, rfl, rfl, by decide⟩ 8 rfl rfl hl.1 rfl rfl (Nat.le_of_ble_eq_true rfl) dX5_readClient_51 (fun r8 u9 H locs h hH => ?_)
    have hH : HH F D A (CX1 K o0 ((upd up0.1 x1.toNatClampNeg r4), up0.2.1, up0.2.2.1, up0.2.2.2.1, up0.2.2.2.2.1, up0.2.2.2.2.2.1, up0.2.2.2.2.2.2.1, up0.2.2.2.2.2.2.2.1, up0.2.2.2.2.2.2.2.2.1, up0.2.2.2.2.2.2.2.2.2.1, up0.2.2.2.2.2.2.2.2.2.2.1, up0.2.2.2.2.2.2.2.2.2.2.2) ++ CX5 K o u9) H locs := hH
    have hin := h.1
    have h := h.2
    refine v_iast (f := up0.2.1) X hH 2 0 rfl rfl hin dX5_readClient_54 (fun H locs hH => ?_)
    have hH : HH F D A (CX1 K o0 ((upd up0.1 x1.toNatClampNeg r4), (upd up0.2.1 x1.toNatClampNeg r8), up0.2.2.1, up0.2.2.2.1, up0.2.2.2.2.1, up0.2.2.2.2.2.1, up0.2.2.2.2.2.2.1, up0.2.2.2.2.2.2.2.1, up0.2.2.2.2.2.2.2.2.1, up0.2.2.2.2.2.2.2.2.2.1, up0.2.2.2.2.2.2.2.2.2.2.1, up0.2.2.2.2.2.2.2.2.2.2.2) ++ CX5 K o u9) H locs := hH
    refine v_aload_n X dX5_readClient_55 rfl (lv_at hl 1 rfl) ?_
    refine v_bipush (v := (59 : Int32)) X dX5_readClient_56 (by decide) ?_
    refine wrVV (As := [.int (59 : Int32)]) (rest := []) (wr := (CX1 K o0 ((upd up0.1 x1.toNatClampNeg r4), (upd up0.2.1 x1.toNatClampNeg r8), up0.2.2.1, up0.2.2.2.1, up0.2.2.2.2.1, up0.2.2.2.2.2.1, up0.2.2.2.2.2.2.1, up0.2.2.2.2.2.2.2.1, up0.2.2.2.2.2.2.2.2.1, up0.2.2.2.2.2.2.2.2.2.1, up0.2.2.2.2.2.2.2.2.2.2.1, up0.2.2.2.2.2.2.2.2.2.2.2))) X mv_X5_44 (c_X5_expect F.2.1 D K t o u9 (59 : Int32) _ h) hF ⟨rfl, rfl, Nat.le_of_ble_eq_true rfl, Nat.le_of_ble_eq_true rfl⟩ hT hA hH [8, 9] [0, 1, 2, 3, 4, 5, 6, 7] ⟨rfl, rfl, rfl, rfl, by decide⟩ 8 rfl rfl hl.1 rfl rfl (Nat.le_of_ble_eq_true rfl) dX5_readClient_58 (fun u11 H locs h hH => ?_)
    have hH : HH F D A (CX1 K o0 ((upd up0.1 x1.toNatClampNeg r4), (upd up0.2.1 x1.toNatClampNeg r8), up0.2.2.1, up0.2.2.2.1, up0.2.2.2.2.1, up0.2.2.2.2.2.1, up0.2.2.2.2.2.2.1, up0.2.2.2.2.2.2.2.1, up0.2.2.2.2.2.2.2.2.1, up0.2.2.2.2.2.2.2.2.2.1, up0.2.2.2.2.2.2.2.2.2.2.1, up0.2.2.2.2.2.2.2.2.2.2.2) ++ CX5 K o u11) H locs := hH
    refine v_aload_n X dX5_readClient_61 rfl (lv_at hl 2 rfl) ?_
    refine v_iload_n X dX5_readClient_62 rfl (lv_at hl 0 rfl) ?_
    refine v_iconst (v := (1 : Int32)) X dX5_readClient_63 (by decide) ?_
    refine v_iadd X dX5_readClient_64 ?_
    refine v_put X hH 0 rfl fi_X5_65 (Nat.le_of_ble_eq_true rfl) dX5_readClient_65 (fun H locs hH => ?_)
    have hH : HH F D A (CX1 K o0 ((upd up0.1 x1.toNatClampNeg r4), (upd up0.2.1 x1.toNatClampNeg r8), up0.2.2.1, up0.2.2.2.1, up0.2.2.2.2.1, up0.2.2.2.2.2.1, up0.2.2.2.2.2.2.1, (x1 + (1 : Int32)), up0.2.2.2.2.2.2.2.2.1, up0.2.2.2.2.2.2.2.2.2.1, up0.2.2.2.2.2.2.2.2.2.2.1, up0.2.2.2.2.2.2.2.2.2.2.2) ++ CX5 K o u11) H locs := hH
    exact v_wvret X hF (u11, ((upd up0.1 x1.toNatClampNeg r4), (upd up0.2.1 x1.toNatClampNeg r8), up0.2.2.1, up0.2.2.2.1, up0.2.2.2.2.1, up0.2.2.2.2.2.1, up0.2.2.2.2.2.2.1, (x1 + (1 : Int32)), up0.2.2.2.2.2.2.2.2.1, up0.2.2.2.2.2.2.2.2.2.1, up0.2.2.2.2.2.2.2.2.2.2.1, up0.2.2.2.2.2.2.2.2.2.2.2)) (hH.perm [8, 9, 0, 1, 2, 3, 4, 5, 6, 7] rfl rfl) h dX5_readClient_68
  · have h := h.2 c14
    refine v_aload_n X dX5_readClient_10 rfl (lv_at hl 1 rfl) ?_
    refine v_iconst (v := (3 : Int32)) X dX5_readClient_11 (by decide) ?_
    refine v_aload_n X dX5_readClient_12 rfl (lv_at hl 1 rfl) ?_
    refine v_get (v := .int u.2.2.1) X hH.1 0 rfl fk_X5_19 rfl dX5_readClient_13 ?_
    refine wrVV (As := [.int (3 : Int32), .int u.2.2.1]) (rest := []) (wr := (CX1 K o0 up0)) X mv_X5_40 (c_X5_fail F.2.1 D K t o u (3 : Int32) u.2.2.1 _ h) hF ⟨rfl, rfl, Nat.le_of_ble_eq_true rfl, Nat.le_of_ble_eq_true rfl⟩ hT hA hH [0, 1] [2, 3, 4, 5, 6, 7, 8, 9] ⟨rfl, rfl, rfl, rfl, by decide⟩ 0 rfl rfl hl.1 rfl rfl (Nat.le_of_ble_eq_true rfl) dX5_readClient_16 (fun u13 H locs h hH => ?_)
    have hH : HH F D A (CX1 K o0 up0 ++ CX5 K o u13) H locs := hH
    exact v_wvret X hF (u13, up0) (hH.perm [8, 9, 0, 1, 2, 3, 4, 5, 6, 7] rfl rfl) h dX5_readClient_19
def wL_X5_readClients_7 (post : BX5 → BX1 → Prop) (Kx7 : BX5 → BX1 → Prop) : Nat → Int32 → BX5 → BX1 → Prop
  | 0, _, _, _ => False
  | n7 + 1, x5, u6, u7 => ((5 : Int32) ≤ x5 → Kx7 u6 u7) ∧ (¬ (5 : Int32) ≤ x5 → w_X5_next u6 (fun r11 => (r11 = (119 : Int32) → w_X5_readClient u6 u7 (fun u13 u14 => wL_X5_readClients_7 post Kx7 n7 (x5 + (1 : Int32)) u13 u14)) ∧ (¬ r11 = (119 : Int32) → Kx7 u6 u7)))
def w_X5_readClients (u : BX5) (up0 : BX1) (post : BX5 → BX1 → Prop) : Prop := w_X5_readClient u up0 (fun u2 u3 => ∃ n7, wL_X5_readClients_7  post (fun (u8 : BX5) (u9 : BX1) => post u8 u9) n7 (0 : Int32) u2 u3)
set_option maxHeartbeats 4000000 in
set_option maxRecDepth 100000 in
theorem c_X5_readClients (l : Launch) (D : va_G) (K : Nat → ClassId) (t : Nat → Nat) (o : Nat → Nat) (o0 : Nat → Nat) (u : BX5) (up0 : BX1) (post : BX5 → BX1 → Prop) (h : w_X5_readClients u up0 post) : WrV l yX5_readClients cX5_readClients 3 ({ frames := 3, cells := 0, slots := 0, locals := 86 } : Room) D (TY K) t (CX5 K o u ++ CX1 K o0 up0) [.ref (o 0), .ref (o0 0)] (fun z : BX5 × BX1 => CX5 K o z.1 ++ CX1 K o0 z.2) (fun z : BX5 × BX1 => post z.1 z.2) := by
  refine WrV.mk rfl (Nat.le_of_ble_eq_true rfl) ?_
  intro F ls A _ hF X hH hA hl hT
  obtain ⟨H, hH0⟩ : ∃ z : Heap, z = (fxS F).heap := ⟨_, rfl⟩
  obtain ⟨locs, hL0⟩ : ∃ z : List Loc, z = [] := ⟨_, rfl⟩
  have hH : HH F D A (CX5 K o u ++ CX1 K o0 up0) H locs := by rw [hH0, hL0]; exact hH
  suffices goal : V F (WQV F D (TY K) A (fun z : BX5 × BX1 => CX5 K o z.1 ++ CX1 K o0 z.2) (fun z : BX5 × BX1 => post z.1 z.2)) H locs 0 ls [] by rw [hH0, hL0] at goal; exact goal
  clear hH0 hL0
  have X : Cx F cX5_readClients 3 RX5 D (TY K) := X
  have hl : lv_has ls 3 [(0, .ref (o 0)), (1, .ref (o0 0))] := hl
  unfold w_X5_readClients at h
  refine v_aload_n X dX5_readClients_0 rfl (lv_at hl 0 rfl) ?_
  refine v_aload_n X dX5_readClients_1 rfl (lv_at hl 1 rfl) ?_
  refine wrVV (As := [.ref (o0 0)]) (rest := []) (wr := ([] : va_W)) X mv_X5_58 (c_X5_readClient F.2.1 D K t o o0 u up0 _ h) hF ⟨rfl, rfl, Nat.le_of_ble_eq_true rfl, Nat.le_of_ble_eq_true rfl⟩ hT hA hH [0, 1, 2, 3, 4, 5, 6, 7, 8, 9] [] ⟨rfl, rfl, rfl, rfl, by decide⟩ 0 rfl rfl hl.1 rfl rfl (Nat.le_of_ble_eq_true rfl) dX5_readClients_2 (fun u4 H locs h hH => ?_)
  obtain ⟨u2, u3⟩ := u4
  have hH : HH F D A (CX5 K o u2 ++ CX1 K o0 u3) H locs := hH
  refine v_iconst (v := (0 : Int32)) X dX5_readClients_5 (by decide) ?_
  refine v_istore_n (lv' := [(2, .int (0 : Int32)), (0, .ref (o 0)), (1, .ref (o0 0))]) X dX5_readClients_6 rfl hl (by decide) rfl (fun ls hl => ?_)
  obtain ⟨Kx7, hK7⟩ : ∃ f : BX5 → BX1 → Prop, f = (fun (u8 : BX5) (u9 : BX1) => post u8 u9) := ⟨_, rfl⟩
  have kx10 : ∀ (u8 : BX5) (u9 : BX1) (ls : Array Slot) (H : Heap) (locs : List Loc), (Kx7 u8 u9) → lv_has ls 3 [] → HH F D A (CX5 K o u8 ++ CX1 K o0 u9) H locs → V F (WQV F D (TY K) A (fun z : BX5 × BX1 => CX5 K o z.1 ++ CX1 K o0 z.2) (fun z : BX5 × BX1 => post z.1 z.2)) H locs 32 ls [] := by
    intro u8 u9 ls H locs h hl hH
    have h : post u8 u9 := by rw [hK7] at h; exact h
    exact v_wvret X hF (u8, u9) hH h dX5_readClients_32
  have lp7 : ∀ (n7 : Nat) (x5 : Int32) (u6 : BX5) (u7 : BX1) (ls : Array Slot) (H : Heap) (locs : List Loc), wL_X5_readClients_7  post Kx7 n7 x5 u6 u7 → lv_has ls 3 [(0, .ref (o 0)), (1, .ref (o0 0)), (2, .int x5)] → HH F D A (CX5 K o u6 ++ CX1 K o0 u7) H locs → V F (WQV F D (TY K) A (fun z : BX5 × BX1 => CX5 K o z.1 ++ CX1 K o0 z.2) (fun z : BX5 × BX1 => post z.1 z.2)) H locs 7 ls [] := by
    intro n7
    induction n7 with
    | zero => intro x5 u6 u7 ls H locs h hl hH; exact h.elim
    | succ n7 ih7 =>
      intro x5 u6 u7 ls H locs h hl hH
      refine v_iload_n X dX5_readClients_7 rfl (lv_at hl 2 rfl) ?_
      refine v_iconst (v := (5 : Int32)) X dX5_readClients_8 (by decide) ?_
      refine v_icmp_ge (tgt := 32) X dX5_readClients_9 (by decide) (fun c17 => ?_) (fun c17 => ?_)
      · have h := h.1 c17
        exact kx10 u6 u7 ls H locs h (lv_sub hl [] rfl) hH
      · have h := h.2 c17
        refine v_aload_n X dX5_readClients_12 rfl (lv_at hl 0 rfl) ?_
        refine rdV (As := []) (rest := []) X mv_X5_61 (c_X5_next F.2.1 D K t o u6 _ h) hF ⟨rfl, rfl, Nat.le_of_ble_eq_true rfl, Nat.le_of_ble_eq_true rfl⟩ (stW hT hH) hH.1 [0, 1] rfl 0 rfl rfl hl.1 rfl rfl (Nat.le_of_ble_eq_true rfl) dX5_readClients_13 (fun r11 h => ?_)
        refine v_bipush (v := (119 : Int32)) X dX5_readClients_16 (by decide) ?_
        refine v_icmp_ne (tgt := 32) X dX5_readClients_18 (by decide) (fun c16 => ?_) (fun c16 => ?_)
        · have h := h.2 c16
          exact kx10 u6 u7 ls H locs h (lv_sub hl [] rfl) hH
        · have h := h.1 c16
          refine v_aload_n X dX5_readClients_21 rfl (lv_at hl 0 rfl) ?_
          refine v_aload_n X dX5_readClients_22 rfl (lv_at hl 1 rfl) ?_
          refine wrVV (As := [.ref (o0 0)]) (rest := []) (wr := ([] : va_W)) X mv_X5_58 (c_X5_readClient F.2.1 D K t o o0 u6 u7 _ h) hF ⟨rfl, rfl, Nat.le_of_ble_eq_true rfl, Nat.le_of_ble_eq_true rfl⟩ hT hA hH [0, 1, 2, 3, 4, 5, 6, 7, 8, 9] [] ⟨rfl, rfl, rfl, rfl, by decide⟩ 0 rfl rfl hl.1 rfl rfl (Nat.le_of_ble_eq_true rfl) dX5_readClients_23 (fun u15 H locs h hH => ?_)
          obtain ⟨u13, u14⟩ := u15
          have hH : HH F D A (CX5 K o u13 ++ CX1 K o0 u14) H locs := hH
          refine v_iinc (v := (x5 + (1 : Int32))) (lv' := [(2, .int (x5 + (1 : Int32))), (0, .ref (o 0)), (1, .ref (o0 0))]) X dX5_readClients_26 hl (k := 2) rfl rfl (by decide) rfl (fun ls hl => ?_)
          refine v_goto (tgt := 7) X dX5_readClients_29 (by decide) ?_
          exact ih7 (x5 + (1 : Int32)) u13 u14 ls H locs h (lv_sub hl [1, 2, 0] rfl) hH
  obtain ⟨n7, h⟩ := h
  have h : wL_X5_readClients_7  post Kx7 n7 (0 : Int32) u2 u3 := by rw [hK7]; exact h
  exact lp7 n7 (0 : Int32) u2 u3 ls H locs h (lv_sub hl [1, 2, 0] rfl) hH
def w_X5_kindTold (a0 : Int32) (post : Int32 → Prop) : Prop := (a0 = (99 : Int32) → post (2 : Int32)) ∧ (¬ a0 = (99 : Int32) → (a0 = (100 : Int32) → post (0 : Int32)) ∧ (¬ a0 = (100 : Int32) → (a0 = (101 : Int32) → post (0 : Int32)) ∧ (¬ a0 = (101 : Int32) → (a0 = (102 : Int32) → post (0 : Int32)) ∧ (¬ a0 = (102 : Int32) → (a0 = (103 : Int32) → post (4 : Int32)) ∧ (¬ a0 = (103 : Int32) → (a0 = (104 : Int32) → post (0 : Int32)) ∧ (¬ a0 = (104 : Int32) → (a0 = (105 : Int32) → post (0 : Int32)) ∧ (¬ a0 = (105 : Int32) → (a0 = (106 : Int32) → post (0 : Int32)) ∧ (¬ a0 = (106 : Int32) → (a0 = (107 : Int32) → post (0 : Int32)) ∧ (¬ a0 = (107 : Int32) → (a0 = (108 : Int32) → post (0 : Int32)) ∧ (¬ a0 = (108 : Int32) → (a0 = (109 : Int32) → post (3 : Int32)) ∧ (¬ a0 = (109 : Int32) → (a0 = (110 : Int32) → post (5 : Int32)) ∧ (¬ a0 = (110 : Int32) → (a0 = (111 : Int32) → post (1 : Int32)) ∧ (¬ a0 = (111 : Int32) → post (0 : Int32))))))))))))))
set_option maxHeartbeats 4000000 in
set_option maxRecDepth 100000 in
theorem c_X5_kindTold (l : Launch) (D : va_G) (K : Nat → ClassId) (t : Nat → Nat) (a0 : Int32) (post : Int32 → Prop) (h : w_X5_kindTold a0 post) : RdM l yX5_kindTold cX5_kindTold 1 (some .int) ({ frames := 0, cells := 0, slots := 0, locals := 0 } : Room) D (TY K) t ([] : va_W) [.int a0] post := by
  refine RdM.mk rfl (Nat.le_of_ble_eq_true rfl) ?_
  intro F ls _ hF X hP hl hT
  have X : Cx F cX5_kindTold 1 RX5 D (TY K) := X
  have hl : lv_has ls 1 [(0, .int a0)] := hl
  unfold w_X5_kindTold at h
  refine v_iload_n X dX5_kindTold_0 rfl (lv_at hl 0 rfl) ?_
  by_cases c1 : a0 = (99 : Int32)
  · have h := h.1 c1
    refine v_tableIn (tgt := 70) (off := 69) X dX5_kindTold_1 (by rw [c1]; decide) (by rw [c1]; decide) (by rw [c1]; rfl) (by decide) ?_
    refine v_iconst (v := (2 : Int32)) X dX5_kindTold_70 (by decide) ?_
    exact v_riret X hF h dX5_kindTold_71
  · have h := h.2 c1
    by_cases c2 : a0 = (100 : Int32)
    · have h := h.1 c2
      refine v_tableIn (tgt := 78) (off := 77) X dX5_kindTold_1 (by rw [c2]; decide) (by rw [c2]; decide) (by rw [c2]; rfl) (by decide) ?_
      refine v_iconst (v := (0 : Int32)) X dX5_kindTold_78 (by decide) ?_
      exact v_riret X hF h dX5_kindTold_79
    · have h := h.2 c2
      by_cases c3 : a0 = (101 : Int32)
      · have h := h.1 c3
        refine v_tableIn (tgt := 78) (off := 77) X dX5_kindTold_1 (by rw [c3]; decide) (by rw [c3]; decide) (by rw [c3]; rfl) (by decide) ?_
        refine v_iconst (v := (0 : Int32)) X dX5_kindTold_78 (by decide) ?_
        exact v_riret X hF h dX5_kindTold_79
      · have h := h.2 c3
        by_cases c4 : a0 = (102 : Int32)
        · have h := h.1 c4
          refine v_tableIn (tgt := 78) (off := 77) X dX5_kindTold_1 (by rw [c4]; decide) (by rw [c4]; decide) (by rw [c4]; rfl) (by decide) ?_
          refine v_iconst (v := (0 : Int32)) X dX5_kindTold_78 (by decide) ?_
          exact v_riret X hF h dX5_kindTold_79
        · have h := h.2 c4
          by_cases c5 : a0 = (103 : Int32)
          · have h := h.1 c5
            refine v_tableIn (tgt := 74) (off := 73) X dX5_kindTold_1 (by rw [c5]; decide) (by rw [c5]; decide) (by rw [c5]; rfl) (by decide) ?_
            refine v_iconst (v := (4 : Int32)) X dX5_kindTold_74 (by decide) ?_
            exact v_riret X hF h dX5_kindTold_75
          · have h := h.2 c5
            by_cases c6 : a0 = (104 : Int32)
            · have h := h.1 c6
              refine v_tableIn (tgt := 78) (off := 77) X dX5_kindTold_1 (by rw [c6]; decide) (by rw [c6]; decide) (by rw [c6]; rfl) (by decide) ?_
              refine v_iconst (v := (0 : Int32)) X dX5_kindTold_78 (by decide) ?_
              exact v_riret X hF h dX5_kindTold_79
            · have h := h.2 c6
              by_cases c7 : a0 = (105 : Int32)
              · have h := h.1 c7
                refine v_tableIn (tgt := 78) (off := 77) X dX5_kindTold_1 (by rw [c7]; decide) (by rw [c7]; decide) (by rw [c7]; rfl) (by decide) ?_
                refine v_iconst (v := (0 : Int32)) X dX5_kindTold_78 (by decide) ?_
                exact v_riret X hF h dX5_kindTold_79
              · have h := h.2 c7
                by_cases c8 : a0 = (106 : Int32)
                · have h := h.1 c8
                  refine v_tableIn (tgt := 78) (off := 77) X dX5_kindTold_1 (by rw [c8]; decide) (by rw [c8]; decide) (by rw [c8]; rfl) (by decide) ?_
                  refine v_iconst (v := (0 : Int32)) X dX5_kindTold_78 (by decide) ?_
                  exact v_riret X hF h dX5_kindTold_79
                · have h := h.2 c8
                  by_cases c9 : a0 = (107 : Int32)
                  · have h := h.1 c9
                    refine v_tableIn (tgt := 78) (off := 77) X dX5_kindTold_1 (by rw [c9]; decide) (by rw [c9]; decide) (by rw [c9]; rfl) (by decide) ?_
                    refine v_iconst (v := (0 : Int32)) X dX5_kindTold_78 (by decide) ?_
                    exact v_riret X hF h dX5_kindTold_79
                  · have h := h.2 c9
                    by_cases c10 : a0 = (108 : Int32)
                    · have h := h.1 c10
                      refine v_tableIn (tgt := 78) (off := 77) X dX5_kindTold_1 (by rw [c10]; decide) (by rw [c10]; decide) (by rw [c10]; rfl) (by decide) ?_
                      refine v_iconst (v := (0 : Int32)) X dX5_kindTold_78 (by decide) ?_
                      exact v_riret X hF h dX5_kindTold_79
                    · have h := h.2 c10
                      by_cases c11 : a0 = (109 : Int32)
                      · have h := h.1 c11
                        refine v_tableIn (tgt := 72) (off := 71) X dX5_kindTold_1 (by rw [c11]; decide) (by rw [c11]; decide) (by rw [c11]; rfl) (by decide) ?_
                        refine v_iconst (v := (3 : Int32)) X dX5_kindTold_72 (by decide) ?_
                        exact v_riret X hF h dX5_kindTold_73
                      · have h := h.2 c11
                        by_cases c12 : a0 = (110 : Int32)
                        · have h := h.1 c12
                          refine v_tableIn (tgt := 76) (off := 75) X dX5_kindTold_1 (by rw [c12]; decide) (by rw [c12]; decide) (by rw [c12]; rfl) (by decide) ?_
                          refine v_iconst (v := (5 : Int32)) X dX5_kindTold_76 (by decide) ?_
                          exact v_riret X hF h dX5_kindTold_77
                        · have h := h.2 c12
                          by_cases c13 : a0 = (111 : Int32)
                          · have h := h.1 c13
                            refine v_tableIn (tgt := 68) (off := 67) X dX5_kindTold_1 (by rw [c13]; decide) (by rw [c13]; decide) (by rw [c13]; rfl) (by decide) ?_
                            refine v_iconst (v := (1 : Int32)) X dX5_kindTold_68 (by decide) ?_
                            exact v_riret X hF h dX5_kindTold_69
                          · have h := h.2 c13
                            refine v_tableOut (tgt := 78) X dX5_kindTold_1 (by have e0 : a0.toInt ≠ 99 := fun q => c1 (Int32.toInt_inj.mp (by rw [q]; rfl)); have e1 : a0.toInt ≠ 100 := fun q => c2 (Int32.toInt_inj.mp (by rw [q]; rfl)); have e2 : a0.toInt ≠ 101 := fun q => c3 (Int32.toInt_inj.mp (by rw [q]; rfl)); have e3 : a0.toInt ≠ 102 := fun q => c4 (Int32.toInt_inj.mp (by rw [q]; rfl)); have e4 : a0.toInt ≠ 103 := fun q => c5 (Int32.toInt_inj.mp (by rw [q]; rfl)); have e5 : a0.toInt ≠ 104 := fun q => c6 (Int32.toInt_inj.mp (by rw [q]; rfl)); have e6 : a0.toInt ≠ 105 := fun q => c7 (Int32.toInt_inj.mp (by rw [q]; rfl)); have e7 : a0.toInt ≠ 106 := fun q => c8 (Int32.toInt_inj.mp (by rw [q]; rfl)); have e8 : a0.toInt ≠ 107 := fun q => c9 (Int32.toInt_inj.mp (by rw [q]; rfl)); have e9 : a0.toInt ≠ 108 := fun q => c10 (Int32.toInt_inj.mp (by rw [q]; rfl)); have e10 : a0.toInt ≠ 109 := fun q => c11 (Int32.toInt_inj.mp (by rw [q]; rfl)); have e11 : a0.toInt ≠ 110 := fun q => c12 (Int32.toInt_inj.mp (by rw [q]; rfl)); have e12 : a0.toInt ≠ 111 := fun q => c13 (Int32.toInt_inj.mp (by rw [q]; rfl)); omega) (by decide) ?_
                            refine v_iconst (v := (0 : Int32)) X dX5_kindTold_78 (by decide) ?_
                            exact v_riret X hF h dX5_kindTold_79
def w_X5_hirer (u : BX5) (up0 : BX1) (post : Int32 → BX5 → Prop) : Prop := ∀ x1 : Int32, x1 = u.2.2.1 → w_X5_number u (5 : Int32) (fun r2 u3 => (r2 = (5 : Int32) → post r2 u3) ∧ (¬ r2 = (5 : Int32) → w_X1_hasClient up0 r2 (fun r4 => (r4 = 0 → w_X5_fail u3 (2 : Int32) x1 (fun u6 => post r2 u6)) ∧ (¬ r4 = 0 → post r2 u3))))
set_option maxHeartbeats 4000000 in
set_option maxRecDepth 100000 in
theorem c_X5_hirer (l : Launch) (D : va_G) (K : Nat → ClassId) (t : Nat → Nat) (o : Nat → Nat) (o0 : Nat → Nat) (u : BX5) (up0 : BX1) (post : Int32 → BX5 → Prop) (h : w_X5_hirer u up0 post) : WrI l yX5_hirer cX5_hirer 4 (some .int) ({ frames := 2, cells := 0, slots := 0, locals := 64 } : Room) D (TY K) t (CX5 K o u ++ CX1 K o0 up0) [.ref (o 0), .ref (o0 0)] (fun z : BX5 => CX5 K o z ++ CX1 K o0 up0) (fun (r : Int32) (z : BX5) => post r z) := by
  refine WrI.mk rfl (Nat.le_of_ble_eq_true rfl) ?_
  intro F ls A _ hF X hH hA hl hT
  obtain ⟨H, hH0⟩ : ∃ z : Heap, z = (fxS F).heap := ⟨_, rfl⟩
  obtain ⟨locs, hL0⟩ : ∃ z : List Loc, z = [] := ⟨_, rfl⟩
  have hH : HH F D A (CX5 K o u ++ CX1 K o0 up0) H locs := by rw [hH0, hL0]; exact hH
  suffices goal : V F (WQI F D (TY K) A (fun z : BX5 => CX5 K o z ++ CX1 K o0 up0) (fun (r : Int32) (z : BX5) => post r z)) H locs 0 ls [] by rw [hH0, hL0] at goal; exact goal
  clear hH0 hL0
  have X : Cx F cX5_hirer 4 RX5 D (TY K) := X
  have hl : lv_has ls 4 [(0, .ref (o 0)), (1, .ref (o0 0))] := hl
  unfold w_X5_hirer at h
  refine v_aload_n X dX5_hirer_0 rfl (lv_at hl 0 rfl) ?_
  refine v_get (v := .int u.2.2.1) X hH.1 0 rfl fk_X5_19 rfl dX5_hirer_1 ?_
  refine v_topi (fun x1 ex1 => ?_)
  have h := h x1 ex1
  refine v_istore_n (lv' := [(2, .int x1), (0, .ref (o 0)), (1, .ref (o0 0))]) X dX5_hirer_4 rfl hl (by decide) rfl (fun ls hl => ?_)
  refine v_aload_n X dX5_hirer_5 rfl (lv_at hl 1 rfl) ?_
  refine v_iconst (v := (5 : Int32)) X dX5_hirer_6 (by decide) ?_
  refine wrVI (As := [.int (5 : Int32)]) (rest := []) (wr := (CX1 K o0 up0)) X mv_X5_48 (c_X5_number F.2.1 D K t o u (5 : Int32) _ h) hF ⟨rfl, rfl, Nat.le_of_ble_eq_true rfl, Nat.le_of_ble_eq_true rfl⟩ hT hA hH [0, 1] [2, 3, 4, 5, 6, 7, 8, 9] ⟨rfl, rfl, rfl, rfl, by decide⟩ 0 rfl rfl hl.1 rfl rfl (Nat.le_of_ble_eq_true rfl) dX5_hirer_7 (fun r2 u3 H locs h hH => ?_)
  have hH : HH F D A (CX1 K o0 up0 ++ CX5 K o u3) H locs := hH
  refine v_istore_n (lv' := [(3, .int r2), (2, .int x1), (0, .ref (o 0)), (1, .ref (o0 0))]) X dX5_hirer_10 rfl hl (by decide) rfl (fun ls hl => ?_)
  refine v_iload_n X dX5_hirer_11 rfl (lv_at hl 0 rfl) ?_
  refine v_iconst (v := (5 : Int32)) X dX5_hirer_12 (by decide) ?_
  refine v_icmp_eq (tgt := 30) X dX5_hirer_13 (by decide) (fun c8 => ?_) (fun c8 => ?_)
  · have h := h.1 c8
    refine v_iload_n X dX5_hirer_30 rfl (lv_at hl 0 rfl) ?_
    exact v_wiret X hF u3 (hH.perm [8, 9, 0, 1, 2, 3, 4, 5, 6, 7] rfl rfl) h dX5_hirer_31
  · have h := h.2 c8
    refine v_aload_n X dX5_hirer_16 rfl (lv_at hl 3 rfl) ?_
    refine v_iload_n X dX5_hirer_17 rfl (lv_at hl 0 rfl) ?_
    refine rdV (As := [.int r2]) (rest := []) X mv_X5_102 (c_X1_hasClient F.2.1 D K t o0 up0 r2 _ h) hF ⟨rfl, rfl, Nat.le_of_ble_eq_true rfl, Nat.le_of_ble_eq_true rfl⟩ (stW hT hH) hH.1 [0, 1, 2, 3, 4, 5, 6, 7] rfl 0 rfl rfl hl.1 rfl rfl (Nat.le_of_ble_eq_true rfl) dX5_hirer_18 (fun r4 h => ?_)
    refine v_if_ne (tgt := 30) X dX5_hirer_21 (by decide) (fun c7 => ?_) (fun c7 => ?_)
    · have h := h.2 c7
      refine v_iload_n X dX5_hirer_30 rfl (lv_at hl 0 rfl) ?_
      exact v_wiret X hF u3 (hH.perm [8, 9, 0, 1, 2, 3, 4, 5, 6, 7] rfl rfl) h dX5_hirer_31
    · have h := h.1 c7
      refine v_aload_n X dX5_hirer_24 rfl (lv_at hl 2 rfl) ?_
      refine v_iconst (v := (2 : Int32)) X dX5_hirer_25 (by decide) ?_
      refine v_iload_n X dX5_hirer_26 rfl (lv_at hl 1 rfl) ?_
      refine wrVV (As := [.int (2 : Int32), .int x1]) (rest := []) (wr := (CX1 K o0 up0)) X mv_X5_40 (c_X5_fail F.2.1 D K t o u3 (2 : Int32) x1 _ h) hF ⟨rfl, rfl, Nat.le_of_ble_eq_true rfl, Nat.le_of_ble_eq_true rfl⟩ hT hA hH [8, 9] [0, 1, 2, 3, 4, 5, 6, 7] ⟨rfl, rfl, rfl, rfl, by decide⟩ 8 rfl rfl hl.1 rfl rfl (Nat.le_of_ble_eq_true rfl) dX5_hirer_27 (fun u6 H locs h hH => ?_)
      have hH : HH F D A (CX1 K o0 up0 ++ CX5 K o u6) H locs := hH
      refine v_iload_n X dX5_hirer_30 rfl (lv_at hl 0 rfl) ?_
      exact v_wiret X hF u6 (hH.perm [8, 9, 0, 1, 2, 3, 4, 5, 6, 7] rfl rfl) h dX5_hirer_31
def w_X5_readWaker (u : BX5) (up0 : BX1) (post : BX5 → BX1 → Prop) : Prop := ∀ x1 : Int32, x1 = up0.2.2.2.2.2.2.2.2.1 → (x1 < (4 : Int32) → w_X5_next u (fun r2 => w_X5_kindTold r2 (fun r3 => vp_in x1 4 ∧ (w_X5_number (u.1, u.2.1, (u.2.2.1 + (1 : Int32)), u.2.2.2.1, u.2.2.2.2) (9 : Int32) (fun r4 u5 => vp_in x1 4 ∧ (w_X5_expect u5 (44 : Int32) (fun u7 => w_X5_number u7 (5 : Int32) (fun r8 u9 => vp_in x1 4 ∧ (w_X5_expect u9 (44 : Int32) (fun u11 => w_X5_hirer u11 (up0.1, up0.2.1, (upd up0.2.2.1 x1.toNatClampNeg r3), (upd up0.2.2.2.1 x1.toNatClampNeg r4), (upd up0.2.2.2.2.1 x1.toNatClampNeg r8), up0.2.2.2.2.2.1, up0.2.2.2.2.2.2.1, up0.2.2.2.2.2.2.2.1, up0.2.2.2.2.2.2.2.2.1, up0.2.2.2.2.2.2.2.2.2.1, up0.2.2.2.2.2.2.2.2.2.2.1, up0.2.2.2.2.2.2.2.2.2.2.2) (fun r12 u13 => vp_in x1 4 ∧ (w_X5_expect u13 (59 : Int32) (fun u15 => vp_in x1 4 ∧ (post u15 (up0.1, up0.2.1, (upd up0.2.2.1 x1.toNatClampNeg r3), (upd up0.2.2.2.1 x1.toNatClampNeg r4), (upd up0.2.2.2.2.1 x1.toNatClampNeg r8), (upd up0.2.2.2.2.2.1 x1.toNatClampNeg r12), (upd up0.2.2.2.2.2.2.1 x1.toNatClampNeg (0 : Int32)), up0.2.2.2.2.2.2.2.1, (x1 + (1 : Int32)), up0.2.2.2.2.2.2.2.2.2.1, up0.2.2.2.2.2.2.2.2.2.2.1, up0.2.2.2.2.2.2.2.2.2.2.2))))))))))))))) ∧ (¬ x1 < (4 : Int32) → w_X5_fail u (3 : Int32) u.2.2.1 (fun u17 => post u17 up0))
set_option maxHeartbeats 4000000 in
set_option maxRecDepth 100000 in
theorem c_X5_readWaker (l : Launch) (D : va_G) (K : Nat → ClassId) (t : Nat → Nat) (o : Nat → Nat) (o0 : Nat → Nat) (u : BX5) (up0 : BX1) (post : BX5 → BX1 → Prop) (h : w_X5_readWaker u up0 post) : WrV l yX5_readWaker cX5_readWaker 3 ({ frames := 3, cells := 0, slots := 0, locals := 87 } : Room) D (TY K) t (CX5 K o u ++ CX1 K o0 up0) [.ref (o 0), .ref (o0 0)] (fun z : BX5 × BX1 => CX5 K o z.1 ++ CX1 K o0 z.2) (fun z : BX5 × BX1 => post z.1 z.2) := by
  refine WrV.mk rfl (Nat.le_of_ble_eq_true rfl) ?_
  intro F ls A _ hF X hH hA hl hT
  obtain ⟨H, hH0⟩ : ∃ z : Heap, z = (fxS F).heap := ⟨_, rfl⟩
  obtain ⟨locs, hL0⟩ : ∃ z : List Loc, z = [] := ⟨_, rfl⟩
  have hH : HH F D A (CX5 K o u ++ CX1 K o0 up0) H locs := by rw [hH0, hL0]; exact hH
  suffices goal : V F (WQV F D (TY K) A (fun z : BX5 × BX1 => CX5 K o z.1 ++ CX1 K o0 z.2) (fun z : BX5 × BX1 => post z.1 z.2)) H locs 0 ls [] by rw [hH0, hL0] at goal; exact goal
  clear hH0 hL0
  have X : Cx F cX5_readWaker 3 RX5 D (TY K) := X
  have hl : lv_has ls 3 [(0, .ref (o 0)), (1, .ref (o0 0))] := hl
  unfold w_X5_readWaker at h
  refine v_aload_n X dX5_readWaker_0 rfl (lv_at hl 1 rfl) ?_
  refine v_get (v := .int up0.2.2.2.2.2.2.2.2.1) X hH.1 2 rfl fk_X5_80 rfl dX5_readWaker_1 ?_
  refine v_topi (fun x1 ex1 => ?_)
  have h := h x1 ex1
  refine v_istore_n (lv' := [(2, .int x1), (0, .ref (o 0)), (1, .ref (o0 0))]) X dX5_readWaker_4 rfl hl (by decide) rfl (fun ls hl => ?_)
  refine v_iload_n X dX5_readWaker_5 rfl (lv_at hl 0 rfl) ?_
  refine v_iconst (v := (4 : Int32)) X dX5_readWaker_6 (by decide) ?_
  refine v_icmp_lt (tgt := 20) X dX5_readWaker_7 (by decide) (fun c18 => ?_) (fun c18 => ?_)
  · have h := h.1 c18
    refine v_aload_n X dX5_readWaker_20 rfl (lv_at hl 2 rfl) ?_
    refine v_get (v := .ref (o0 3)) X hH.1 2 rfl fk_X5_83 rfl dX5_readWaker_21 ?_
    refine v_iload_n X dX5_readWaker_24 rfl (lv_at hl 0 rfl) ?_
    refine v_aload_n X dX5_readWaker_25 rfl (lv_at hl 1 rfl) ?_
    refine rdV (As := []) (rest := [.int x1, .ref (o0 3)]) X mv_X5_61 (c_X5_next F.2.1 D K t o u _ h) hF ⟨rfl, rfl, Nat.le_of_ble_eq_true rfl, Nat.le_of_ble_eq_true rfl⟩ (stW hT hH) hH.1 [0, 1] rfl 0 rfl rfl hl.1 rfl rfl (Nat.le_of_ble_eq_true rfl) dX5_readWaker_26 (fun r2 h => ?_)
    refine rdS (As := [.int r2]) (rest := [.int x1, .ref (o0 3)]) X ms_X5_74 (c_X5_kindTold F.2.1 D K t r2 _ h) hF ⟨rfl, rfl, Nat.le_of_ble_eq_true rfl, Nat.le_of_ble_eq_true rfl⟩ (stW hT hH) hH.1 [] rfl hl.1 rfl rfl (Nat.le_of_ble_eq_true rfl) dX5_readWaker_29 (fun r3 h => ?_)
    have hin := h.1
    have h := h.2
    refine v_iast (f := up0.2.2.1) X hH 5 0 rfl rfl hin dX5_readWaker_32 (fun H locs hH => ?_)
    have hH : HH F D A (CX5 K o u ++ CX1 K o0 (up0.1, up0.2.1, (upd up0.2.2.1 x1.toNatClampNeg r3), up0.2.2.2.1, up0.2.2.2.2.1, up0.2.2.2.2.2.1, up0.2.2.2.2.2.2.1, up0.2.2.2.2.2.2.2.1, up0.2.2.2.2.2.2.2.2.1, up0.2.2.2.2.2.2.2.2.2.1, up0.2.2.2.2.2.2.2.2.2.2.1, up0.2.2.2.2.2.2.2.2.2.2.2)) H locs := hH
    refine v_aload_n X dX5_readWaker_33 rfl (lv_at hl 1 rfl) ?_
    refine v_dup X dX5_readWaker_34 rfl ?_
    refine v_get (v := .int u.2.2.1) X hH.1 0 rfl fk_X5_19 rfl dX5_readWaker_35 ?_
    refine v_iconst (v := (1 : Int32)) X dX5_readWaker_38 (by decide) ?_
    refine v_iadd X dX5_readWaker_39 ?_
    refine v_put X hH 0 rfl fi_X5_19 (Nat.le_of_ble_eq_true rfl) dX5_readWaker_40 (fun H locs hH => ?_)
    have hH : HH F D A (CX5 K o (u.1, u.2.1, (u.2.2.1 + (1 : Int32)), u.2.2.2.1, u.2.2.2.2) ++ CX1 K o0 (up0.1, up0.2.1, (upd up0.2.2.1 x1.toNatClampNeg r3), up0.2.2.2.1, up0.2.2.2.2.1, up0.2.2.2.2.2.1, up0.2.2.2.2.2.2.1, up0.2.2.2.2.2.2.2.1, up0.2.2.2.2.2.2.2.2.1, up0.2.2.2.2.2.2.2.2.2.1, up0.2.2.2.2.2.2.2.2.2.2.1, up0.2.2.2.2.2.2.2.2.2.2.2)) H locs := hH
    refine v_aload_n X dX5_readWaker_43 rfl (lv_at hl 2 rfl) ?_
    refine v_get (v := .ref (o0 4)) X hH.1 2 rfl fk_X5_86 rfl dX5_readWaker_44 ?_
    refine v_iload_n X dX5_readWaker_47 rfl (lv_at hl 0 rfl) ?_
    refine v_aload_n X dX5_readWaker_48 rfl (lv_at hl 1 rfl) ?_
    refine v_bipush (v := (9 : Int32)) X dX5_readWaker_49 (by decide) ?_
    refine wrVI (As := [.int (9 : Int32)]) (rest := [.int x1, .ref (o0 4)]) (wr := (CX1 K o0 (up0.1, up0.2.1, (upd up0.2.2.1 x1.toNatClampNeg r3), up0.2.2.2.1, up0.2.2.2.2.1, up0.2.2.2.2.2.1, up0.2.2.2.2.2.2.1, up0.2.2.2.2.2.2.2.1, up0.2.2.2.2.2.2.2.2.1, up0.2.2.2.2.2.2.2.2.2.1, up0.2.2.2.2.2.2.2.2.2.2.1, up0.2.2.2.2.2.2.2.2.2.2.2))) X mv_X5_48 (c_X5_number F.2.1 D K t o (u.1, u.2.1, (u.2.2.1 + (1 : Int32)), u.2.2.2.1, u.2.2.2.2) (9 : Int32) _ h) hF ⟨rfl, rfl, Nat.le_of_ble_eq_true rfl, Nat.le_of_ble_eq_true rfl⟩ hT hA hH [0, 1] [2, 3, 4, 5, 6, 7, 8, 9] ⟨rfl, rfl, rfl, rfl, by decide⟩ 0 rfl rfl hl.1 rfl rfl (Nat.le_of_ble_eq_true rfl) dX5_readWaker_51 (fun r4 u5 H locs h hH => ?_)
    have hH : HH F D A (CX1 K o0 (up0.1, up0.2.1, (upd up0.2.2.1 x1.toNatClampNeg r3), up0.2.2.2.1, up0.2.2.2.2.1, up0.2.2.2.2.2.1, up0.2.2.2.2.2.2.1, up0.2.2.2.2.2.2.2.1, up0.2.2.2.2.2.2.2.2.1, up0.2.2.2.2.2.2.2.2.2.1, up0.2.2.2.2.2.2.2.2.2.2.1, up0.2.2.2.2.2.2.2.2.2.2.2) ++ CX5 K o u5) H locs := hH
    have hin := h.1
    have h := h.2
    refine v_iast (f := up0.2.2.2.1) X hH 4 0 rfl rfl hin dX5_readWaker_54 (fun H locs hH => ?_)
    have hH : HH F D A (CX1 K o0 (up0.1, up0.2.1, (upd up0.2.2.1 x1.toNatClampNeg r3), (upd up0.2.2.2.1 x1.toNatClampNeg r4), up0.2.2.2.2.1, up0.2.2.2.2.2.1, up0.2.2.2.2.2.2.1, up0.2.2.2.2.2.2.2.1, up0.2.2.2.2.2.2.2.2.1, up0.2.2.2.2.2.2.2.2.2.1, up0.2.2.2.2.2.2.2.2.2.2.1, up0.2.2.2.2.2.2.2.2.2.2.2) ++ CX5 K o u5) H locs := hH
    refine v_aload_n X dX5_readWaker_55 rfl (lv_at hl 1 rfl) ?_
    refine v_bipush (v := (44 : Int32)) X dX5_readWaker_56 (by decide) ?_
    refine wrVV (As := [.int (44 : Int32)]) (rest := []) (wr := (CX1 K o0 (up0.1, up0.2.1, (upd up0.2.2.1 x1.toNatClampNeg r3), (upd up0.2.2.2.1 x1.toNatClampNeg r4), up0.2.2.2.2.1, up0.2.2.2.2.2.1, up0.2.2.2.2.2.2.1, up0.2.2.2.2.2.2.2.1, up0.2.2.2.2.2.2.2.2.1, up0.2.2.2.2.2.2.2.2.2.1, up0.2.2.2.2.2.2.2.2.2.2.1, up0.2.2.2.2.2.2.2.2.2.2.2))) X mv_X5_44 (c_X5_expect F.2.1 D K t o u5 (44 : Int32) _ h) hF ⟨rfl, rfl, Nat.le_of_ble_eq_true rfl, Nat.le_of_ble_eq_true rfl⟩ hT hA hH [8, 9] [0, 1, 2, 3, 4, 5, 6, 7] ⟨rfl, rfl, rfl, rfl, by decide⟩ 8 rfl rfl hl.1 rfl rfl (Nat.le_of_ble_eq_true rfl) dX5_readWaker_58 (fun u7 H locs h hH => ?_)
    have hH : HH F D A (CX1 K o0 (up0.1, up0.2.1, (upd up0.2.2.1 x1.toNatClampNeg r3), (upd up0.2.2.2.1 x1.toNatClampNeg r4), up0.2.2.2.2.1, up0.2.2.2.2.2.1, up0.2.2.2.2.2.2.1, up0.2.2.2.2.2.2.2.1, up0.2.2.2.2.2.2.2.2.1, up0.2.2.2.2.2.2.2.2.2.1, up0.2.2.2.2.2.2.2.2.2.2.1, up0.2.2.2.2.2.2.2.2.2.2.2) ++ CX5 K o u7) H locs := hH
    refine v_aload_n X dX5_readWaker_61 rfl (lv_at hl 2 rfl) ?_
    refine v_get (v := .ref (o0 5)) X hH.1 0 rfl fk_X5_89 rfl dX5_readWaker_62 ?_
    refine v_iload_n X dX5_readWaker_65 rfl (lv_at hl 0 rfl) ?_
    refine v_aload_n X dX5_readWaker_66 rfl (lv_at hl 1 rfl) ?_
    refine v_iconst (v := (5 : Int32)) X dX5_readWaker_67 (by decide) ?_
    refine wrVI (As := [.int (5 : Int32)]) (rest := [.int x1, .ref (o0 5)]) (wr := (CX1 K o0 (up0.1, up0.2.1, (upd up0.2.2.1 x1.toNatClampNeg r3), (upd up0.2.2.2.1 x1.toNatClampNeg r4), up0.2.2.2.2.1, up0.2.2.2.2.2.1, up0.2.2.2.2.2.2.1, up0.2.2.2.2.2.2.2.1, up0.2.2.2.2.2.2.2.2.1, up0.2.2.2.2.2.2.2.2.2.1, up0.2.2.2.2.2.2.2.2.2.2.1, up0.2.2.2.2.2.2.2.2.2.2.2))) X mv_X5_48 (c_X5_number F.2.1 D K t o u7 (5 : Int32) _ h) hF ⟨rfl, rfl, Nat.le_of_ble_eq_true rfl, Nat.le_of_ble_eq_true rfl⟩ hT hA hH [8, 9] [0, 1, 2, 3, 4, 5, 6, 7] ⟨rfl, rfl, rfl, rfl, by decide⟩ 8 rfl rfl hl.1 rfl rfl (Nat.le_of_ble_eq_true rfl) dX5_readWaker_68 (fun r8 u9 H locs h hH => ?_)
    have hH : HH F D A (CX1 K o0 (up0.1, up0.2.1, (upd up0.2.2.1 x1.toNatClampNeg r3), (upd up0.2.2.2.1 x1.toNatClampNeg r4), up0.2.2.2.2.1, up0.2.2.2.2.2.1, up0.2.2.2.2.2.2.1, up0.2.2.2.2.2.2.2.1, up0.2.2.2.2.2.2.2.2.1, up0.2.2.2.2.2.2.2.2.2.1, up0.2.2.2.2.2.2.2.2.2.2.1, up0.2.2.2.2.2.2.2.2.2.2.2) ++ CX5 K o u9) H locs := hH
    have hin := h.1
    have h := h.2
    refine v_iast (f := up0.2.2.2.2.1) X hH 5 0 rfl rfl hin dX5_readWaker_71 (fun H locs hH => ?_)
    have hH : HH F D A (CX1 K o0 (up0.1, up0.2.1, (upd up0.2.2.1 x1.toNatClampNeg r3), (upd up0.2.2.2.1 x1.toNatClampNeg r4), (upd up0.2.2.2.2.1 x1.toNatClampNeg r8), up0.2.2.2.2.2.1, up0.2.2.2.2.2.2.1, up0.2.2.2.2.2.2.2.1, up0.2.2.2.2.2.2.2.2.1, up0.2.2.2.2.2.2.2.2.2.1, up0.2.2.2.2.2.2.2.2.2.2.1, up0.2.2.2.2.2.2.2.2.2.2.2) ++ CX5 K o u9) H locs := hH
    refine v_aload_n X dX5_readWaker_72 rfl (lv_at hl 1 rfl) ?_
    refine v_bipush (v := (44 : Int32)) X dX5_readWaker_73 (by decide) ?_
    refine wrVV (As := [.int (44 : Int32)]) (rest := []) (wr := (CX1 K o0 (up0.1, up0.2.1, (upd up0.2.2.1 x1.toNatClampNeg r3), (upd up0.2.2.2.1 x1.toNatClampNeg r4), (upd up0.2.2.2.2.1 x1.toNatClampNeg r8), up0.2.2.2.2.2.1, up0.2.2.2.2.2.2.1, up0.2.2.2.2.2.2.2.1, up0.2.2.2.2.2.2.2.2.1, up0.2.2.2.2.2.2.2.2.2.1, up0.2.2.2.2.2.2.2.2.2.2.1, up0.2.2.2.2.2.2.2.2.2.2.2))) X mv_X5_44 (c_X5_expect F.2.1 D K t o u9 (44 : Int32) _ h) hF ⟨rfl, rfl, Nat.le_of_ble_eq_true rfl, Nat.le_of_ble_eq_true rfl⟩ hT hA hH [8, 9] [0, 1, 2, 3, 4, 5, 6, 7] ⟨rfl, rfl, rfl, rfl, by decide⟩ 8 rfl rfl hl.1 rfl rfl (Nat.le_of_ble_eq_true rfl) dX5_readWaker_75 (fun u11 H locs h hH => ?_)
    have hH : HH F D A (CX1 K o0 (up0.1, up0.2.1, (upd up0.2.2.1 x1.toNatClampNeg r3), (upd up0.2.2.2.1 x1.toNatClampNeg r4), (upd up0.2.2.2.2.1 x1.toNatClampNeg r8), up0.2.2.2.2.2.1, up0.2.2.2.2.2.2.1, up0.2.2.2.2.2.2.2.1, up0.2.2.2.2.2.2.2.2.1, up0.2.2.2.2.2.2.2.2.2.1, up0.2.2.2.2.2.2.2.2.2.2.1, up0.2.2.2.2.2.2.2.2.2.2.2) ++ CX5 K o u11) H locs := hH
    refine v_aload_n X dX5_readWaker_78 rfl (lv_at hl 2 rfl) ?_
    refine v_get (v := .ref (o0 6)) X hH.1 0 rfl fk_X5_92 rfl dX5_readWaker_79 ?_
    refine v_iload_n X dX5_readWaker_82 rfl (lv_at hl 0 rfl) ?_
    refine v_aload_n X dX5_readWaker_83 rfl (lv_at hl 1 rfl) ?_
    refine v_aload_n X dX5_readWaker_84 rfl (lv_at hl 2 rfl) ?_
    refine wrVI (As := [.ref (o0 0)]) (rest := [.int x1, .ref (o0 6)]) (wr := ([] : va_W)) X mv_X5_95 (c_X5_hirer F.2.1 D K t o o0 u11 (up0.1, up0.2.1, (upd up0.2.2.1 x1.toNatClampNeg r3), (upd up0.2.2.2.1 x1.toNatClampNeg r4), (upd up0.2.2.2.2.1 x1.toNatClampNeg r8), up0.2.2.2.2.2.1, up0.2.2.2.2.2.2.1, up0.2.2.2.2.2.2.2.1, up0.2.2.2.2.2.2.2.2.1, up0.2.2.2.2.2.2.2.2.2.1, up0.2.2.2.2.2.2.2.2.2.2.1, up0.2.2.2.2.2.2.2.2.2.2.2) _ h) hF ⟨rfl, rfl, Nat.le_of_ble_eq_true rfl, Nat.le_of_ble_eq_true rfl⟩ hT hA hH [8, 9, 0, 1, 2, 3, 4, 5, 6, 7] [] ⟨rfl, rfl, rfl, rfl, by decide⟩ 8 rfl rfl hl.1 rfl rfl (Nat.le_of_ble_eq_true rfl) dX5_readWaker_85 (fun r12 u13 H locs h hH => ?_)
    have hH : HH F D A (CX5 K o u13 ++ CX1 K o0 (up0.1, up0.2.1, (upd up0.2.2.1 x1.toNatClampNeg r3), (upd up0.2.2.2.1 x1.toNatClampNeg r4), (upd up0.2.2.2.2.1 x1.toNatClampNeg r8), up0.2.2.2.2.2.1, up0.2.2.2.2.2.2.1, up0.2.2.2.2.2.2.2.1, up0.2.2.2.2.2.2.2.2.1, up0.2.2.2.2.2.2.2.2.2.1, up0.2.2.2.2.2.2.2.2.2.2.1, up0.2.2.2.2.2.2.2.2.2.2.2)) H locs := hH
    have hin := h.1
    have h := h.2
    refine v_iast (f := up0.2.2.2.2.2.1) X hH 8 0 rfl rfl hin dX5_readWaker_88 (fun H locs hH => ?_)
    have hH : HH F D A (CX5 K o u13 ++ CX1 K o0 (up0.1, up0.2.1, (upd up0.2.2.1 x1.toNatClampNeg r3), (upd up0.2.2.2.1 x1.toNatClampNeg r4), (upd up0.2.2.2.2.1 x1.toNatClampNeg r8), (upd up0.2.2.2.2.2.1 x1.toNatClampNeg r12), up0.2.2.2.2.2.2.1, up0.2.2.2.2.2.2.2.1, up0.2.2.2.2.2.2.2.2.1, up0.2.2.2.2.2.2.2.2.2.1, up0.2.2.2.2.2.2.2.2.2.2.1, up0.2.2.2.2.2.2.2.2.2.2.2)) H locs := hH
    refine v_aload_n X dX5_readWaker_89 rfl (lv_at hl 1 rfl) ?_
    refine v_bipush (v := (59 : Int32)) X dX5_readWaker_90 (by decide) ?_
    refine wrVV (As := [.int (59 : Int32)]) (rest := []) (wr := (CX1 K o0 (up0.1, up0.2.1, (upd up0.2.2.1 x1.toNatClampNeg r3), (upd up0.2.2.2.1 x1.toNatClampNeg r4), (upd up0.2.2.2.2.1 x1.toNatClampNeg r8), (upd up0.2.2.2.2.2.1 x1.toNatClampNeg r12), up0.2.2.2.2.2.2.1, up0.2.2.2.2.2.2.2.1, up0.2.2.2.2.2.2.2.2.1, up0.2.2.2.2.2.2.2.2.2.1, up0.2.2.2.2.2.2.2.2.2.2.1, up0.2.2.2.2.2.2.2.2.2.2.2))) X mv_X5_44 (c_X5_expect F.2.1 D K t o u13 (59 : Int32) _ h) hF ⟨rfl, rfl, Nat.le_of_ble_eq_true rfl, Nat.le_of_ble_eq_true rfl⟩ hT hA hH [0, 1] [2, 3, 4, 5, 6, 7, 8, 9] ⟨rfl, rfl, rfl, rfl, by decide⟩ 0 rfl rfl hl.1 rfl rfl (Nat.le_of_ble_eq_true rfl) dX5_readWaker_92 (fun u15 H locs h hH => ?_)
    have hH : HH F D A (CX1 K o0 (up0.1, up0.2.1, (upd up0.2.2.1 x1.toNatClampNeg r3), (upd up0.2.2.2.1 x1.toNatClampNeg r4), (upd up0.2.2.2.2.1 x1.toNatClampNeg r8), (upd up0.2.2.2.2.2.1 x1.toNatClampNeg r12), up0.2.2.2.2.2.2.1, up0.2.2.2.2.2.2.2.1, up0.2.2.2.2.2.2.2.2.1, up0.2.2.2.2.2.2.2.2.2.1, up0.2.2.2.2.2.2.2.2.2.2.1, up0.2.2.2.2.2.2.2.2.2.2.2) ++ CX5 K o u15) H locs := hH
    refine v_aload_n X dX5_readWaker_95 rfl (lv_at hl 2 rfl) ?_
    refine v_get (v := .ref (o0 7)) X hH.1 0 rfl fk_X5_99 rfl dX5_readWaker_96 ?_
    refine v_iload_n X dX5_readWaker_99 rfl (lv_at hl 0 rfl) ?_
    refine v_iconst (v := (0 : Int32)) X dX5_readWaker_100 (by decide) ?_
    have hin := h.1
    have h := h.2
    refine v_iast (f := up0.2.2.2.2.2.2.1) X hH 7 0 rfl rfl hin dX5_readWaker_101 (fun H locs hH => ?_)
    have hH : HH F D A (CX1 K o0 (up0.1, up0.2.1, (upd up0.2.2.1 x1.toNatClampNeg r3), (upd up0.2.2.2.1 x1.toNatClampNeg r4), (upd up0.2.2.2.2.1 x1.toNatClampNeg r8), (upd up0.2.2.2.2.2.1 x1.toNatClampNeg r12), (upd up0.2.2.2.2.2.2.1 x1.toNatClampNeg (0 : Int32)), up0.2.2.2.2.2.2.2.1, up0.2.2.2.2.2.2.2.2.1, up0.2.2.2.2.2.2.2.2.2.1, up0.2.2.2.2.2.2.2.2.2.2.1, up0.2.2.2.2.2.2.2.2.2.2.2) ++ CX5 K o u15) H locs := hH
    refine v_aload_n X dX5_readWaker_102 rfl (lv_at hl 2 rfl) ?_
    refine v_iload_n X dX5_readWaker_103 rfl (lv_at hl 0 rfl) ?_
    refine v_iconst (v := (1 : Int32)) X dX5_readWaker_104 (by decide) ?_
    refine v_iadd X dX5_readWaker_105 ?_
    refine v_put X hH 0 rfl fi_X5_80 (Nat.le_of_ble_eq_true rfl) dX5_readWaker_106 (fun H locs hH => ?_)
    have hH : HH F D A (CX1 K o0 (up0.1, up0.2.1, (upd up0.2.2.1 x1.toNatClampNeg r3), (upd up0.2.2.2.1 x1.toNatClampNeg r4), (upd up0.2.2.2.2.1 x1.toNatClampNeg r8), (upd up0.2.2.2.2.2.1 x1.toNatClampNeg r12), (upd up0.2.2.2.2.2.2.1 x1.toNatClampNeg (0 : Int32)), up0.2.2.2.2.2.2.2.1, (x1 + (1 : Int32)), up0.2.2.2.2.2.2.2.2.2.1, up0.2.2.2.2.2.2.2.2.2.2.1, up0.2.2.2.2.2.2.2.2.2.2.2) ++ CX5 K o u15) H locs := hH
    exact v_wvret X hF (u15, (up0.1, up0.2.1, (upd up0.2.2.1 x1.toNatClampNeg r3), (upd up0.2.2.2.1 x1.toNatClampNeg r4), (upd up0.2.2.2.2.1 x1.toNatClampNeg r8), (upd up0.2.2.2.2.2.1 x1.toNatClampNeg r12), (upd up0.2.2.2.2.2.2.1 x1.toNatClampNeg (0 : Int32)), up0.2.2.2.2.2.2.2.1, (x1 + (1 : Int32)), up0.2.2.2.2.2.2.2.2.2.1, up0.2.2.2.2.2.2.2.2.2.2.1, up0.2.2.2.2.2.2.2.2.2.2.2)) (hH.perm [8, 9, 0, 1, 2, 3, 4, 5, 6, 7] rfl rfl) h dX5_readWaker_109
  · have h := h.2 c18
    refine v_aload_n X dX5_readWaker_10 rfl (lv_at hl 1 rfl) ?_
    refine v_iconst (v := (3 : Int32)) X dX5_readWaker_11 (by decide) ?_
    refine v_aload_n X dX5_readWaker_12 rfl (lv_at hl 1 rfl) ?_
    refine v_get (v := .int u.2.2.1) X hH.1 0 rfl fk_X5_19 rfl dX5_readWaker_13 ?_
    refine wrVV (As := [.int (3 : Int32), .int u.2.2.1]) (rest := []) (wr := (CX1 K o0 up0)) X mv_X5_40 (c_X5_fail F.2.1 D K t o u (3 : Int32) u.2.2.1 _ h) hF ⟨rfl, rfl, Nat.le_of_ble_eq_true rfl, Nat.le_of_ble_eq_true rfl⟩ hT hA hH [0, 1] [2, 3, 4, 5, 6, 7, 8, 9] ⟨rfl, rfl, rfl, rfl, by decide⟩ 0 rfl rfl hl.1 rfl rfl (Nat.le_of_ble_eq_true rfl) dX5_readWaker_16 (fun u17 H locs h hH => ?_)
    have hH : HH F D A (CX1 K o0 up0 ++ CX5 K o u17) H locs := hH
    exact v_wvret X hF (u17, up0) (hH.perm [8, 9, 0, 1, 2, 3, 4, 5, 6, 7] rfl rfl) h dX5_readWaker_19
def wL_X5_readWakers_2 (post : BX5 → BX1 → Prop) (Kx2 : BX5 → BX1 → Prop) : Nat → Int32 → BX5 → BX1 → Prop
  | 0, _, _, _ => False
  | n2 + 1, x1, u2, u3 => ((4 : Int32) < x1 → Kx2 u2 u3) ∧ (¬ (4 : Int32) < x1 → w_X5_next u2 (fun r7 => w_X5_kindTold r7 (fun r8 => (r8 = 0 → Kx2 u2 u3) ∧ (¬ r8 = 0 → w_X5_readWaker u2 u3 (fun u10 u11 => wL_X5_readWakers_2 post Kx2 n2 (x1 + (1 : Int32)) u10 u11)))))
def w_X5_readWakers (u : BX5) (up0 : BX1) (post : BX5 → BX1 → Prop) : Prop := ∃ n2, wL_X5_readWakers_2  post (fun (u4 : BX5) (u5 : BX1) => post u4 u5) n2 (0 : Int32) u up0
set_option maxHeartbeats 4000000 in
set_option maxRecDepth 100000 in
theorem c_X5_readWakers (l : Launch) (D : va_G) (K : Nat → ClassId) (t : Nat → Nat) (o : Nat → Nat) (o0 : Nat → Nat) (u : BX5) (up0 : BX1) (post : BX5 → BX1 → Prop) (h : w_X5_readWakers u up0 post) : WrV l yX5_readWakers cX5_readWakers 3 ({ frames := 4, cells := 0, slots := 0, locals := 109 } : Room) D (TY K) t (CX5 K o u ++ CX1 K o0 up0) [.ref (o 0), .ref (o0 0)] (fun z : BX5 × BX1 => CX5 K o z.1 ++ CX1 K o0 z.2) (fun z : BX5 × BX1 => post z.1 z.2) := by
  refine WrV.mk rfl (Nat.le_of_ble_eq_true rfl) ?_
  intro F ls A _ hF X hH hA hl hT
  obtain ⟨H, hH0⟩ : ∃ z : Heap, z = (fxS F).heap := ⟨_, rfl⟩
  obtain ⟨locs, hL0⟩ : ∃ z : List Loc, z = [] := ⟨_, rfl⟩
  have hH : HH F D A (CX5 K o u ++ CX1 K o0 up0) H locs := by rw [hH0, hL0]; exact hH
  suffices goal : V F (WQV F D (TY K) A (fun z : BX5 × BX1 => CX5 K o z.1 ++ CX1 K o0 z.2) (fun z : BX5 × BX1 => post z.1 z.2)) H locs 0 ls [] by rw [hH0, hL0] at goal; exact goal
  clear hH0 hL0
  have X : Cx F cX5_readWakers 3 RX5 D (TY K) := X
  have hl : lv_has ls 3 [(0, .ref (o 0)), (1, .ref (o0 0))] := hl
  unfold w_X5_readWakers at h
  refine v_iconst (v := (0 : Int32)) X dX5_readWakers_0 (by decide) ?_
  refine v_istore_n (lv' := [(2, .int (0 : Int32)), (0, .ref (o 0)), (1, .ref (o0 0))]) X dX5_readWakers_1 rfl hl (by decide) rfl (fun ls hl => ?_)
  obtain ⟨Kx2, hK2⟩ : ∃ f : BX5 → BX1 → Prop, f = (fun (u4 : BX5) (u5 : BX1) => post u4 u5) := ⟨_, rfl⟩
  have kx6 : ∀ (u4 : BX5) (u5 : BX1) (ls : Array Slot) (H : Heap) (locs : List Loc), (Kx2 u4 u5) → lv_has ls 3 [] → HH F D A (CX5 K o u4 ++ CX1 K o0 u5) H locs → V F (WQV F D (TY K) A (fun z : BX5 × BX1 => CX5 K o z.1 ++ CX1 K o0 z.2) (fun z : BX5 × BX1 => post z.1 z.2)) H locs 28 ls [] := by
    intro u4 u5 ls H locs h hl hH
    have h : post u4 u5 := by rw [hK2] at h; exact h
    exact v_wvret X hF (u4, u5) hH h dX5_readWakers_28
  have lp2 : ∀ (n2 : Nat) (x1 : Int32) (u2 : BX5) (u3 : BX1) (ls : Array Slot) (H : Heap) (locs : List Loc), wL_X5_readWakers_2  post Kx2 n2 x1 u2 u3 → lv_has ls 3 [(0, .ref (o 0)), (1, .ref (o0 0)), (2, .int x1)] → HH F D A (CX5 K o u2 ++ CX1 K o0 u3) H locs → V F (WQV F D (TY K) A (fun z : BX5 × BX1 => CX5 K o z.1 ++ CX1 K o0 z.2) (fun z : BX5 × BX1 => post z.1 z.2)) H locs 2 ls [] := by
    intro n2
    induction n2 with
    | zero => intro x1 u2 u3 ls H locs h hl hH; exact h.elim
    | succ n2 ih2 =>
      intro x1 u2 u3 ls H locs h hl hH
      refine v_iload_n X dX5_readWakers_2 rfl (lv_at hl 2 rfl) ?_
      refine v_iconst (v := (4 : Int32)) X dX5_readWakers_3 (by decide) ?_
      refine v_icmp_gt (tgt := 28) X dX5_readWakers_4 (by decide) (fun c14 => ?_) (fun c14 => ?_)
      · have h := h.1 c14
        exact kx6 u2 u3 ls H locs h (lv_sub hl [] rfl) hH
      · have h := h.2 c14
        refine v_aload_n X dX5_readWakers_7 rfl (lv_at hl 0 rfl) ?_
        refine rdV (As := []) (rest := []) X mv_X5_61 (c_X5_next F.2.1 D K t o u2 _ h) hF ⟨rfl, rfl, Nat.le_of_ble_eq_true rfl, Nat.le_of_ble_eq_true rfl⟩ (stW hT hH) hH.1 [0, 1] rfl 0 rfl rfl hl.1 rfl rfl (Nat.le_of_ble_eq_true rfl) dX5_readWakers_8 (fun r7 h => ?_)
        refine rdS (As := [.int r7]) (rest := []) X ms_X5_74 (c_X5_kindTold F.2.1 D K t r7 _ h) hF ⟨rfl, rfl, Nat.le_of_ble_eq_true rfl, Nat.le_of_ble_eq_true rfl⟩ (stW hT hH) hH.1 [] rfl hl.1 rfl rfl (Nat.le_of_ble_eq_true rfl) dX5_readWakers_11 (fun r8 h => ?_)
        refine v_if_eq (tgt := 28) X dX5_readWakers_14 (by decide) (fun c13 => ?_) (fun c13 => ?_)
        · have h := h.1 c13
          exact kx6 u2 u3 ls H locs h (lv_sub hl [] rfl) hH
        · have h := h.2 c13
          refine v_aload_n X dX5_readWakers_17 rfl (lv_at hl 0 rfl) ?_
          refine v_aload_n X dX5_readWakers_18 rfl (lv_at hl 1 rfl) ?_
          refine wrVV (As := [.ref (o0 0)]) (rest := []) (wr := ([] : va_W)) X mv_X5_77 (c_X5_readWaker F.2.1 D K t o o0 u2 u3 _ h) hF ⟨rfl, rfl, Nat.le_of_ble_eq_true rfl, Nat.le_of_ble_eq_true rfl⟩ hT hA hH [0, 1, 2, 3, 4, 5, 6, 7, 8, 9] [] ⟨rfl, rfl, rfl, rfl, by decide⟩ 0 rfl rfl hl.1 rfl rfl (Nat.le_of_ble_eq_true rfl) dX5_readWakers_19 (fun u12 H locs h hH => ?_)
          obtain ⟨u10, u11⟩ := u12
          have hH : HH F D A (CX5 K o u10 ++ CX1 K o0 u11) H locs := hH
          refine v_iinc (v := (x1 + (1 : Int32))) (lv' := [(2, .int (x1 + (1 : Int32))), (0, .ref (o 0)), (1, .ref (o0 0))]) X dX5_readWakers_22 hl (k := 2) rfl rfl (by decide) rfl (fun ls hl => ?_)
          refine v_goto (tgt := 2) X dX5_readWakers_25 (by decide) ?_
          exact ih2 (x1 + (1 : Int32)) u10 u11 ls H locs h (lv_sub hl [1, 2, 0] rfl) hH
  obtain ⟨n2, h⟩ := h
  have h : wL_X5_readWakers_2  post Kx2 n2 (0 : Int32) u up0 := by rw [hK2]; exact h
  exact lp2 n2 (0 : Int32) u up0 ls H locs h (lv_sub hl [1, 2, 0] rfl) hH
def w_X5_readInto (u : BX5) (up0 : BX1) (post : BX5 → BX1 → Prop) : Prop := w_X1_close up0 (fun u2 => w_X5_readLaw (u.1, u.2.1, (0 : Int32), (0 : Int32), u.2.2.2.2) u2 (fun u4 u5 => w_X5_readClients u4 u5 (fun u8 u9 => w_X5_readWakers u8 u9 (fun u12 u13 => (u12.2.1 ≤ u12.2.2.1 → post (u12.1, (0 : Int32), u12.2.2.1, u12.2.2.2.1, u12.2.2.2.2) u13) ∧ (¬ u12.2.1 ≤ u12.2.2.1 → w_X5_fail u12 (1 : Int32) u12.2.2.1 (fun u16 => post (u16.1, (0 : Int32), u16.2.2.1, u16.2.2.2.1, u16.2.2.2.2) u13))))))
set_option maxHeartbeats 4000000 in
set_option maxRecDepth 100000 in
theorem c_X5_readInto (l : Launch) (D : va_G) (K : Nat → ClassId) (t : Nat → Nat) (o : Nat → Nat) (o0 : Nat → Nat) (u : BX5) (up0 : BX1) (post : BX5 → BX1 → Prop) (h : w_X5_readInto u up0 post) : WrV l yX5_readInto cX5_readInto 2 ({ frames := 5, cells := 0, slots := 0, locals := 131 } : Room) D (TY K) t (CX5 K o u ++ CX1 K o0 up0) [.ref (o 0), .ref (o0 0)] (fun z : BX5 × BX1 => CX5 K o z.1 ++ CX1 K o0 z.2) (fun z : BX5 × BX1 => post z.1 z.2) := by
  refine WrV.mk rfl (Nat.le_of_ble_eq_true rfl) ?_
  intro F ls A _ hF X hH hA hl hT
  obtain ⟨H, hH0⟩ : ∃ z : Heap, z = (fxS F).heap := ⟨_, rfl⟩
  obtain ⟨locs, hL0⟩ : ∃ z : List Loc, z = [] := ⟨_, rfl⟩
  have hH : HH F D A (CX5 K o u ++ CX1 K o0 up0) H locs := by rw [hH0, hL0]; exact hH
  suffices goal : V F (WQV F D (TY K) A (fun z : BX5 × BX1 => CX5 K o z.1 ++ CX1 K o0 z.2) (fun z : BX5 × BX1 => post z.1 z.2)) H locs 0 ls [] by rw [hH0, hL0] at goal; exact goal
  clear hH0 hL0
  have X : Cx F cX5_readInto 2 RX5 D (TY K) := X
  have hl : lv_has ls 2 [(0, .ref (o 0)), (1, .ref (o0 0))] := hl
  unfold w_X5_readInto at h
  refine v_aload_n X dX5_readInto_0 rfl (lv_at hl 0 rfl) ?_
  refine v_iconst (v := (0 : Int32)) X dX5_readInto_1 (by decide) ?_
  refine v_put X hH 0 rfl fi_X5_19 (Nat.le_of_ble_eq_true rfl) dX5_readInto_2 (fun H locs hH => ?_)
  have hH : HH F D A (CX5 K o (u.1, u.2.1, (0 : Int32), u.2.2.2.1, u.2.2.2.2) ++ CX1 K o0 up0) H locs := hH
  refine v_aload_n X dX5_readInto_5 rfl (lv_at hl 0 rfl) ?_
  refine v_iconst (v := (0 : Int32)) X dX5_readInto_6 (by decide) ?_
  refine v_put X hH 0 rfl fi_X5_22 (Nat.le_of_ble_eq_true rfl) dX5_readInto_7 (fun H locs hH => ?_)
  have hH : HH F D A (CX5 K o (u.1, u.2.1, (0 : Int32), (0 : Int32), u.2.2.2.2) ++ CX1 K o0 up0) H locs := hH
  refine v_aload_n X dX5_readInto_10 rfl (lv_at hl 1 rfl) ?_
  refine wrVV (As := []) (rest := []) (wr := (CX5 K o (u.1, u.2.1, (0 : Int32), (0 : Int32), u.2.2.2.2))) X mv_X5_25 (c_X1_close F.2.1 D K t o0 up0 _ h) hF ⟨rfl, rfl, Nat.le_of_ble_eq_true rfl, Nat.le_of_ble_eq_true rfl⟩ hT hA hH [2, 3, 4, 5, 6, 7, 8, 9] [0, 1] ⟨rfl, rfl, rfl, rfl, by decide⟩ 2 rfl rfl hl.1 rfl rfl (Nat.le_of_ble_eq_true rfl) dX5_readInto_11 (fun u2 H locs h hH => ?_)
  have hH : HH F D A (CX5 K o (u.1, u.2.1, (0 : Int32), (0 : Int32), u.2.2.2.2) ++ CX1 K o0 u2) H locs := hH
  refine v_aload_n X dX5_readInto_14 rfl (lv_at hl 0 rfl) ?_
  refine v_aload_n X dX5_readInto_15 rfl (lv_at hl 1 rfl) ?_
  refine wrVV (As := [.ref (o0 0)]) (rest := []) (wr := ([] : va_W)) X mv_X5_30 (c_X5_readLaw F.2.1 D K t o o0 (u.1, u.2.1, (0 : Int32), (0 : Int32), u.2.2.2.2) u2 _ h) hF ⟨rfl, rfl, Nat.le_of_ble_eq_true rfl, Nat.le_of_ble_eq_true rfl⟩ hT hA hH [0, 1, 2, 3, 4, 5, 6, 7, 8, 9] [] ⟨rfl, rfl, rfl, rfl, by decide⟩ 0 rfl rfl hl.1 rfl rfl (Nat.le_of_ble_eq_true rfl) dX5_readInto_16 (fun u6 H locs h hH => ?_)
  obtain ⟨u4, u5⟩ := u6
  have hH : HH F D A (CX5 K o u4 ++ CX1 K o0 u5) H locs := hH
  refine v_aload_n X dX5_readInto_19 rfl (lv_at hl 0 rfl) ?_
  refine v_aload_n X dX5_readInto_20 rfl (lv_at hl 1 rfl) ?_
  refine wrVV (As := [.ref (o0 0)]) (rest := []) (wr := ([] : va_W)) X mv_X5_34 (c_X5_readClients F.2.1 D K t o o0 u4 u5 _ h) hF ⟨rfl, rfl, Nat.le_of_ble_eq_true rfl, Nat.le_of_ble_eq_true rfl⟩ hT hA hH [0, 1, 2, 3, 4, 5, 6, 7, 8, 9] [] ⟨rfl, rfl, rfl, rfl, by decide⟩ 0 rfl rfl hl.1 rfl rfl (Nat.le_of_ble_eq_true rfl) dX5_readInto_21 (fun u10 H locs h hH => ?_)
  obtain ⟨u8, u9⟩ := u10
  have hH : HH F D A (CX5 K o u8 ++ CX1 K o0 u9) H locs := hH
  refine v_aload_n X dX5_readInto_24 rfl (lv_at hl 0 rfl) ?_
  refine v_aload_n X dX5_readInto_25 rfl (lv_at hl 1 rfl) ?_
  refine wrVV (As := [.ref (o0 0)]) (rest := []) (wr := ([] : va_W)) X mv_X5_37 (c_X5_readWakers F.2.1 D K t o o0 u8 u9 _ h) hF ⟨rfl, rfl, Nat.le_of_ble_eq_true rfl, Nat.le_of_ble_eq_true rfl⟩ hT hA hH [0, 1, 2, 3, 4, 5, 6, 7, 8, 9] [] ⟨rfl, rfl, rfl, rfl, by decide⟩ 0 rfl rfl hl.1 rfl rfl (Nat.le_of_ble_eq_true rfl) dX5_readInto_26 (fun u14 H locs h hH => ?_)
  obtain ⟨u12, u13⟩ := u14
  have hH : HH F D A (CX5 K o u12 ++ CX1 K o0 u13) H locs := hH
  refine v_aload_n X dX5_readInto_29 rfl (lv_at hl 0 rfl) ?_
  refine v_get (v := .int u12.2.2.1) X hH.1 0 rfl fk_X5_19 rfl dX5_readInto_30 ?_
  refine v_aload_n X dX5_readInto_33 rfl (lv_at hl 0 rfl) ?_
  refine v_get (v := .int u12.2.1) X hH.1 0 rfl fk_X5_15 rfl dX5_readInto_34 ?_
  refine v_icmp_ge (tgt := 49) X dX5_readInto_37 (by decide) (fun c17 => ?_) (fun c17 => ?_)
  · have h := h.1 c17
    refine v_aload_n X dX5_readInto_49 rfl (lv_at hl 0 rfl) ?_
    refine v_iconst (v := (0 : Int32)) X dX5_readInto_50 (by decide) ?_
    refine v_put X hH 0 rfl fi_X5_15 (Nat.le_of_ble_eq_true rfl) dX5_readInto_51 (fun H locs hH => ?_)
    have hH : HH F D A (CX5 K o (u12.1, (0 : Int32), u12.2.2.1, u12.2.2.2.1, u12.2.2.2.2) ++ CX1 K o0 u13) H locs := hH
    exact v_wvret X hF ((u12.1, (0 : Int32), u12.2.2.1, u12.2.2.2.1, u12.2.2.2.2), u13) hH h dX5_readInto_54
  · have h := h.2 c17
    refine v_aload_n X dX5_readInto_40 rfl (lv_at hl 0 rfl) ?_
    refine v_iconst (v := (1 : Int32)) X dX5_readInto_41 (by decide) ?_
    refine v_aload_n X dX5_readInto_42 rfl (lv_at hl 0 rfl) ?_
    refine v_get (v := .int u12.2.2.1) X hH.1 0 rfl fk_X5_19 rfl dX5_readInto_43 ?_
    refine wrVV (As := [.int (1 : Int32), .int u12.2.2.1]) (rest := []) (wr := (CX1 K o0 u13)) X mv_X5_40 (c_X5_fail F.2.1 D K t o u12 (1 : Int32) u12.2.2.1 _ h) hF ⟨rfl, rfl, Nat.le_of_ble_eq_true rfl, Nat.le_of_ble_eq_true rfl⟩ hT hA hH [0, 1] [2, 3, 4, 5, 6, 7, 8, 9] ⟨rfl, rfl, rfl, rfl, by decide⟩ 0 rfl rfl hl.1 rfl rfl (Nat.le_of_ble_eq_true rfl) dX5_readInto_46 (fun u16 H locs h hH => ?_)
    have hH : HH F D A (CX1 K o0 u13 ++ CX5 K o u16) H locs := hH
    refine v_aload_n X dX5_readInto_49 rfl (lv_at hl 0 rfl) ?_
    refine v_iconst (v := (0 : Int32)) X dX5_readInto_50 (by decide) ?_
    refine v_put X hH 8 rfl fi_X5_15 (Nat.le_of_ble_eq_true rfl) dX5_readInto_51 (fun H locs hH => ?_)
    have hH : HH F D A (CX1 K o0 u13 ++ CX5 K o (u16.1, (0 : Int32), u16.2.2.1, u16.2.2.2.1, u16.2.2.2.2)) H locs := hH
    exact v_wvret X hF ((u16.1, (0 : Int32), u16.2.2.1, u16.2.2.2.1, u16.2.2.2.2), u13) (hH.perm [8, 9, 0, 1, 2, 3, 4, 5, 6, 7] rfl rfl) h dX5_readInto_54
