def w_X1_close (u : BX1) (post : BX1 → Prop) : Prop := post (u.1, u.2.1, u.2.2.1, u.2.2.2.1, u.2.2.2.2.1, u.2.2.2.2.2.1, u.2.2.2.2.2.2.1, (0 : Int32), (0 : Int32), u.2.2.2.2.2.2.2.2.2.1, u.2.2.2.2.2.2.2.2.2.2.1, (0 : Int32))
set_option maxHeartbeats 4000000 in
set_option maxRecDepth 100000 in
theorem c_X1_close (l : Launch) (D : va_G) (K : Nat → ClassId) (t : Nat → Nat) (o : Nat → Nat) (u : BX1) (post : BX1 → Prop) (h : w_X1_close u post) : WrV l yX1_close cX1_close 1 ({ frames := 0, cells := 0, slots := 0, locals := 0 } : Room) D (TY K) t (CX1 K o u) [.ref (o 0)] (fun z : BX1 => CX1 K o z) (fun z : BX1 => post z) := by
  refine WrV.mk rfl (Nat.le_of_ble_eq_true rfl) ?_
  intro F ls A _ hF X hH hA hl hT
  obtain ⟨H, hH0⟩ : ∃ z : Heap, z = (fxS F).heap := ⟨_, rfl⟩
  obtain ⟨locs, hL0⟩ : ∃ z : List Loc, z = [] := ⟨_, rfl⟩
  have hH : HH F D A (CX1 K o u) H locs := by rw [hH0, hL0]; exact hH
  suffices goal : V F (WQV F D (TY K) A (fun z : BX1 => CX1 K o z) (fun z : BX1 => post z)) H locs 0 ls [] by rw [hH0, hL0] at goal; exact goal
  clear hH0 hL0
  have X : Cx F cX1_close 1 RX1 D (TY K) := X
  have hl : lv_has ls 1 [(0, .ref (o 0))] := hl
  unfold w_X1_close at h
  refine v_aload_n X dX1_close_0 rfl (lv_at hl 0 rfl) ?_
  refine v_iconst (v := (0 : Int32)) X dX1_close_1 (by decide) ?_
  refine v_put X hH 0 rfl fi_X1_33 (Nat.le_of_ble_eq_true rfl) dX1_close_2 (fun H locs hH => ?_)
  have hH : HH F D A (CX1 K o (u.1, u.2.1, u.2.2.1, u.2.2.2.1, u.2.2.2.2.1, u.2.2.2.2.2.1, u.2.2.2.2.2.2.1, (0 : Int32), u.2.2.2.2.2.2.2.2.1, u.2.2.2.2.2.2.2.2.2.1, u.2.2.2.2.2.2.2.2.2.2.1, u.2.2.2.2.2.2.2.2.2.2.2)) H locs := hH
  refine v_aload_n X dX1_close_5 rfl (lv_at hl 0 rfl) ?_
  refine v_iconst (v := (0 : Int32)) X dX1_close_6 (by decide) ?_
  refine v_put X hH 0 rfl fi_X1_37 (Nat.le_of_ble_eq_true rfl) dX1_close_7 (fun H locs hH => ?_)
  have hH : HH F D A (CX1 K o (u.1, u.2.1, u.2.2.1, u.2.2.2.1, u.2.2.2.2.1, u.2.2.2.2.2.1, u.2.2.2.2.2.2.1, (0 : Int32), (0 : Int32), u.2.2.2.2.2.2.2.2.2.1, u.2.2.2.2.2.2.2.2.2.2.1, u.2.2.2.2.2.2.2.2.2.2.2)) H locs := hH
  refine v_aload_n X dX1_close_10 rfl (lv_at hl 0 rfl) ?_
  refine v_iconst (v := (0 : Int32)) X dX1_close_11 (by decide) ?_
  refine v_put X hH 0 rfl fi_X1_40 (Nat.le_of_ble_eq_true rfl) dX1_close_12 (fun H locs hH => ?_)
  have hH : HH F D A (CX1 K o (u.1, u.2.1, u.2.2.1, u.2.2.2.1, u.2.2.2.2.1, u.2.2.2.2.2.1, u.2.2.2.2.2.2.1, (0 : Int32), (0 : Int32), u.2.2.2.2.2.2.2.2.2.1, u.2.2.2.2.2.2.2.2.2.2.1, (0 : Int32))) H locs := hH
  exact v_wvret X hF (u.1, u.2.1, u.2.2.1, u.2.2.2.1, u.2.2.2.2.1, u.2.2.2.2.2.1, u.2.2.2.2.2.2.1, (0 : Int32), (0 : Int32), u.2.2.2.2.2.2.2.2.2.1, u.2.2.2.2.2.2.2.2.2.2.1, (0 : Int32)) hH h dX1_close_15
def w_X1_copyFrom (u : BX1) (up0 : BX1) (post : BX1 → Prop) : Prop := ((¬ (0 : Int32) < 0 ∧ ¬ (0 : Int32) < 0 ∧ ¬ (5 : Int32) < 0) ∧ (0 : Int32).toNatClampNeg + (5 : Int32).toNatClampNeg ≤ 5 ∧ (0 : Int32).toNatClampNeg + (5 : Int32).toNatClampNeg ≤ 5) ∧ (((¬ (0 : Int32) < 0 ∧ ¬ (0 : Int32) < 0 ∧ ¬ (5 : Int32) < 0) ∧ (0 : Int32).toNatClampNeg + (5 : Int32).toNatClampNeg ≤ 5 ∧ (0 : Int32).toNatClampNeg + (5 : Int32).toNatClampNeg ≤ 5) ∧ (((¬ (0 : Int32) < 0 ∧ ¬ (0 : Int32) < 0 ∧ ¬ (4 : Int32) < 0) ∧ (0 : Int32).toNatClampNeg + (4 : Int32).toNatClampNeg ≤ 4 ∧ (0 : Int32).toNatClampNeg + (4 : Int32).toNatClampNeg ≤ 4) ∧ (((¬ (0 : Int32) < 0 ∧ ¬ (0 : Int32) < 0 ∧ ¬ (4 : Int32) < 0) ∧ (0 : Int32).toNatClampNeg + (4 : Int32).toNatClampNeg ≤ 4 ∧ (0 : Int32).toNatClampNeg + (4 : Int32).toNatClampNeg ≤ 4) ∧ (((¬ (0 : Int32) < 0 ∧ ¬ (0 : Int32) < 0 ∧ ¬ (4 : Int32) < 0) ∧ (0 : Int32).toNatClampNeg + (4 : Int32).toNatClampNeg ≤ 4 ∧ (0 : Int32).toNatClampNeg + (4 : Int32).toNatClampNeg ≤ 4) ∧ (((¬ (0 : Int32) < 0 ∧ ¬ (0 : Int32) < 0 ∧ ¬ (4 : Int32) < 0) ∧ (0 : Int32).toNatClampNeg + (4 : Int32).toNatClampNeg ≤ 4 ∧ (0 : Int32).toNatClampNeg + (4 : Int32).toNatClampNeg ≤ 4) ∧ (((¬ (0 : Int32) < 0 ∧ ¬ (0 : Int32) < 0 ∧ ¬ (4 : Int32) < 0) ∧ (0 : Int32).toNatClampNeg + (4 : Int32).toNatClampNeg ≤ 4 ∧ (0 : Int32).toNatClampNeg + (4 : Int32).toNatClampNeg ≤ 4) ∧ (post ((va_cpy up0.1 u.1 (0 : Int32).toNatClampNeg (0 : Int32).toNatClampNeg (5 : Int32).toNatClampNeg), (va_cpy up0.2.1 u.2.1 (0 : Int32).toNatClampNeg (0 : Int32).toNatClampNeg (5 : Int32).toNatClampNeg), (va_cpy up0.2.2.1 u.2.2.1 (0 : Int32).toNatClampNeg (0 : Int32).toNatClampNeg (4 : Int32).toNatClampNeg), (va_cpy up0.2.2.2.1 u.2.2.2.1 (0 : Int32).toNatClampNeg (0 : Int32).toNatClampNeg (4 : Int32).toNatClampNeg), (va_cpy up0.2.2.2.2.1 u.2.2.2.2.1 (0 : Int32).toNatClampNeg (0 : Int32).toNatClampNeg (4 : Int32).toNatClampNeg), (va_cpy up0.2.2.2.2.2.1 u.2.2.2.2.2.1 (0 : Int32).toNatClampNeg (0 : Int32).toNatClampNeg (4 : Int32).toNatClampNeg), (va_cpy up0.2.2.2.2.2.2.1 u.2.2.2.2.2.2.1 (0 : Int32).toNatClampNeg (0 : Int32).toNatClampNeg (4 : Int32).toNatClampNeg), up0.2.2.2.2.2.2.2.1, up0.2.2.2.2.2.2.2.2.1, up0.2.2.2.2.2.2.2.2.2.1, up0.2.2.2.2.2.2.2.2.2.2.1, up0.2.2.2.2.2.2.2.2.2.2.2))))))))
set_option maxHeartbeats 4000000 in
set_option maxRecDepth 100000 in
theorem c_X1_copyFrom (l : Launch) (D : va_G) (K : Nat → ClassId) (t : Nat → Nat) (o : Nat → Nat) (o0 : Nat → Nat) (u : BX1) (up0 : BX1) (post : BX1 → Prop) (h : w_X1_copyFrom u up0 post) : WrV l yX1_copyFrom cX1_copyFrom 2 ({ frames := 1, cells := 0, slots := 0, locals := 60 } : Room) D (TY K) t (CX1 K o u ++ CX1 K o0 up0) [.ref (o 0), .ref (o0 0)] (fun z : BX1 => CX1 K o z ++ CX1 K o0 up0) (fun z : BX1 => post z) := by
  refine WrV.mk rfl (Nat.le_of_ble_eq_true rfl) ?_
  intro F ls A _ hF X hH hA hl hT
  obtain ⟨H, hH0⟩ : ∃ z : Heap, z = (fxS F).heap := ⟨_, rfl⟩
  obtain ⟨locs, hL0⟩ : ∃ z : List Loc, z = [] := ⟨_, rfl⟩
  have hH : HH F D A (CX1 K o u ++ CX1 K o0 up0) H locs := by rw [hH0, hL0]; exact hH
  suffices goal : V F (WQV F D (TY K) A (fun z : BX1 => CX1 K o z ++ CX1 K o0 up0) (fun z : BX1 => post z)) H locs 0 ls [] by rw [hH0, hL0] at goal; exact goal
  clear hH0 hL0
  have X : Cx F cX1_copyFrom 2 RX1 D (TY K) := X
  have hl : lv_has ls 2 [(0, .ref (o 0)), (1, .ref (o0 0))] := hl
  unfold w_X1_copyFrom at h
  refine v_aload_n X dX1_copyFrom_0 rfl (lv_at hl 1 rfl) ?_
  refine v_get (v := .ref (o0 1)) X hH.1 8 rfl fk_X1_9 rfl dX1_copyFrom_1 ?_
  refine v_iconst (v := (0 : Int32)) X dX1_copyFrom_4 (by decide) ?_
  refine v_aload_n X dX1_copyFrom_5 rfl (lv_at hl 0 rfl) ?_
  refine v_get (v := .ref (o 1)) X hH.1 0 rfl fk_X1_9 rfl dX1_copyFrom_6 ?_
  refine v_iconst (v := (0 : Int32)) X dX1_copyFrom_9 (by decide) ?_
  refine v_iconst (v := (5 : Int32)) X dX1_copyFrom_10 (by decide) ?_
  have hin := h.1
  have h := h.2
  refine v_copy (f := up0.1) (g := u.1) X hl.1 hF ka_X1_43 hH 9 1 0 rfl rfl rfl hin ⟨Nat.le_of_ble_eq_true rfl, Nat.le_of_ble_eq_true rfl⟩ dX1_copyFrom_11 (fun H locs hH => ?_)
  have hH : HH F D A (CX1 K o ((va_cpy up0.1 u.1 (0 : Int32).toNatClampNeg (0 : Int32).toNatClampNeg (5 : Int32).toNatClampNeg), u.2.1, u.2.2.1, u.2.2.2.1, u.2.2.2.2.1, u.2.2.2.2.2.1, u.2.2.2.2.2.2.1, u.2.2.2.2.2.2.2.1, u.2.2.2.2.2.2.2.2.1, u.2.2.2.2.2.2.2.2.2.1, u.2.2.2.2.2.2.2.2.2.2.1, u.2.2.2.2.2.2.2.2.2.2.2) ++ CX1 K o0 up0) H locs := hH
  refine v_aload_n X dX1_copyFrom_14 rfl (lv_at hl 1 rfl) ?_
  refine v_get (v := .ref (o0 2)) X hH.1 8 rfl fk_X1_15 rfl dX1_copyFrom_15 ?_
  refine v_iconst (v := (0 : Int32)) X dX1_copyFrom_18 (by decide) ?_
  refine v_aload_n X dX1_copyFrom_19 rfl (lv_at hl 0 rfl) ?_
  refine v_get (v := .ref (o 2)) X hH.1 0 rfl fk_X1_15 rfl dX1_copyFrom_20 ?_
  refine v_iconst (v := (0 : Int32)) X dX1_copyFrom_23 (by decide) ?_
  refine v_iconst (v := (5 : Int32)) X dX1_copyFrom_24 (by decide) ?_
  have hin := h.1
  have h := h.2
  refine v_copy (f := up0.2.1) (g := u.2.1) X hl.1 hF ka_X1_43 hH 10 2 0 rfl rfl rfl hin ⟨Nat.le_of_ble_eq_true rfl, Nat.le_of_ble_eq_true rfl⟩ dX1_copyFrom_25 (fun H locs hH => ?_)
  have hH : HH F D A (CX1 K o ((va_cpy up0.1 u.1 (0 : Int32).toNatClampNeg (0 : Int32).toNatClampNeg (5 : Int32).toNatClampNeg), (va_cpy up0.2.1 u.2.1 (0 : Int32).toNatClampNeg (0 : Int32).toNatClampNeg (5 : Int32).toNatClampNeg), u.2.2.1, u.2.2.2.1, u.2.2.2.2.1, u.2.2.2.2.2.1, u.2.2.2.2.2.2.1, u.2.2.2.2.2.2.2.1, u.2.2.2.2.2.2.2.2.1, u.2.2.2.2.2.2.2.2.2.1, u.2.2.2.2.2.2.2.2.2.2.1, u.2.2.2.2.2.2.2.2.2.2.2) ++ CX1 K o0 up0) H locs := hH
  refine v_aload_n X dX1_copyFrom_28 rfl (lv_at hl 1 rfl) ?_
  refine v_get (v := .ref (o0 3)) X hH.1 8 rfl fk_X1_18 rfl dX1_copyFrom_29 ?_
  refine v_iconst (v := (0 : Int32)) X dX1_copyFrom_32 (by decide) ?_
  refine v_aload_n X dX1_copyFrom_33 rfl (lv_at hl 0 rfl) ?_
  refine v_get (v := .ref (o 3)) X hH.1 0 rfl fk_X1_18 rfl dX1_copyFrom_34 ?_
  refine v_iconst (v := (0 : Int32)) X dX1_copyFrom_37 (by decide) ?_
  refine v_iconst (v := (4 : Int32)) X dX1_copyFrom_38 (by decide) ?_
  have hin := h.1
  have h := h.2
  refine v_copy (f := up0.2.2.1) (g := u.2.2.1) X hl.1 hF ka_X1_43 hH 11 3 0 rfl rfl rfl hin ⟨Nat.le_of_ble_eq_true rfl, Nat.le_of_ble_eq_true rfl⟩ dX1_copyFrom_39 (fun H locs hH => ?_)
  have hH : HH F D A (CX1 K o ((va_cpy up0.1 u.1 (0 : Int32).toNatClampNeg (0 : Int32).toNatClampNeg (5 : Int32).toNatClampNeg), (va_cpy up0.2.1 u.2.1 (0 : Int32).toNatClampNeg (0 : Int32).toNatClampNeg (5 : Int32).toNatClampNeg), (va_cpy up0.2.2.1 u.2.2.1 (0 : Int32).toNatClampNeg (0 : Int32).toNatClampNeg (4 : Int32).toNatClampNeg), u.2.2.2.1, u.2.2.2.2.1, u.2.2.2.2.2.1, u.2.2.2.2.2.2.1, u.2.2.2.2.2.2.2.1, u.2.2.2.2.2.2.2.2.1, u.2.2.2.2.2.2.2.2.2.1, u.2.2.2.2.2.2.2.2.2.2.1, u.2.2.2.2.2.2.2.2.2.2.2) ++ CX1 K o0 up0) H locs := hH
  refine v_aload_n X dX1_copyFrom_42 rfl (lv_at hl 1 rfl) ?_
  refine v_get (v := .ref (o0 4)) X hH.1 8 rfl fk_X1_21 rfl dX1_copyFrom_43 ?_
  refine v_iconst (v := (0 : Int32)) X dX1_copyFrom_46 (by decide) ?_
  refine v_aload_n X dX1_copyFrom_47 rfl (lv_at hl 0 rfl) ?_
  refine v_get (v := .ref (o 4)) X hH.1 0 rfl fk_X1_21 rfl dX1_copyFrom_48 ?_
  refine v_iconst (v := (0 : Int32)) X dX1_copyFrom_51 (by decide) ?_
  refine v_iconst (v := (4 : Int32)) X dX1_copyFrom_52 (by decide) ?_
  have hin := h.1
  have h := h.2
  refine v_copy (f := up0.2.2.2.1) (g := u.2.2.2.1) X hl.1 hF ka_X1_43 hH 12 4 0 rfl rfl rfl hin ⟨Nat.le_of_ble_eq_true rfl, Nat.le_of_ble_eq_true rfl⟩ dX1_copyFrom_53 (fun H locs hH => ?_)
  have hH : HH F D A (CX1 K o ((va_cpy up0.1 u.1 (0 : Int32).toNatClampNeg (0 : Int32).toNatClampNeg (5 : Int32).toNatClampNeg), (va_cpy up0.2.1 u.2.1 (0 : Int32).toNatClampNeg (0 : Int32).toNatClampNeg (5 : Int32).toNatClampNeg), (va_cpy up0.2.2.1 u.2.2.1 (0 : Int32).toNatClampNeg (0 : Int32).toNatClampNeg (4 : Int32).toNatClampNeg), (va_cpy up0.2.2.2.1 u.2.2.2.1 (0 : Int32).toNatClampNeg (0 : Int32).toNatClampNeg (4 : Int32).toNatClampNeg), u.2.2.2.2.1, u.2.2.2.2.2.1, u.2.2.2.2.2.2.1, u.2.2.2.2.2.2.2.1, u.2.2.2.2.2.2.2.2.1, u.2.2.2.2.2.2.2.2.2.1, u.2.2.2.2.2.2.2.2.2.2.1, u.2.2.2.2.2.2.2.2.2.2.2) ++ CX1 K o0 up0) H locs := hH
  refine v_aload_n X dX1_copyFrom_56 rfl (lv_at hl 1 rfl) ?_
  refine v_get (v := .ref (o0 5)) X hH.1 8 rfl fk_X1_24 rfl dX1_copyFrom_57 ?_
  refine v_iconst (v := (0 : Int32)) X dX1_copyFrom_60 (by decide) ?_
  refine v_aload_n X dX1_copyFrom_61 rfl (lv_at hl 0 rfl) ?_
  refine v_get (v := .ref (o 5)) X hH.1 0 rfl fk_X1_24 rfl dX1_copyFrom_62 ?_
  refine v_iconst (v := (0 : Int32)) X dX1_copyFrom_65 (by decide) ?_
  refine v_iconst (v := (4 : Int32)) X dX1_copyFrom_66 (by decide) ?_
  have hin := h.1
  have h := h.2
  refine v_copy (f := up0.2.2.2.2.1) (g := u.2.2.2.2.1) X hl.1 hF ka_X1_43 hH 13 5 0 rfl rfl rfl hin ⟨Nat.le_of_ble_eq_true rfl, Nat.le_of_ble_eq_true rfl⟩ dX1_copyFrom_67 (fun H locs hH => ?_)
  have hH : HH F D A (CX1 K o ((va_cpy up0.1 u.1 (0 : Int32).toNatClampNeg (0 : Int32).toNatClampNeg (5 : Int32).toNatClampNeg), (va_cpy up0.2.1 u.2.1 (0 : Int32).toNatClampNeg (0 : Int32).toNatClampNeg (5 : Int32).toNatClampNeg), (va_cpy up0.2.2.1 u.2.2.1 (0 : Int32).toNatClampNeg (0 : Int32).toNatClampNeg (4 : Int32).toNatClampNeg), (va_cpy up0.2.2.2.1 u.2.2.2.1 (0 : Int32).toNatClampNeg (0 : Int32).toNatClampNeg (4 : Int32).toNatClampNeg), (va_cpy up0.2.2.2.2.1 u.2.2.2.2.1 (0 : Int32).toNatClampNeg (0 : Int32).toNatClampNeg (4 : Int32).toNatClampNeg), u.2.2.2.2.2.1, u.2.2.2.2.2.2.1, u.2.2.2.2.2.2.2.1, u.2.2.2.2.2.2.2.2.1, u.2.2.2.2.2.2.2.2.2.1, u.2.2.2.2.2.2.2.2.2.2.1, u.2.2.2.2.2.2.2.2.2.2.2) ++ CX1 K o0 up0) H locs := hH
  refine v_aload_n X dX1_copyFrom_70 rfl (lv_at hl 1 rfl) ?_
  refine v_get (v := .ref (o0 6)) X hH.1 8 rfl fk_X1_27 rfl dX1_copyFrom_71 ?_
  refine v_iconst (v := (0 : Int32)) X dX1_copyFrom_74 (by decide) ?_
  refine v_aload_n X dX1_copyFrom_75 rfl (lv_at hl 0 rfl) ?_
  refine v_get (v := .ref (o 6)) X hH.1 0 rfl fk_X1_27 rfl dX1_copyFrom_76 ?_
  refine v_iconst (v := (0 : Int32)) X dX1_copyFrom_79 (by decide) ?_
  refine v_iconst (v := (4 : Int32)) X dX1_copyFrom_80 (by decide) ?_
  have hin := h.1
  have h := h.2
  refine v_copy (f := up0.2.2.2.2.2.1) (g := u.2.2.2.2.2.1) X hl.1 hF ka_X1_43 hH 14 6 0 rfl rfl rfl hin ⟨Nat.le_of_ble_eq_true rfl, Nat.le_of_ble_eq_true rfl⟩ dX1_copyFrom_81 (fun H locs hH => ?_)
  have hH : HH F D A (CX1 K o ((va_cpy up0.1 u.1 (0 : Int32).toNatClampNeg (0 : Int32).toNatClampNeg (5 : Int32).toNatClampNeg), (va_cpy up0.2.1 u.2.1 (0 : Int32).toNatClampNeg (0 : Int32).toNatClampNeg (5 : Int32).toNatClampNeg), (va_cpy up0.2.2.1 u.2.2.1 (0 : Int32).toNatClampNeg (0 : Int32).toNatClampNeg (4 : Int32).toNatClampNeg), (va_cpy up0.2.2.2.1 u.2.2.2.1 (0 : Int32).toNatClampNeg (0 : Int32).toNatClampNeg (4 : Int32).toNatClampNeg), (va_cpy up0.2.2.2.2.1 u.2.2.2.2.1 (0 : Int32).toNatClampNeg (0 : Int32).toNatClampNeg (4 : Int32).toNatClampNeg), (va_cpy up0.2.2.2.2.2.1 u.2.2.2.2.2.1 (0 : Int32).toNatClampNeg (0 : Int32).toNatClampNeg (4 : Int32).toNatClampNeg), u.2.2.2.2.2.2.1, u.2.2.2.2.2.2.2.1, u.2.2.2.2.2.2.2.2.1, u.2.2.2.2.2.2.2.2.2.1, u.2.2.2.2.2.2.2.2.2.2.1, u.2.2.2.2.2.2.2.2.2.2.2) ++ CX1 K o0 up0) H locs := hH
  refine v_aload_n X dX1_copyFrom_84 rfl (lv_at hl 1 rfl) ?_
  refine v_get (v := .ref (o0 7)) X hH.1 8 rfl fk_X1_30 rfl dX1_copyFrom_85 ?_
  refine v_iconst (v := (0 : Int32)) X dX1_copyFrom_88 (by decide) ?_
  refine v_aload_n X dX1_copyFrom_89 rfl (lv_at hl 0 rfl) ?_
  refine v_get (v := .ref (o 7)) X hH.1 0 rfl fk_X1_30 rfl dX1_copyFrom_90 ?_
  refine v_iconst (v := (0 : Int32)) X dX1_copyFrom_93 (by decide) ?_
  refine v_iconst (v := (4 : Int32)) X dX1_copyFrom_94 (by decide) ?_
  have hin := h.1
  have h := h.2
  refine v_copy (f := up0.2.2.2.2.2.2.1) (g := u.2.2.2.2.2.2.1) X hl.1 hF ka_X1_43 hH 15 7 0 rfl rfl rfl hin ⟨Nat.le_of_ble_eq_true rfl, Nat.le_of_ble_eq_true rfl⟩ dX1_copyFrom_95 (fun H locs hH => ?_)
  have hH : HH F D A (CX1 K o ((va_cpy up0.1 u.1 (0 : Int32).toNatClampNeg (0 : Int32).toNatClampNeg (5 : Int32).toNatClampNeg), (va_cpy up0.2.1 u.2.1 (0 : Int32).toNatClampNeg (0 : Int32).toNatClampNeg (5 : Int32).toNatClampNeg), (va_cpy up0.2.2.1 u.2.2.1 (0 : Int32).toNatClampNeg (0 : Int32).toNatClampNeg (4 : Int32).toNatClampNeg), (va_cpy up0.2.2.2.1 u.2.2.2.1 (0 : Int32).toNatClampNeg (0 : Int32).toNatClampNeg (4 : Int32).toNatClampNeg), (va_cpy up0.2.2.2.2.1 u.2.2.2.2.1 (0 : Int32).toNatClampNeg (0 : Int32).toNatClampNeg (4 : Int32).toNatClampNeg), (va_cpy up0.2.2.2.2.2.1 u.2.2.2.2.2.1 (0 : Int32).toNatClampNeg (0 : Int32).toNatClampNeg (4 : Int32).toNatClampNeg), (va_cpy up0.2.2.2.2.2.2.1 u.2.2.2.2.2.2.1 (0 : Int32).toNatClampNeg (0 : Int32).toNatClampNeg (4 : Int32).toNatClampNeg), u.2.2.2.2.2.2.2.1, u.2.2.2.2.2.2.2.2.1, u.2.2.2.2.2.2.2.2.2.1, u.2.2.2.2.2.2.2.2.2.2.1, u.2.2.2.2.2.2.2.2.2.2.2) ++ CX1 K o0 up0) H locs := hH
  refine v_aload_n X dX1_copyFrom_98 rfl (lv_at hl 0 rfl) ?_
  refine v_aload_n X dX1_copyFrom_99 rfl (lv_at hl 1 rfl) ?_
  refine v_get (v := .int up0.2.2.2.2.2.2.2.1) X hH.1 8 rfl fk_X1_33 rfl dX1_copyFrom_100 ?_
  refine v_put X hH 0 rfl fi_X1_33 (Nat.le_of_ble_eq_true rfl) dX1_copyFrom_103 (fun H locs hH => ?_)
  have hH : HH F D A (CX1 K o ((va_cpy up0.1 u.1 (0 : Int32).toNatClampNeg (0 : Int32).toNatClampNeg (5 : Int32).toNatClampNeg), (va_cpy up0.2.1 u.2.1 (0 : Int32).toNatClampNeg (0 : Int32).toNatClampNeg (5 : Int32).toNatClampNeg), (va_cpy up0.2.2.1 u.2.2.1 (0 : Int32).toNatClampNeg (0 : Int32).toNatClampNeg (4 : Int32).toNatClampNeg), (va_cpy up0.2.2.2.1 u.2.2.2.1 (0 : Int32).toNatClampNeg (0 : Int32).toNatClampNeg (4 : Int32).toNatClampNeg), (va_cpy up0.2.2.2.2.1 u.2.2.2.2.1 (0 : Int32).toNatClampNeg (0 : Int32).toNatClampNeg (4 : Int32).toNatClampNeg), (va_cpy up0.2.2.2.2.2.1 u.2.2.2.2.2.1 (0 : Int32).toNatClampNeg (0 : Int32).toNatClampNeg (4 : Int32).toNatClampNeg), (va_cpy up0.2.2.2.2.2.2.1 u.2.2.2.2.2.2.1 (0 : Int32).toNatClampNeg (0 : Int32).toNatClampNeg (4 : Int32).toNatClampNeg), up0.2.2.2.2.2.2.2.1, u.2.2.2.2.2.2.2.2.1, u.2.2.2.2.2.2.2.2.2.1, u.2.2.2.2.2.2.2.2.2.2.1, u.2.2.2.2.2.2.2.2.2.2.2) ++ CX1 K o0 up0) H locs := hH
  refine v_aload_n X dX1_copyFrom_106 rfl (lv_at hl 0 rfl) ?_
  refine v_aload_n X dX1_copyFrom_107 rfl (lv_at hl 1 rfl) ?_
  refine v_get (v := .int up0.2.2.2.2.2.2.2.2.1) X hH.1 8 rfl fk_X1_37 rfl dX1_copyFrom_108 ?_
  refine v_put X hH 0 rfl fi_X1_37 (Nat.le_of_ble_eq_true rfl) dX1_copyFrom_111 (fun H locs hH => ?_)
  have hH : HH F D A (CX1 K o ((va_cpy up0.1 u.1 (0 : Int32).toNatClampNeg (0 : Int32).toNatClampNeg (5 : Int32).toNatClampNeg), (va_cpy up0.2.1 u.2.1 (0 : Int32).toNatClampNeg (0 : Int32).toNatClampNeg (5 : Int32).toNatClampNeg), (va_cpy up0.2.2.1 u.2.2.1 (0 : Int32).toNatClampNeg (0 : Int32).toNatClampNeg (4 : Int32).toNatClampNeg), (va_cpy up0.2.2.2.1 u.2.2.2.1 (0 : Int32).toNatClampNeg (0 : Int32).toNatClampNeg (4 : Int32).toNatClampNeg), (va_cpy up0.2.2.2.2.1 u.2.2.2.2.1 (0 : Int32).toNatClampNeg (0 : Int32).toNatClampNeg (4 : Int32).toNatClampNeg), (va_cpy up0.2.2.2.2.2.1 u.2.2.2.2.2.1 (0 : Int32).toNatClampNeg (0 : Int32).toNatClampNeg (4 : Int32).toNatClampNeg), (va_cpy up0.2.2.2.2.2.2.1 u.2.2.2.2.2.2.1 (0 : Int32).toNatClampNeg (0 : Int32).toNatClampNeg (4 : Int32).toNatClampNeg), up0.2.2.2.2.2.2.2.1, up0.2.2.2.2.2.2.2.2.1, u.2.2.2.2.2.2.2.2.2.1, u.2.2.2.2.2.2.2.2.2.2.1, u.2.2.2.2.2.2.2.2.2.2.2) ++ CX1 K o0 up0) H locs := hH
  refine v_aload_n X dX1_copyFrom_114 rfl (lv_at hl 0 rfl) ?_
  refine v_aload_n X dX1_copyFrom_115 rfl (lv_at hl 1 rfl) ?_
  refine v_get (v := .int up0.2.2.2.2.2.2.2.2.2.1) X hH.1 8 rfl fk_X1_49 rfl dX1_copyFrom_116 ?_
  refine v_put X hH 0 rfl fi_X1_49 (Nat.le_of_ble_eq_true rfl) dX1_copyFrom_119 (fun H locs hH => ?_)
  have hH : HH F D A (CX1 K o ((va_cpy up0.1 u.1 (0 : Int32).toNatClampNeg (0 : Int32).toNatClampNeg (5 : Int32).toNatClampNeg), (va_cpy up0.2.1 u.2.1 (0 : Int32).toNatClampNeg (0 : Int32).toNatClampNeg (5 : Int32).toNatClampNeg), (va_cpy up0.2.2.1 u.2.2.1 (0 : Int32).toNatClampNeg (0 : Int32).toNatClampNeg (4 : Int32).toNatClampNeg), (va_cpy up0.2.2.2.1 u.2.2.2.1 (0 : Int32).toNatClampNeg (0 : Int32).toNatClampNeg (4 : Int32).toNatClampNeg), (va_cpy up0.2.2.2.2.1 u.2.2.2.2.1 (0 : Int32).toNatClampNeg (0 : Int32).toNatClampNeg (4 : Int32).toNatClampNeg), (va_cpy up0.2.2.2.2.2.1 u.2.2.2.2.2.1 (0 : Int32).toNatClampNeg (0 : Int32).toNatClampNeg (4 : Int32).toNatClampNeg), (va_cpy up0.2.2.2.2.2.2.1 u.2.2.2.2.2.2.1 (0 : Int32).toNatClampNeg (0 : Int32).toNatClampNeg (4 : Int32).toNatClampNeg), up0.2.2.2.2.2.2.2.1, up0.2.2.2.2.2.2.2.2.1, up0.2.2.2.2.2.2.2.2.2.1, u.2.2.2.2.2.2.2.2.2.2.1, u.2.2.2.2.2.2.2.2.2.2.2) ++ CX1 K o0 up0) H locs := hH
  refine v_aload_n X dX1_copyFrom_122 rfl (lv_at hl 0 rfl) ?_
  refine v_aload_n X dX1_copyFrom_123 rfl (lv_at hl 1 rfl) ?_
  refine v_get (v := .int up0.2.2.2.2.2.2.2.2.2.2.1) X hH.1 8 rfl fk_X1_52 rfl dX1_copyFrom_124 ?_
  refine v_put X hH 0 rfl fi_X1_52 (Nat.le_of_ble_eq_true rfl) dX1_copyFrom_127 (fun H locs hH => ?_)
  have hH : HH F D A (CX1 K o ((va_cpy up0.1 u.1 (0 : Int32).toNatClampNeg (0 : Int32).toNatClampNeg (5 : Int32).toNatClampNeg), (va_cpy up0.2.1 u.2.1 (0 : Int32).toNatClampNeg (0 : Int32).toNatClampNeg (5 : Int32).toNatClampNeg), (va_cpy up0.2.2.1 u.2.2.1 (0 : Int32).toNatClampNeg (0 : Int32).toNatClampNeg (4 : Int32).toNatClampNeg), (va_cpy up0.2.2.2.1 u.2.2.2.1 (0 : Int32).toNatClampNeg (0 : Int32).toNatClampNeg (4 : Int32).toNatClampNeg), (va_cpy up0.2.2.2.2.1 u.2.2.2.2.1 (0 : Int32).toNatClampNeg (0 : Int32).toNatClampNeg (4 : Int32).toNatClampNeg), (va_cpy up0.2.2.2.2.2.1 u.2.2.2.2.2.1 (0 : Int32).toNatClampNeg (0 : Int32).toNatClampNeg (4 : Int32).toNatClampNeg), (va_cpy up0.2.2.2.2.2.2.1 u.2.2.2.2.2.2.1 (0 : Int32).toNatClampNeg (0 : Int32).toNatClampNeg (4 : Int32).toNatClampNeg), up0.2.2.2.2.2.2.2.1, up0.2.2.2.2.2.2.2.2.1, up0.2.2.2.2.2.2.2.2.2.1, up0.2.2.2.2.2.2.2.2.2.2.1, u.2.2.2.2.2.2.2.2.2.2.2) ++ CX1 K o0 up0) H locs := hH
  refine v_aload_n X dX1_copyFrom_130 rfl (lv_at hl 0 rfl) ?_
  refine v_aload_n X dX1_copyFrom_131 rfl (lv_at hl 1 rfl) ?_
  refine v_get (v := .int up0.2.2.2.2.2.2.2.2.2.2.2) X hH.1 8 rfl fk_X1_40 rfl dX1_copyFrom_132 ?_
  refine v_put X hH 0 rfl fi_X1_40 (Nat.le_of_ble_eq_true rfl) dX1_copyFrom_135 (fun H locs hH => ?_)
  have hH : HH F D A (CX1 K o ((va_cpy up0.1 u.1 (0 : Int32).toNatClampNeg (0 : Int32).toNatClampNeg (5 : Int32).toNatClampNeg), (va_cpy up0.2.1 u.2.1 (0 : Int32).toNatClampNeg (0 : Int32).toNatClampNeg (5 : Int32).toNatClampNeg), (va_cpy up0.2.2.1 u.2.2.1 (0 : Int32).toNatClampNeg (0 : Int32).toNatClampNeg (4 : Int32).toNatClampNeg), (va_cpy up0.2.2.2.1 u.2.2.2.1 (0 : Int32).toNatClampNeg (0 : Int32).toNatClampNeg (4 : Int32).toNatClampNeg), (va_cpy up0.2.2.2.2.1 u.2.2.2.2.1 (0 : Int32).toNatClampNeg (0 : Int32).toNatClampNeg (4 : Int32).toNatClampNeg), (va_cpy up0.2.2.2.2.2.1 u.2.2.2.2.2.1 (0 : Int32).toNatClampNeg (0 : Int32).toNatClampNeg (4 : Int32).toNatClampNeg), (va_cpy up0.2.2.2.2.2.2.1 u.2.2.2.2.2.2.1 (0 : Int32).toNatClampNeg (0 : Int32).toNatClampNeg (4 : Int32).toNatClampNeg), up0.2.2.2.2.2.2.2.1, up0.2.2.2.2.2.2.2.2.1, up0.2.2.2.2.2.2.2.2.2.1, up0.2.2.2.2.2.2.2.2.2.2.1, up0.2.2.2.2.2.2.2.2.2.2.2) ++ CX1 K o0 up0) H locs := hH
  exact v_wvret X hF ((va_cpy up0.1 u.1 (0 : Int32).toNatClampNeg (0 : Int32).toNatClampNeg (5 : Int32).toNatClampNeg), (va_cpy up0.2.1 u.2.1 (0 : Int32).toNatClampNeg (0 : Int32).toNatClampNeg (5 : Int32).toNatClampNeg), (va_cpy up0.2.2.1 u.2.2.1 (0 : Int32).toNatClampNeg (0 : Int32).toNatClampNeg (4 : Int32).toNatClampNeg), (va_cpy up0.2.2.2.1 u.2.2.2.1 (0 : Int32).toNatClampNeg (0 : Int32).toNatClampNeg (4 : Int32).toNatClampNeg), (va_cpy up0.2.2.2.2.1 u.2.2.2.2.1 (0 : Int32).toNatClampNeg (0 : Int32).toNatClampNeg (4 : Int32).toNatClampNeg), (va_cpy up0.2.2.2.2.2.1 u.2.2.2.2.2.1 (0 : Int32).toNatClampNeg (0 : Int32).toNatClampNeg (4 : Int32).toNatClampNeg), (va_cpy up0.2.2.2.2.2.2.1 u.2.2.2.2.2.2.1 (0 : Int32).toNatClampNeg (0 : Int32).toNatClampNeg (4 : Int32).toNatClampNeg), up0.2.2.2.2.2.2.2.1, up0.2.2.2.2.2.2.2.2.1, up0.2.2.2.2.2.2.2.2.2.1, up0.2.2.2.2.2.2.2.2.2.2.1, up0.2.2.2.2.2.2.2.2.2.2.2) hH h dX1_copyFrom_138
def w_X1_isOpen (u : BX1) (post : Int32 → Prop) : Prop := (u.2.2.2.2.2.2.2.1 ≤ 0 → post (0 : Int32)) ∧ (¬ u.2.2.2.2.2.2.2.1 ≤ 0 → post (1 : Int32))
set_option maxHeartbeats 4000000 in
set_option maxRecDepth 100000 in
theorem c_X1_isOpen (l : Launch) (D : va_G) (K : Nat → ClassId) (t : Nat → Nat) (o : Nat → Nat) (u : BX1) (post : Int32 → Prop) (h : w_X1_isOpen u post) : RdM l yX1_isOpen cX1_isOpen 1 (some .boolean) ({ frames := 0, cells := 0, slots := 0, locals := 0 } : Room) D (TY K) t (CX1 K o u) [.ref (o 0)] post := by
  refine RdM.mk rfl (Nat.le_of_ble_eq_true rfl) ?_
  intro F ls _ hF X hP hl hT
  have X : Cx F cX1_isOpen 1 RX1 D (TY K) := X
  have hl : lv_has ls 1 [(0, .ref (o 0))] := hl
  unfold w_X1_isOpen at h
  refine v_aload_n X dX1_isOpen_0 rfl (lv_at hl 0 rfl) ?_
  refine v_get (v := .int u.2.2.2.2.2.2.2.1) X hP 0 rfl fk_X1_33 rfl dX1_isOpen_1 ?_
  refine v_if_le (tgt := 11) X dX1_isOpen_4 (by decide) (fun c1 => ?_) (fun c1 => ?_)
  · have h := h.1 c1
    refine v_iconst (v := (0 : Int32)) X dX1_isOpen_11 (by decide) ?_
    exact v_rzret X hF rfl h dX1_isOpen_12
  · have h := h.2 c1
    refine v_iconst (v := (1 : Int32)) X dX1_isOpen_7 (by decide) ?_
    refine v_goto (tgt := 12) X dX1_isOpen_8 (by decide) ?_
    exact v_rzret X hF rfl h dX1_isOpen_12
def w_X1_hasClient (u : BX1) (a0 : Int32) (post : Int32 → Prop) : Prop := (a0 < 0 → post (0 : Int32)) ∧ (¬ a0 < 0 → (u.2.2.2.2.2.2.2.1 ≤ a0 → post (0 : Int32)) ∧ (¬ u.2.2.2.2.2.2.2.1 ≤ a0 → post (1 : Int32)))
set_option maxHeartbeats 4000000 in
set_option maxRecDepth 100000 in
theorem c_X1_hasClient (l : Launch) (D : va_G) (K : Nat → ClassId) (t : Nat → Nat) (o : Nat → Nat) (u : BX1) (a0 : Int32) (post : Int32 → Prop) (h : w_X1_hasClient u a0 post) : RdM l yX1_hasClient cX1_hasClient 2 (some .boolean) ({ frames := 0, cells := 0, slots := 0, locals := 0 } : Room) D (TY K) t (CX1 K o u) [.ref (o 0), .int a0] post := by
  refine RdM.mk rfl (Nat.le_of_ble_eq_true rfl) ?_
  intro F ls _ hF X hP hl hT
  have X : Cx F cX1_hasClient 2 RX1 D (TY K) := X
  have hl : lv_has ls 2 [(0, .ref (o 0)), (1, .int a0)] := hl
  unfold w_X1_hasClient at h
  refine v_iload_n X dX1_hasClient_0 rfl (lv_at hl 1 rfl) ?_
  refine v_if_lt (tgt := 16) X dX1_hasClient_1 (by decide) (fun c2 => ?_) (fun c2 => ?_)
  · have h := h.1 c2
    refine v_iconst (v := (0 : Int32)) X dX1_hasClient_16 (by decide) ?_
    exact v_rzret X hF rfl h dX1_hasClient_17
  · have h := h.2 c2
    refine v_iload_n X dX1_hasClient_4 rfl (lv_at hl 1 rfl) ?_
    refine v_aload_n X dX1_hasClient_5 rfl (lv_at hl 0 rfl) ?_
    refine v_get (v := .int u.2.2.2.2.2.2.2.1) X hP 0 rfl fk_X1_33 rfl dX1_hasClient_6 ?_
    refine v_icmp_ge (tgt := 16) X dX1_hasClient_9 (by decide) (fun c1 => ?_) (fun c1 => ?_)
    · have h := h.1 c1
      refine v_iconst (v := (0 : Int32)) X dX1_hasClient_16 (by decide) ?_
      exact v_rzret X hF rfl h dX1_hasClient_17
    · have h := h.2 c1
      refine v_iconst (v := (1 : Int32)) X dX1_hasClient_12 (by decide) ?_
      refine v_goto (tgt := 17) X dX1_hasClient_13 (by decide) ?_
      exact v_rzret X hF rfl h dX1_hasClient_17
def w_X1_hasWaker (u : BX1) (a0 : Int32) (post : Int32 → Prop) : Prop := (a0 < 0 → post (0 : Int32)) ∧ (¬ a0 < 0 → (u.2.2.2.2.2.2.2.2.1 ≤ a0 → post (0 : Int32)) ∧ (¬ u.2.2.2.2.2.2.2.2.1 ≤ a0 → post (1 : Int32)))
set_option maxHeartbeats 4000000 in
set_option maxRecDepth 100000 in
theorem c_X1_hasWaker (l : Launch) (D : va_G) (K : Nat → ClassId) (t : Nat → Nat) (o : Nat → Nat) (u : BX1) (a0 : Int32) (post : Int32 → Prop) (h : w_X1_hasWaker u a0 post) : RdM l yX1_hasWaker cX1_hasWaker 2 (some .boolean) ({ frames := 0, cells := 0, slots := 0, locals := 0 } : Room) D (TY K) t (CX1 K o u) [.ref (o 0), .int a0] post := by
  refine RdM.mk rfl (Nat.le_of_ble_eq_true rfl) ?_
  intro F ls _ hF X hP hl hT
  have X : Cx F cX1_hasWaker 2 RX1 D (TY K) := X
  have hl : lv_has ls 2 [(0, .ref (o 0)), (1, .int a0)] := hl
  unfold w_X1_hasWaker at h
  refine v_iload_n X dX1_hasWaker_0 rfl (lv_at hl 1 rfl) ?_
  refine v_if_lt (tgt := 16) X dX1_hasWaker_1 (by decide) (fun c2 => ?_) (fun c2 => ?_)
  · have h := h.1 c2
    refine v_iconst (v := (0 : Int32)) X dX1_hasWaker_16 (by decide) ?_
    exact v_rzret X hF rfl h dX1_hasWaker_17
  · have h := h.2 c2
    refine v_iload_n X dX1_hasWaker_4 rfl (lv_at hl 1 rfl) ?_
    refine v_aload_n X dX1_hasWaker_5 rfl (lv_at hl 0 rfl) ?_
    refine v_get (v := .int u.2.2.2.2.2.2.2.2.1) X hP 0 rfl fk_X1_37 rfl dX1_hasWaker_6 ?_
    refine v_icmp_ge (tgt := 16) X dX1_hasWaker_9 (by decide) (fun c1 => ?_) (fun c1 => ?_)
    · have h := h.1 c1
      refine v_iconst (v := (0 : Int32)) X dX1_hasWaker_16 (by decide) ?_
      exact v_rzret X hF rfl h dX1_hasWaker_17
    · have h := h.2 c1
      refine v_iconst (v := (1 : Int32)) X dX1_hasWaker_12 (by decide) ?_
      refine v_goto (tgt := 17) X dX1_hasWaker_13 (by decide) ?_
      exact v_rzret X hF rfl h dX1_hasWaker_17
def w_X1_hasAll (u : BX1) (a0 : Int32) (post : Int32 → Prop) : Prop := (a0 < 0 → post (0 : Int32)) ∧ (¬ a0 < 0 → (((1 : Int32) <<< (u.2.2.2.2.2.2.2.1 &&& 31)) ≤ a0 → post (0 : Int32)) ∧ (¬ ((1 : Int32) <<< (u.2.2.2.2.2.2.2.1 &&& 31)) ≤ a0 → post (1 : Int32)))
set_option maxHeartbeats 4000000 in
set_option maxRecDepth 100000 in
theorem c_X1_hasAll (l : Launch) (D : va_G) (K : Nat → ClassId) (t : Nat → Nat) (o : Nat → Nat) (u : BX1) (a0 : Int32) (post : Int32 → Prop) (h : w_X1_hasAll u a0 post) : RdM l yX1_hasAll cX1_hasAll 2 (some .boolean) ({ frames := 0, cells := 0, slots := 0, locals := 0 } : Room) D (TY K) t (CX1 K o u) [.ref (o 0), .int a0] post := by
  refine RdM.mk rfl (Nat.le_of_ble_eq_true rfl) ?_
  intro F ls _ hF X hP hl hT
  have X : Cx F cX1_hasAll 2 RX1 D (TY K) := X
  have hl : lv_has ls 2 [(0, .ref (o 0)), (1, .int a0)] := hl
  unfold w_X1_hasAll at h
  refine v_iload_n X dX1_hasAll_0 rfl (lv_at hl 1 rfl) ?_
  refine v_if_lt (tgt := 18) X dX1_hasAll_1 (by decide) (fun c2 => ?_) (fun c2 => ?_)
  · have h := h.1 c2
    refine v_iconst (v := (0 : Int32)) X dX1_hasAll_18 (by decide) ?_
    exact v_rzret X hF rfl h dX1_hasAll_19
  · have h := h.2 c2
    refine v_iload_n X dX1_hasAll_4 rfl (lv_at hl 1 rfl) ?_
    refine v_iconst (v := (1 : Int32)) X dX1_hasAll_5 (by decide) ?_
    refine v_aload_n X dX1_hasAll_6 rfl (lv_at hl 0 rfl) ?_
    refine v_get (v := .int u.2.2.2.2.2.2.2.1) X hP 0 rfl fk_X1_33 rfl dX1_hasAll_7 ?_
    refine v_ishl X dX1_hasAll_10 ?_
    refine v_icmp_ge (tgt := 18) X dX1_hasAll_11 (by decide) (fun c1 => ?_) (fun c1 => ?_)
    · have h := h.1 c1
      refine v_iconst (v := (0 : Int32)) X dX1_hasAll_18 (by decide) ?_
      exact v_rzret X hF rfl h dX1_hasAll_19
    · have h := h.2 c1
      refine v_iconst (v := (1 : Int32)) X dX1_hasAll_14 (by decide) ?_
      refine v_goto (tgt := 19) X dX1_hasAll_15 (by decide) ?_
      exact v_rzret X hF rfl h dX1_hasAll_19
def w_X1_guarding (a0 : Int32) (a1 : Int32) (post : Int32 → Prop) : Prop := ((a1 - a1 / (3 : Int32) * (3 : Int32)) = (2 : Int32) → post (0 : Int32)) ∧ (¬ (a1 - a1 / (3 : Int32) * (3 : Int32)) = (2 : Int32) → post a0)
set_option maxHeartbeats 4000000 in
set_option maxRecDepth 100000 in
theorem c_X1_guarding (l : Launch) (D : va_G) (K : Nat → ClassId) (t : Nat → Nat) (a0 : Int32) (a1 : Int32) (post : Int32 → Prop) (h : w_X1_guarding a0 a1 post) : RdM l yX1_guarding cX1_guarding 2 (some .int) ({ frames := 0, cells := 0, slots := 0, locals := 0 } : Room) D (TY K) t ([] : va_W) [.int a0, .int a1] post := by
  refine RdM.mk rfl (Nat.le_of_ble_eq_true rfl) ?_
  intro F ls _ hF X hP hl hT
  have X : Cx F cX1_guarding 2 RX1 D (TY K) := X
  have hl : lv_has ls 2 [(0, .int a0), (1, .int a1)] := hl
  unfold w_X1_guarding at h
  refine v_iload_n X dX1_guarding_0 rfl (lv_at hl 1 rfl) ?_
  refine v_iconst (v := (3 : Int32)) X dX1_guarding_1 (by decide) ?_
  refine v_irem X dX1_guarding_2 (by decide) ?_
  refine v_iconst (v := (2 : Int32)) X dX1_guarding_3 (by decide) ?_
  refine v_icmp_ne (tgt := 11) X dX1_guarding_4 (by decide) (fun c1 => ?_) (fun c1 => ?_)
  · have h := h.2 c1
    refine v_iload_n X dX1_guarding_11 rfl (lv_at hl 0 rfl) ?_
    exact v_riret X hF h dX1_guarding_12
  · have h := h.1 c1
    refine v_iconst (v := (0 : Int32)) X dX1_guarding_7 (by decide) ?_
    refine v_goto (tgt := 12) X dX1_guarding_8 (by decide) ?_
    exact v_riret X hF h dX1_guarding_12
def w_X1_lying (u : BX1) (a0 : Int32) (a1 : Int32) (a2 : Int32) (post : Int32 → Prop) : Prop := w_X1_hasWaker u a0 (fun r1 => (r1 = 0 → post (0 : Int32)) ∧ (¬ r1 = 0 → w_X1_hasClient u a1 (fun r2 => (r2 = 0 → post (0 : Int32)) ∧ (¬ r2 = 0 → vp_in a0 4 ∧ (∀ x3 : Int32, x3 = (u.2.2.2.1 a0.toNatClampNeg) → vp_in a0 4 ∧ (∀ x4 : Int32, x4 = (u.2.2.1 a0.toNatClampNeg) → (x4 = (2 : Int32) → ((a2 - a2 / (7 : Int32) * (7 : Int32)) = u.2.2.2.2.2.2.2.2.2.2.1 → post (0 : Int32)) ∧ (¬ (a2 - a2 / (7 : Int32) * (7 : Int32)) = u.2.2.2.2.2.2.2.2.2.2.1 → post x3)) ∧ (¬ x4 = (2 : Int32) → (x4 = (3 : Int32) → vp_in a0 4 ∧ (vp_in a1 5 ∧ (((u.2.2.2.2.1 a0.toNatClampNeg) = (u.2.1 a1.toNatClampNeg) → post ((2 : Int32) * x3)) ∧ (¬ (u.2.2.2.2.1 a0.toNatClampNeg) = (u.2.1 a1.toNatClampNeg) → post x3)))) ∧ (¬ x4 = (3 : Int32) → (x4 = (4 : Int32) → w_X1_guarding x3 a2 (fun r10 => post r10)) ∧ (¬ x4 = (4 : Int32) → (x4 = (5 : Int32) → w_X1_guarding x3 a2 (fun r12 => post (if (r12 + (a2 / (2 : Int32))) < (9 : Int32) then (r12 + (a2 / (2 : Int32))) else (9 : Int32)))) ∧ (¬ x4 = (5 : Int32) → post x3))))))))))
set_option maxHeartbeats 4000000 in
set_option maxRecDepth 100000 in
theorem c_X1_lying (l : Launch) (D : va_G) (K : Nat → ClassId) (t : Nat → Nat) (o : Nat → Nat) (u : BX1) (a0 : Int32) (a1 : Int32) (a2 : Int32) (post : Int32 → Prop) (h : w_X1_lying u a0 a1 a2 post) : RdM l yX1_lying cX1_lying 5 (some .int) ({ frames := 1, cells := 0, slots := 0, locals := 40 } : Room) D (TY K) t (CX1 K o u) [.ref (o 0), .int a0, .int a1, .int a2] post := by
  refine RdM.mk rfl (Nat.le_of_ble_eq_true rfl) ?_
  intro F ls _ hF X hP hl hT
  have X : Cx F cX1_lying 5 RX1 D (TY K) := X
  have hl : lv_has ls 5 [(0, .ref (o 0)), (1, .int a0), (2, .int a1), (3, .int a2)] := hl
  unfold w_X1_lying at h
  refine v_aload_n X dX1_lying_0 rfl (lv_at hl 0 rfl) ?_
  refine v_iload_n X dX1_lying_1 rfl (lv_at hl 1 rfl) ?_
  refine rdV (As := [.int a0]) (rest := []) X mv_X1_55 (c_X1_hasWaker F.2.1 D K t o u a0 _ h) hF ⟨rfl, rfl, Nat.le_of_ble_eq_true rfl, Nat.le_of_ble_eq_true rfl⟩ hT hP [0, 1, 2, 3, 4, 5, 6, 7] rfl 0 rfl rfl hl.1 rfl rfl (Nat.le_of_ble_eq_true rfl) dX1_lying_2 (fun r1 h => ?_)
  refine v_if_eq (tgt := 16) X dX1_lying_5 (by decide) (fun c14 => ?_) (fun c14 => ?_)
  · have h := h.1 c14
    refine v_iconst (v := (0 : Int32)) X dX1_lying_16 (by decide) ?_
    exact v_riret X hF h dX1_lying_17
  · have h := h.2 c14
    refine v_aload_n X dX1_lying_8 rfl (lv_at hl 0 rfl) ?_
    refine v_iload_n X dX1_lying_9 rfl (lv_at hl 2 rfl) ?_
    refine rdV (As := [.int a1]) (rest := []) X mv_X1_59 (c_X1_hasClient F.2.1 D K t o u a1 _ h) hF ⟨rfl, rfl, Nat.le_of_ble_eq_true rfl, Nat.le_of_ble_eq_true rfl⟩ hT hP [0, 1, 2, 3, 4, 5, 6, 7] rfl 0 rfl rfl hl.1 rfl rfl (Nat.le_of_ble_eq_true rfl) dX1_lying_10 (fun r2 h => ?_)
    refine v_if_ne (tgt := 18) X dX1_lying_13 (by decide) (fun c13 => ?_) (fun c13 => ?_)
    · have h := h.2 c13
      refine v_aload_n X dX1_lying_18 rfl (lv_at hl 0 rfl) ?_
      refine v_get (v := .ref (o 4)) X hP 0 rfl fk_X1_21 rfl dX1_lying_19 ?_
      refine v_iload_n X dX1_lying_22 rfl (lv_at hl 1 rfl) ?_
      have hin := h.1
      have h := h.2
      refine v_iald (f := u.2.2.2.1) X hP 4 0 rfl rfl hin dX1_lying_23 ?_
      refine v_topi (fun x3 ex3 => ?_)
      have h := h x3 ex3
      refine v_istore (lv' := [(4, .int x3), (0, .ref (o 0)), (1, .int a0), (2, .int a1), (3, .int a2)]) X dX1_lying_24 hl (by decide) rfl (fun ls hl => ?_)
      refine v_aload_n X dX1_lying_26 rfl (lv_at hl 1 rfl) ?_
      refine v_get (v := .ref (o 3)) X hP 0 rfl fk_X1_18 rfl dX1_lying_27 ?_
      refine v_iload_n X dX1_lying_30 rfl (lv_at hl 2 rfl) ?_
      have hin := h.1
      have h := h.2
      refine v_iald (f := u.2.2.1) X hP 3 0 rfl rfl hin dX1_lying_31 ?_
      refine v_topi (fun x4 ex4 => ?_)
      have h := h x4 ex4
      by_cases c5 : x4 = (2 : Int32)
      · have h := h.1 c5
        refine v_tableIn (tgt := 64) (off := 32) X dX1_lying_32 (by rw [c5]; decide) (by rw [c5]; decide) (by rw [c5]; rfl) (by decide) ?_
        refine v_iload_n X dX1_lying_64 rfl (lv_at hl 4 rfl) ?_
        refine v_bipush (v := (7 : Int32)) X dX1_lying_65 (by decide) ?_
        refine v_irem X dX1_lying_67 (by decide) ?_
        refine v_aload_n X dX1_lying_68 rfl (lv_at hl 1 rfl) ?_
        refine v_get (v := .int u.2.2.2.2.2.2.2.2.2.2.1) X hP 0 rfl fk_X1_52 rfl dX1_lying_69 ?_
        refine v_icmp_ne (tgt := 79) X dX1_lying_72 (by decide) (fun c6 => ?_) (fun c6 => ?_)
        · have h := h.2 c6
          refine v_iload X dX1_lying_79 (lv_at hl 0 rfl) ?_
          exact v_riret X hF h dX1_lying_81
        · have h := h.1 c6
          refine v_iconst (v := (0 : Int32)) X dX1_lying_75 (by decide) ?_
          refine v_goto (tgt := 81) X dX1_lying_76 (by decide) ?_
          exact v_riret X hF h dX1_lying_81
      · have h := h.2 c5
        by_cases c7 : x4 = (3 : Int32)
        · have h := h.1 c7
          refine v_tableIn (tgt := 82) (off := 50) X dX1_lying_32 (by rw [c7]; decide) (by rw [c7]; decide) (by rw [c7]; rfl) (by decide) ?_
          refine v_aload_n X dX1_lying_82 rfl (lv_at hl 1 rfl) ?_
          refine v_get (v := .ref (o 5)) X hP 0 rfl fk_X1_24 rfl dX1_lying_83 ?_
          refine v_iload_n X dX1_lying_86 rfl (lv_at hl 2 rfl) ?_
          have hin := h.1
          have h := h.2
          refine v_iald (f := u.2.2.2.2.1) X hP 5 0 rfl rfl hin dX1_lying_87 ?_
          refine v_aload_n X dX1_lying_88 rfl (lv_at hl 1 rfl) ?_
          refine v_get (v := .ref (o 2)) X hP 0 rfl fk_X1_15 rfl dX1_lying_89 ?_
          refine v_iload_n X dX1_lying_92 rfl (lv_at hl 3 rfl) ?_
          have hin := h.1
          have h := h.2
          refine v_iald (f := u.2.1) X hP 2 0 rfl rfl hin dX1_lying_93 ?_
          refine v_icmp_ne (tgt := 104) X dX1_lying_94 (by decide) (fun c8 => ?_) (fun c8 => ?_)
          · have h := h.2 c8
            refine v_iload X dX1_lying_104 (lv_at hl 0 rfl) ?_
            exact v_riret X hF h dX1_lying_106
          · have h := h.1 c8
            refine v_iconst (v := (2 : Int32)) X dX1_lying_97 (by decide) ?_
            refine v_iload X dX1_lying_98 (lv_at hl 0 rfl) ?_
            refine v_imul X dX1_lying_100 ?_
            refine v_goto (tgt := 106) X dX1_lying_101 (by decide) ?_
            exact v_riret X hF h dX1_lying_106
        · have h := h.2 c7
          by_cases c9 : x4 = (4 : Int32)
          · have h := h.1 c9
            refine v_tableIn (tgt := 107) (off := 75) X dX1_lying_32 (by rw [c9]; decide) (by rw [c9]; decide) (by rw [c9]; rfl) (by decide) ?_
            refine v_iload X dX1_lying_107 (lv_at hl 0 rfl) ?_
            refine v_iload_n X dX1_lying_109 rfl (lv_at hl 4 rfl) ?_
            refine rdS (As := [.int x3, .int a2]) (rest := []) X ms_X1_62 (c_X1_guarding F.2.1 D K t x3 a2 _ h) hF ⟨rfl, rfl, Nat.le_of_ble_eq_true rfl, Nat.le_of_ble_eq_true rfl⟩ hT hP [] rfl hl.1 rfl rfl (Nat.le_of_ble_eq_true rfl) dX1_lying_110 (fun r10 h => ?_)
            exact v_riret X hF h dX1_lying_113
          · have h := h.2 c9
            by_cases c11 : x4 = (5 : Int32)
            · have h := h.1 c11
              refine v_tableIn (tgt := 114) (off := 82) X dX1_lying_32 (by rw [c11]; decide) (by rw [c11]; decide) (by rw [c11]; rfl) (by decide) ?_
              refine v_bipush (v := (9 : Int32)) X dX1_lying_114 (by decide) ?_
              refine v_iload X dX1_lying_116 (lv_at hl 0 rfl) ?_
              refine v_iload_n X dX1_lying_118 rfl (lv_at hl 4 rfl) ?_
              refine rdS (As := [.int x3, .int a2]) (rest := [.int (9 : Int32)]) X ms_X1_62 (c_X1_guarding F.2.1 D K t x3 a2 _ h) hF ⟨rfl, rfl, Nat.le_of_ble_eq_true rfl, Nat.le_of_ble_eq_true rfl⟩ hT hP [] rfl hl.1 rfl rfl (Nat.le_of_ble_eq_true rfl) dX1_lying_119 (fun r12 h => ?_)
              refine v_iload_n X dX1_lying_122 rfl (lv_at hl 4 rfl) ?_
              refine v_iconst (v := (2 : Int32)) X dX1_lying_123 (by decide) ?_
              refine v_idiv X dX1_lying_124 (by decide) ?_
              refine v_iadd X dX1_lying_125 ?_
              refine v_mmin X hl.1 hF km_X1_66 ⟨Nat.le_of_ble_eq_true rfl, Nat.le_of_ble_eq_true rfl⟩ dX1_lying_126 ?_
              exact v_riret X hF h dX1_lying_129
            · have h := h.2 c11
              refine v_tableOut (tgt := 130) X dX1_lying_32 (by have e0 : x4.toInt ≠ 2 := fun q => c5 (Int32.toInt_inj.mp (by rw [q]; rfl)); have e1 : x4.toInt ≠ 3 := fun q => c7 (Int32.toInt_inj.mp (by rw [q]; rfl)); have e2 : x4.toInt ≠ 4 := fun q => c9 (Int32.toInt_inj.mp (by rw [q]; rfl)); have e3 : x4.toInt ≠ 5 := fun q => c11 (Int32.toInt_inj.mp (by rw [q]; rfl)); omega) (by decide) ?_
              refine v_iload X dX1_lying_130 (lv_at hl 0 rfl) ?_
              exact v_riret X hF h dX1_lying_132
    · have h := h.1 c13
      refine v_iconst (v := (0 : Int32)) X dX1_lying_16 (by decide) ?_
      exact v_riret X hF h dX1_lying_17
def w_X1_takenBy (u : BX1) (a0 : Int32) (a1 : Int32) (a2 : Int32) (post : Int32 → Prop) : Prop := w_X1_hasWaker u a0 (fun r1 => (r1 = 0 → post (0 : Int32)) ∧ (¬ r1 = 0 → w_X1_hasClient u a1 (fun r2 => (r2 = 0 → post (0 : Int32)) ∧ (¬ r2 = 0 → w_X1_lying u a0 a1 a2 (fun r3 => vp_in a0 4 ∧ (vp_in a1 5 ∧ (((u.2.2.2.2.1 a0.toNatClampNeg) = (u.2.1 a1.toNatClampNeg) → post r3) ∧ (¬ (u.2.2.2.2.1 a0.toNatClampNeg) = (u.2.1 a1.toNatClampNeg) → post (r3 / (2 : Int32))))))))))
set_option maxHeartbeats 4000000 in
set_option maxRecDepth 100000 in
theorem c_X1_takenBy (l : Launch) (D : va_G) (K : Nat → ClassId) (t : Nat → Nat) (o : Nat → Nat) (u : BX1) (a0 : Int32) (a1 : Int32) (a2 : Int32) (post : Int32 → Prop) (h : w_X1_takenBy u a0 a1 a2 post) : RdM l yX1_takenBy cX1_takenBy 5 (some .int) ({ frames := 2, cells := 0, slots := 0, locals := 64 } : Room) D (TY K) t (CX1 K o u) [.ref (o 0), .int a0, .int a1, .int a2] post := by
  refine RdM.mk rfl (Nat.le_of_ble_eq_true rfl) ?_
  intro F ls _ hF X hP hl hT
  have X : Cx F cX1_takenBy 5 RX1 D (TY K) := X
  have hl : lv_has ls 5 [(0, .ref (o 0)), (1, .int a0), (2, .int a1), (3, .int a2)] := hl
  unfold w_X1_takenBy at h
  refine v_aload_n X dX1_takenBy_0 rfl (lv_at hl 0 rfl) ?_
  refine v_iload_n X dX1_takenBy_1 rfl (lv_at hl 1 rfl) ?_
  refine rdV (As := [.int a0]) (rest := []) X mv_X1_55 (c_X1_hasWaker F.2.1 D K t o u a0 _ h) hF ⟨rfl, rfl, Nat.le_of_ble_eq_true rfl, Nat.le_of_ble_eq_true rfl⟩ hT hP [0, 1, 2, 3, 4, 5, 6, 7] rfl 0 rfl rfl hl.1 rfl rfl (Nat.le_of_ble_eq_true rfl) dX1_takenBy_2 (fun r1 h => ?_)
  refine v_if_eq (tgt := 16) X dX1_takenBy_5 (by decide) (fun c6 => ?_) (fun c6 => ?_)
  · have h := h.1 c6
    refine v_iconst (v := (0 : Int32)) X dX1_takenBy_16 (by decide) ?_
    exact v_riret X hF h dX1_takenBy_17
  · have h := h.2 c6
    refine v_aload_n X dX1_takenBy_8 rfl (lv_at hl 0 rfl) ?_
    refine v_iload_n X dX1_takenBy_9 rfl (lv_at hl 2 rfl) ?_
    refine rdV (As := [.int a1]) (rest := []) X mv_X1_59 (c_X1_hasClient F.2.1 D K t o u a1 _ h) hF ⟨rfl, rfl, Nat.le_of_ble_eq_true rfl, Nat.le_of_ble_eq_true rfl⟩ hT hP [0, 1, 2, 3, 4, 5, 6, 7] rfl 0 rfl rfl hl.1 rfl rfl (Nat.le_of_ble_eq_true rfl) dX1_takenBy_10 (fun r2 h => ?_)
    refine v_if_ne (tgt := 18) X dX1_takenBy_13 (by decide) (fun c5 => ?_) (fun c5 => ?_)
    · have h := h.2 c5
      refine v_aload_n X dX1_takenBy_18 rfl (lv_at hl 0 rfl) ?_
      refine v_iload_n X dX1_takenBy_19 rfl (lv_at hl 1 rfl) ?_
      refine v_iload_n X dX1_takenBy_20 rfl (lv_at hl 2 rfl) ?_
      refine v_iload_n X dX1_takenBy_21 rfl (lv_at hl 3 rfl) ?_
      refine rdV (As := [.int a0, .int a1, .int a2]) (rest := []) X mv_X1_71 (c_X1_lying F.2.1 D K t o u a0 a1 a2 _ h) hF ⟨rfl, rfl, Nat.le_of_ble_eq_true rfl, Nat.le_of_ble_eq_true rfl⟩ hT hP [0, 1, 2, 3, 4, 5, 6, 7] rfl 0 rfl rfl hl.1 rfl rfl (Nat.le_of_ble_eq_true rfl) dX1_takenBy_22 (fun r3 h => ?_)
      refine v_istore (lv' := [(4, .int r3), (0, .ref (o 0)), (1, .int a0), (2, .int a1), (3, .int a2)]) X dX1_takenBy_25 hl (by decide) rfl (fun ls hl => ?_)
      refine v_aload_n X dX1_takenBy_27 rfl (lv_at hl 1 rfl) ?_
      refine v_get (v := .ref (o 5)) X hP 0 rfl fk_X1_24 rfl dX1_takenBy_28 ?_
      refine v_iload_n X dX1_takenBy_31 rfl (lv_at hl 2 rfl) ?_
      have hin := h.1
      have h := h.2
      refine v_iald (f := u.2.2.2.2.1) X hP 5 0 rfl rfl hin dX1_takenBy_32 ?_
      refine v_aload_n X dX1_takenBy_33 rfl (lv_at hl 1 rfl) ?_
      refine v_get (v := .ref (o 2)) X hP 0 rfl fk_X1_15 rfl dX1_takenBy_34 ?_
      refine v_iload_n X dX1_takenBy_37 rfl (lv_at hl 3 rfl) ?_
      have hin := h.1
      have h := h.2
      refine v_iald (f := u.2.1) X hP 2 0 rfl rfl hin dX1_takenBy_38 ?_
      refine v_icmp_ne (tgt := 47) X dX1_takenBy_39 (by decide) (fun c4 => ?_) (fun c4 => ?_)
      · have h := h.2 c4
        refine v_iload X dX1_takenBy_47 (lv_at hl 0 rfl) ?_
        refine v_iconst (v := (2 : Int32)) X dX1_takenBy_49 (by decide) ?_
        refine v_idiv X dX1_takenBy_50 (by decide) ?_
        exact v_riret X hF h dX1_takenBy_51
      · have h := h.1 c4
        refine v_iload X dX1_takenBy_42 (lv_at hl 0 rfl) ?_
        refine v_goto (tgt := 51) X dX1_takenBy_44 (by decide) ?_
        exact v_riret X hF h dX1_takenBy_51
    · have h := h.1 c5
      refine v_iconst (v := (0 : Int32)) X dX1_takenBy_16 (by decide) ?_
      exact v_riret X hF h dX1_takenBy_17
def wL_X1_hiredBy_4 (y3 : Int32) (b4 : BX1) (post : Int32 → Prop) (Kx4 : Int32 → Prop) : Nat → Int32 → Int32 → Prop
  | 0, _, _ => False
  | n4 + 1, x1, x2 => (b4.2.2.2.2.2.2.2.2.1 ≤ x2 → Kx4 x1) ∧ (¬ b4.2.2.2.2.2.2.2.2.1 ≤ x2 → vp_in x2 4 ∧ (((b4.2.2.2.2.2.1 x2.toNatClampNeg) = y3 → ∀ x7 : Int32, x7 = (x1 ||| ((1 : Int32) <<< (x2 &&& 31))) → wL_X1_hiredBy_4 y3 b4 post Kx4 n4 x7 (x2 + (1 : Int32))) ∧ (¬ (b4.2.2.2.2.2.1 x2.toNatClampNeg) = y3 → wL_X1_hiredBy_4 y3 b4 post Kx4 n4 x1 (x2 + (1 : Int32)))))
def w_X1_hiredBy (u : BX1) (a0 : Int32) (post : Int32 → Prop) : Prop := ∃ n4, wL_X1_hiredBy_4 a0 u post (fun (x5 : Int32) => post x5) n4 (0 : Int32) (0 : Int32)
set_option maxHeartbeats 4000000 in
set_option maxRecDepth 100000 in
theorem c_X1_hiredBy (l : Launch) (D : va_G) (K : Nat → ClassId) (t : Nat → Nat) (o : Nat → Nat) (u : BX1) (a0 : Int32) (post : Int32 → Prop) (h : w_X1_hiredBy u a0 post) : RdM l yX1_hiredBy cX1_hiredBy 4 (some .int) ({ frames := 0, cells := 0, slots := 0, locals := 0 } : Room) D (TY K) t (CX1 K o u) [.ref (o 0), .int a0] post := by
  refine RdM.mk rfl (Nat.le_of_ble_eq_true rfl) ?_
  intro F ls _ hF X hP hl hT
  have X : Cx F cX1_hiredBy 4 RX1 D (TY K) := X
  have hl : lv_has ls 4 [(0, .ref (o 0)), (1, .int a0)] := hl
  unfold w_X1_hiredBy at h
  refine v_iconst (v := (0 : Int32)) X dX1_hiredBy_0 (by decide) ?_
  refine v_istore_n (lv' := [(2, .int (0 : Int32)), (0, .ref (o 0)), (1, .int a0)]) X dX1_hiredBy_1 rfl hl (by decide) rfl (fun ls hl => ?_)
  refine v_iconst (v := (0 : Int32)) X dX1_hiredBy_2 (by decide) ?_
  refine v_istore_n (lv' := [(3, .int (0 : Int32)), (2, .int (0 : Int32)), (0, .ref (o 0)), (1, .int a0)]) X dX1_hiredBy_3 rfl hl (by decide) rfl (fun ls hl => ?_)
  obtain ⟨Kx4, hK4⟩ : ∃ f : Int32 → Prop, f = (fun (x5 : Int32) => post x5) := ⟨_, rfl⟩
  have kx6 : ∀ (x5 : Int32) (ls : Array Slot), (Kx4 x5) → lv_has ls 4 [(2, .int x5)] → V F (RQ F post) (fxS F).heap [] 34 ls [] := by
    intro x5 ls h hl
    have h : post x5 := by rw [hK4] at h; exact h
    refine v_iload_n X dX1_hiredBy_34 rfl (lv_at hl 0 rfl) ?_
    exact v_riret X hF h dX1_hiredBy_35
  have lp4 : ∀ (n4 : Nat) (x1 : Int32) (x2 : Int32) (ls : Array Slot), wL_X1_hiredBy_4 a0 u post Kx4 n4 x1 x2 → lv_has ls 4 [(0, .ref (o 0)), (1, .int a0), (2, .int x1), (3, .int x2)] → V F (RQ F post) (fxS F).heap [] 4 ls [] := by
    intro n4
    induction n4 with
    | zero => intro x1 x2 ls h hl; exact h.elim
    | succ n4 ih4 =>
      intro x1 x2 ls h hl
      refine v_iload_n X dX1_hiredBy_4 rfl (lv_at hl 3 rfl) ?_
      refine v_aload_n X dX1_hiredBy_5 rfl (lv_at hl 0 rfl) ?_
      refine v_get (v := .int u.2.2.2.2.2.2.2.2.1) X hP 0 rfl fk_X1_37 rfl dX1_hiredBy_6 ?_
      refine v_icmp_ge (tgt := 34) X dX1_hiredBy_9 (by decide) (fun c9 => ?_) (fun c9 => ?_)
      · have h := h.1 c9
        exact kx6 x1 ls h (lv_sub hl [2] rfl)
      · have h := h.2 c9
        refine v_aload_n X dX1_hiredBy_12 rfl (lv_at hl 0 rfl) ?_
        refine v_get (v := .ref (o 6)) X hP 0 rfl fk_X1_27 rfl dX1_hiredBy_13 ?_
        refine v_iload_n X dX1_hiredBy_16 rfl (lv_at hl 3 rfl) ?_
        have hin := h.1
        have h := h.2
        refine v_iald (f := u.2.2.2.2.2.1) X hP 6 0 rfl rfl hin dX1_hiredBy_17 ?_
        refine v_iload_n X dX1_hiredBy_18 rfl (lv_at hl 1 rfl) ?_
        refine v_icmp_ne (tgt := 28) X dX1_hiredBy_19 (by decide) (fun c8 => ?_) (fun c8 => ?_)
        · have h := h.2 c8
          refine v_iinc (v := (x2 + (1 : Int32))) (lv' := [(3, .int (x2 + (1 : Int32))), (0, .ref (o 0)), (1, .int a0), (2, .int x1)]) X dX1_hiredBy_28 hl (k := 3) rfl rfl (by decide) rfl (fun ls hl => ?_)
          refine v_goto (tgt := 4) X dX1_hiredBy_31 (by decide) ?_
          exact ih4 x1 (x2 + (1 : Int32)) ls h (lv_sub hl [1, 2, 3, 0] rfl)
        · have h := h.1 c8
          refine v_iload_n X dX1_hiredBy_22 rfl (lv_at hl 2 rfl) ?_
          refine v_iconst (v := (1 : Int32)) X dX1_hiredBy_23 (by decide) ?_
          refine v_iload_n X dX1_hiredBy_24 rfl (lv_at hl 3 rfl) ?_
          refine v_ishl X dX1_hiredBy_25 ?_
          refine v_ior X dX1_hiredBy_26 ?_
          refine v_topi (fun x7 ex7 => ?_)
          have h := h x7 ex7
          refine v_istore_n (lv' := [(2, .int x7), (0, .ref (o 0)), (1, .int a0), (3, .int x2)]) X dX1_hiredBy_27 rfl hl (by decide) rfl (fun ls hl => ?_)
          refine v_iinc (v := (x2 + (1 : Int32))) (lv' := [(3, .int (x2 + (1 : Int32))), (2, .int x7), (0, .ref (o 0)), (1, .int a0)]) X dX1_hiredBy_28 hl (k := 3) rfl rfl (by decide) rfl (fun ls hl => ?_)
          refine v_goto (tgt := 4) X dX1_hiredBy_31 (by decide) ?_
          exact ih4 x7 (x2 + (1 : Int32)) ls h (lv_sub hl [2, 3, 1, 0] rfl)
  obtain ⟨n4, h⟩ := h
  have h : wL_X1_hiredBy_4 a0 u post Kx4 n4 (0 : Int32) (0 : Int32) := by rw [hK4]; exact h
  exact lp4 n4 (0 : Int32) (0 : Int32) ls h (lv_sub hl [2, 3, 1, 0] rfl)
def wL_X1_lighterBy_14 (y5 : Int32) (y6 : Int32) (b7 : BX1) (post : Int32 → Prop) (Kx14 : Int32 → Prop) : Nat → Int32 → Int32 → Prop
  | 0, _, _ => False
  | n14 + 1, x3, x4 => (b7.2.2.2.2.2.2.2.2.1 ≤ x4 → Kx14 x3) ∧ (¬ b7.2.2.2.2.2.2.2.2.1 ≤ x4 → (((y6 >>> (x4 &&& 31)) &&& (1 : Int32)) = (1 : Int32) → w_X1_takenBy b7 x4 y5 b7.2.2.2.2.2.2.2.2.2.2.2 (fun r10 => ∀ x11 : Int32, x11 = (if x3 < r10 then r10 else x3) → wL_X1_lighterBy_14 y5 y6 b7 post Kx14 n14 x11 (x4 + (1 : Int32)))) ∧ (¬ ((y6 >>> (x4 &&& 31)) &&& (1 : Int32)) = (1 : Int32) → wL_X1_lighterBy_14 y5 y6 b7 post Kx14 n14 x3 (x4 + (1 : Int32))))
def w_X1_lighterBy (u : BX1) (a0 : Int32) (a1 : Int32) (post : Int32 → Prop) : Prop := w_X1_hiredBy u a0 (fun r1 => ∀ x2 : Int32, x2 = (r1 &&& a1) → ∃ n14, wL_X1_lighterBy_14 a0 x2 u post (fun (x8 : Int32) => post x8) n14 (0 : Int32) (0 : Int32))
set_option maxHeartbeats 4000000 in
set_option maxRecDepth 100000 in
theorem c_X1_lighterBy (l : Launch) (D : va_G) (K : Nat → ClassId) (t : Nat → Nat) (o : Nat → Nat) (u : BX1) (a0 : Int32) (a1 : Int32) (post : Int32 → Prop) (h : w_X1_lighterBy u a0 a1 post) : RdM l yX1_lighterBy cX1_lighterBy 6 (some .int) ({ frames := 3, cells := 0, slots := 0, locals := 88 } : Room) D (TY K) t (CX1 K o u) [.ref (o 0), .int a0, .int a1] post := by
  refine RdM.mk rfl (Nat.le_of_ble_eq_true rfl) ?_
  intro F ls _ hF X hP hl hT
  have X : Cx F cX1_lighterBy 6 RX1 D (TY K) := X
  have hl : lv_has ls 6 [(0, .ref (o 0)), (1, .int a0), (2, .int a1)] := hl
  unfold w_X1_lighterBy at h
  refine v_iconst (v := (0 : Int32)) X dX1_lighterBy_0 (by decide) ?_
  refine v_istore_n (lv' := [(3, .int (0 : Int32)), (0, .ref (o 0)), (1, .int a0), (2, .int a1)]) X dX1_lighterBy_1 rfl hl (by decide) rfl (fun ls hl => ?_)
  refine v_aload_n X dX1_lighterBy_2 rfl (lv_at hl 1 rfl) ?_
  refine v_iload_n X dX1_lighterBy_3 rfl (lv_at hl 2 rfl) ?_
  refine rdV (As := [.int a0]) (rest := []) X mv_X1_75 (c_X1_hiredBy F.2.1 D K t o u a0 _ h) hF ⟨rfl, rfl, Nat.le_of_ble_eq_true rfl, Nat.le_of_ble_eq_true rfl⟩ hT hP [0, 1, 2, 3, 4, 5, 6, 7] rfl 0 rfl rfl hl.1 rfl rfl (Nat.le_of_ble_eq_true rfl) dX1_lighterBy_4 (fun r1 h => ?_)
  refine v_iload_n X dX1_lighterBy_7 rfl (lv_at hl 3 rfl) ?_
  refine v_iand X dX1_lighterBy_8 ?_
  refine v_topi (fun x2 ex2 => ?_)
  have h := h x2 ex2
  refine v_istore (lv' := [(4, .int x2), (3, .int (0 : Int32)), (0, .ref (o 0)), (1, .int a0), (2, .int a1)]) X dX1_lighterBy_9 hl (by decide) rfl (fun ls hl => ?_)
  refine v_iconst (v := (0 : Int32)) X dX1_lighterBy_11 (by decide) ?_
  refine v_istore (lv' := [(5, .int (0 : Int32)), (4, .int x2), (3, .int (0 : Int32)), (0, .ref (o 0)), (1, .int a0), (2, .int a1)]) X dX1_lighterBy_12 hl (by decide) rfl (fun ls hl => ?_)
  obtain ⟨Kx14, hK14⟩ : ∃ f : Int32 → Prop, f = (fun (x8 : Int32) => post x8) := ⟨_, rfl⟩
  have kx9 : ∀ (x8 : Int32) (ls : Array Slot), (Kx14 x8) → lv_has ls 6 [(3, .int x8)] → V F (RQ F post) (fxS F).heap [] 56 ls [] := by
    intro x8 ls h hl
    have h : post x8 := by rw [hK14] at h; exact h
    refine v_iload_n X dX1_lighterBy_56 rfl (lv_at hl 0 rfl) ?_
    exact v_riret X hF h dX1_lighterBy_57
  have lp14 : ∀ (n14 : Nat) (x3 : Int32) (x4 : Int32) (ls : Array Slot), wL_X1_lighterBy_14 a0 x2 u post Kx14 n14 x3 x4 → lv_has ls 6 [(0, .ref (o 0)), (1, .int a0), (3, .int x3), (4, .int x2), (5, .int x4)] → V F (RQ F post) (fxS F).heap [] 14 ls [] := by
    intro n14
    induction n14 with
    | zero => intro x3 x4 ls h hl; exact h.elim
    | succ n14 ih14 =>
      intro x3 x4 ls h hl
      refine v_iload X dX1_lighterBy_14 (lv_at hl 4 rfl) ?_
      refine v_aload_n X dX1_lighterBy_16 rfl (lv_at hl 0 rfl) ?_
      refine v_get (v := .int u.2.2.2.2.2.2.2.2.1) X hP 0 rfl fk_X1_37 rfl dX1_lighterBy_17 ?_
      refine v_icmp_ge (tgt := 56) X dX1_lighterBy_20 (by decide) (fun c13 => ?_) (fun c13 => ?_)
      · have h := h.1 c13
        exact kx9 x3 ls h (lv_sub hl [2] rfl)
      · have h := h.2 c13
        refine v_iload X dX1_lighterBy_23 (lv_at hl 3 rfl) ?_
        refine v_iload X dX1_lighterBy_25 (lv_at hl 4 rfl) ?_
        refine v_ishr X dX1_lighterBy_27 ?_
        refine v_iconst (v := (1 : Int32)) X dX1_lighterBy_28 (by decide) ?_
        refine v_iand X dX1_lighterBy_29 ?_
        refine v_iconst (v := (1 : Int32)) X dX1_lighterBy_30 (by decide) ?_
        refine v_icmp_ne (tgt := 50) X dX1_lighterBy_31 (by decide) (fun c12 => ?_) (fun c12 => ?_)
        · have h := h.2 c12
          refine v_iinc (v := (x4 + (1 : Int32))) (lv' := [(5, .int (x4 + (1 : Int32))), (0, .ref (o 0)), (1, .int a0), (3, .int x3), (4, .int x2)]) X dX1_lighterBy_50 hl (k := 4) rfl rfl (by decide) rfl (fun ls hl => ?_)
          refine v_goto (tgt := 14) X dX1_lighterBy_53 (by decide) ?_
          exact ih14 x3 (x4 + (1 : Int32)) ls h (lv_sub hl [1, 2, 3, 4, 0] rfl)
        · have h := h.1 c12
          refine v_iload_n X dX1_lighterBy_34 rfl (lv_at hl 2 rfl) ?_
          refine v_aload_n X dX1_lighterBy_35 rfl (lv_at hl 0 rfl) ?_
          refine v_iload X dX1_lighterBy_36 (lv_at hl 4 rfl) ?_
          refine v_iload_n X dX1_lighterBy_38 rfl (lv_at hl 1 rfl) ?_
          refine v_aload_n X dX1_lighterBy_39 rfl (lv_at hl 0 rfl) ?_
          refine v_get (v := .int u.2.2.2.2.2.2.2.2.2.2.2) X hP 0 rfl fk_X1_40 rfl dX1_lighterBy_40 ?_
          refine rdV (As := [.int x4, .int a0, .int u.2.2.2.2.2.2.2.2.2.2.2]) (rest := [.int x3]) X mv_X1_79 (c_X1_takenBy F.2.1 D K t o u x4 a0 u.2.2.2.2.2.2.2.2.2.2.2 _ h) hF ⟨rfl, rfl, Nat.le_of_ble_eq_true rfl, Nat.le_of_ble_eq_true rfl⟩ hT hP [0, 1, 2, 3, 4, 5, 6, 7] rfl 0 rfl rfl hl.1 rfl rfl (Nat.le_of_ble_eq_true rfl) dX1_lighterBy_43 (fun r10 h => ?_)
          refine v_mmax X hl.1 hF km_X1_82 ⟨Nat.le_of_ble_eq_true rfl, Nat.le_of_ble_eq_true rfl⟩ dX1_lighterBy_46 ?_
          refine v_topi (fun x11 ex11 => ?_)
          have h := h x11 ex11
          refine v_istore_n (lv' := [(3, .int x11), (0, .ref (o 0)), (1, .int a0), (4, .int x2), (5, .int x4)]) X dX1_lighterBy_49 rfl hl (by decide) rfl (fun ls hl => ?_)
          refine v_iinc (v := (x4 + (1 : Int32))) (lv' := [(5, .int (x4 + (1 : Int32))), (3, .int x11), (0, .ref (o 0)), (1, .int a0), (4, .int x2)]) X dX1_lighterBy_50 hl (k := 4) rfl rfl (by decide) rfl (fun ls hl => ?_)
          refine v_goto (tgt := 14) X dX1_lighterBy_53 (by decide) ?_
          exact ih14 x11 (x4 + (1 : Int32)) ls h (lv_sub hl [2, 3, 1, 4, 0] rfl)
  obtain ⟨n14, h⟩ := h
  have h : wL_X1_lighterBy_14 a0 x2 u post Kx14 n14 (0 : Int32) (0 : Int32) := by rw [hK14]; exact h
  exact lp14 n14 (0 : Int32) (0 : Int32) ls h (lv_sub hl [3, 4, 2, 1, 0] rfl)
def w_X1_nextWeight (a0 : Int32) (a1 : Int32) (post : Int32 → Prop) : Prop := (a1 ≤ 0 → (a0 ≤ 0 → post (0 : Int32)) ∧ (¬ a0 ≤ 0 → post (if (a0 + (1 : Int32)) < (99 : Int32) then (a0 + (1 : Int32)) else (99 : Int32)))) ∧ (¬ a1 ≤ 0 → post (if (0 : Int32) < (a0 - a1) then (a0 - a1) else (0 : Int32)))
set_option maxHeartbeats 4000000 in
set_option maxRecDepth 100000 in
theorem c_X1_nextWeight (l : Launch) (D : va_G) (K : Nat → ClassId) (t : Nat → Nat) (a0 : Int32) (a1 : Int32) (post : Int32 → Prop) (h : w_X1_nextWeight a0 a1 post) : RdM l yX1_nextWeight cX1_nextWeight 2 (some .int) ({ frames := 1, cells := 0, slots := 0, locals := 40 } : Room) D (TY K) t ([] : va_W) [.int a0, .int a1] post := by
  refine RdM.mk rfl (Nat.le_of_ble_eq_true rfl) ?_
  intro F ls _ hF X hP hl hT
  have X : Cx F cX1_nextWeight 2 RX1 D (TY K) := X
  have hl : lv_has ls 2 [(0, .int a0), (1, .int a1)] := hl
  unfold w_X1_nextWeight at h
  refine v_iload_n X dX1_nextWeight_0 rfl (lv_at hl 1 rfl) ?_
  refine v_if_le (tgt := 12) X dX1_nextWeight_1 (by decide) (fun c2 => ?_) (fun c2 => ?_)
  · have h := h.1 c2
    refine v_iload_n X dX1_nextWeight_12 rfl (lv_at hl 0 rfl) ?_
    refine v_if_le (tgt := 27) X dX1_nextWeight_13 (by decide) (fun c1 => ?_) (fun c1 => ?_)
    · have h := h.1 c1
      refine v_iconst (v := (0 : Int32)) X dX1_nextWeight_27 (by decide) ?_
      exact v_riret X hF h dX1_nextWeight_28
    · have h := h.2 c1
      refine v_bipush (v := (99 : Int32)) X dX1_nextWeight_16 (by decide) ?_
      refine v_iload_n X dX1_nextWeight_18 rfl (lv_at hl 0 rfl) ?_
      refine v_iconst (v := (1 : Int32)) X dX1_nextWeight_19 (by decide) ?_
      refine v_iadd X dX1_nextWeight_20 ?_
      refine v_mmin X hl.1 hF km_X1_66 ⟨Nat.le_of_ble_eq_true rfl, Nat.le_of_ble_eq_true rfl⟩ dX1_nextWeight_21 ?_
      refine v_goto (tgt := 28) X dX1_nextWeight_24 (by decide) ?_
      exact v_riret X hF h dX1_nextWeight_28
  · have h := h.2 c2
    refine v_iconst (v := (0 : Int32)) X dX1_nextWeight_4 (by decide) ?_
    refine v_iload_n X dX1_nextWeight_5 rfl (lv_at hl 0 rfl) ?_
    refine v_iload_n X dX1_nextWeight_6 rfl (lv_at hl 1 rfl) ?_
    refine v_isub X dX1_nextWeight_7 ?_
    refine v_mmax X hl.1 hF km_X1_82 ⟨Nat.le_of_ble_eq_true rfl, Nat.le_of_ble_eq_true rfl⟩ dX1_nextWeight_8 ?_
    exact v_riret X hF h dX1_nextWeight_11
def wL_X1_passNight_39 (y7 : Int32) (post : BX1 → Prop) (Kx39 : BX1 → Prop) : Nat → Int32 → BX1 → Prop
  | 0, _, _ => False
  | n39 + 1, x5, u6 => (u6.2.2.2.2.2.2.2.2.1 ≤ x5 → Kx39 u6) ∧ (¬ u6.2.2.2.2.2.2.2.2.1 ≤ x5 → (((y7 >>> (x5 &&& 31)) &&& (1 : Int32)) = (1 : Int32) → vp_in x5 4 ∧ (vp_in x5 4 ∧ (w_X1_lying u6 x5 (u6.2.2.2.2.2.1 x5.toNatClampNeg) u6.2.2.2.2.2.2.2.2.2.2.2 (fun r10 => vp_in x5 4 ∧ (wL_X1_passNight_39 y7 post Kx39 n39 (x5 + (1 : Int32)) (u6.1, u6.2.1, u6.2.2.1, u6.2.2.2.1, u6.2.2.2.2.1, u6.2.2.2.2.2.1, (upd u6.2.2.2.2.2.2.1 x5.toNatClampNeg ((u6.2.2.2.2.2.2.1 x5.toNatClampNeg) + r10)), u6.2.2.2.2.2.2.2.1, u6.2.2.2.2.2.2.2.2.1, u6.2.2.2.2.2.2.2.2.2.1, u6.2.2.2.2.2.2.2.2.2.2.1, u6.2.2.2.2.2.2.2.2.2.2.2)))))) ∧ (¬ ((y7 >>> (x5 &&& 31)) &&& (1 : Int32)) = (1 : Int32) → wL_X1_passNight_39 y7 post Kx39 n39 (x5 + (1 : Int32)) u6))
def wL_X1_passNight_2 (y3 : Int32) (post : BX1 → Prop) (Kx2 : BX1 → Prop) : Nat → Int32 → BX1 → Prop
  | 0, _, _ => False
  | n2 + 1, x1, u2 => (u2.2.2.2.2.2.2.2.1 ≤ x1 → Kx2 u2) ∧ (¬ u2.2.2.2.2.2.2.2.1 ≤ x1 → vp_in x1 5 ∧ (w_X1_lighterBy u2 x1 y3 (fun r14 => w_X1_nextWeight (u2.1 x1.toNatClampNeg) r14 (fun r15 => vp_in x1 5 ∧ (wL_X1_passNight_2 y3 post Kx2 n2 (x1 + (1 : Int32)) ((upd u2.1 x1.toNatClampNeg r15), u2.2.1, u2.2.2.1, u2.2.2.2.1, u2.2.2.2.2.1, u2.2.2.2.2.2.1, u2.2.2.2.2.2.2.1, u2.2.2.2.2.2.2.2.1, u2.2.2.2.2.2.2.2.2.1, u2.2.2.2.2.2.2.2.2.2.1, u2.2.2.2.2.2.2.2.2.2.2.1, u2.2.2.2.2.2.2.2.2.2.2.2))))))
def w_X1_passNight (u : BX1) (a0 : Int32) (post : BX1 → Prop) : Prop := ∃ n2, wL_X1_passNight_2 a0 post (fun (u4 : BX1) => ∃ n39, wL_X1_passNight_39 a0 post (fun (u8 : BX1) => post (u8.1, u8.2.1, u8.2.2.1, u8.2.2.2.1, u8.2.2.2.2.1, u8.2.2.2.2.2.1, u8.2.2.2.2.2.2.1, u8.2.2.2.2.2.2.2.1, u8.2.2.2.2.2.2.2.2.1, u8.2.2.2.2.2.2.2.2.2.1, u8.2.2.2.2.2.2.2.2.2.2.1, (u8.2.2.2.2.2.2.2.2.2.2.2 + (1 : Int32)))) n39 (0 : Int32) u4) n2 (0 : Int32) u
set_option maxHeartbeats 4000000 in
set_option maxRecDepth 100000 in
theorem c_X1_passNight (l : Launch) (D : va_G) (K : Nat → ClassId) (t : Nat → Nat) (o : Nat → Nat) (u : BX1) (a0 : Int32) (post : BX1 → Prop) (h : w_X1_passNight u a0 post) : WrV l yX1_passNight cX1_passNight 3 ({ frames := 4, cells := 0, slots := 0, locals := 113 } : Room) D (TY K) t (CX1 K o u) [.ref (o 0), .int a0] (fun z : BX1 => CX1 K o z) (fun z : BX1 => post z) := by
  refine WrV.mk rfl (Nat.le_of_ble_eq_true rfl) ?_
  intro F ls A _ hF X hH hA hl hT
  obtain ⟨H, hH0⟩ : ∃ z : Heap, z = (fxS F).heap := ⟨_, rfl⟩
  obtain ⟨locs, hL0⟩ : ∃ z : List Loc, z = [] := ⟨_, rfl⟩
  have hH : HH F D A (CX1 K o u) H locs := by rw [hH0, hL0]; exact hH
  suffices goal : V F (WQV F D (TY K) A (fun z : BX1 => CX1 K o z) (fun z : BX1 => post z)) H locs 0 ls [] by rw [hH0, hL0] at goal; exact goal
  clear hH0 hL0
  have X : Cx F cX1_passNight 3 RX1 D (TY K) := X
  have hl : lv_has ls 3 [(0, .ref (o 0)), (1, .int a0)] := hl
  unfold w_X1_passNight at h
  refine v_iconst (v := (0 : Int32)) X dX1_passNight_0 (by decide) ?_
  refine v_istore_n (lv' := [(2, .int (0 : Int32)), (0, .ref (o 0)), (1, .int a0)]) X dX1_passNight_1 rfl hl (by decide) rfl (fun ls hl => ?_)
  obtain ⟨Kx2, hK2⟩ : ∃ f : BX1 → Prop, f = (fun (u4 : BX1) => ∃ n39, wL_X1_passNight_39 a0 post (fun (u8 : BX1) => post (u8.1, u8.2.1, u8.2.2.1, u8.2.2.2.1, u8.2.2.2.2.1, u8.2.2.2.2.2.1, u8.2.2.2.2.2.2.1, u8.2.2.2.2.2.2.2.1, u8.2.2.2.2.2.2.2.2.1, u8.2.2.2.2.2.2.2.2.2.1, u8.2.2.2.2.2.2.2.2.2.2.1, (u8.2.2.2.2.2.2.2.2.2.2.2 + (1 : Int32)))) n39 (0 : Int32) u4) := ⟨_, rfl⟩
  have kx13 : ∀ (u4 : BX1) (ls : Array Slot) (H : Heap) (locs : List Loc), (Kx2 u4) → lv_has ls 3 [(0, .ref (o 0)), (1, .int a0)] → HH F D A (CX1 K o u4) H locs → V F (WQV F D (TY K) A (fun z : BX1 => CX1 K o z) (fun z : BX1 => post z)) H locs 37 ls [] := by
    intro u4 ls H locs h hl hH
    have h : ∃ n39, wL_X1_passNight_39 a0 post (fun (u8 : BX1) => post (u8.1, u8.2.1, u8.2.2.1, u8.2.2.2.1, u8.2.2.2.2.1, u8.2.2.2.2.2.1, u8.2.2.2.2.2.2.1, u8.2.2.2.2.2.2.2.1, u8.2.2.2.2.2.2.2.2.1, u8.2.2.2.2.2.2.2.2.2.1, u8.2.2.2.2.2.2.2.2.2.2.1, (u8.2.2.2.2.2.2.2.2.2.2.2 + (1 : Int32)))) n39 (0 : Int32) u4 := by rw [hK2] at h; exact h
    refine v_iconst (v := (0 : Int32)) X dX1_passNight_37 (by decide) ?_
    refine v_istore_n (lv' := [(2, .int (0 : Int32)), (0, .ref (o 0)), (1, .int a0)]) X dX1_passNight_38 rfl hl (by decide) rfl (fun ls hl => ?_)
    obtain ⟨Kx39, hK39⟩ : ∃ f : BX1 → Prop, f = (fun (u8 : BX1) => post (u8.1, u8.2.1, u8.2.2.1, u8.2.2.2.1, u8.2.2.2.2.1, u8.2.2.2.2.2.1, u8.2.2.2.2.2.2.1, u8.2.2.2.2.2.2.2.1, u8.2.2.2.2.2.2.2.2.1, u8.2.2.2.2.2.2.2.2.2.1, u8.2.2.2.2.2.2.2.2.2.2.1, (u8.2.2.2.2.2.2.2.2.2.2.2 + (1 : Int32)))) := ⟨_, rfl⟩
    have kx9 : ∀ (u8 : BX1) (ls : Array Slot) (H : Heap) (locs : List Loc), (Kx39 u8) → lv_has ls 3 [(0, .ref (o 0))] → HH F D A (CX1 K o u8) H locs → V F (WQV F D (TY K) A (fun z : BX1 => CX1 K o z) (fun z : BX1 => post z)) H locs 86 ls [] := by
      intro u8 ls H locs h hl hH
      have h : post (u8.1, u8.2.1, u8.2.2.1, u8.2.2.2.1, u8.2.2.2.2.1, u8.2.2.2.2.2.1, u8.2.2.2.2.2.2.1, u8.2.2.2.2.2.2.2.1, u8.2.2.2.2.2.2.2.2.1, u8.2.2.2.2.2.2.2.2.2.1, u8.2.2.2.2.2.2.2.2.2.2.1, (u8.2.2.2.2.2.2.2.2.2.2.2 + (1 : Int32))) := by rw [hK39] at h; exact h
      refine v_aload_n X dX1_passNight_86 rfl (lv_at hl 0 rfl) ?_
      refine v_dup X dX1_passNight_87 rfl ?_
      refine v_get (v := .int u8.2.2.2.2.2.2.2.2.2.2.2) X hH.1 0 rfl fk_X1_40 rfl dX1_passNight_88 ?_
      refine v_iconst (v := (1 : Int32)) X dX1_passNight_91 (by decide) ?_
      refine v_iadd X dX1_passNight_92 ?_
      refine v_put X hH 0 rfl fi_X1_40 (Nat.le_of_ble_eq_true rfl) dX1_passNight_93 (fun H locs hH => ?_)
      have hH : HH F D A (CX1 K o (u8.1, u8.2.1, u8.2.2.1, u8.2.2.2.1, u8.2.2.2.2.1, u8.2.2.2.2.2.1, u8.2.2.2.2.2.2.1, u8.2.2.2.2.2.2.2.1, u8.2.2.2.2.2.2.2.2.1, u8.2.2.2.2.2.2.2.2.2.1, u8.2.2.2.2.2.2.2.2.2.2.1, (u8.2.2.2.2.2.2.2.2.2.2.2 + (1 : Int32)))) H locs := hH
      exact v_wvret X hF (u8.1, u8.2.1, u8.2.2.1, u8.2.2.2.1, u8.2.2.2.2.1, u8.2.2.2.2.2.1, u8.2.2.2.2.2.2.1, u8.2.2.2.2.2.2.2.1, u8.2.2.2.2.2.2.2.2.1, u8.2.2.2.2.2.2.2.2.2.1, u8.2.2.2.2.2.2.2.2.2.2.1, (u8.2.2.2.2.2.2.2.2.2.2.2 + (1 : Int32))) hH h dX1_passNight_96
    have lp39 : ∀ (n39 : Nat) (x5 : Int32) (u6 : BX1) (ls : Array Slot) (H : Heap) (locs : List Loc), wL_X1_passNight_39 a0 post Kx39 n39 x5 u6 → lv_has ls 3 [(0, .ref (o 0)), (1, .int a0), (2, .int x5)] → HH F D A (CX1 K o u6) H locs → V F (WQV F D (TY K) A (fun z : BX1 => CX1 K o z) (fun z : BX1 => post z)) H locs 39 ls [] := by
      intro n39
      induction n39 with
      | zero => intro x5 u6 ls H locs h hl hH; exact h.elim
      | succ n39 ih39 =>
        intro x5 u6 ls H locs h hl hH
        refine v_iload_n X dX1_passNight_39 rfl (lv_at hl 2 rfl) ?_
        refine v_aload_n X dX1_passNight_40 rfl (lv_at hl 0 rfl) ?_
        refine v_get (v := .int u6.2.2.2.2.2.2.2.2.1) X hH.1 0 rfl fk_X1_37 rfl dX1_passNight_41 ?_
        refine v_icmp_ge (tgt := 86) X dX1_passNight_44 (by decide) (fun c12 => ?_) (fun c12 => ?_)
        · have h := h.1 c12
          exact kx9 u6 ls H locs h (lv_sub hl [0] rfl) hH
        · have h := h.2 c12
          refine v_iload_n X dX1_passNight_47 rfl (lv_at hl 1 rfl) ?_
          refine v_iload_n X dX1_passNight_48 rfl (lv_at hl 2 rfl) ?_
          refine v_ishr X dX1_passNight_49 ?_
          refine v_iconst (v := (1 : Int32)) X dX1_passNight_50 (by decide) ?_
          refine v_iand X dX1_passNight_51 ?_
          refine v_iconst (v := (1 : Int32)) X dX1_passNight_52 (by decide) ?_
          refine v_icmp_ne (tgt := 80) X dX1_passNight_53 (by decide) (fun c11 => ?_) (fun c11 => ?_)
          · have h := h.2 c11
            refine v_iinc (v := (x5 + (1 : Int32))) (lv' := [(2, .int (x5 + (1 : Int32))), (0, .ref (o 0)), (1, .int a0)]) X dX1_passNight_80 hl (k := 2) rfl rfl (by decide) rfl (fun ls hl => ?_)
            refine v_goto (tgt := 39) X dX1_passNight_83 (by decide) ?_
            exact ih39 (x5 + (1 : Int32)) u6 ls H locs h (lv_sub hl [1, 2, 0] rfl) hH
          · have h := h.1 c11
            refine v_aload_n X dX1_passNight_56 rfl (lv_at hl 0 rfl) ?_
            refine v_get (v := .ref (o 7)) X hH.1 0 rfl fk_X1_30 rfl dX1_passNight_57 ?_
            refine v_iload_n X dX1_passNight_60 rfl (lv_at hl 2 rfl) ?_
            refine v_dup2_11 X dX1_passNight_61 rfl rfl ?_
            have hin := h.1
            have h := h.2
            refine v_iald (f := u6.2.2.2.2.2.2.1) X hH.1 7 0 rfl rfl hin dX1_passNight_62 ?_
            refine v_aload_n X dX1_passNight_63 rfl (lv_at hl 0 rfl) ?_
            refine v_iload_n X dX1_passNight_64 rfl (lv_at hl 2 rfl) ?_
            refine v_aload_n X dX1_passNight_65 rfl (lv_at hl 0 rfl) ?_
            refine v_get (v := .ref (o 6)) X hH.1 0 rfl fk_X1_27 rfl dX1_passNight_66 ?_
            refine v_iload_n X dX1_passNight_69 rfl (lv_at hl 2 rfl) ?_
            have hin := h.1
            have h := h.2
            refine v_iald (f := u6.2.2.2.2.2.1) X hH.1 6 0 rfl rfl hin dX1_passNight_70 ?_
            refine v_aload_n X dX1_passNight_71 rfl (lv_at hl 0 rfl) ?_
            refine v_get (v := .int u6.2.2.2.2.2.2.2.2.2.2.2) X hH.1 0 rfl fk_X1_40 rfl dX1_passNight_72 ?_
            refine rdV (As := [.int x5, .int (u6.2.2.2.2.2.1 x5.toNatClampNeg), .int u6.2.2.2.2.2.2.2.2.2.2.2]) (rest := [.int (u6.2.2.2.2.2.2.1 x5.toNatClampNeg), .int x5, .ref (o 7)]) X mv_X1_71 (c_X1_lying F.2.1 D K t o u6 x5 (u6.2.2.2.2.2.1 x5.toNatClampNeg) u6.2.2.2.2.2.2.2.2.2.2.2 _ h) hF ⟨rfl, rfl, Nat.le_of_ble_eq_true rfl, Nat.le_of_ble_eq_true rfl⟩ (stW hT hH) hH.1 [0, 1, 2, 3, 4, 5, 6, 7] rfl 0 rfl rfl hl.1 rfl rfl (Nat.le_of_ble_eq_true rfl) dX1_passNight_75 (fun r10 h => ?_)
            refine v_iadd X dX1_passNight_78 ?_
            have hin := h.1
            have h := h.2
            refine v_iast (f := u6.2.2.2.2.2.2.1) X hH 7 0 rfl rfl hin dX1_passNight_79 (fun H locs hH => ?_)
            have hH : HH F D A (CX1 K o (u6.1, u6.2.1, u6.2.2.1, u6.2.2.2.1, u6.2.2.2.2.1, u6.2.2.2.2.2.1, (upd u6.2.2.2.2.2.2.1 x5.toNatClampNeg ((u6.2.2.2.2.2.2.1 x5.toNatClampNeg) + r10)), u6.2.2.2.2.2.2.2.1, u6.2.2.2.2.2.2.2.2.1, u6.2.2.2.2.2.2.2.2.2.1, u6.2.2.2.2.2.2.2.2.2.2.1, u6.2.2.2.2.2.2.2.2.2.2.2)) H locs := hH
            refine v_iinc (v := (x5 + (1 : Int32))) (lv' := [(2, .int (x5 + (1 : Int32))), (0, .ref (o 0)), (1, .int a0)]) X dX1_passNight_80 hl (k := 2) rfl rfl (by decide) rfl (fun ls hl => ?_)
            refine v_goto (tgt := 39) X dX1_passNight_83 (by decide) ?_
            exact ih39 (x5 + (1 : Int32)) (u6.1, u6.2.1, u6.2.2.1, u6.2.2.2.1, u6.2.2.2.2.1, u6.2.2.2.2.2.1, (upd u6.2.2.2.2.2.2.1 x5.toNatClampNeg ((u6.2.2.2.2.2.2.1 x5.toNatClampNeg) + r10)), u6.2.2.2.2.2.2.2.1, u6.2.2.2.2.2.2.2.2.1, u6.2.2.2.2.2.2.2.2.2.1, u6.2.2.2.2.2.2.2.2.2.2.1, u6.2.2.2.2.2.2.2.2.2.2.2) ls H locs h (lv_sub hl [1, 2, 0] rfl) hH
    obtain ⟨n39, h⟩ := h
    have h : wL_X1_passNight_39 a0 post Kx39 n39 (0 : Int32) u4 := by rw [hK39]; exact h
    exact lp39 n39 (0 : Int32) u4 ls H locs h (lv_sub hl [1, 2, 0] rfl) hH
  have lp2 : ∀ (n2 : Nat) (x1 : Int32) (u2 : BX1) (ls : Array Slot) (H : Heap) (locs : List Loc), wL_X1_passNight_2 a0 post Kx2 n2 x1 u2 → lv_has ls 3 [(0, .ref (o 0)), (1, .int a0), (2, .int x1)] → HH F D A (CX1 K o u2) H locs → V F (WQV F D (TY K) A (fun z : BX1 => CX1 K o z) (fun z : BX1 => post z)) H locs 2 ls [] := by
    intro n2
    induction n2 with
    | zero => intro x1 u2 ls H locs h hl hH; exact h.elim
    | succ n2 ih2 =>
      intro x1 u2 ls H locs h hl hH
      refine v_iload_n X dX1_passNight_2 rfl (lv_at hl 2 rfl) ?_
      refine v_aload_n X dX1_passNight_3 rfl (lv_at hl 0 rfl) ?_
      refine v_get (v := .int u2.2.2.2.2.2.2.2.1) X hH.1 0 rfl fk_X1_33 rfl dX1_passNight_4 ?_
      refine v_icmp_ge (tgt := 37) X dX1_passNight_7 (by decide) (fun c16 => ?_) (fun c16 => ?_)
      · have h := h.1 c16
        exact kx13 u2 ls H locs h (lv_sub hl [0, 1] rfl) hH
      · have h := h.2 c16
        refine v_aload_n X dX1_passNight_10 rfl (lv_at hl 0 rfl) ?_
        refine v_get (v := .ref (o 1)) X hH.1 0 rfl fk_X1_9 rfl dX1_passNight_11 ?_
        refine v_iload_n X dX1_passNight_14 rfl (lv_at hl 2 rfl) ?_
        refine v_aload_n X dX1_passNight_15 rfl (lv_at hl 0 rfl) ?_
        refine v_get (v := .ref (o 1)) X hH.1 0 rfl fk_X1_9 rfl dX1_passNight_16 ?_
        refine v_iload_n X dX1_passNight_19 rfl (lv_at hl 2 rfl) ?_
        have hin := h.1
        have h := h.2
        refine v_iald (f := u2.1) X hH.1 1 0 rfl rfl hin dX1_passNight_20 ?_
        refine v_aload_n X dX1_passNight_21 rfl (lv_at hl 0 rfl) ?_
        refine v_iload_n X dX1_passNight_22 rfl (lv_at hl 2 rfl) ?_
        refine v_iload_n X dX1_passNight_23 rfl (lv_at hl 1 rfl) ?_
        refine rdV (As := [.int x1, .int a0]) (rest := [.int (u2.1 x1.toNatClampNeg), .int x1, .ref (o 1)]) X mv_X1_85 (c_X1_lighterBy F.2.1 D K t o u2 x1 a0 _ h) hF ⟨rfl, rfl, Nat.le_of_ble_eq_true rfl, Nat.le_of_ble_eq_true rfl⟩ (stW hT hH) hH.1 [0, 1, 2, 3, 4, 5, 6, 7] rfl 0 rfl rfl hl.1 rfl rfl (Nat.le_of_ble_eq_true rfl) dX1_passNight_24 (fun r14 h => ?_)
        refine rdS (As := [.int (u2.1 x1.toNatClampNeg), .int r14]) (rest := [.int x1, .ref (o 1)]) X ms_X1_88 (c_X1_nextWeight F.2.1 D K t (u2.1 x1.toNatClampNeg) r14 _ h) hF ⟨rfl, rfl, Nat.le_of_ble_eq_true rfl, Nat.le_of_ble_eq_true rfl⟩ (stW hT hH) hH.1 [] rfl hl.1 rfl rfl (Nat.le_of_ble_eq_true rfl) dX1_passNight_27 (fun r15 h => ?_)
        have hin := h.1
        have h := h.2
        refine v_iast (f := u2.1) X hH 1 0 rfl rfl hin dX1_passNight_30 (fun H locs hH => ?_)
        have hH : HH F D A (CX1 K o ((upd u2.1 x1.toNatClampNeg r15), u2.2.1, u2.2.2.1, u2.2.2.2.1, u2.2.2.2.2.1, u2.2.2.2.2.2.1, u2.2.2.2.2.2.2.1, u2.2.2.2.2.2.2.2.1, u2.2.2.2.2.2.2.2.2.1, u2.2.2.2.2.2.2.2.2.2.1, u2.2.2.2.2.2.2.2.2.2.2.1, u2.2.2.2.2.2.2.2.2.2.2.2)) H locs := hH
        refine v_iinc (v := (x1 + (1 : Int32))) (lv' := [(2, .int (x1 + (1 : Int32))), (0, .ref (o 0)), (1, .int a0)]) X dX1_passNight_31 hl (k := 2) rfl rfl (by decide) rfl (fun ls hl => ?_)
        refine v_goto (tgt := 2) X dX1_passNight_34 (by decide) ?_
        exact ih2 (x1 + (1 : Int32)) ((upd u2.1 x1.toNatClampNeg r15), u2.2.1, u2.2.2.1, u2.2.2.2.1, u2.2.2.2.2.1, u2.2.2.2.2.2.1, u2.2.2.2.2.2.2.1, u2.2.2.2.2.2.2.2.1, u2.2.2.2.2.2.2.2.2.1, u2.2.2.2.2.2.2.2.2.2.1, u2.2.2.2.2.2.2.2.2.2.2.1, u2.2.2.2.2.2.2.2.2.2.2.2) ls H locs h (lv_sub hl [1, 2, 0] rfl) hH
  obtain ⟨n2, h⟩ := h
  have h : wL_X1_passNight_2 a0 post Kx2 n2 (0 : Int32) u := by rw [hK2]; exact h
  exact lp2 n2 (0 : Int32) u ls H locs h (lv_sub hl [1, 2, 0] rfl) hH
def w_X1_makeHeavier (u : BX1) (a0 : Int32) (a1 : Int32) (post : BX1 → Prop) : Prop := w_X1_hasClient u a0 (fun r1 => (r1 = 0 → post u) ∧ (¬ r1 = 0 → vp_in a0 5 ∧ (vp_in a0 5 ∧ (post ((upd u.1 a0.toNatClampNeg (if ((u.1 a0.toNatClampNeg) + a1) < (99 : Int32) then ((u.1 a0.toNatClampNeg) + a1) else (99 : Int32))), u.2.1, u.2.2.1, u.2.2.2.1, u.2.2.2.2.1, u.2.2.2.2.2.1, u.2.2.2.2.2.2.1, u.2.2.2.2.2.2.2.1, u.2.2.2.2.2.2.2.2.1, u.2.2.2.2.2.2.2.2.2.1, u.2.2.2.2.2.2.2.2.2.2.1, u.2.2.2.2.2.2.2.2.2.2.2)))))
set_option maxHeartbeats 4000000 in
set_option maxRecDepth 100000 in
theorem c_X1_makeHeavier (l : Launch) (D : va_G) (K : Nat → ClassId) (t : Nat → Nat) (o : Nat → Nat) (u : BX1) (a0 : Int32) (a1 : Int32) (post : BX1 → Prop) (h : w_X1_makeHeavier u a0 a1 post) : WrV l yX1_makeHeavier cX1_makeHeavier 3 ({ frames := 1, cells := 0, slots := 0, locals := 40 } : Room) D (TY K) t (CX1 K o u) [.ref (o 0), .int a0, .int a1] (fun z : BX1 => CX1 K o z) (fun z : BX1 => post z) := by
  refine WrV.mk rfl (Nat.le_of_ble_eq_true rfl) ?_
  intro F ls A _ hF X hH hA hl hT
  obtain ⟨H, hH0⟩ : ∃ z : Heap, z = (fxS F).heap := ⟨_, rfl⟩
  obtain ⟨locs, hL0⟩ : ∃ z : List Loc, z = [] := ⟨_, rfl⟩
  have hH : HH F D A (CX1 K o u) H locs := by rw [hH0, hL0]; exact hH
  suffices goal : V F (WQV F D (TY K) A (fun z : BX1 => CX1 K o z) (fun z : BX1 => post z)) H locs 0 ls [] by rw [hH0, hL0] at goal; exact goal
  clear hH0 hL0
  have X : Cx F cX1_makeHeavier 3 RX1 D (TY K) := X
  have hl : lv_has ls 3 [(0, .ref (o 0)), (1, .int a0), (2, .int a1)] := hl
  unfold w_X1_makeHeavier at h
  refine v_aload_n X dX1_makeHeavier_0 rfl (lv_at hl 0 rfl) ?_
  refine v_iload_n X dX1_makeHeavier_1 rfl (lv_at hl 1 rfl) ?_
  refine rdV (As := [.int a0]) (rest := []) X mv_X1_59 (c_X1_hasClient F.2.1 D K t o u a0 _ h) hF ⟨rfl, rfl, Nat.le_of_ble_eq_true rfl, Nat.le_of_ble_eq_true rfl⟩ (stW hT hH) hH.1 [0, 1, 2, 3, 4, 5, 6, 7] rfl 0 rfl rfl hl.1 rfl rfl (Nat.le_of_ble_eq_true rfl) dX1_makeHeavier_2 (fun r1 h => ?_)
  refine v_if_eq (tgt := 27) X dX1_makeHeavier_5 (by decide) (fun c2 => ?_) (fun c2 => ?_)
  · have h := h.1 c2
    exact v_wvret X hF u hH h dX1_makeHeavier_27
  · have h := h.2 c2
    refine v_aload_n X dX1_makeHeavier_8 rfl (lv_at hl 0 rfl) ?_
    refine v_get (v := .ref (o 1)) X hH.1 0 rfl fk_X1_9 rfl dX1_makeHeavier_9 ?_
    refine v_iload_n X dX1_makeHeavier_12 rfl (lv_at hl 1 rfl) ?_
    refine v_bipush (v := (99 : Int32)) X dX1_makeHeavier_13 (by decide) ?_
    refine v_aload_n X dX1_makeHeavier_15 rfl (lv_at hl 0 rfl) ?_
    refine v_get (v := .ref (o 1)) X hH.1 0 rfl fk_X1_9 rfl dX1_makeHeavier_16 ?_
    refine v_iload_n X dX1_makeHeavier_19 rfl (lv_at hl 1 rfl) ?_
    have hin := h.1
    have h := h.2
    refine v_iald (f := u.1) X hH.1 1 0 rfl rfl hin dX1_makeHeavier_20 ?_
    refine v_iload_n X dX1_makeHeavier_21 rfl (lv_at hl 2 rfl) ?_
    refine v_iadd X dX1_makeHeavier_22 ?_
    refine v_mmin X hl.1 hF km_X1_66 ⟨Nat.le_of_ble_eq_true rfl, Nat.le_of_ble_eq_true rfl⟩ dX1_makeHeavier_23 ?_
    have hin := h.1
    have h := h.2
    refine v_iast (f := u.1) X hH 1 0 rfl rfl hin dX1_makeHeavier_26 (fun H locs hH => ?_)
    have hH : HH F D A (CX1 K o ((upd u.1 a0.toNatClampNeg (if ((u.1 a0.toNatClampNeg) + a1) < (99 : Int32) then ((u.1 a0.toNatClampNeg) + a1) else (99 : Int32))), u.2.1, u.2.2.1, u.2.2.2.1, u.2.2.2.2.1, u.2.2.2.2.2.1, u.2.2.2.2.2.2.1, u.2.2.2.2.2.2.2.1, u.2.2.2.2.2.2.2.2.1, u.2.2.2.2.2.2.2.2.2.1, u.2.2.2.2.2.2.2.2.2.2.1, u.2.2.2.2.2.2.2.2.2.2.2)) H locs := hH
    exact v_wvret X hF ((upd u.1 a0.toNatClampNeg (if ((u.1 a0.toNatClampNeg) + a1) < (99 : Int32) then ((u.1 a0.toNatClampNeg) + a1) else (99 : Int32))), u.2.1, u.2.2.1, u.2.2.2.1, u.2.2.2.2.1, u.2.2.2.2.2.1, u.2.2.2.2.2.2.1, u.2.2.2.2.2.2.2.1, u.2.2.2.2.2.2.2.2.1, u.2.2.2.2.2.2.2.2.2.1, u.2.2.2.2.2.2.2.2.2.2.1, u.2.2.2.2.2.2.2.2.2.2.2) hH h dX1_makeHeavier_27
def wL_X1_resting_4 (b3 : BX1) (post : Int32 → Prop) (Kx4 : Int32 → Prop) : Nat → Int32 → Int32 → Prop
  | 0, _, _ => False
  | n4 + 1, x1, x2 => (b3.2.2.2.2.2.2.2.1 ≤ x2 → Kx4 x1) ∧ (¬ b3.2.2.2.2.2.2.2.1 ≤ x2 → vp_in x2 5 ∧ ((b3.2.2.2.2.2.2.2.2.2.1 < (b3.1 x2.toNatClampNeg) → wL_X1_resting_4 b3 post Kx4 n4 x1 (x2 + (1 : Int32))) ∧ (¬ b3.2.2.2.2.2.2.2.2.2.1 < (b3.1 x2.toNatClampNeg) → ∀ x6 : Int32, x6 = (x1 ||| ((1 : Int32) <<< (x2 &&& 31))) → wL_X1_resting_4 b3 post Kx4 n4 x6 (x2 + (1 : Int32)))))
def w_X1_resting (u : BX1) (post : Int32 → Prop) : Prop := ∃ n4, wL_X1_resting_4 u post (fun (x4 : Int32) => post x4) n4 (0 : Int32) (0 : Int32)
set_option maxHeartbeats 4000000 in
set_option maxRecDepth 100000 in
theorem c_X1_resting (l : Launch) (D : va_G) (K : Nat → ClassId) (t : Nat → Nat) (o : Nat → Nat) (u : BX1) (post : Int32 → Prop) (h : w_X1_resting u post) : RdM l yX1_resting cX1_resting 3 (some .int) ({ frames := 0, cells := 0, slots := 0, locals := 0 } : Room) D (TY K) t (CX1 K o u) [.ref (o 0)] post := by
  refine RdM.mk rfl (Nat.le_of_ble_eq_true rfl) ?_
  intro F ls _ hF X hP hl hT
  have X : Cx F cX1_resting 3 RX1 D (TY K) := X
  have hl : lv_has ls 3 [(0, .ref (o 0))] := hl
  unfold w_X1_resting at h
  refine v_iconst (v := (0 : Int32)) X dX1_resting_0 (by decide) ?_
  refine v_istore_n (lv' := [(1, .int (0 : Int32)), (0, .ref (o 0))]) X dX1_resting_1 rfl hl (by decide) rfl (fun ls hl => ?_)
  refine v_iconst (v := (0 : Int32)) X dX1_resting_2 (by decide) ?_
  refine v_istore_n (lv' := [(2, .int (0 : Int32)), (1, .int (0 : Int32)), (0, .ref (o 0))]) X dX1_resting_3 rfl hl (by decide) rfl (fun ls hl => ?_)
  obtain ⟨Kx4, hK4⟩ : ∃ f : Int32 → Prop, f = (fun (x4 : Int32) => post x4) := ⟨_, rfl⟩
  have kx5 : ∀ (x4 : Int32) (ls : Array Slot), (Kx4 x4) → lv_has ls 3 [(1, .int x4)] → V F (RQ F post) (fxS F).heap [] 37 ls [] := by
    intro x4 ls h hl
    have h : post x4 := by rw [hK4] at h; exact h
    refine v_iload_n X dX1_resting_37 rfl (lv_at hl 0 rfl) ?_
    exact v_riret X hF h dX1_resting_38
  have lp4 : ∀ (n4 : Nat) (x1 : Int32) (x2 : Int32) (ls : Array Slot), wL_X1_resting_4 u post Kx4 n4 x1 x2 → lv_has ls 3 [(0, .ref (o 0)), (1, .int x1), (2, .int x2)] → V F (RQ F post) (fxS F).heap [] 4 ls [] := by
    intro n4
    induction n4 with
    | zero => intro x1 x2 ls h hl; exact h.elim
    | succ n4 ih4 =>
      intro x1 x2 ls h hl
      refine v_iload_n X dX1_resting_4 rfl (lv_at hl 2 rfl) ?_
      refine v_aload_n X dX1_resting_5 rfl (lv_at hl 0 rfl) ?_
      refine v_get (v := .int u.2.2.2.2.2.2.2.1) X hP 0 rfl fk_X1_33 rfl dX1_resting_6 ?_
      refine v_icmp_ge (tgt := 37) X dX1_resting_9 (by decide) (fun c8 => ?_) (fun c8 => ?_)
      · have h := h.1 c8
        exact kx5 x1 ls h (lv_sub hl [1] rfl)
      · have h := h.2 c8
        refine v_aload_n X dX1_resting_12 rfl (lv_at hl 0 rfl) ?_
        refine v_get (v := .ref (o 1)) X hP 0 rfl fk_X1_9 rfl dX1_resting_13 ?_
        refine v_iload_n X dX1_resting_16 rfl (lv_at hl 2 rfl) ?_
        have hin := h.1
        have h := h.2
        refine v_iald (f := u.1) X hP 1 0 rfl rfl hin dX1_resting_17 ?_
        refine v_aload_n X dX1_resting_18 rfl (lv_at hl 0 rfl) ?_
        refine v_get (v := .int u.2.2.2.2.2.2.2.2.2.1) X hP 0 rfl fk_X1_49 rfl dX1_resting_19 ?_
        refine v_icmp_gt (tgt := 31) X dX1_resting_22 (by decide) (fun c7 => ?_) (fun c7 => ?_)
        · have h := h.1 c7
          refine v_iinc (v := (x2 + (1 : Int32))) (lv' := [(2, .int (x2 + (1 : Int32))), (0, .ref (o 0)), (1, .int x1)]) X dX1_resting_31 hl (k := 2) rfl rfl (by decide) rfl (fun ls hl => ?_)
          refine v_goto (tgt := 4) X dX1_resting_34 (by decide) ?_
          exact ih4 x1 (x2 + (1 : Int32)) ls h (lv_sub hl [1, 2, 0] rfl)
        · have h := h.2 c7
          refine v_iload_n X dX1_resting_25 rfl (lv_at hl 1 rfl) ?_
          refine v_iconst (v := (1 : Int32)) X dX1_resting_26 (by decide) ?_
          refine v_iload_n X dX1_resting_27 rfl (lv_at hl 2 rfl) ?_
          refine v_ishl X dX1_resting_28 ?_
          refine v_ior X dX1_resting_29 ?_
          refine v_topi (fun x6 ex6 => ?_)
          have h := h x6 ex6
          refine v_istore_n (lv' := [(1, .int x6), (0, .ref (o 0)), (2, .int x2)]) X dX1_resting_30 rfl hl (by decide) rfl (fun ls hl => ?_)
          refine v_iinc (v := (x2 + (1 : Int32))) (lv' := [(2, .int (x2 + (1 : Int32))), (1, .int x6), (0, .ref (o 0))]) X dX1_resting_31 hl (k := 2) rfl rfl (by decide) rfl (fun ls hl => ?_)
          refine v_goto (tgt := 4) X dX1_resting_34 (by decide) ?_
          exact ih4 x6 (x2 + (1 : Int32)) ls h (lv_sub hl [2, 1, 0] rfl)
  obtain ⟨n4, h⟩ := h
  have h : wL_X1_resting_4 u post Kx4 n4 (0 : Int32) (0 : Int32) := by rw [hK4]; exact h
  exact lp4 n4 (0 : Int32) (0 : Int32) ls h (lv_sub hl [2, 1, 0] rfl)
def wL_X1_weightsTogether_4 (b3 : BX1) (post : Int32 → Prop) (Kx4 : Int32 → Prop) : Nat → Int32 → Int32 → Prop
  | 0, _, _ => False
  | n4 + 1, x1, x2 => (b3.2.2.2.2.2.2.2.1 ≤ x2 → Kx4 x1) ∧ (¬ b3.2.2.2.2.2.2.2.1 ≤ x2 → vp_in x2 5 ∧ (∀ x6 : Int32, x6 = (x1 + (b3.1 x2.toNatClampNeg)) → wL_X1_weightsTogether_4 b3 post Kx4 n4 x6 (x2 + (1 : Int32))))
def w_X1_weightsTogether (u : BX1) (post : Int32 → Prop) : Prop := ∃ n4, wL_X1_weightsTogether_4 u post (fun (x4 : Int32) => post x4) n4 (0 : Int32) (0 : Int32)
set_option maxHeartbeats 4000000 in
set_option maxRecDepth 100000 in
theorem c_X1_weightsTogether (l : Launch) (D : va_G) (K : Nat → ClassId) (t : Nat → Nat) (o : Nat → Nat) (u : BX1) (post : Int32 → Prop) (h : w_X1_weightsTogether u post) : RdM l yX1_weightsTogether cX1_weightsTogether 3 (some .int) ({ frames := 0, cells := 0, slots := 0, locals := 0 } : Room) D (TY K) t (CX1 K o u) [.ref (o 0)] post := by
  refine RdM.mk rfl (Nat.le_of_ble_eq_true rfl) ?_
  intro F ls _ hF X hP hl hT
  have X : Cx F cX1_weightsTogether 3 RX1 D (TY K) := X
  have hl : lv_has ls 3 [(0, .ref (o 0))] := hl
  unfold w_X1_weightsTogether at h
  refine v_iconst (v := (0 : Int32)) X dX1_weightsTogether_0 (by decide) ?_
  refine v_istore_n (lv' := [(1, .int (0 : Int32)), (0, .ref (o 0))]) X dX1_weightsTogether_1 rfl hl (by decide) rfl (fun ls hl => ?_)
  refine v_iconst (v := (0 : Int32)) X dX1_weightsTogether_2 (by decide) ?_
  refine v_istore_n (lv' := [(2, .int (0 : Int32)), (1, .int (0 : Int32)), (0, .ref (o 0))]) X dX1_weightsTogether_3 rfl hl (by decide) rfl (fun ls hl => ?_)
  obtain ⟨Kx4, hK4⟩ : ∃ f : Int32 → Prop, f = (fun (x4 : Int32) => post x4) := ⟨_, rfl⟩
  have kx5 : ∀ (x4 : Int32) (ls : Array Slot), (Kx4 x4) → lv_has ls 3 [(1, .int x4)] → V F (RQ F post) (fxS F).heap [] 27 ls [] := by
    intro x4 ls h hl
    have h : post x4 := by rw [hK4] at h; exact h
    refine v_iload_n X dX1_weightsTogether_27 rfl (lv_at hl 0 rfl) ?_
    exact v_riret X hF h dX1_weightsTogether_28
  have lp4 : ∀ (n4 : Nat) (x1 : Int32) (x2 : Int32) (ls : Array Slot), wL_X1_weightsTogether_4 u post Kx4 n4 x1 x2 → lv_has ls 3 [(0, .ref (o 0)), (1, .int x1), (2, .int x2)] → V F (RQ F post) (fxS F).heap [] 4 ls [] := by
    intro n4
    induction n4 with
    | zero => intro x1 x2 ls h hl; exact h.elim
    | succ n4 ih4 =>
      intro x1 x2 ls h hl
      refine v_iload_n X dX1_weightsTogether_4 rfl (lv_at hl 2 rfl) ?_
      refine v_aload_n X dX1_weightsTogether_5 rfl (lv_at hl 0 rfl) ?_
      refine v_get (v := .int u.2.2.2.2.2.2.2.1) X hP 0 rfl fk_X1_33 rfl dX1_weightsTogether_6 ?_
      refine v_icmp_ge (tgt := 27) X dX1_weightsTogether_9 (by decide) (fun c7 => ?_) (fun c7 => ?_)
      · have h := h.1 c7
        exact kx5 x1 ls h (lv_sub hl [1] rfl)
      · have h := h.2 c7
        refine v_iload_n X dX1_weightsTogether_12 rfl (lv_at hl 1 rfl) ?_
        refine v_aload_n X dX1_weightsTogether_13 rfl (lv_at hl 0 rfl) ?_
        refine v_get (v := .ref (o 1)) X hP 0 rfl fk_X1_9 rfl dX1_weightsTogether_14 ?_
        refine v_iload_n X dX1_weightsTogether_17 rfl (lv_at hl 2 rfl) ?_
        have hin := h.1
        have h := h.2
        refine v_iald (f := u.1) X hP 1 0 rfl rfl hin dX1_weightsTogether_18 ?_
        refine v_iadd X dX1_weightsTogether_19 ?_
        refine v_topi (fun x6 ex6 => ?_)
        have h := h x6 ex6
        refine v_istore_n (lv' := [(1, .int x6), (0, .ref (o 0)), (2, .int x2)]) X dX1_weightsTogether_20 rfl hl (by decide) rfl (fun ls hl => ?_)
        refine v_iinc (v := (x2 + (1 : Int32))) (lv' := [(2, .int (x2 + (1 : Int32))), (1, .int x6), (0, .ref (o 0))]) X dX1_weightsTogether_21 hl (k := 2) rfl rfl (by decide) rfl (fun ls hl => ?_)
        refine v_goto (tgt := 4) X dX1_weightsTogether_24 (by decide) ?_
        exact ih4 x6 (x2 + (1 : Int32)) ls h (lv_sub hl [2, 1, 0] rfl)
  obtain ⟨n4, h⟩ := h
  have h : wL_X1_weightsTogether_4 u post Kx4 n4 (0 : Int32) (0 : Int32) := by rw [hK4]; exact h
  exact lp4 n4 (0 : Int32) (0 : Int32) ls h (lv_sub hl [2, 1, 0] rfl)
def wL_X1_wagesTogether_4 (b3 : BX1) (post : Int32 → Prop) (Kx4 : Int32 → Prop) : Nat → Int32 → Int32 → Prop
  | 0, _, _ => False
  | n4 + 1, x1, x2 => (b3.2.2.2.2.2.2.2.2.1 ≤ x2 → Kx4 x1) ∧ (¬ b3.2.2.2.2.2.2.2.2.1 ≤ x2 → vp_in x2 4 ∧ (∀ x6 : Int32, x6 = (x1 + (b3.2.2.2.2.2.2.1 x2.toNatClampNeg)) → wL_X1_wagesTogether_4 b3 post Kx4 n4 x6 (x2 + (1 : Int32))))
def w_X1_wagesTogether (u : BX1) (post : Int32 → Prop) : Prop := ∃ n4, wL_X1_wagesTogether_4 u post (fun (x4 : Int32) => post x4) n4 (0 : Int32) (0 : Int32)
set_option maxHeartbeats 4000000 in
set_option maxRecDepth 100000 in
theorem c_X1_wagesTogether (l : Launch) (D : va_G) (K : Nat → ClassId) (t : Nat → Nat) (o : Nat → Nat) (u : BX1) (post : Int32 → Prop) (h : w_X1_wagesTogether u post) : RdM l yX1_wagesTogether cX1_wagesTogether 3 (some .int) ({ frames := 0, cells := 0, slots := 0, locals := 0 } : Room) D (TY K) t (CX1 K o u) [.ref (o 0)] post := by
  refine RdM.mk rfl (Nat.le_of_ble_eq_true rfl) ?_
  intro F ls _ hF X hP hl hT
  have X : Cx F cX1_wagesTogether 3 RX1 D (TY K) := X
  have hl : lv_has ls 3 [(0, .ref (o 0))] := hl
  unfold w_X1_wagesTogether at h
  refine v_iconst (v := (0 : Int32)) X dX1_wagesTogether_0 (by decide) ?_
  refine v_istore_n (lv' := [(1, .int (0 : Int32)), (0, .ref (o 0))]) X dX1_wagesTogether_1 rfl hl (by decide) rfl (fun ls hl => ?_)
  refine v_iconst (v := (0 : Int32)) X dX1_wagesTogether_2 (by decide) ?_
  refine v_istore_n (lv' := [(2, .int (0 : Int32)), (1, .int (0 : Int32)), (0, .ref (o 0))]) X dX1_wagesTogether_3 rfl hl (by decide) rfl (fun ls hl => ?_)
  obtain ⟨Kx4, hK4⟩ : ∃ f : Int32 → Prop, f = (fun (x4 : Int32) => post x4) := ⟨_, rfl⟩
  have kx5 : ∀ (x4 : Int32) (ls : Array Slot), (Kx4 x4) → lv_has ls 3 [(1, .int x4)] → V F (RQ F post) (fxS F).heap [] 27 ls [] := by
    intro x4 ls h hl
    have h : post x4 := by rw [hK4] at h; exact h
    refine v_iload_n X dX1_wagesTogether_27 rfl (lv_at hl 0 rfl) ?_
    exact v_riret X hF h dX1_wagesTogether_28
  have lp4 : ∀ (n4 : Nat) (x1 : Int32) (x2 : Int32) (ls : Array Slot), wL_X1_wagesTogether_4 u post Kx4 n4 x1 x2 → lv_has ls 3 [(0, .ref (o 0)), (1, .int x1), (2, .int x2)] → V F (RQ F post) (fxS F).heap [] 4 ls [] := by
    intro n4
    induction n4 with
    | zero => intro x1 x2 ls h hl; exact h.elim
    | succ n4 ih4 =>
      intro x1 x2 ls h hl
      refine v_iload_n X dX1_wagesTogether_4 rfl (lv_at hl 2 rfl) ?_
      refine v_aload_n X dX1_wagesTogether_5 rfl (lv_at hl 0 rfl) ?_
      refine v_get (v := .int u.2.2.2.2.2.2.2.2.1) X hP 0 rfl fk_X1_37 rfl dX1_wagesTogether_6 ?_
      refine v_icmp_ge (tgt := 27) X dX1_wagesTogether_9 (by decide) (fun c7 => ?_) (fun c7 => ?_)
      · have h := h.1 c7
        exact kx5 x1 ls h (lv_sub hl [1] rfl)
      · have h := h.2 c7
        refine v_iload_n X dX1_wagesTogether_12 rfl (lv_at hl 1 rfl) ?_
        refine v_aload_n X dX1_wagesTogether_13 rfl (lv_at hl 0 rfl) ?_
        refine v_get (v := .ref (o 7)) X hP 0 rfl fk_X1_30 rfl dX1_wagesTogether_14 ?_
        refine v_iload_n X dX1_wagesTogether_17 rfl (lv_at hl 2 rfl) ?_
        have hin := h.1
        have h := h.2
        refine v_iald (f := u.2.2.2.2.2.2.1) X hP 7 0 rfl rfl hin dX1_wagesTogether_18 ?_
        refine v_iadd X dX1_wagesTogether_19 ?_
        refine v_topi (fun x6 ex6 => ?_)
        have h := h x6 ex6
        refine v_istore_n (lv' := [(1, .int x6), (0, .ref (o 0)), (2, .int x2)]) X dX1_wagesTogether_20 rfl hl (by decide) rfl (fun ls hl => ?_)
        refine v_iinc (v := (x2 + (1 : Int32))) (lv' := [(2, .int (x2 + (1 : Int32))), (1, .int x6), (0, .ref (o 0))]) X dX1_wagesTogether_21 hl (k := 2) rfl rfl (by decide) rfl (fun ls hl => ?_)
        refine v_goto (tgt := 4) X dX1_wagesTogether_24 (by decide) ?_
        exact ih4 x6 (x2 + (1 : Int32)) ls h (lv_sub hl [2, 1, 0] rfl)
  obtain ⟨n4, h⟩ := h
  have h : wL_X1_wagesTogether_4 u post Kx4 n4 (0 : Int32) (0 : Int32) := by rw [hK4]; exact h
  exact lp4 n4 (0 : Int32) (0 : Int32) ls h (lv_sub hl [2, 1, 0] rfl)
def w_J6_numberOfTrailingZeros_0f7a4 (a0 : Int32) (post : Int32 → Prop) : Prop := ∀ x1 : Int32, x1 = ((a0 ^^^ (-1 : Int32)) &&& (a0 - (1 : Int32))) → (0 < x1 → wpJ (T := Int32 → Int32 → Prop) (fun (x3 : Int32) (x4 : Int32) => wpJ (T := Int32 → Int32 → Prop) (fun (x6 : Int32) (x7 : Int32) => wpJ (T := Int32 → Int32 → Prop) (fun (x9 : Int32) (x10 : Int32) => (x9 ≤ (4 : Int32) → post (x10 + (((x9).toUInt32 >>> (((1 : Int32)).toUInt32 &&& Int32.toUInt32 31)).toInt32))) ∧ (¬ x9 ≤ (4 : Int32) → ∀ x11 : Int32, x11 = (((x9).toUInt32 >>> (((2 : Int32)).toUInt32 &&& Int32.toUInt32 31)).toInt32) → post ((x10 + (2 : Int32)) + (((x11).toUInt32 >>> (((1 : Int32)).toUInt32 &&& Int32.toUInt32 31)).toInt32)))) (fun J8 => (x6 ≤ (16 : Int32) → J8 x6 x7) ∧ (¬ x6 ≤ (16 : Int32) → ∀ x13 : Int32, x13 = (((x6).toUInt32 >>> (((4 : Int32)).toUInt32 &&& Int32.toUInt32 31)).toInt32) → J8 x13 (x7 + (4 : Int32))))) (fun J5 => (x3 ≤ (256 : Int32) → J5 x3 x4) ∧ (¬ x3 ≤ (256 : Int32) → ∀ x15 : Int32, x15 = (((x3).toUInt32 >>> (((8 : Int32)).toUInt32 &&& Int32.toUInt32 31)).toInt32) → J5 x15 (x4 + (8 : Int32))))) (fun J2 => (x1 ≤ (65536 : Int32) → J2 x1 (1 : Int32)) ∧ (¬ x1 ≤ (65536 : Int32) → ∀ x17 : Int32, x17 = (((x1).toUInt32 >>> (((16 : Int32)).toUInt32 &&& Int32.toUInt32 31)).toInt32) → J2 x17 ((1 : Int32) + (16 : Int32))))) ∧ (¬ 0 < x1 → post (x1 &&& (32 : Int32)))
set_option maxHeartbeats 4000000 in
set_option maxRecDepth 100000 in
theorem c_J6_numberOfTrailingZeros_0f7a4 (l : Launch) (D : va_G) (K : Nat → ClassId) (t : Nat → Nat) (a0 : Int32) (post : Int32 → Prop) (h : w_J6_numberOfTrailingZeros_0f7a4 a0 post) : RdM l yJ6_numberOfTrailingZeros_0f7a4 cJ6_numberOfTrailingZeros_0f7a4 2 (some .int) ({ frames := 0, cells := 0, slots := 0, locals := 0 } : Room) D (TY K) t ([] : va_W) [.int a0] post := by
  refine RdM.mk rfl (Nat.le_of_ble_eq_true rfl) ?_
  intro F ls _ hF X hP hl hT
  have X : Cx F cJ6_numberOfTrailingZeros_0f7a4 2 RJ6 D (TY K) := X
  have hl : lv_has ls 2 [(0, .int a0)] := hl
  unfold w_J6_numberOfTrailingZeros_0f7a4 at h
  refine v_iload_n X dJ6_numberOfTrailingZeros_0f7a4_0 rfl (lv_at hl 0 rfl) ?_
  refine v_iconst (v := (-1 : Int32)) X dJ6_numberOfTrailingZeros_0f7a4_1 (by decide) ?_
  refine v_ixor X dJ6_numberOfTrailingZeros_0f7a4_2 ?_
  refine v_iload_n X dJ6_numberOfTrailingZeros_0f7a4_3 rfl (lv_at hl 0 rfl) ?_
  refine v_iconst (v := (1 : Int32)) X dJ6_numberOfTrailingZeros_0f7a4_4 (by decide) ?_
  refine v_isub X dJ6_numberOfTrailingZeros_0f7a4_5 ?_
  refine v_iand X dJ6_numberOfTrailingZeros_0f7a4_6 ?_
  refine v_topi (fun x1 ex1 => ?_)
  have h := h x1 ex1
  refine v_istore_n (lv' := [(0, .int x1)]) X dJ6_numberOfTrailingZeros_0f7a4_7 rfl hl (by decide) rfl (fun ls hl => ?_)
  refine v_iload_n X dJ6_numberOfTrailingZeros_0f7a4_8 rfl (lv_at hl 0 rfl) ?_
  refine v_if_gt (tgt := 17) X dJ6_numberOfTrailingZeros_0f7a4_9 (by decide) (fun c19 => ?_) (fun c19 => ?_)
  · have h := h.1 c19
    refine v_iconst (v := (1 : Int32)) X dJ6_numberOfTrailingZeros_0f7a4_17 (by decide) ?_
    refine v_istore_n (lv' := [(1, .int (1 : Int32)), (0, .int x1)]) X dJ6_numberOfTrailingZeros_0f7a4_18 rfl hl (by decide) rfl (fun ls hl => ?_)
    refine v_iload_n X dJ6_numberOfTrailingZeros_0f7a4_19 rfl (lv_at hl 1 rfl) ?_
    refine v_ldcw X kc_J6_264 dJ6_numberOfTrailingZeros_0f7a4_20 ?_
    obtain ⟨J2, hJ2⟩ : ∃ f : Int32 → Int32 → Prop, f = (fun (x3 : Int32) (x4 : Int32) => wpJ (T := Int32 → Int32 → Prop) (fun (x6 : Int32) (x7 : Int32) => wpJ (T := Int32 → Int32 → Prop) (fun (x9 : Int32) (x10 : Int32) => (x9 ≤ (4 : Int32) → post (x10 + (((x9).toUInt32 >>> (((1 : Int32)).toUInt32 &&& Int32.toUInt32 31)).toInt32))) ∧ (¬ x9 ≤ (4 : Int32) → ∀ x11 : Int32, x11 = (((x9).toUInt32 >>> (((2 : Int32)).toUInt32 &&& Int32.toUInt32 31)).toInt32) → post ((x10 + (2 : Int32)) + (((x11).toUInt32 >>> (((1 : Int32)).toUInt32 &&& Int32.toUInt32 31)).toInt32)))) (fun J8 => (x6 ≤ (16 : Int32) → J8 x6 x7) ∧ (¬ x6 ≤ (16 : Int32) → ∀ x13 : Int32, x13 = (((x6).toUInt32 >>> (((4 : Int32)).toUInt32 &&& Int32.toUInt32 31)).toInt32) → J8 x13 (x7 + (4 : Int32))))) (fun J5 => (x3 ≤ (256 : Int32) → J5 x3 x4) ∧ (¬ x3 ≤ (256 : Int32) → ∀ x15 : Int32, x15 = (((x3).toUInt32 >>> (((8 : Int32)).toUInt32 &&& Int32.toUInt32 31)).toInt32) → J5 x15 (x4 + (8 : Int32))))) := ⟨_, rfl⟩
    have kJ2 : ∀ (x3 : Int32) (x4 : Int32) (ls : Array Slot), (J2 x3 x4) → lv_has ls 2 [(0, .int x3), (1, .int x4)] → V F (RQ F post) (fxS F).heap [] 34 ls [] := by
      intro x3 x4 ls h hl
      have h : wpJ (T := Int32 → Int32 → Prop) (fun (x6 : Int32) (x7 : Int32) => wpJ (T := Int32 → Int32 → Prop) (fun (x9 : Int32) (x10 : Int32) => (x9 ≤ (4 : Int32) → post (x10 + (((x9).toUInt32 >>> (((1 : Int32)).toUInt32 &&& Int32.toUInt32 31)).toInt32))) ∧ (¬ x9 ≤ (4 : Int32) → ∀ x11 : Int32, x11 = (((x9).toUInt32 >>> (((2 : Int32)).toUInt32 &&& Int32.toUInt32 31)).toInt32) → post ((x10 + (2 : Int32)) + (((x11).toUInt32 >>> (((1 : Int32)).toUInt32 &&& Int32.toUInt32 31)).toInt32)))) (fun J8 => (x6 ≤ (16 : Int32) → J8 x6 x7) ∧ (¬ x6 ≤ (16 : Int32) → ∀ x13 : Int32, x13 = (((x6).toUInt32 >>> (((4 : Int32)).toUInt32 &&& Int32.toUInt32 31)).toInt32) → J8 x13 (x7 + (4 : Int32))))) (fun J5 => (x3 ≤ (256 : Int32) → J5 x3 x4) ∧ (¬ x3 ≤ (256 : Int32) → ∀ x15 : Int32, x15 = (((x3).toUInt32 >>> (((8 : Int32)).toUInt32 &&& Int32.toUInt32 31)).toInt32) → J5 x15 (x4 + (8 : Int32)))) := by rw [hJ2] at h; exact h
      refine v_iload_n X dJ6_numberOfTrailingZeros_0f7a4_34 rfl (lv_at hl 0 rfl) ?_
      refine v_sipush (v := (256 : Int32)) X dJ6_numberOfTrailingZeros_0f7a4_35 (by decide) ?_
      obtain ⟨J5, hJ5⟩ : ∃ f : Int32 → Int32 → Prop, f = (fun (x6 : Int32) (x7 : Int32) => wpJ (T := Int32 → Int32 → Prop) (fun (x9 : Int32) (x10 : Int32) => (x9 ≤ (4 : Int32) → post (x10 + (((x9).toUInt32 >>> (((1 : Int32)).toUInt32 &&& Int32.toUInt32 31)).toInt32))) ∧ (¬ x9 ≤ (4 : Int32) → ∀ x11 : Int32, x11 = (((x9).toUInt32 >>> (((2 : Int32)).toUInt32 &&& Int32.toUInt32 31)).toInt32) → post ((x10 + (2 : Int32)) + (((x11).toUInt32 >>> (((1 : Int32)).toUInt32 &&& Int32.toUInt32 31)).toInt32)))) (fun J8 => (x6 ≤ (16 : Int32) → J8 x6 x7) ∧ (¬ x6 ≤ (16 : Int32) → ∀ x13 : Int32, x13 = (((x6).toUInt32 >>> (((4 : Int32)).toUInt32 &&& Int32.toUInt32 31)).toInt32) → J8 x13 (x7 + (4 : Int32))))) := ⟨_, rfl⟩
      have kJ5 : ∀ (x6 : Int32) (x7 : Int32) (ls : Array Slot), (J5 x6 x7) → lv_has ls 2 [(0, .int x6), (1, .int x7)] → V F (RQ F post) (fxS F).heap [] 49 ls [] := by
        intro x6 x7 ls h hl
        have h : wpJ (T := Int32 → Int32 → Prop) (fun (x9 : Int32) (x10 : Int32) => (x9 ≤ (4 : Int32) → post (x10 + (((x9).toUInt32 >>> (((1 : Int32)).toUInt32 &&& Int32.toUInt32 31)).toInt32))) ∧ (¬ x9 ≤ (4 : Int32) → ∀ x11 : Int32, x11 = (((x9).toUInt32 >>> (((2 : Int32)).toUInt32 &&& Int32.toUInt32 31)).toInt32) → post ((x10 + (2 : Int32)) + (((x11).toUInt32 >>> (((1 : Int32)).toUInt32 &&& Int32.toUInt32 31)).toInt32)))) (fun J8 => (x6 ≤ (16 : Int32) → J8 x6 x7) ∧ (¬ x6 ≤ (16 : Int32) → ∀ x13 : Int32, x13 = (((x6).toUInt32 >>> (((4 : Int32)).toUInt32 &&& Int32.toUInt32 31)).toInt32) → J8 x13 (x7 + (4 : Int32)))) := by rw [hJ5] at h; exact h
        refine v_iload_n X dJ6_numberOfTrailingZeros_0f7a4_49 rfl (lv_at hl 0 rfl) ?_
        refine v_bipush (v := (16 : Int32)) X dJ6_numberOfTrailingZeros_0f7a4_50 (by decide) ?_
        obtain ⟨J8, hJ8⟩ : ∃ f : Int32 → Int32 → Prop, f = (fun (x9 : Int32) (x10 : Int32) => (x9 ≤ (4 : Int32) → post (x10 + (((x9).toUInt32 >>> (((1 : Int32)).toUInt32 &&& Int32.toUInt32 31)).toInt32))) ∧ (¬ x9 ≤ (4 : Int32) → ∀ x11 : Int32, x11 = (((x9).toUInt32 >>> (((2 : Int32)).toUInt32 &&& Int32.toUInt32 31)).toInt32) → post ((x10 + (2 : Int32)) + (((x11).toUInt32 >>> (((1 : Int32)).toUInt32 &&& Int32.toUInt32 31)).toInt32)))) := ⟨_, rfl⟩
        have kJ8 : ∀ (x9 : Int32) (x10 : Int32) (ls : Array Slot), (J8 x9 x10) → lv_has ls 2 [(0, .int x9), (1, .int x10)] → V F (RQ F post) (fxS F).heap [] 62 ls [] := by
          intro x9 x10 ls h hl
          have h : (x9 ≤ (4 : Int32) → post (x10 + (((x9).toUInt32 >>> (((1 : Int32)).toUInt32 &&& Int32.toUInt32 31)).toInt32))) ∧ (¬ x9 ≤ (4 : Int32) → ∀ x11 : Int32, x11 = (((x9).toUInt32 >>> (((2 : Int32)).toUInt32 &&& Int32.toUInt32 31)).toInt32) → post ((x10 + (2 : Int32)) + (((x11).toUInt32 >>> (((1 : Int32)).toUInt32 &&& Int32.toUInt32 31)).toInt32))) := by rw [hJ8] at h; exact h
          refine v_iload_n X dJ6_numberOfTrailingZeros_0f7a4_62 rfl (lv_at hl 0 rfl) ?_
          refine v_iconst (v := (4 : Int32)) X dJ6_numberOfTrailingZeros_0f7a4_63 (by decide) ?_
          refine v_icmp_le (tgt := 74) X dJ6_numberOfTrailingZeros_0f7a4_64 (by decide) (fun c12 => ?_) (fun c12 => ?_)
          · have h := h.1 c12
            refine v_iload_n X dJ6_numberOfTrailingZeros_0f7a4_74 rfl (lv_at hl 1 rfl) ?_
            refine v_iload_n X dJ6_numberOfTrailingZeros_0f7a4_75 rfl (lv_at hl 0 rfl) ?_
            refine v_iconst (v := (1 : Int32)) X dJ6_numberOfTrailingZeros_0f7a4_76 (by decide) ?_
            refine v_iushr X dJ6_numberOfTrailingZeros_0f7a4_77 rfl ?_
            refine v_iadd X dJ6_numberOfTrailingZeros_0f7a4_78 ?_
            exact v_riret X hF h dJ6_numberOfTrailingZeros_0f7a4_79
          · have h := h.2 c12
            refine v_iinc (v := (x10 + (2 : Int32))) (lv' := [(1, .int (x10 + (2 : Int32))), (0, .int x9)]) X dJ6_numberOfTrailingZeros_0f7a4_67 hl (k := 1) rfl rfl (by decide) rfl (fun ls hl => ?_)
            refine v_iload_n X dJ6_numberOfTrailingZeros_0f7a4_70 rfl (lv_at hl 1 rfl) ?_
            refine v_iconst (v := (2 : Int32)) X dJ6_numberOfTrailingZeros_0f7a4_71 (by decide) ?_
            refine v_iushr X dJ6_numberOfTrailingZeros_0f7a4_72 rfl ?_
            refine v_topi (fun x11 ex11 => ?_)
            have h := h x11 ex11
            refine v_istore_n (lv' := [(0, .int x11), (1, .int (x10 + (2 : Int32)))]) X dJ6_numberOfTrailingZeros_0f7a4_73 rfl hl (by decide) rfl (fun ls hl => ?_)
            refine v_iload_n X dJ6_numberOfTrailingZeros_0f7a4_74 rfl (lv_at hl 1 rfl) ?_
            refine v_iload_n X dJ6_numberOfTrailingZeros_0f7a4_75 rfl (lv_at hl 0 rfl) ?_
            refine v_iconst (v := (1 : Int32)) X dJ6_numberOfTrailingZeros_0f7a4_76 (by decide) ?_
            refine v_iushr X dJ6_numberOfTrailingZeros_0f7a4_77 rfl ?_
            refine v_iadd X dJ6_numberOfTrailingZeros_0f7a4_78 ?_
            exact v_riret X hF h dJ6_numberOfTrailingZeros_0f7a4_79
        have h : (x6 ≤ (16 : Int32) → J8 x6 x7) ∧ (¬ x6 ≤ (16 : Int32) → ∀ x13 : Int32, x13 = (((x6).toUInt32 >>> (((4 : Int32)).toUInt32 &&& Int32.toUInt32 31)).toInt32) → J8 x13 (x7 + (4 : Int32))) := by rw [hJ8]; exact h
        refine v_icmp_le (tgt := 62) X dJ6_numberOfTrailingZeros_0f7a4_52 (by decide) (fun c14 => ?_) (fun c14 => ?_)
        · have h := h.1 c14
          exact kJ8 x6 x7 ls h (lv_sub hl [0, 1] rfl)
        · have h := h.2 c14
          refine v_iinc (v := (x7 + (4 : Int32))) (lv' := [(1, .int (x7 + (4 : Int32))), (0, .int x6)]) X dJ6_numberOfTrailingZeros_0f7a4_55 hl (k := 1) rfl rfl (by decide) rfl (fun ls hl => ?_)
          refine v_iload_n X dJ6_numberOfTrailingZeros_0f7a4_58 rfl (lv_at hl 1 rfl) ?_
          refine v_iconst (v := (4 : Int32)) X dJ6_numberOfTrailingZeros_0f7a4_59 (by decide) ?_
          refine v_iushr X dJ6_numberOfTrailingZeros_0f7a4_60 rfl ?_
          refine v_topi (fun x13 ex13 => ?_)
          have h := h x13 ex13
          refine v_istore_n (lv' := [(0, .int x13), (1, .int (x7 + (4 : Int32)))]) X dJ6_numberOfTrailingZeros_0f7a4_61 rfl hl (by decide) rfl (fun ls hl => ?_)
          exact kJ8 x13 (x7 + (4 : Int32)) ls h (lv_sub hl [0, 1] rfl)
      have h : (x3 ≤ (256 : Int32) → J5 x3 x4) ∧ (¬ x3 ≤ (256 : Int32) → ∀ x15 : Int32, x15 = (((x3).toUInt32 >>> (((8 : Int32)).toUInt32 &&& Int32.toUInt32 31)).toInt32) → J5 x15 (x4 + (8 : Int32))) := by rw [hJ5]; exact h
      refine v_icmp_le (tgt := 49) X dJ6_numberOfTrailingZeros_0f7a4_38 (by decide) (fun c16 => ?_) (fun c16 => ?_)
      · have h := h.1 c16
        exact kJ5 x3 x4 ls h (lv_sub hl [0, 1] rfl)
      · have h := h.2 c16
        refine v_iinc (v := (x4 + (8 : Int32))) (lv' := [(1, .int (x4 + (8 : Int32))), (0, .int x3)]) X dJ6_numberOfTrailingZeros_0f7a4_41 hl (k := 1) rfl rfl (by decide) rfl (fun ls hl => ?_)
        refine v_iload_n X dJ6_numberOfTrailingZeros_0f7a4_44 rfl (lv_at hl 1 rfl) ?_
        refine v_bipush (v := (8 : Int32)) X dJ6_numberOfTrailingZeros_0f7a4_45 (by decide) ?_
        refine v_iushr X dJ6_numberOfTrailingZeros_0f7a4_47 rfl ?_
        refine v_topi (fun x15 ex15 => ?_)
        have h := h x15 ex15
        refine v_istore_n (lv' := [(0, .int x15), (1, .int (x4 + (8 : Int32)))]) X dJ6_numberOfTrailingZeros_0f7a4_48 rfl hl (by decide) rfl (fun ls hl => ?_)
        exact kJ5 x15 (x4 + (8 : Int32)) ls h (lv_sub hl [0, 1] rfl)
    have h : (x1 ≤ (65536 : Int32) → J2 x1 (1 : Int32)) ∧ (¬ x1 ≤ (65536 : Int32) → ∀ x17 : Int32, x17 = (((x1).toUInt32 >>> (((16 : Int32)).toUInt32 &&& Int32.toUInt32 31)).toInt32) → J2 x17 ((1 : Int32) + (16 : Int32))) := by rw [hJ2]; exact h
    refine v_icmp_le (tgt := 34) X dJ6_numberOfTrailingZeros_0f7a4_23 (by decide) (fun c18 => ?_) (fun c18 => ?_)
    · have h := h.1 c18
      exact kJ2 x1 (1 : Int32) ls h (lv_sub hl [1, 0] rfl)
    · have h := h.2 c18
      refine v_iinc (v := ((1 : Int32) + (16 : Int32))) (lv' := [(1, .int ((1 : Int32) + (16 : Int32))), (0, .int x1)]) X dJ6_numberOfTrailingZeros_0f7a4_26 hl (k := 0) rfl rfl (by decide) rfl (fun ls hl => ?_)
      refine v_iload_n X dJ6_numberOfTrailingZeros_0f7a4_29 rfl (lv_at hl 1 rfl) ?_
      refine v_bipush (v := (16 : Int32)) X dJ6_numberOfTrailingZeros_0f7a4_30 (by decide) ?_
      refine v_iushr X dJ6_numberOfTrailingZeros_0f7a4_32 rfl ?_
      refine v_topi (fun x17 ex17 => ?_)
      have h := h x17 ex17
      refine v_istore_n (lv' := [(0, .int x17), (1, .int ((1 : Int32) + (16 : Int32)))]) X dJ6_numberOfTrailingZeros_0f7a4_33 rfl hl (by decide) rfl (fun ls hl => ?_)
      exact kJ2 x17 ((1 : Int32) + (16 : Int32)) ls h (lv_sub hl [0, 1] rfl)
  · have h := h.2 c19
    refine v_iload_n X dJ6_numberOfTrailingZeros_0f7a4_12 rfl (lv_at hl 0 rfl) ?_
    refine v_bipush (v := (32 : Int32)) X dJ6_numberOfTrailingZeros_0f7a4_13 (by decide) ?_
    refine v_iand X dJ6_numberOfTrailingZeros_0f7a4_15 ?_
    exact v_riret X hF h dJ6_numberOfTrailingZeros_0f7a4_16
def w_J6_bitCount_0f7a4 (a0 : Int32) (post : Int32 → Prop) : Prop := ∀ x1 : Int32, x1 = (a0 - ((((a0).toUInt32 >>> (((1 : Int32)).toUInt32 &&& Int32.toUInt32 31)).toInt32) &&& (1431655765 : Int32))) → ∀ x2 : Int32, x2 = ((x1 &&& (858993459 : Int32)) + ((((x1).toUInt32 >>> (((2 : Int32)).toUInt32 &&& Int32.toUInt32 31)).toInt32) &&& (858993459 : Int32))) → ∀ x3 : Int32, x3 = ((x2 + (((x2).toUInt32 >>> (((4 : Int32)).toUInt32 &&& Int32.toUInt32 31)).toInt32)) &&& (252645135 : Int32)) → ∀ x4 : Int32, x4 = (x3 + (((x3).toUInt32 >>> (((8 : Int32)).toUInt32 &&& Int32.toUInt32 31)).toInt32)) → ∀ x5 : Int32, x5 = (x4 + (((x4).toUInt32 >>> (((16 : Int32)).toUInt32 &&& Int32.toUInt32 31)).toInt32)) → post (x5 &&& (63 : Int32))
set_option maxHeartbeats 4000000 in
set_option maxRecDepth 100000 in
theorem c_J6_bitCount_0f7a4 (l : Launch) (D : va_G) (K : Nat → ClassId) (t : Nat → Nat) (a0 : Int32) (post : Int32 → Prop) (h : w_J6_bitCount_0f7a4 a0 post) : RdM l yJ6_bitCount_0f7a4 cJ6_bitCount_0f7a4 1 (some .int) ({ frames := 0, cells := 0, slots := 0, locals := 0 } : Room) D (TY K) t ([] : va_W) [.int a0] post := by
  refine RdM.mk rfl (Nat.le_of_ble_eq_true rfl) ?_
  intro F ls _ hF X hP hl hT
  have X : Cx F cJ6_bitCount_0f7a4 1 RJ6 D (TY K) := X
  have hl : lv_has ls 1 [(0, .int a0)] := hl
  unfold w_J6_bitCount_0f7a4 at h
  refine v_iload_n X dJ6_bitCount_0f7a4_0 rfl (lv_at hl 0 rfl) ?_
  refine v_iload_n X dJ6_bitCount_0f7a4_1 rfl (lv_at hl 0 rfl) ?_
  refine v_iconst (v := (1 : Int32)) X dJ6_bitCount_0f7a4_2 (by decide) ?_
  refine v_iushr X dJ6_bitCount_0f7a4_3 rfl ?_
  refine v_ldcw X kc_J6_265 dJ6_bitCount_0f7a4_4 ?_
  refine v_iand X dJ6_bitCount_0f7a4_7 ?_
  refine v_isub X dJ6_bitCount_0f7a4_8 ?_
  refine v_topi (fun x1 ex1 => ?_)
  have h := h x1 ex1
  refine v_istore_n (lv' := [(0, .int x1)]) X dJ6_bitCount_0f7a4_9 rfl hl (by decide) rfl (fun ls hl => ?_)
  refine v_iload_n X dJ6_bitCount_0f7a4_10 rfl (lv_at hl 0 rfl) ?_
  refine v_ldcw X kc_J6_266 dJ6_bitCount_0f7a4_11 ?_
  refine v_iand X dJ6_bitCount_0f7a4_14 ?_
  refine v_iload_n X dJ6_bitCount_0f7a4_15 rfl (lv_at hl 0 rfl) ?_
  refine v_iconst (v := (2 : Int32)) X dJ6_bitCount_0f7a4_16 (by decide) ?_
  refine v_iushr X dJ6_bitCount_0f7a4_17 rfl ?_
  refine v_ldcw X kc_J6_266 dJ6_bitCount_0f7a4_18 ?_
  refine v_iand X dJ6_bitCount_0f7a4_21 ?_
  refine v_iadd X dJ6_bitCount_0f7a4_22 ?_
  refine v_topi (fun x2 ex2 => ?_)
  have h := h x2 ex2
  refine v_istore_n (lv' := [(0, .int x2)]) X dJ6_bitCount_0f7a4_23 rfl hl (by decide) rfl (fun ls hl => ?_)
  refine v_iload_n X dJ6_bitCount_0f7a4_24 rfl (lv_at hl 0 rfl) ?_
  refine v_iload_n X dJ6_bitCount_0f7a4_25 rfl (lv_at hl 0 rfl) ?_
  refine v_iconst (v := (4 : Int32)) X dJ6_bitCount_0f7a4_26 (by decide) ?_
  refine v_iushr X dJ6_bitCount_0f7a4_27 rfl ?_
  refine v_iadd X dJ6_bitCount_0f7a4_28 ?_
  refine v_ldcw X kc_J6_267 dJ6_bitCount_0f7a4_29 ?_
  refine v_iand X dJ6_bitCount_0f7a4_32 ?_
  refine v_topi (fun x3 ex3 => ?_)
  have h := h x3 ex3
  refine v_istore_n (lv' := [(0, .int x3)]) X dJ6_bitCount_0f7a4_33 rfl hl (by decide) rfl (fun ls hl => ?_)
  refine v_iload_n X dJ6_bitCount_0f7a4_34 rfl (lv_at hl 0 rfl) ?_
  refine v_iload_n X dJ6_bitCount_0f7a4_35 rfl (lv_at hl 0 rfl) ?_
  refine v_bipush (v := (8 : Int32)) X dJ6_bitCount_0f7a4_36 (by decide) ?_
  refine v_iushr X dJ6_bitCount_0f7a4_38 rfl ?_
  refine v_iadd X dJ6_bitCount_0f7a4_39 ?_
  refine v_topi (fun x4 ex4 => ?_)
  have h := h x4 ex4
  refine v_istore_n (lv' := [(0, .int x4)]) X dJ6_bitCount_0f7a4_40 rfl hl (by decide) rfl (fun ls hl => ?_)
  refine v_iload_n X dJ6_bitCount_0f7a4_41 rfl (lv_at hl 0 rfl) ?_
  refine v_iload_n X dJ6_bitCount_0f7a4_42 rfl (lv_at hl 0 rfl) ?_
  refine v_bipush (v := (16 : Int32)) X dJ6_bitCount_0f7a4_43 (by decide) ?_
  refine v_iushr X dJ6_bitCount_0f7a4_45 rfl ?_
  refine v_iadd X dJ6_bitCount_0f7a4_46 ?_
  refine v_topi (fun x5 ex5 => ?_)
  have h := h x5 ex5
  refine v_istore_n (lv' := [(0, .int x5)]) X dJ6_bitCount_0f7a4_47 rfl hl (by decide) rfl (fun ls hl => ?_)
  refine v_iload_n X dJ6_bitCount_0f7a4_48 rfl (lv_at hl 0 rfl) ?_
  refine v_bipush (v := (63 : Int32)) X dJ6_bitCount_0f7a4_49 (by decide) ?_
  refine v_iand X dJ6_bitCount_0f7a4_51 ?_
  exact v_riret X hF h dJ6_bitCount_0f7a4_52
