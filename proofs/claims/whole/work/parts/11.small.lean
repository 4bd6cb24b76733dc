def w_X0_forgetAll (u : BX0) (post : BX0 → Prop) : Prop := post (u.1, u.2.1, (0 : Int32))
set_option maxHeartbeats 4000000 in
set_option maxRecDepth 100000 in
theorem c_X0_forgetAll (l : Launch) (D : va_G) (K : Nat → ClassId) (t : Nat → Nat) (o : Nat → Nat) (u : BX0) (post : BX0 → Prop) (h : w_X0_forgetAll u post) : WrV l yX0_forgetAll cX0_forgetAll 1 ({ frames := 0, cells := 0, slots := 0, locals := 0 } : Room) D (TY K) t (CX0 K o u) [.ref (o 0)] (fun z : BX0 => CX0 K o z) (fun z : BX0 => post z) := by
  refine WrV.mk rfl (Nat.le_of_ble_eq_true rfl) ?_
  intro F ls A _ hF X hH hA hl hT
  obtain ⟨H, hH0⟩ : ∃ z : Heap, z = (fxS F).heap := ⟨_, rfl⟩
  obtain ⟨locs, hL0⟩ : ∃ z : List Loc, z = [] := ⟨_, rfl⟩
  have hH : HH F D A (CX0 K o u) H locs := by rw [hH0, hL0]; exact hH
  suffices goal : V F (WQV F D (TY K) A (fun z : BX0 => CX0 K o z) (fun z : BX0 => post z)) H locs 0 ls [] by rw [hH0, hL0] at goal; exact goal
  clear hH0 hL0
  have X : Cx F cX0_forgetAll 1 RX0 D (TY K) := X
  have hl : lv_has ls 1 [(0, .ref (o 0))] := hl
  unfold w_X0_forgetAll at h
  refine v_aload_n X dX0_forgetAll_0 rfl (lv_at hl 0 rfl) ?_
  refine v_iconst (v := (0 : Int32)) X dX0_forgetAll_1 (by decide) ?_
  refine v_put X hH 0 rfl fi_X0_15 (Nat.le_of_ble_eq_true rfl) dX0_forgetAll_2 (fun H locs hH => ?_)
  have hH : HH F D A (CX0 K o (u.1, u.2.1, (0 : Int32))) H locs := hH
  exact v_wvret X hF (u.1, u.2.1, (0 : Int32)) hH h dX0_forgetAll_5
def w_X0_startOf (u : BX0) (a0 : Int32) (post : Int32 → Prop) : Prop := post (((u.2.1 + a0) - (u.2.1 + a0) / (24 : Int32) * (24 : Int32)) * (18 : Int32))
set_option maxHeartbeats 4000000 in
set_option maxRecDepth 100000 in
theorem c_X0_startOf (l : Launch) (D : va_G) (K : Nat → ClassId) (t : Nat → Nat) (o : Nat → Nat) (u : BX0) (a0 : Int32) (post : Int32 → Prop) (h : w_X0_startOf u a0 post) : RdM l yX0_startOf cX0_startOf 2 (some .int) ({ frames := 0, cells := 0, slots := 0, locals := 0 } : Room) D (TY K) t (CX0 K o u) [.ref (o 0), .int a0] post := by
  refine RdM.mk rfl (Nat.le_of_ble_eq_true rfl) ?_
  intro F ls _ hF X hP hl hT
  have X : Cx F cX0_startOf 2 RX0 D (TY K) := X
  have hl : lv_has ls 2 [(0, .ref (o 0)), (1, .int a0)] := hl
  unfold w_X0_startOf at h
  refine v_aload_n X dX0_startOf_0 rfl (lv_at hl 0 rfl) ?_
  refine v_get (v := .int u.2.1) X hP 0 rfl fk_X0_19 rfl dX0_startOf_1 ?_
  refine v_iload_n X dX0_startOf_4 rfl (lv_at hl 1 rfl) ?_
  refine v_iadd X dX0_startOf_5 ?_
  refine v_bipush (v := (24 : Int32)) X dX0_startOf_6 (by decide) ?_
  refine v_irem X dX0_startOf_8 (by decide) ?_
  refine v_bipush (v := (18 : Int32)) X dX0_startOf_9 (by decide) ?_
  refine v_imul X dX0_startOf_11 ?_
  exact v_riret X hF h dX0_startOf_12
def w_X0_keep (u : BX0) (up0 : BX1) (post : BX0 → Prop) : Prop := wpJ (T := BX0 → Prop) (fun (u2 : BX0) => w_X0_startOf u2 u2.2.2 (fun r3 => vp_in r3 432 ∧ (((¬ (0 : Int32) < 0 ∧ ¬ (r3 + (1 : Int32)) < 0 ∧ ¬ (5 : Int32) < 0) ∧ (0 : Int32).toNatClampNeg + (5 : Int32).toNatClampNeg ≤ 5 ∧ (r3 + (1 : Int32)).toNatClampNeg + (5 : Int32).toNatClampNeg ≤ 432) ∧ (((¬ (0 : Int32) < 0 ∧ ¬ (r3 + (6 : Int32)) < 0 ∧ ¬ (4 : Int32) < 0) ∧ (0 : Int32).toNatClampNeg + (4 : Int32).toNatClampNeg ≤ 4 ∧ (r3 + (6 : Int32)).toNatClampNeg + (4 : Int32).toNatClampNeg ≤ 432) ∧ (((¬ (0 : Int32) < 0 ∧ ¬ ((r3 + (6 : Int32)) + (4 : Int32)) < 0 ∧ ¬ (4 : Int32) < 0) ∧ (0 : Int32).toNatClampNeg + (4 : Int32).toNatClampNeg ≤ 4 ∧ ((r3 + (6 : Int32)) + (4 : Int32)).toNatClampNeg + (4 : Int32).toNatClampNeg ≤ 432) ∧ (((¬ (0 : Int32) < 0 ∧ ¬ ((r3 + (6 : Int32)) + (8 : Int32)) < 0 ∧ ¬ (4 : Int32) < 0) ∧ (0 : Int32).toNatClampNeg + (4 : Int32).toNatClampNeg ≤ 4 ∧ ((r3 + (6 : Int32)) + (8 : Int32)).toNatClampNeg + (4 : Int32).toNatClampNeg ≤ 432) ∧ (post ((va_cpy up0.2.2.2.2.2.2.1 (va_cpy up0.2.2.2.2.2.1 (va_cpy up0.2.2.2.2.1 (va_cpy up0.1 (upd u2.1 r3.toNatClampNeg up0.2.2.2.2.2.2.2.2.2.2.2) (0 : Int32).toNatClampNeg (r3 + (1 : Int32)).toNatClampNeg (5 : Int32).toNatClampNeg) (0 : Int32).toNatClampNeg (r3 + (6 : Int32)).toNatClampNeg (4 : Int32).toNatClampNeg) (0 : Int32).toNatClampNeg ((r3 + (6 : Int32)) + (4 : Int32)).toNatClampNeg (4 : Int32).toNatClampNeg) (0 : Int32).toNatClampNeg ((r3 + (6 : Int32)) + (8 : Int32)).toNatClampNeg (4 : Int32).toNatClampNeg), u2.2.1, (u2.2.2 + (1 : Int32)))))))))) (fun J1 => (u.2.2 = (24 : Int32) → J1 (u.1, ((u.2.1 + (1 : Int32)) - (u.2.1 + (1 : Int32)) / (24 : Int32) * (24 : Int32)), (u.2.2 - (1 : Int32)))) ∧ (¬ u.2.2 = (24 : Int32) → J1 u))
set_option maxHeartbeats 4000000 in
set_option maxRecDepth 100000 in
theorem c_X0_keep (l : Launch) (D : va_G) (K : Nat → ClassId) (t : Nat → Nat) (o : Nat → Nat) (o0 : Nat → Nat) (u : BX0) (up0 : BX1) (post : BX0 → Prop) (h : w_X0_keep u up0 post) : WrV l yX0_keep cX0_keep 3 ({ frames := 1, cells := 0, slots := 0, locals := 60 } : Room) D (TY K) t (CX0 K o u ++ CX1 K o0 up0) [.ref (o 0), .ref (o0 0)] (fun z : BX0 => CX0 K o z ++ CX1 K o0 up0) (fun z : BX0 => post z) := by
  refine WrV.mk rfl (Nat.le_of_ble_eq_true rfl) ?_
  intro F ls A _ hF X hH hA hl hT
  obtain ⟨H, hH0⟩ : ∃ z : Heap, z = (fxS F).heap := ⟨_, rfl⟩
  obtain ⟨locs, hL0⟩ : ∃ z : List Loc, z = [] := ⟨_, rfl⟩
  have hH : HH F D A (CX0 K o u ++ CX1 K o0 up0) H locs := by rw [hH0, hL0]; exact hH
  suffices goal : V F (WQV F D (TY K) A (fun z : BX0 => CX0 K o z ++ CX1 K o0 up0) (fun z : BX0 => post z)) H locs 0 ls [] by rw [hH0, hL0] at goal; exact goal
  clear hH0 hL0
  have X : Cx F cX0_keep 3 RX0 D (TY K) := X
  have hl : lv_has ls 3 [(0, .ref (o 0)), (1, .ref (o0 0))] := hl
  unfold w_X0_keep at h
  refine v_aload_n X dX0_keep_0 rfl (lv_at hl 0 rfl) ?_
  refine v_get (v := .int u.2.2) X hH.1 0 rfl fk_X0_15 rfl dX0_keep_1 ?_
  refine v_bipush (v := (24 : Int32)) X dX0_keep_4 (by decide) ?_
  obtain ⟨J1, hJ1⟩ : ∃ f : BX0 → Prop, f = (fun (u2 : BX0) => w_X0_startOf u2 u2.2.2 (fun r3 => vp_in r3 432 ∧ (((¬ (0 : Int32) < 0 ∧ ¬ (r3 + (1 : Int32)) < 0 ∧ ¬ (5 : Int32) < 0) ∧ (0 : Int32).toNatClampNeg + (5 : Int32).toNatClampNeg ≤ 5 ∧ (r3 + (1 : Int32)).toNatClampNeg + (5 : Int32).toNatClampNeg ≤ 432) ∧ (((¬ (0 : Int32) < 0 ∧ ¬ (r3 + (6 : Int32)) < 0 ∧ ¬ (4 : Int32) < 0) ∧ (0 : Int32).toNatClampNeg + (4 : Int32).toNatClampNeg ≤ 4 ∧ (r3 + (6 : Int32)).toNatClampNeg + (4 : Int32).toNatClampNeg ≤ 432) ∧ (((¬ (0 : Int32) < 0 ∧ ¬ ((r3 + (6 : Int32)) + (4 : Int32)) < 0 ∧ ¬ (4 : Int32) < 0) ∧ (0 : Int32).toNatClampNeg + (4 : Int32).toNatClampNeg ≤ 4 ∧ ((r3 + (6 : Int32)) + (4 : Int32)).toNatClampNeg + (4 : Int32).toNatClampNeg ≤ 432) ∧ (((¬ (0 : Int32) < 0 ∧ ¬ ((r3 + (6 : Int32)) + (8 : Int32)) < 0 ∧ ¬ (4 : Int32) < 0) ∧ (0 : Int32).toNatClampNeg + (4 : Int32).toNatClampNeg ≤ 4 ∧ ((r3 + (6 : Int32)) + (8 : Int32)).toNatClampNeg + (4 : Int32).toNatClampNeg ≤ 432) ∧ (post ((va_cpy up0.2.2.2.2.2.2.1 (va_cpy up0.2.2.2.2.2.1 (va_cpy up0.2.2.2.2.1 (va_cpy up0.1 (upd u2.1 r3.toNatClampNeg up0.2.2.2.2.2.2.2.2.2.2.2) (0 : Int32).toNatClampNeg (r3 + (1 : Int32)).toNatClampNeg (5 : Int32).toNatClampNeg) (0 : Int32).toNatClampNeg (r3 + (6 : Int32)).toNatClampNeg (4 : Int32).toNatClampNeg) (0 : Int32).toNatClampNeg ((r3 + (6 : Int32)) + (4 : Int32)).toNatClampNeg (4 : Int32).toNatClampNeg) (0 : Int32).toNatClampNeg ((r3 + (6 : Int32)) + (8 : Int32)).toNatClampNeg (4 : Int32).toNatClampNeg), u2.2.1, (u2.2.2 + (1 : Int32)))))))))) := ⟨_, rfl⟩
  have kJ1 : ∀ (u2 : BX0) (ls : Array Slot) (H : Heap) (locs : List Loc), (J1 u2) → lv_has ls 3 [(0, .ref (o 0)), (1, .ref (o0 0))] → HH F D A (CX0 K o u2 ++ CX1 K o0 up0) H locs → V F (WQV F D (TY K) A (fun z : BX0 => CX0 K o z ++ CX1 K o0 up0) (fun z : BX0 => post z)) H locs 32 ls [] := by
    intro u2 ls H locs h hl hH
    have h : w_X0_startOf u2 u2.2.2 (fun r3 => vp_in r3 432 ∧ (((¬ (0 : Int32) < 0 ∧ ¬ (r3 + (1 : Int32)) < 0 ∧ ¬ (5 : Int32) < 0) ∧ (0 : Int32).toNatClampNeg + (5 : Int32).toNatClampNeg ≤ 5 ∧ (r3 + (1 : Int32)).toNatClampNeg + (5 : Int32).toNatClampNeg ≤ 432) ∧ (((¬ (0 : Int32) < 0 ∧ ¬ (r3 + (6 : Int32)) < 0 ∧ ¬ (4 : Int32) < 0) ∧ (0 : Int32).toNatClampNeg + (4 : Int32).toNatClampNeg ≤ 4 ∧ (r3 + (6 : Int32)).toNatClampNeg + (4 : Int32).toNatClampNeg ≤ 432) ∧ (((¬ (0 : Int32) < 0 ∧ ¬ ((r3 + (6 : Int32)) + (4 : Int32)) < 0 ∧ ¬ (4 : Int32) < 0) ∧ (0 : Int32).toNatClampNeg + (4 : Int32).toNatClampNeg ≤ 4 ∧ ((r3 + (6 : Int32)) + (4 : Int32)).toNatClampNeg + (4 : Int32).toNatClampNeg ≤ 432) ∧ (((¬ (0 : Int32) < 0 ∧ ¬ ((r3 + (6 : Int32)) + (8 : Int32)) < 0 ∧ ¬ (4 : Int32) < 0) ∧ (0 : Int32).toNatClampNeg + (4 : Int32).toNatClampNeg ≤ 4 ∧ ((r3 + (6 : Int32)) + (8 : Int32)).toNatClampNeg + (4 : Int32).toNatClampNeg ≤ 432) ∧ (post ((va_cpy up0.2.2.2.2.2.2.1 (va_cpy up0.2.2.2.2.2.1 (va_cpy up0.2.2.2.2.1 (va_cpy up0.1 (upd u2.1 r3.toNatClampNeg up0.2.2.2.2.2.2.2.2.2.2.2) (0 : Int32).toNatClampNeg (r3 + (1 : Int32)).toNatClampNeg (5 : Int32).toNatClampNeg) (0 : Int32).toNatClampNeg (r3 + (6 : Int32)).toNatClampNeg (4 : Int32).toNatClampNeg) (0 : Int32).toNatClampNeg ((r3 + (6 : Int32)) + (4 : Int32)).toNatClampNeg (4 : Int32).toNatClampNeg) (0 : Int32).toNatClampNeg ((r3 + (6 : Int32)) + (8 : Int32)).toNatClampNeg (4 : Int32).toNatClampNeg), u2.2.1, (u2.2.2 + (1 : Int32))))))))) := by rw [hJ1] at h; exact h
    refine v_aload_n X dX0_keep_32 rfl (lv_at hl 0 rfl) ?_
    refine v_aload_n X dX0_keep_33 rfl (lv_at hl 0 rfl) ?_
    refine v_get (v := .int u2.2.2) X hH.1 0 rfl fk_X0_15 rfl dX0_keep_34 ?_
    refine rdV (As := [.int u2.2.2]) (rest := []) X mv_X0_22 (c_X0_startOf F.2.1 D K t o u2 u2.2.2 _ h) hF ⟨rfl, rfl, Nat.le_of_ble_eq_true rfl, Nat.le_of_ble_eq_true rfl⟩ (stW hT hH) hH.1 [0, 1] rfl 0 rfl rfl hl.1 rfl rfl (Nat.le_of_ble_eq_true rfl) dX0_keep_37 (fun r3 h => ?_)
    refine v_istore_n (lv' := [(2, .int r3), (0, .ref (o 0)), (1, .ref (o0 0))]) X dX0_keep_40 rfl hl (by decide) rfl (fun ls hl => ?_)
    refine v_aload_n X dX0_keep_41 rfl (lv_at hl 1 rfl) ?_
    refine v_dup X dX0_keep_42 rfl ?_
    refine v_get (v := .int u2.2.2) X hH.1 0 rfl fk_X0_15 rfl dX0_keep_43 ?_
    refine v_iconst (v := (1 : Int32)) X dX0_keep_46 (by decide) ?_
    refine v_iadd X dX0_keep_47 ?_
    refine v_put X hH 0 rfl fi_X0_15 (Nat.le_of_ble_eq_true rfl) dX0_keep_48 (fun H locs hH => ?_)
    have hH : HH F D A (CX0 K o (u2.1, u2.2.1, (u2.2.2 + (1 : Int32))) ++ CX1 K o0 up0) H locs := hH
    refine v_aload_n X dX0_keep_51 rfl (lv_at hl 1 rfl) ?_
    refine v_get (v := .ref (o 1)) X hH.1 0 rfl fk_X0_11 rfl dX0_keep_52 ?_
    refine v_iload_n X dX0_keep_55 rfl (lv_at hl 0 rfl) ?_
    refine v_aload_n X dX0_keep_56 rfl (lv_at hl 2 rfl) ?_
    refine v_get (v := .int up0.2.2.2.2.2.2.2.2.2.2.2) X hH.1 2 rfl fk_X0_26 rfl dX0_keep_57 ?_
    have hin := h.1
    have h := h.2
    refine v_iast (f := u2.1) X hH 1 0 rfl rfl hin dX0_keep_60 (fun H locs hH => ?_)
    have hH : HH F D A (CX0 K o ((upd u2.1 r3.toNatClampNeg up0.2.2.2.2.2.2.2.2.2.2.2), u2.2.1, (u2.2.2 + (1 : Int32))) ++ CX1 K o0 up0) H locs := hH
    refine v_aload_n X dX0_keep_61 rfl (lv_at hl 2 rfl) ?_
    refine v_get (v := .ref (o0 1)) X hH.1 2 rfl fk_X0_31 rfl dX0_keep_62 ?_
    refine v_iconst (v := (0 : Int32)) X dX0_keep_65 (by decide) ?_
    refine v_aload_n X dX0_keep_66 rfl (lv_at hl 1 rfl) ?_
    refine v_get (v := .ref (o 1)) X hH.1 0 rfl fk_X0_11 rfl dX0_keep_67 ?_
    refine v_iload_n X dX0_keep_70 rfl (lv_at hl 0 rfl) ?_
    refine v_iconst (v := (1 : Int32)) X dX0_keep_71 (by decide) ?_
    refine v_iadd X dX0_keep_72 ?_
    refine v_iconst (v := (5 : Int32)) X dX0_keep_73 (by decide) ?_
    have hin := h.1
    have h := h.2
    refine v_copy (f := up0.1) (g := (upd u2.1 r3.toNatClampNeg up0.2.2.2.2.2.2.2.2.2.2.2)) X hl.1 hF ka_X0_34 hH 3 1 0 rfl rfl rfl hin ⟨Nat.le_of_ble_eq_true rfl, Nat.le_of_ble_eq_true rfl⟩ dX0_keep_74 (fun H locs hH => ?_)
    have hH : HH F D A (CX0 K o ((va_cpy up0.1 (upd u2.1 r3.toNatClampNeg up0.2.2.2.2.2.2.2.2.2.2.2) (0 : Int32).toNatClampNeg (r3 + (1 : Int32)).toNatClampNeg (5 : Int32).toNatClampNeg), u2.2.1, (u2.2.2 + (1 : Int32))) ++ CX1 K o0 up0) H locs := hH
    refine v_iinc (v := (r3 + (6 : Int32))) (lv' := [(2, .int (r3 + (6 : Int32))), (0, .ref (o 0)), (1, .ref (o0 0))]) X dX0_keep_77 hl (k := 0) rfl rfl (by decide) rfl (fun ls hl => ?_)
    refine v_aload_n X dX0_keep_80 rfl (lv_at hl 2 rfl) ?_
    refine v_get (v := .ref (o0 5)) X hH.1 2 rfl fk_X0_40 rfl dX0_keep_81 ?_
    refine v_iconst (v := (0 : Int32)) X dX0_keep_84 (by decide) ?_
    refine v_aload_n X dX0_keep_85 rfl (lv_at hl 1 rfl) ?_
    refine v_get (v := .ref (o 1)) X hH.1 0 rfl fk_X0_11 rfl dX0_keep_86 ?_
    refine v_iload_n X dX0_keep_89 rfl (lv_at hl 0 rfl) ?_
    refine v_iconst (v := (4 : Int32)) X dX0_keep_90 (by decide) ?_
    have hin := h.1
    have h := h.2
    refine v_copy (f := up0.2.2.2.2.1) (g := (va_cpy up0.1 (upd u2.1 r3.toNatClampNeg up0.2.2.2.2.2.2.2.2.2.2.2) (0 : Int32).toNatClampNeg (r3 + (1 : Int32)).toNatClampNeg (5 : Int32).toNatClampNeg)) X hl.1 hF ka_X0_34 hH 7 1 0 rfl rfl rfl hin ⟨Nat.le_of_ble_eq_true rfl, Nat.le_of_ble_eq_true rfl⟩ dX0_keep_91 (fun H locs hH => ?_)
    have hH : HH F D A (CX0 K o ((va_cpy up0.2.2.2.2.1 (va_cpy up0.1 (upd u2.1 r3.toNatClampNeg up0.2.2.2.2.2.2.2.2.2.2.2) (0 : Int32).toNatClampNeg (r3 + (1 : Int32)).toNatClampNeg (5 : Int32).toNatClampNeg) (0 : Int32).toNatClampNeg (r3 + (6 : Int32)).toNatClampNeg (4 : Int32).toNatClampNeg), u2.2.1, (u2.2.2 + (1 : Int32))) ++ CX1 K o0 up0) H locs := hH
    refine v_aload_n X dX0_keep_94 rfl (lv_at hl 2 rfl) ?_
    refine v_get (v := .ref (o0 6)) X hH.1 2 rfl fk_X0_43 rfl dX0_keep_95 ?_
    refine v_iconst (v := (0 : Int32)) X dX0_keep_98 (by decide) ?_
    refine v_aload_n X dX0_keep_99 rfl (lv_at hl 1 rfl) ?_
    refine v_get (v := .ref (o 1)) X hH.1 0 rfl fk_X0_11 rfl dX0_keep_100 ?_
    refine v_iload_n X dX0_keep_103 rfl (lv_at hl 0 rfl) ?_
    refine v_iconst (v := (4 : Int32)) X dX0_keep_104 (by decide) ?_
    refine v_iadd X dX0_keep_105 ?_
    refine v_iconst (v := (4 : Int32)) X dX0_keep_106 (by decide) ?_
    have hin := h.1
    have h := h.2
    refine v_copy (f := up0.2.2.2.2.2.1) (g := (va_cpy up0.2.2.2.2.1 (va_cpy up0.1 (upd u2.1 r3.toNatClampNeg up0.2.2.2.2.2.2.2.2.2.2.2) (0 : Int32).toNatClampNeg (r3 + (1 : Int32)).toNatClampNeg (5 : Int32).toNatClampNeg) (0 : Int32).toNatClampNeg (r3 + (6 : Int32)).toNatClampNeg (4 : Int32).toNatClampNeg)) X hl.1 hF ka_X0_34 hH 8 1 0 rfl rfl rfl hin ⟨Nat.le_of_ble_eq_true rfl, Nat.le_of_ble_eq_true rfl⟩ dX0_keep_107 (fun H locs hH => ?_)
    have hH : HH F D A (CX0 K o ((va_cpy up0.2.2.2.2.2.1 (va_cpy up0.2.2.2.2.1 (va_cpy up0.1 (upd u2.1 r3.toNatClampNeg up0.2.2.2.2.2.2.2.2.2.2.2) (0 : Int32).toNatClampNeg (r3 + (1 : Int32)).toNatClampNeg (5 : Int32).toNatClampNeg) (0 : Int32).toNatClampNeg (r3 + (6 : Int32)).toNatClampNeg (4 : Int32).toNatClampNeg) (0 : Int32).toNatClampNeg ((r3 + (6 : Int32)) + (4 : Int32)).toNatClampNeg (4 : Int32).toNatClampNeg), u2.2.1, (u2.2.2 + (1 : Int32))) ++ CX1 K o0 up0) H locs := hH
    refine v_aload_n X dX0_keep_110 rfl (lv_at hl 2 rfl) ?_
    refine v_get (v := .ref (o0 7)) X hH.1 2 rfl fk_X0_46 rfl dX0_keep_111 ?_
    refine v_iconst (v := (0 : Int32)) X dX0_keep_114 (by decide) ?_
    refine v_aload_n X dX0_keep_115 rfl (lv_at hl 1 rfl) ?_
    refine v_get (v := .ref (o 1)) X hH.1 0 rfl fk_X0_11 rfl dX0_keep_116 ?_
    refine v_iload_n X dX0_keep_119 rfl (lv_at hl 0 rfl) ?_
    refine v_bipush (v := (8 : Int32)) X dX0_keep_120 (by decide) ?_
    refine v_iadd X dX0_keep_122 ?_
    refine v_iconst (v := (4 : Int32)) X dX0_keep_123 (by decide) ?_
    have hin := h.1
    have h := h.2
    refine v_copy (f := up0.2.2.2.2.2.2.1) (g := (va_cpy up0.2.2.2.2.2.1 (va_cpy up0.2.2.2.2.1 (va_cpy up0.1 (upd u2.1 r3.toNatClampNeg up0.2.2.2.2.2.2.2.2.2.2.2) (0 : Int32).toNatClampNeg (r3 + (1 : Int32)).toNatClampNeg (5 : Int32).toNatClampNeg) (0 : Int32).toNatClampNeg (r3 + (6 : Int32)).toNatClampNeg (4 : Int32).toNatClampNeg) (0 : Int32).toNatClampNeg ((r3 + (6 : Int32)) + (4 : Int32)).toNatClampNeg (4 : Int32).toNatClampNeg)) X hl.1 hF ka_X0_34 hH 9 1 0 rfl rfl rfl hin ⟨Nat.le_of_ble_eq_true rfl, Nat.le_of_ble_eq_true rfl⟩ dX0_keep_124 (fun H locs hH => ?_)
    have hH : HH F D A (CX0 K o ((va_cpy up0.2.2.2.2.2.2.1 (va_cpy up0.2.2.2.2.2.1 (va_cpy up0.2.2.2.2.1 (va_cpy up0.1 (upd u2.1 r3.toNatClampNeg up0.2.2.2.2.2.2.2.2.2.2.2) (0 : Int32).toNatClampNeg (r3 + (1 : Int32)).toNatClampNeg (5 : Int32).toNatClampNeg) (0 : Int32).toNatClampNeg (r3 + (6 : Int32)).toNatClampNeg (4 : Int32).toNatClampNeg) (0 : Int32).toNatClampNeg ((r3 + (6 : Int32)) + (4 : Int32)).toNatClampNeg (4 : Int32).toNatClampNeg) (0 : Int32).toNatClampNeg ((r3 + (6 : Int32)) + (8 : Int32)).toNatClampNeg (4 : Int32).toNatClampNeg), u2.2.1, (u2.2.2 + (1 : Int32))) ++ CX1 K o0 up0) H locs := hH
    exact v_wvret X hF ((va_cpy up0.2.2.2.2.2.2.1 (va_cpy up0.2.2.2.2.2.1 (va_cpy up0.2.2.2.2.1 (va_cpy up0.1 (upd u2.1 r3.toNatClampNeg up0.2.2.2.2.2.2.2.2.2.2.2) (0 : Int32).toNatClampNeg (r3 + (1 : Int32)).toNatClampNeg (5 : Int32).toNatClampNeg) (0 : Int32).toNatClampNeg (r3 + (6 : Int32)).toNatClampNeg (4 : Int32).toNatClampNeg) (0 : Int32).toNatClampNeg ((r3 + (6 : Int32)) + (4 : Int32)).toNatClampNeg (4 : Int32).toNatClampNeg) (0 : Int32).toNatClampNeg ((r3 + (6 : Int32)) + (8 : Int32)).toNatClampNeg (4 : Int32).toNatClampNeg), u2.2.1, (u2.2.2 + (1 : Int32))) hH h dX0_keep_127
  have h : (u.2.2 = (24 : Int32) → J1 (u.1, ((u.2.1 + (1 : Int32)) - (u.2.1 + (1 : Int32)) / (24 : Int32) * (24 : Int32)), (u.2.2 - (1 : Int32)))) ∧ (¬ u.2.2 = (24 : Int32) → J1 u) := by rw [hJ1]; exact h
  refine v_icmp_ne (tgt := 32) X dX0_keep_6 (by decide) (fun c4 => ?_) (fun c4 => ?_)
  · have h := h.2 c4
    exact kJ1 u ls H locs h (lv_sub hl [0, 1] rfl) hH
  · have h := h.1 c4
    refine v_aload_n X dX0_keep_9 rfl (lv_at hl 0 rfl) ?_
    refine v_aload_n X dX0_keep_10 rfl (lv_at hl 0 rfl) ?_
    refine v_get (v := .int u.2.1) X hH.1 0 rfl fk_X0_19 rfl dX0_keep_11 ?_
    refine v_iconst (v := (1 : Int32)) X dX0_keep_14 (by decide) ?_
    refine v_iadd X dX0_keep_15 ?_
    refine v_bipush (v := (24 : Int32)) X dX0_keep_16 (by decide) ?_
    refine v_irem X dX0_keep_18 (by decide) ?_
    refine v_put X hH 0 rfl fi_X0_19 (Nat.le_of_ble_eq_true rfl) dX0_keep_19 (fun H locs hH => ?_)
    have hH : HH F D A (CX0 K o (u.1, ((u.2.1 + (1 : Int32)) - (u.2.1 + (1 : Int32)) / (24 : Int32) * (24 : Int32)), u.2.2) ++ CX1 K o0 up0) H locs := hH
    refine v_aload_n X dX0_keep_22 rfl (lv_at hl 0 rfl) ?_
    refine v_dup X dX0_keep_23 rfl ?_
    refine v_get (v := .int u.2.2) X hH.1 0 rfl fk_X0_15 rfl dX0_keep_24 ?_
    refine v_iconst (v := (1 : Int32)) X dX0_keep_27 (by decide) ?_
    refine v_isub X dX0_keep_28 ?_
    refine v_put X hH 0 rfl fi_X0_15 (Nat.le_of_ble_eq_true rfl) dX0_keep_29 (fun H locs hH => ?_)
    have hH : HH F D A (CX0 K o (u.1, ((u.2.1 + (1 : Int32)) - (u.2.1 + (1 : Int32)) / (24 : Int32) * (24 : Int32)), (u.2.2 - (1 : Int32))) ++ CX1 K o0 up0) H locs := hH
    exact kJ1 (u.1, ((u.2.1 + (1 : Int32)) - (u.2.1 + (1 : Int32)) / (24 : Int32) * (24 : Int32)), (u.2.2 - (1 : Int32))) ls H locs h (lv_sub hl [0, 1] rfl) hH
def w_X0_takeBack (u : BX0) (up0 : BX1) (post : Int32 → BX0 → BX1 → Prop) : Prop := (u.2.2 = 0 → post (0 : Int32) u up0) ∧ (¬ u.2.2 = 0 → w_X0_startOf (u.1, u.2.1, (u.2.2 - (1 : Int32))) (u.2.2 - (1 : Int32)) (fun r1 => vp_in r1 432 ∧ (((¬ (r1 + (1 : Int32)) < 0 ∧ ¬ (0 : Int32) < 0 ∧ ¬ (5 : Int32) < 0) ∧ (r1 + (1 : Int32)).toNatClampNeg + (5 : Int32).toNatClampNeg ≤ 432 ∧ (0 : Int32).toNatClampNeg + (5 : Int32).toNatClampNeg ≤ 5) ∧ (((¬ (r1 + (6 : Int32)) < 0 ∧ ¬ (0 : Int32) < 0 ∧ ¬ (4 : Int32) < 0) ∧ (r1 + (6 : Int32)).toNatClampNeg + (4 : Int32).toNatClampNeg ≤ 432 ∧ (0 : Int32).toNatClampNeg + (4 : Int32).toNatClampNeg ≤ 4) ∧ (((¬ ((r1 + (6 : Int32)) + (4 : Int32)) < 0 ∧ ¬ (0 : Int32) < 0 ∧ ¬ (4 : Int32) < 0) ∧ ((r1 + (6 : Int32)) + (4 : Int32)).toNatClampNeg + (4 : Int32).toNatClampNeg ≤ 432 ∧ (0 : Int32).toNatClampNeg + (4 : Int32).toNatClampNeg ≤ 4) ∧ (((¬ ((r1 + (6 : Int32)) + (8 : Int32)) < 0 ∧ ¬ (0 : Int32) < 0 ∧ ¬ (4 : Int32) < 0) ∧ ((r1 + (6 : Int32)) + (8 : Int32)).toNatClampNeg + (4 : Int32).toNatClampNeg ≤ 432 ∧ (0 : Int32).toNatClampNeg + (4 : Int32).toNatClampNeg ≤ 4) ∧ (post (1 : Int32) (u.1, u.2.1, (u.2.2 - (1 : Int32))) ((va_cpy u.1 up0.1 (r1 + (1 : Int32)).toNatClampNeg (0 : Int32).toNatClampNeg (5 : Int32).toNatClampNeg), up0.2.1, up0.2.2.1, up0.2.2.2.1, (va_cpy u.1 up0.2.2.2.2.1 (r1 + (6 : Int32)).toNatClampNeg (0 : Int32).toNatClampNeg (4 : Int32).toNatClampNeg), (va_cpy u.1 up0.2.2.2.2.2.1 ((r1 + (6 : Int32)) + (4 : Int32)).toNatClampNeg (0 : Int32).toNatClampNeg (4 : Int32).toNatClampNeg), (va_cpy u.1 up0.2.2.2.2.2.2.1 ((r1 + (6 : Int32)) + (8 : Int32)).toNatClampNeg (0 : Int32).toNatClampNeg (4 : Int32).toNatClampNeg), up0.2.2.2.2.2.2.2.1, up0.2.2.2.2.2.2.2.2.1, up0.2.2.2.2.2.2.2.2.2.1, up0.2.2.2.2.2.2.2.2.2.2.1, (u.1 r1.toNatClampNeg)))))))))
set_option maxHeartbeats 4000000 in
set_option maxRecDepth 100000 in
theorem c_X0_takeBack (l : Launch) (D : va_G) (K : Nat → ClassId) (t : Nat → Nat) (o : Nat → Nat) (o0 : Nat → Nat) (u : BX0) (up0 : BX1) (post : Int32 → BX0 → BX1 → Prop) (h : w_X0_takeBack u up0 post) : WrI l yX0_takeBack cX0_takeBack 3 (some .boolean) ({ frames := 1, cells := 0, slots := 0, locals := 60 } : Room) D (TY K) t (CX0 K o u ++ CX1 K o0 up0) [.ref (o 0), .ref (o0 0)] (fun z : BX0 × BX1 => CX0 K o z.1 ++ CX1 K o0 z.2) (fun (r : Int32) (z : BX0 × BX1) => post r z.1 z.2) := by
  refine WrI.mk rfl (Nat.le_of_ble_eq_true rfl) ?_
  intro F ls A _ hF X hH hA hl hT
  obtain ⟨H, hH0⟩ : ∃ z : Heap, z = (fxS F).heap := ⟨_, rfl⟩
  obtain ⟨locs, hL0⟩ : ∃ z : List Loc, z = [] := ⟨_, rfl⟩
  have hH : HH F D A (CX0 K o u ++ CX1 K o0 up0) H locs := by rw [hH0, hL0]; exact hH
  suffices goal : V F (WQI F D (TY K) A (fun z : BX0 × BX1 => CX0 K o z.1 ++ CX1 K o0 z.2) (fun (r : Int32) (z : BX0 × BX1) => post r z.1 z.2)) H locs 0 ls [] by rw [hH0, hL0] at goal; exact goal
  clear hH0 hL0
  have X : Cx F cX0_takeBack 3 RX0 D (TY K) := X
  have hl : lv_has ls 3 [(0, .ref (o 0)), (1, .ref (o0 0))] := hl
  unfold w_X0_takeBack at h
  refine v_aload_n X dX0_takeBack_0 rfl (lv_at hl 0 rfl) ?_
  refine v_get (v := .int u.2.2) X hH.1 0 rfl fk_X0_15 rfl dX0_takeBack_1 ?_
  refine v_if_ne (tgt := 9) X dX0_takeBack_4 (by decide) (fun c2 => ?_) (fun c2 => ?_)
  · have h := h.2 c2
    refine v_aload_n X dX0_takeBack_9 rfl (lv_at hl 0 rfl) ?_
    refine v_dup X dX0_takeBack_10 rfl ?_
    refine v_get (v := .int u.2.2) X hH.1 0 rfl fk_X0_15 rfl dX0_takeBack_11 ?_
    refine v_iconst (v := (1 : Int32)) X dX0_takeBack_14 (by decide) ?_
    refine v_isub X dX0_takeBack_15 ?_
    refine v_put X hH 0 rfl fi_X0_15 (Nat.le_of_ble_eq_true rfl) dX0_takeBack_16 (fun H locs hH => ?_)
    have hH : HH F D A (CX0 K o (u.1, u.2.1, (u.2.2 - (1 : Int32))) ++ CX1 K o0 up0) H locs := hH
    refine v_aload_n X dX0_takeBack_19 rfl (lv_at hl 0 rfl) ?_
    refine v_aload_n X dX0_takeBack_20 rfl (lv_at hl 0 rfl) ?_
    refine v_get (v := .int (u.2.2 - (1 : Int32))) X hH.1 0 rfl fk_X0_15 rfl dX0_takeBack_21 ?_
    refine rdV (As := [.int (u.2.2 - (1 : Int32))]) (rest := []) X mv_X0_22 (c_X0_startOf F.2.1 D K t o (u.1, u.2.1, (u.2.2 - (1 : Int32))) (u.2.2 - (1 : Int32)) _ h) hF ⟨rfl, rfl, Nat.le_of_ble_eq_true rfl, Nat.le_of_ble_eq_true rfl⟩ (stW hT hH) hH.1 [0, 1] rfl 0 rfl rfl hl.1 rfl rfl (Nat.le_of_ble_eq_true rfl) dX0_takeBack_24 (fun r1 h => ?_)
    refine v_istore_n (lv' := [(2, .int r1), (0, .ref (o 0)), (1, .ref (o0 0))]) X dX0_takeBack_27 rfl hl (by decide) rfl (fun ls hl => ?_)
    refine v_aload_n X dX0_takeBack_28 rfl (lv_at hl 2 rfl) ?_
    refine v_aload_n X dX0_takeBack_29 rfl (lv_at hl 1 rfl) ?_
    refine v_get (v := .ref (o 1)) X hH.1 0 rfl fk_X0_11 rfl dX0_takeBack_30 ?_
    refine v_iload_n X dX0_takeBack_33 rfl (lv_at hl 0 rfl) ?_
    have hin := h.1
    have h := h.2
    refine v_iald (f := u.1) X hH.1 1 0 rfl rfl hin dX0_takeBack_34 ?_
    refine v_put X hH 2 rfl fi_X0_26 (Nat.le_of_ble_eq_true rfl) dX0_takeBack_35 (fun H locs hH => ?_)
    have hH : HH F D A (CX0 K o (u.1, u.2.1, (u.2.2 - (1 : Int32))) ++ CX1 K o0 (up0.1, up0.2.1, up0.2.2.1, up0.2.2.2.1, up0.2.2.2.2.1, up0.2.2.2.2.2.1, up0.2.2.2.2.2.2.1, up0.2.2.2.2.2.2.2.1, up0.2.2.2.2.2.2.2.2.1, up0.2.2.2.2.2.2.2.2.2.1, up0.2.2.2.2.2.2.2.2.2.2.1, (u.1 r1.toNatClampNeg))) H locs := hH
    refine v_aload_n X dX0_takeBack_38 rfl (lv_at hl 1 rfl) ?_
    refine v_get (v := .ref (o 1)) X hH.1 0 rfl fk_X0_11 rfl dX0_takeBack_39 ?_
    refine v_iload_n X dX0_takeBack_42 rfl (lv_at hl 0 rfl) ?_
    refine v_iconst (v := (1 : Int32)) X dX0_takeBack_43 (by decide) ?_
    refine v_iadd X dX0_takeBack_44 ?_
    refine v_aload_n X dX0_takeBack_45 rfl (lv_at hl 2 rfl) ?_
    refine v_get (v := .ref (o0 1)) X hH.1 2 rfl fk_X0_31 rfl dX0_takeBack_46 ?_
    refine v_iconst (v := (0 : Int32)) X dX0_takeBack_49 (by decide) ?_
    refine v_iconst (v := (5 : Int32)) X dX0_takeBack_50 (by decide) ?_
    have hin := h.1
    have h := h.2
    refine v_copy (f := u.1) (g := up0.1) X hl.1 hF ka_X0_34 hH 1 3 0 rfl rfl rfl hin ⟨Nat.le_of_ble_eq_true rfl, Nat.le_of_ble_eq_true rfl⟩ dX0_takeBack_51 (fun H locs hH => ?_)
    have hH : HH F D A (CX0 K o (u.1, u.2.1, (u.2.2 - (1 : Int32))) ++ CX1 K o0 ((va_cpy u.1 up0.1 (r1 + (1 : Int32)).toNatClampNeg (0 : Int32).toNatClampNeg (5 : Int32).toNatClampNeg), up0.2.1, up0.2.2.1, up0.2.2.2.1, up0.2.2.2.2.1, up0.2.2.2.2.2.1, up0.2.2.2.2.2.2.1, up0.2.2.2.2.2.2.2.1, up0.2.2.2.2.2.2.2.2.1, up0.2.2.2.2.2.2.2.2.2.1, up0.2.2.2.2.2.2.2.2.2.2.1, (u.1 r1.toNatClampNeg))) H locs := hH
    refine v_iinc (v := (r1 + (6 : Int32))) (lv' := [(2, .int (r1 + (6 : Int32))), (0, .ref (o 0)), (1, .ref (o0 0))]) X dX0_takeBack_54 hl (k := 0) rfl rfl (by decide) rfl (fun ls hl => ?_)
    refine v_aload_n X dX0_takeBack_57 rfl (lv_at hl 1 rfl) ?_
    refine v_get (v := .ref (o 1)) X hH.1 0 rfl fk_X0_11 rfl dX0_takeBack_58 ?_
    refine v_iload_n X dX0_takeBack_61 rfl (lv_at hl 0 rfl) ?_
    refine v_aload_n X dX0_takeBack_62 rfl (lv_at hl 2 rfl) ?_
    refine v_get (v := .ref (o0 5)) X hH.1 2 rfl fk_X0_40 rfl dX0_takeBack_63 ?_
    refine v_iconst (v := (0 : Int32)) X dX0_takeBack_66 (by decide) ?_
    refine v_iconst (v := (4 : Int32)) X dX0_takeBack_67 (by decide) ?_
    have hin := h.1
    have h := h.2
    refine v_copy (f := u.1) (g := up0.2.2.2.2.1) X hl.1 hF ka_X0_34 hH 1 7 0 rfl rfl rfl hin ⟨Nat.le_of_ble_eq_true rfl, Nat.le_of_ble_eq_true rfl⟩ dX0_takeBack_68 (fun H locs hH => ?_)
    have hH : HH F D A (CX0 K o (u.1, u.2.1, (u.2.2 - (1 : Int32))) ++ CX1 K o0 ((va_cpy u.1 up0.1 (r1 + (1 : Int32)).toNatClampNeg (0 : Int32).toNatClampNeg (5 : Int32).toNatClampNeg), up0.2.1, up0.2.2.1, up0.2.2.2.1, (va_cpy u.1 up0.2.2.2.2.1 (r1 + (6 : Int32)).toNatClampNeg (0 : Int32).toNatClampNeg (4 : Int32).toNatClampNeg), up0.2.2.2.2.2.1, up0.2.2.2.2.2.2.1, up0.2.2.2.2.2.2.2.1, up0.2.2.2.2.2.2.2.2.1, up0.2.2.2.2.2.2.2.2.2.1, up0.2.2.2.2.2.2.2.2.2.2.1, (u.1 r1.toNatClampNeg))) H locs := hH
    refine v_aload_n X dX0_takeBack_71 rfl (lv_at hl 1 rfl) ?_
    refine v_get (v := .ref (o 1)) X hH.1 0 rfl fk_X0_11 rfl dX0_takeBack_72 ?_
    refine v_iload_n X dX0_takeBack_75 rfl (lv_at hl 0 rfl) ?_
    refine v_iconst (v := (4 : Int32)) X dX0_takeBack_76 (by decide) ?_
    refine v_iadd X dX0_takeBack_77 ?_
    refine v_aload_n X dX0_takeBack_78 rfl (lv_at hl 2 rfl) ?_
    refine v_get (v := .ref (o0 6)) X hH.1 2 rfl fk_X0_43 rfl dX0_takeBack_79 ?_
    refine v_iconst (v := (0 : Int32)) X dX0_takeBack_82 (by decide) ?_
    refine v_iconst (v := (4 : Int32)) X dX0_takeBack_83 (by decide) ?_
    have hin := h.1
    have h := h.2
    refine v_copy (f := u.1) (g := up0.2.2.2.2.2.1) X hl.1 hF ka_X0_34 hH 1 8 0 rfl rfl rfl hin ⟨Nat.le_of_ble_eq_true rfl, Nat.le_of_ble_eq_true rfl⟩ dX0_takeBack_84 (fun H locs hH => ?_)
    have hH : HH F D A (CX0 K o (u.1, u.2.1, (u.2.2 - (1 : Int32))) ++ CX1 K o0 ((va_cpy u.1 up0.1 (r1 + (1 : Int32)).toNatClampNeg (0 : Int32).toNatClampNeg (5 : Int32).toNatClampNeg), up0.2.1, up0.2.2.1, up0.2.2.2.1, (va_cpy u.1 up0.2.2.2.2.1 (r1 + (6 : Int32)).toNatClampNeg (0 : Int32).toNatClampNeg (4 : Int32).toNatClampNeg), (va_cpy u.1 up0.2.2.2.2.2.1 ((r1 + (6 : Int32)) + (4 : Int32)).toNatClampNeg (0 : Int32).toNatClampNeg (4 : Int32).toNatClampNeg), up0.2.2.2.2.2.2.1, up0.2.2.2.2.2.2.2.1, up0.2.2.2.2.2.2.2.2.1, up0.2.2.2.2.2.2.2.2.2.1, up0.2.2.2.2.2.2.2.2.2.2.1, (u.1 r1.toNatClampNeg))) H locs := hH
    refine v_aload_n X dX0_takeBack_87 rfl (lv_at hl 1 rfl) ?_
    refine v_get (v := .ref (o 1)) X hH.1 0 rfl fk_X0_11 rfl dX0_takeBack_88 ?_
    refine v_iload_n X dX0_takeBack_91 rfl (lv_at hl 0 rfl) ?_
    refine v_bipush (v := (8 : Int32)) X dX0_takeBack_92 (by decide) ?_
    refine v_iadd X dX0_takeBack_94 ?_
    refine v_aload_n X dX0_takeBack_95 rfl (lv_at hl 2 rfl) ?_
    refine v_get (v := .ref (o0 7)) X hH.1 2 rfl fk_X0_46 rfl dX0_takeBack_96 ?_
    refine v_iconst (v := (0 : Int32)) X dX0_takeBack_99 (by decide) ?_
    refine v_iconst (v := (4 : Int32)) X dX0_takeBack_100 (by decide) ?_
    have hin := h.1
    have h := h.2
    refine v_copy (f := u.1) (g := up0.2.2.2.2.2.2.1) X hl.1 hF ka_X0_34 hH 1 9 0 rfl rfl rfl hin ⟨Nat.le_of_ble_eq_true rfl, Nat.le_of_ble_eq_true rfl⟩ dX0_takeBack_101 (fun H locs hH => ?_)
    have hH : HH F D A (CX0 K o (u.1, u.2.1, (u.2.2 - (1 : Int32))) ++ CX1 K o0 ((va_cpy u.1 up0.1 (r1 + (1 : Int32)).toNatClampNeg (0 : Int32).toNatClampNeg (5 : Int32).toNatClampNeg), up0.2.1, up0.2.2.1, up0.2.2.2.1, (va_cpy u.1 up0.2.2.2.2.1 (r1 + (6 : Int32)).toNatClampNeg (0 : Int32).toNatClampNeg (4 : Int32).toNatClampNeg), (va_cpy u.1 up0.2.2.2.2.2.1 ((r1 + (6 : Int32)) + (4 : Int32)).toNatClampNeg (0 : Int32).toNatClampNeg (4 : Int32).toNatClampNeg), (va_cpy u.1 up0.2.2.2.2.2.2.1 ((r1 + (6 : Int32)) + (8 : Int32)).toNatClampNeg (0 : Int32).toNatClampNeg (4 : Int32).toNatClampNeg), up0.2.2.2.2.2.2.2.1, up0.2.2.2.2.2.2.2.2.1, up0.2.2.2.2.2.2.2.2.2.1, up0.2.2.2.2.2.2.2.2.2.2.1, (u.1 r1.toNatClampNeg))) H locs := hH
    refine v_iconst (v := (1 : Int32)) X dX0_takeBack_104 (by decide) ?_
    exact v_wzret X hF ((u.1, u.2.1, (u.2.2 - (1 : Int32))), ((va_cpy u.1 up0.1 (r1 + (1 : Int32)).toNatClampNeg (0 : Int32).toNatClampNeg (5 : Int32).toNatClampNeg), up0.2.1, up0.2.2.1, up0.2.2.2.1, (va_cpy u.1 up0.2.2.2.2.1 (r1 + (6 : Int32)).toNatClampNeg (0 : Int32).toNatClampNeg (4 : Int32).toNatClampNeg), (va_cpy u.1 up0.2.2.2.2.2.1 ((r1 + (6 : Int32)) + (4 : Int32)).toNatClampNeg (0 : Int32).toNatClampNeg (4 : Int32).toNatClampNeg), (va_cpy u.1 up0.2.2.2.2.2.2.1 ((r1 + (6 : Int32)) + (8 : Int32)).toNatClampNeg (0 : Int32).toNatClampNeg (4 : Int32).toNatClampNeg), up0.2.2.2.2.2.2.2.1, up0.2.2.2.2.2.2.2.2.1, up0.2.2.2.2.2.2.2.2.2.1, up0.2.2.2.2.2.2.2.2.2.2.1, (u.1 r1.toNatClampNeg))) hH rfl h dX0_takeBack_105
  · have h := h.1 c2
    refine v_iconst (v := (0 : Int32)) X dX0_takeBack_7 (by decide) ?_
    exact v_wzret X hF (u, up0) hH rfl h dX0_takeBack_8
def w_X2_ownBody (a0 : Int32) (a1 : Int32) (post : Int32 → Prop) : Prop := (a1 = 0 → (a0 < 0 → post (0 : Int32)) ∧ (¬ a0 < 0 → ((6 : Int32) ≤ a0 → post (0 : Int32)) ∧ (¬ (6 : Int32) ≤ a0 → vp_in a0 6 ∧ (post (stS a0.toNatClampNeg))))) ∧ (¬ a1 = 0 → (a0 < 0 → post (0 : Int32)) ∧ (¬ a0 < 0 → ((6 : Int32) ≤ a0 → post (0 : Int32)) ∧ (¬ (6 : Int32) ≤ a0 → vp_in a0 6 ∧ (post (stM a0.toNatClampNeg)))))
set_option maxHeartbeats 4000000 in
set_option maxRecDepth 100000 in
theorem c_X2_ownBody (l : Launch) (D : va_G) (K : Nat → ClassId) (t : Nat → Nat) (a0 : Int32) (a1 : Int32) (post : Int32 → Prop) (h : w_X2_ownBody a0 a1 post) : RdM l yX2_ownBody cX2_ownBody 3 (some .int) ({ frames := 0, cells := 0, slots := 0, locals := 0 } : Room) D (TY K) t ([] : va_W) [.int a0, .int a1] post := by
  refine RdM.mk rfl (Nat.le_of_ble_eq_true rfl) ?_
  intro F ls _ hF X hP hl hT
  have X : Cx F cX2_ownBody 3 RX2 D (TY K) := X
  have hl : lv_has ls 3 [(0, .int a0), (1, .int a1)] := hl
  unfold w_X2_ownBody at h
  refine v_iload_n X dX2_ownBody_0 rfl (lv_at hl 1 rfl) ?_
  refine v_if_ne (tgt := 10) X dX2_ownBody_1 (by decide) (fun c5 => ?_) (fun c5 => ?_)
  · have h := h.2 c5
    refine v_gets X hT.2.2 va_S.rf ks_X2_52 dX2_ownBody_10 ?_
    refine v_astore_n (lv' := [(2, .ref (t 2)), (0, .int a0), (1, .int a1)]) X dX2_ownBody_13 rfl hl (by decide) rfl (fun ls hl => ?_)
    refine v_iload_n X dX2_ownBody_14 rfl (lv_at hl 1 rfl) ?_
    refine v_if_lt (tgt := 30) X dX2_ownBody_15 (by decide) (fun c2 => ?_) (fun c2 => ?_)
    · have h := h.1 c2
      refine v_iconst (v := (0 : Int32)) X dX2_ownBody_30 (by decide) ?_
      exact v_riret X hF h dX2_ownBody_31
    · have h := h.2 c2
      refine v_iload_n X dX2_ownBody_18 rfl (lv_at hl 1 rfl) ?_
      refine v_aload_n X dX2_ownBody_19 rfl (lv_at hl 0 rfl) ?_
      refine v_tlen X hT.2.2 va_S.rf dX2_ownBody_20 ?_
      refine v_icmp_ge (tgt := 30) X dX2_ownBody_21 (by decide) (fun c1 => ?_) (fun c1 => ?_)
      · have h := h.1 c1
        refine v_iconst (v := (0 : Int32)) X dX2_ownBody_30 (by decide) ?_
        exact v_riret X hF h dX2_ownBody_31
      · have h := h.2 c1
        refine v_aload_n X dX2_ownBody_24 rfl (lv_at hl 0 rfl) ?_
        refine v_iload_n X dX2_ownBody_25 rfl (lv_at hl 1 rfl) ?_
        have hin := h.1
        have h := h.2
        refine v_tald X hT.2.2 va_S.rf hin dX2_ownBody_26 ?_
        refine v_goto (tgt := 31) X dX2_ownBody_27 (by decide) ?_
        exact v_riret X hF h dX2_ownBody_31
  · have h := h.1 c5
    refine v_gets X hT.2.1 va_S.rf ks_X2_49 dX2_ownBody_4 ?_
    refine v_goto (tgt := 13) X dX2_ownBody_7 (by decide) ?_
    refine v_astore_n (lv' := [(2, .ref (t 1)), (0, .int a0), (1, .int a1)]) X dX2_ownBody_13 rfl hl (by decide) rfl (fun ls hl => ?_)
    refine v_iload_n X dX2_ownBody_14 rfl (lv_at hl 1 rfl) ?_
    refine v_if_lt (tgt := 30) X dX2_ownBody_15 (by decide) (fun c4 => ?_) (fun c4 => ?_)
    · have h := h.1 c4
      refine v_iconst (v := (0 : Int32)) X dX2_ownBody_30 (by decide) ?_
      exact v_riret X hF h dX2_ownBody_31
    · have h := h.2 c4
      refine v_iload_n X dX2_ownBody_18 rfl (lv_at hl 1 rfl) ?_
      refine v_aload_n X dX2_ownBody_19 rfl (lv_at hl 0 rfl) ?_
      refine v_tlen X hT.2.1 va_S.rf dX2_ownBody_20 ?_
      refine v_icmp_ge (tgt := 30) X dX2_ownBody_21 (by decide) (fun c3 => ?_) (fun c3 => ?_)
      · have h := h.1 c3
        refine v_iconst (v := (0 : Int32)) X dX2_ownBody_30 (by decide) ?_
        exact v_riret X hF h dX2_ownBody_31
      · have h := h.2 c3
        refine v_aload_n X dX2_ownBody_24 rfl (lv_at hl 0 rfl) ?_
        refine v_iload_n X dX2_ownBody_25 rfl (lv_at hl 1 rfl) ?_
        have hin := h.1
        have h := h.2
        refine v_tald X hT.2.1 va_S.rf hin dX2_ownBody_26 ?_
        refine v_goto (tgt := 31) X dX2_ownBody_27 (by decide) ?_
        exact v_riret X hF h dX2_ownBody_31
def w_X2_parentOf (a0 : Int32) (post : Int32 → Prop) : Prop := (a0 < 0 → post (0 : Int32)) ∧ (¬ a0 < 0 → ((6 : Int32) ≤ a0 → post (0 : Int32)) ∧ (¬ (6 : Int32) ≤ a0 → vp_in a0 6 ∧ (post (stP a0.toNatClampNeg))))
set_option maxHeartbeats 4000000 in
set_option maxRecDepth 100000 in
theorem c_X2_parentOf (l : Launch) (D : va_G) (K : Nat → ClassId) (t : Nat → Nat) (a0 : Int32) (post : Int32 → Prop) (h : w_X2_parentOf a0 post) : RdM l yX2_parentOf cX2_parentOf 1 (some .int) ({ frames := 0, cells := 0, slots := 0, locals := 0 } : Room) D (TY K) t ([] : va_W) [.int a0] post := by
  refine RdM.mk rfl (Nat.le_of_ble_eq_true rfl) ?_
  intro F ls _ hF X hP hl hT
  have X : Cx F cX2_parentOf 1 RX2 D (TY K) := X
  have hl : lv_has ls 1 [(0, .int a0)] := hl
  unfold w_X2_parentOf at h
  refine v_iload_n X dX2_parentOf_0 rfl (lv_at hl 0 rfl) ?_
  refine v_if_lt (tgt := 20) X dX2_parentOf_1 (by decide) (fun c2 => ?_) (fun c2 => ?_)
  · have h := h.1 c2
    refine v_iconst (v := (0 : Int32)) X dX2_parentOf_20 (by decide) ?_
    exact v_riret X hF h dX2_parentOf_21
  · have h := h.2 c2
    refine v_iload_n X dX2_parentOf_4 rfl (lv_at hl 0 rfl) ?_
    refine v_gets X hT.1 va_S.rf ks_X2_27 dX2_parentOf_5 ?_
    refine v_tlen X hT.1 va_S.rf dX2_parentOf_8 ?_
    refine v_icmp_ge (tgt := 20) X dX2_parentOf_9 (by decide) (fun c1 => ?_) (fun c1 => ?_)
    · have h := h.1 c1
      refine v_iconst (v := (0 : Int32)) X dX2_parentOf_20 (by decide) ?_
      exact v_riret X hF h dX2_parentOf_21
    · have h := h.2 c1
      refine v_gets X hT.1 va_S.rf ks_X2_27 dX2_parentOf_12 ?_
      refine v_iload_n X dX2_parentOf_15 rfl (lv_at hl 0 rfl) ?_
      have hin := h.1
      have h := h.2
      refine v_tald X hT.1 va_S.rf hin dX2_parentOf_16 ?_
      refine v_goto (tgt := 21) X dX2_parentOf_17 (by decide) ?_
      exact v_riret X hF h dX2_parentOf_21
def wL_X2_bodyFor_4 (y3 : Int32) (post : Int32 → Prop) (Kx4 : Int32 → Prop) : Nat → Int32 → Int32 → Prop
  | 0, _, _ => False
  | n4 + 1, x1, x2 => ((5 : Int32) ≤ x2 → Kx4 x1) ∧ (¬ (5 : Int32) ≤ x2 → (x1 ≤ 0 → Kx4 x1) ∧ (¬ x1 ≤ 0 → w_X2_ownBody x1 y3 (fun r7 => (r7 = 0 → w_X2_parentOf x1 (fun r8 => wL_X2_bodyFor_4 y3 post Kx4 n4 r8 (x2 + (1 : Int32)))) ∧ (¬ r7 = 0 → Kx4 x1))))
def w_X2_bodyFor (a0 : Int32) (a1 : Int32) (post : Int32 → Prop) : Prop := ∃ n4, wL_X2_bodyFor_4 a1 post (fun (x4 : Int32) => w_X2_ownBody x4 a1 (fun r5 => post r5)) n4 a0 (0 : Int32)
set_option maxHeartbeats 4000000 in
set_option maxRecDepth 100000 in
theorem c_X2_bodyFor (l : Launch) (D : va_G) (K : Nat → ClassId) (t : Nat → Nat) (a0 : Int32) (a1 : Int32) (post : Int32 → Prop) (h : w_X2_bodyFor a0 a1 post) : RdM l yX2_bodyFor cX2_bodyFor 4 (some .int) ({ frames := 1, cells := 0, slots := 0, locals := 22 } : Room) D (TY K) t ([] : va_W) [.int a0, .int a1] post := by
  refine RdM.mk rfl (Nat.le_of_ble_eq_true rfl) ?_
  intro F ls _ hF X hP hl hT
  have X : Cx F cX2_bodyFor 4 RX2 D (TY K) := X
  have hl : lv_has ls 4 [(0, .int a0), (1, .int a1)] := hl
  unfold w_X2_bodyFor at h
  refine v_iload_n X dX2_bodyFor_0 rfl (lv_at hl 0 rfl) ?_
  refine v_istore_n (lv' := [(2, .int a0), (0, .int a0), (1, .int a1)]) X dX2_bodyFor_1 rfl hl (by decide) rfl (fun ls hl => ?_)
  refine v_iconst (v := (0 : Int32)) X dX2_bodyFor_2 (by decide) ?_
  refine v_istore_n (lv' := [(3, .int (0 : Int32)), (2, .int a0), (0, .int a0), (1, .int a1)]) X dX2_bodyFor_3 rfl hl (by decide) rfl (fun ls hl => ?_)
  obtain ⟨Kx4, hK4⟩ : ∃ f : Int32 → Prop, f = (fun (x4 : Int32) => w_X2_ownBody x4 a1 (fun r5 => post r5)) := ⟨_, rfl⟩
  have kx6 : ∀ (x4 : Int32) (ls : Array Slot), (Kx4 x4) → lv_has ls 4 [(1, .int a1), (2, .int x4)] → V F (RQ F post) (fxS F).heap [] 32 ls [] := by
    intro x4 ls h hl
    have h : w_X2_ownBody x4 a1 (fun r5 => post r5) := by rw [hK4] at h; exact h
    refine v_iload_n X dX2_bodyFor_32 rfl (lv_at hl 1 rfl) ?_
    refine v_iload_n X dX2_bodyFor_33 rfl (lv_at hl 0 rfl) ?_
    refine rdS (As := [.int x4, .int a1]) (rest := []) X ms_X2_46 (c_X2_ownBody F.2.1 D K t x4 a1 _ h) hF ⟨rfl, rfl, Nat.le_of_ble_eq_true rfl, Nat.le_of_ble_eq_true rfl⟩ hT hP [] rfl hl.1 rfl rfl (Nat.le_of_ble_eq_true rfl) dX2_bodyFor_34 (fun r5 h => ?_)
    exact v_riret X hF h dX2_bodyFor_37
  have lp4 : ∀ (n4 : Nat) (x1 : Int32) (x2 : Int32) (ls : Array Slot), wL_X2_bodyFor_4 a1 post Kx4 n4 x1 x2 → lv_has ls 4 [(1, .int a1), (2, .int x1), (3, .int x2)] → V F (RQ F post) (fxS F).heap [] 4 ls [] := by
    intro n4
    induction n4 with
    | zero => intro x1 x2 ls h hl; exact h.elim
    | succ n4 ih4 =>
      intro x1 x2 ls h hl
      refine v_iload_n X dX2_bodyFor_4 rfl (lv_at hl 2 rfl) ?_
      refine v_iconst (v := (5 : Int32)) X dX2_bodyFor_5 (by decide) ?_
      refine v_icmp_ge (tgt := 32) X dX2_bodyFor_6 (by decide) (fun c11 => ?_) (fun c11 => ?_)
      · have h := h.1 c11
        exact kx6 x1 ls h (lv_sub hl [0, 1] rfl)
      · have h := h.2 c11
        refine v_iload_n X dX2_bodyFor_9 rfl (lv_at hl 1 rfl) ?_
        refine v_if_le (tgt := 32) X dX2_bodyFor_10 (by decide) (fun c10 => ?_) (fun c10 => ?_)
        · have h := h.1 c10
          exact kx6 x1 ls h (lv_sub hl [0, 1] rfl)
        · have h := h.2 c10
          refine v_iload_n X dX2_bodyFor_13 rfl (lv_at hl 1 rfl) ?_
          refine v_iload_n X dX2_bodyFor_14 rfl (lv_at hl 0 rfl) ?_
          refine rdS (As := [.int x1, .int a1]) (rest := []) X ms_X2_46 (c_X2_ownBody F.2.1 D K t x1 a1 _ h) hF ⟨rfl, rfl, Nat.le_of_ble_eq_true rfl, Nat.le_of_ble_eq_true rfl⟩ hT hP [] rfl hl.1 rfl rfl (Nat.le_of_ble_eq_true rfl) dX2_bodyFor_15 (fun r7 h => ?_)
          refine v_if_ne (tgt := 32) X dX2_bodyFor_18 (by decide) (fun c9 => ?_) (fun c9 => ?_)
          · have h := h.2 c9
            exact kx6 x1 ls h (lv_sub hl [0, 1] rfl)
          · have h := h.1 c9
            refine v_iload_n X dX2_bodyFor_21 rfl (lv_at hl 1 rfl) ?_
            refine rdS (As := [.int x1]) (rest := []) X ms_X2_23 (c_X2_parentOf F.2.1 D K t x1 _ h) hF ⟨rfl, rfl, Nat.le_of_ble_eq_true rfl, Nat.le_of_ble_eq_true rfl⟩ hT hP [] rfl hl.1 rfl rfl (Nat.le_of_ble_eq_true rfl) dX2_bodyFor_22 (fun r8 h => ?_)
            refine v_istore_n (lv' := [(2, .int r8), (1, .int a1), (3, .int x2)]) X dX2_bodyFor_25 rfl hl (by decide) rfl (fun ls hl => ?_)
            refine v_iinc (v := (x2 + (1 : Int32))) (lv' := [(3, .int (x2 + (1 : Int32))), (2, .int r8), (1, .int a1)]) X dX2_bodyFor_26 hl (k := 2) rfl rfl (by decide) rfl (fun ls hl => ?_)
            refine v_goto (tgt := 4) X dX2_bodyFor_29 (by decide) ?_
            exact ih4 r8 (x2 + (1 : Int32)) ls h (lv_sub hl [2, 1, 0] rfl)
  obtain ⟨n4, h⟩ := h
  have h : wL_X2_bodyFor_4 a1 post Kx4 n4 a0 (0 : Int32) := by rw [hK4]; exact h
  exact lp4 n4 a0 (0 : Int32) ls h (lv_sub hl [3, 1, 0] rfl)
def w_X2_leave (u : BX2) (a0 : Int32) (post : BX2 → Prop) : Prop := ((16 : Int32) ≤ u.2 → post u) ∧ (¬ (16 : Int32) ≤ u.2 → vp_in u.2 16 ∧ (post ((upd u.1 u.2.toNatClampNeg a0), (u.2 + (1 : Int32)))))
set_option maxHeartbeats 4000000 in
set_option maxRecDepth 100000 in
theorem c_X2_leave (l : Launch) (D : va_G) (K : Nat → ClassId) (t : Nat → Nat) (o : Nat → Nat) (u : BX2) (a0 : Int32) (post : BX2 → Prop) (h : w_X2_leave u a0 post) : WrV l yX2_leave cX2_leave 2 ({ frames := 0, cells := 0, slots := 0, locals := 0 } : Room) D (TY K) t (CX2 K o u) [.ref (o 0), .int a0] (fun z : BX2 => CX2 K o z) (fun z : BX2 => post z) := by
  refine WrV.mk rfl (Nat.le_of_ble_eq_true rfl) ?_
  intro F ls A _ hF X hH hA hl hT
  obtain ⟨H, hH0⟩ : ∃ z : Heap, z = (fxS F).heap := ⟨_, rfl⟩
  obtain ⟨locs, hL0⟩ : ∃ z : List Loc, z = [] := ⟨_, rfl⟩
  have hH : HH F D A (CX2 K o u) H locs := by rw [hH0, hL0]; exact hH
  suffices goal : V F (WQV F D (TY K) A (fun z : BX2 => CX2 K o z) (fun z : BX2 => post z)) H locs 0 ls [] by rw [hH0, hL0] at goal; exact goal
  clear hH0 hL0
  have X : Cx F cX2_leave 2 RX2 D (TY K) := X
  have hl : lv_has ls 2 [(0, .ref (o 0)), (1, .int a0)] := hl
  unfold w_X2_leave at h
  refine v_aload_n X dX2_leave_0 rfl (lv_at hl 0 rfl) ?_
  refine v_get (v := .int u.2) X hH.1 0 rfl fk_X2_15 rfl dX2_leave_1 ?_
  refine v_bipush (v := (16 : Int32)) X dX2_leave_4 (by decide) ?_
  refine v_icmp_ge (tgt := 29) X dX2_leave_6 (by decide) (fun c1 => ?_) (fun c1 => ?_)
  · have h := h.1 c1
    exact v_wvret X hF u hH h dX2_leave_29
  · have h := h.2 c1
    refine v_aload_n X dX2_leave_9 rfl (lv_at hl 0 rfl) ?_
    refine v_get (v := .ref (o 1)) X hH.1 0 rfl fk_X2_11 rfl dX2_leave_10 ?_
    refine v_aload_n X dX2_leave_13 rfl (lv_at hl 0 rfl) ?_
    refine v_get (v := .int u.2) X hH.1 0 rfl fk_X2_15 rfl dX2_leave_14 ?_
    refine v_iload_n X dX2_leave_17 rfl (lv_at hl 1 rfl) ?_
    have hin := h.1
    have h := h.2
    refine v_iast (f := u.1) X hH 1 0 rfl rfl hin dX2_leave_18 (fun H locs hH => ?_)
    have hH : HH F D A (CX2 K o ((upd u.1 u.2.toNatClampNeg a0), u.2)) H locs := hH
    refine v_aload_n X dX2_leave_19 rfl (lv_at hl 0 rfl) ?_
    refine v_dup X dX2_leave_20 rfl ?_
    refine v_get (v := .int u.2) X hH.1 0 rfl fk_X2_15 rfl dX2_leave_21 ?_
    refine v_iconst (v := (1 : Int32)) X dX2_leave_24 (by decide) ?_
    refine v_iadd X dX2_leave_25 ?_
    refine v_put X hH 0 rfl fi_X2_15 (Nat.le_of_ble_eq_true rfl) dX2_leave_26 (fun H locs hH => ?_)
    have hH : HH F D A (CX2 K o ((upd u.1 u.2.toNatClampNeg a0), (u.2 + (1 : Int32)))) H locs := hH
    exact v_wvret X hF ((upd u.1 u.2.toNatClampNeg a0), (u.2 + (1 : Int32))) hH h dX2_leave_29
def wL_X2_isOfKind_4 (y3 : Int32) (post : Int32 → Prop) (Kx4 : Int32 → Prop) : Nat → Int32 → Int32 → Prop
  | 0, _, _ => False
  | n4 + 1, x1, x2 => ((5 : Int32) ≤ x2 → Kx4 x1) ∧ (¬ (5 : Int32) ≤ x2 → (x1 ≤ 0 → Kx4 x1) ∧ (¬ x1 ≤ 0 → (x1 = y3 → Kx4 x1) ∧ (¬ x1 = y3 → w_X2_parentOf x1 (fun r7 => wL_X2_isOfKind_4 y3 post Kx4 n4 r7 (x2 + (1 : Int32))))))
def w_X2_isOfKind (a0 : Int32) (a1 : Int32) (post : Int32 → Prop) : Prop := ∃ n4, wL_X2_isOfKind_4 a1 post (fun (x4 : Int32) => (x4 = a1 → post (1 : Int32)) ∧ (¬ x4 = a1 → post (0 : Int32))) n4 a0 (0 : Int32)
set_option maxHeartbeats 4000000 in
set_option maxRecDepth 100000 in
theorem c_X2_isOfKind (l : Launch) (D : va_G) (K : Nat → ClassId) (t : Nat → Nat) (a0 : Int32) (a1 : Int32) (post : Int32 → Prop) (h : w_X2_isOfKind a0 a1 post) : RdM l yX2_isOfKind cX2_isOfKind 4 (some .boolean) ({ frames := 1, cells := 0, slots := 0, locals := 20 } : Room) D (TY K) t ([] : va_W) [.int a0, .int a1] post := by
  refine RdM.mk rfl (Nat.le_of_ble_eq_true rfl) ?_
  intro F ls _ hF X hP hl hT
  have X : Cx F cX2_isOfKind 4 RX2 D (TY K) := X
  have hl : lv_has ls 4 [(0, .int a0), (1, .int a1)] := hl
  unfold w_X2_isOfKind at h
  refine v_iload_n X dX2_isOfKind_0 rfl (lv_at hl 0 rfl) ?_
  refine v_istore_n (lv' := [(2, .int a0), (0, .int a0), (1, .int a1)]) X dX2_isOfKind_1 rfl hl (by decide) rfl (fun ls hl => ?_)
  refine v_iconst (v := (0 : Int32)) X dX2_isOfKind_2 (by decide) ?_
  refine v_istore_n (lv' := [(3, .int (0 : Int32)), (2, .int a0), (0, .int a0), (1, .int a1)]) X dX2_isOfKind_3 rfl hl (by decide) rfl (fun ls hl => ?_)
  obtain ⟨Kx4, hK4⟩ : ∃ f : Int32 → Prop, f = (fun (x4 : Int32) => (x4 = a1 → post (1 : Int32)) ∧ (¬ x4 = a1 → post (0 : Int32))) := ⟨_, rfl⟩
  have kx6 : ∀ (x4 : Int32) (ls : Array Slot), (Kx4 x4) → lv_has ls 4 [(1, .int a1), (2, .int x4)] → V F (RQ F post) (fxS F).heap [] 29 ls [] := by
    intro x4 ls h hl
    have h : (x4 = a1 → post (1 : Int32)) ∧ (¬ x4 = a1 → post (0 : Int32)) := by rw [hK4] at h; exact h
    refine v_iload_n X dX2_isOfKind_29 rfl (lv_at hl 1 rfl) ?_
    refine v_iload_n X dX2_isOfKind_30 rfl (lv_at hl 0 rfl) ?_
    refine v_icmp_ne (tgt := 38) X dX2_isOfKind_31 (by decide) (fun c5 => ?_) (fun c5 => ?_)
    · have h := h.2 c5
      refine v_iconst (v := (0 : Int32)) X dX2_isOfKind_38 (by decide) ?_
      exact v_rzret X hF rfl h dX2_isOfKind_39
    · have h := h.1 c5
      refine v_iconst (v := (1 : Int32)) X dX2_isOfKind_34 (by decide) ?_
      refine v_goto (tgt := 39) X dX2_isOfKind_35 (by decide) ?_
      exact v_rzret X hF rfl h dX2_isOfKind_39
  have lp4 : ∀ (n4 : Nat) (x1 : Int32) (x2 : Int32) (ls : Array Slot), wL_X2_isOfKind_4 a1 post Kx4 n4 x1 x2 → lv_has ls 4 [(1, .int a1), (2, .int x1), (3, .int x2)] → V F (RQ F post) (fxS F).heap [] 4 ls [] := by
    intro n4
    induction n4 with
    | zero => intro x1 x2 ls h hl; exact h.elim
    | succ n4 ih4 =>
      intro x1 x2 ls h hl
      refine v_iload_n X dX2_isOfKind_4 rfl (lv_at hl 2 rfl) ?_
      refine v_iconst (v := (5 : Int32)) X dX2_isOfKind_5 (by decide) ?_
      refine v_icmp_ge (tgt := 29) X dX2_isOfKind_6 (by decide) (fun c10 => ?_) (fun c10 => ?_)
      · have h := h.1 c10
        exact kx6 x1 ls h (lv_sub hl [0, 1] rfl)
      · have h := h.2 c10
        refine v_iload_n X dX2_isOfKind_9 rfl (lv_at hl 1 rfl) ?_
        refine v_if_le (tgt := 29) X dX2_isOfKind_10 (by decide) (fun c9 => ?_) (fun c9 => ?_)
        · have h := h.1 c9
          exact kx6 x1 ls h (lv_sub hl [0, 1] rfl)
        · have h := h.2 c9
          refine v_iload_n X dX2_isOfKind_13 rfl (lv_at hl 1 rfl) ?_
          refine v_iload_n X dX2_isOfKind_14 rfl (lv_at hl 0 rfl) ?_
          refine v_icmp_eq (tgt := 29) X dX2_isOfKind_15 (by decide) (fun c8 => ?_) (fun c8 => ?_)
          · have h := h.1 c8
            exact kx6 x1 ls h (lv_sub hl [0, 1] rfl)
          · have h := h.2 c8
            refine v_iload_n X dX2_isOfKind_18 rfl (lv_at hl 1 rfl) ?_
            refine rdS (As := [.int x1]) (rest := []) X ms_X2_23 (c_X2_parentOf F.2.1 D K t x1 _ h) hF ⟨rfl, rfl, Nat.le_of_ble_eq_true rfl, Nat.le_of_ble_eq_true rfl⟩ hT hP [] rfl hl.1 rfl rfl (Nat.le_of_ble_eq_true rfl) dX2_isOfKind_19 (fun r7 h => ?_)
            refine v_istore_n (lv' := [(2, .int r7), (1, .int a1), (3, .int x2)]) X dX2_isOfKind_22 rfl hl (by decide) rfl (fun ls hl => ?_)
            refine v_iinc (v := (x2 + (1 : Int32))) (lv' := [(3, .int (x2 + (1 : Int32))), (2, .int r7), (1, .int a1)]) X dX2_isOfKind_23 hl (k := 2) rfl rfl (by decide) rfl (fun ls hl => ?_)
            refine v_goto (tgt := 4) X dX2_isOfKind_26 (by decide) ?_
            exact ih4 r7 (x2 + (1 : Int32)) ls h (lv_sub hl [2, 1, 0] rfl)
  obtain ⟨n4, h⟩ := h
  have h : wL_X2_isOfKind_4 a1 post Kx4 n4 a0 (0 : Int32) := by rw [hK4]; exact h
  exact lp4 n4 a0 (0 : Int32) ls h (lv_sub hl [3, 1, 0] rfl)
def w_X3_isMissing (u : BX3) (post : Int32 → Prop) : Prop := (0 ≤ u.2.2 → post (0 : Int32)) ∧ (¬ 0 ≤ u.2.2 → post (1 : Int32))
set_option maxHeartbeats 4000000 in
set_option maxRecDepth 100000 in
theorem c_X3_isMissing (l : Launch) (D : va_G) (K : Nat → ClassId) (t : Nat → Nat) (o : Nat → Nat) (u : BX3) (post : Int32 → Prop) (h : w_X3_isMissing u post) : RdM l yX3_isMissing cX3_isMissing 1 (some .boolean) ({ frames := 0, cells := 0, slots := 0, locals := 0 } : Room) D (TY K) t (CX3 K o u) [.ref (o 0)] post := by
  refine RdM.mk rfl (Nat.le_of_ble_eq_true rfl) ?_
  intro F ls _ hF X hP hl hT
  have X : Cx F cX3_isMissing 1 RX3 D (TY K) := X
  have hl : lv_has ls 1 [(0, .ref (o 0))] := hl
  unfold w_X3_isMissing at h
  refine v_aload_n X dX3_isMissing_0 rfl (lv_at hl 0 rfl) ?_
  refine v_get (v := .int u.2.2) X hP 0 rfl fk_X3_15 rfl dX3_isMissing_1 ?_
  refine v_if_ge (tgt := 11) X dX3_isMissing_4 (by decide) (fun c1 => ?_) (fun c1 => ?_)
  · have h := h.1 c1
    refine v_iconst (v := (0 : Int32)) X dX3_isMissing_11 (by decide) ?_
    exact v_rzret X hF rfl h dX3_isMissing_12
  · have h := h.2 c1
    refine v_iconst (v := (1 : Int32)) X dX3_isMissing_7 (by decide) ?_
    refine v_goto (tgt := 12) X dX3_isMissing_8 (by decide) ?_
    exact v_rzret X hF rfl h dX3_isMissing_12
def w_X3_holds (u : BX3) (a0 : Int32) (a1 : Int32) (post : Int32 → Prop) : Prop := (a0 < 0 → post (0 : Int32)) ∧ (¬ a0 < 0 → (a1 < 0 → post (0 : Int32)) ∧ (¬ a1 < 0 → (u.2.2 < a1 → post (0 : Int32)) ∧ (¬ u.2.2 < a1 → ((u.2.2 - a1) < a0 → post (0 : Int32)) ∧ (¬ (u.2.2 - a1) < a0 → post (1 : Int32)))))
set_option maxHeartbeats 4000000 in
set_option maxRecDepth 100000 in
theorem c_X3_holds (l : Launch) (D : va_G) (K : Nat → ClassId) (t : Nat → Nat) (o : Nat → Nat) (u : BX3) (a0 : Int32) (a1 : Int32) (post : Int32 → Prop) (h : w_X3_holds u a0 a1 post) : RdM l yX3_holds cX3_holds 3 (some .boolean) ({ frames := 0, cells := 0, slots := 0, locals := 0 } : Room) D (TY K) t (CX3 K o u) [.ref (o 0), .int a0, .int a1] post := by
  refine RdM.mk rfl (Nat.le_of_ble_eq_true rfl) ?_
  intro F ls _ hF X hP hl hT
  have X : Cx F cX3_holds 3 RX3 D (TY K) := X
  have hl : lv_has ls 3 [(0, .ref (o 0)), (1, .int a0), (2, .int a1)] := hl
  unfold w_X3_holds at h
  refine v_iload_n X dX3_holds_0 rfl (lv_at hl 1 rfl) ?_
  refine v_if_lt (tgt := 30) X dX3_holds_1 (by decide) (fun c4 => ?_) (fun c4 => ?_)
  · have h := h.1 c4
    refine v_iconst (v := (0 : Int32)) X dX3_holds_30 (by decide) ?_
    exact v_rzret X hF rfl h dX3_holds_31
  · have h := h.2 c4
    refine v_iload_n X dX3_holds_4 rfl (lv_at hl 2 rfl) ?_
    refine v_if_lt (tgt := 30) X dX3_holds_5 (by decide) (fun c3 => ?_) (fun c3 => ?_)
    · have h := h.1 c3
      refine v_iconst (v := (0 : Int32)) X dX3_holds_30 (by decide) ?_
      exact v_rzret X hF rfl h dX3_holds_31
    · have h := h.2 c3
      refine v_iload_n X dX3_holds_8 rfl (lv_at hl 2 rfl) ?_
      refine v_aload_n X dX3_holds_9 rfl (lv_at hl 0 rfl) ?_
      refine v_get (v := .int u.2.2) X hP 0 rfl fk_X3_15 rfl dX3_holds_10 ?_
      refine v_icmp_gt (tgt := 30) X dX3_holds_13 (by decide) (fun c2 => ?_) (fun c2 => ?_)
      · have h := h.1 c2
        refine v_iconst (v := (0 : Int32)) X dX3_holds_30 (by decide) ?_
        exact v_rzret X hF rfl h dX3_holds_31
      · have h := h.2 c2
        refine v_iload_n X dX3_holds_16 rfl (lv_at hl 1 rfl) ?_
        refine v_aload_n X dX3_holds_17 rfl (lv_at hl 0 rfl) ?_
        refine v_get (v := .int u.2.2) X hP 0 rfl fk_X3_15 rfl dX3_holds_18 ?_
        refine v_iload_n X dX3_holds_21 rfl (lv_at hl 2 rfl) ?_
        refine v_isub X dX3_holds_22 ?_
        refine v_icmp_gt (tgt := 30) X dX3_holds_23 (by decide) (fun c1 => ?_) (fun c1 => ?_)
        · have h := h.1 c1
          refine v_iconst (v := (0 : Int32)) X dX3_holds_30 (by decide) ?_
          exact v_rzret X hF rfl h dX3_holds_31
        · have h := h.2 c1
          refine v_iconst (v := (1 : Int32)) X dX3_holds_26 (by decide) ?_
          refine v_goto (tgt := 31) X dX3_holds_27 (by decide) ?_
          exact v_rzret X hF rfl h dX3_holds_31
def wL_X3_make_12 (post : BX3 → Prop) (Kx12 : BX3 → Prop) : Nat → Int32 → BX3 → Prop
  | 0, _, _ => False
  | n12 + 1, x1, u2 => ((40 : Int32) ≤ x1 → Kx12 u2) ∧ (¬ (40 : Int32) ≤ x1 → vp_in x1 40 ∧ (wL_X3_make_12 post Kx12 n12 (x1 + (1 : Int32)) ((upd u2.1 x1.toNatClampNeg (0 : Int32)), u2.2.1, u2.2.2)))
def w_X3_make (u : BX3) (a0 : Int32) (a1 : Int32) (post : BX3 → Prop) : Prop := ∃ n12, wL_X3_make_12  post (fun (u3 : BX3) => post u3) n12 (0 : Int32) (u.1, a0, a1)
set_option maxHeartbeats 4000000 in
set_option maxRecDepth 100000 in
theorem c_X3_make (l : Launch) (D : va_G) (K : Nat → ClassId) (t : Nat → Nat) (o : Nat → Nat) (u : BX3) (a0 : Int32) (a1 : Int32) (post : BX3 → Prop) (h : w_X3_make u a0 a1 post) : WrV l yX3_make cX3_make 4 ({ frames := 0, cells := 0, slots := 0, locals := 0 } : Room) D (TY K) t (CX3 K o u) [.ref (o 0), .int a0, .int a1] (fun z : BX3 => CX3 K o z) (fun z : BX3 => post z) := by
  refine WrV.mk rfl (Nat.le_of_ble_eq_true rfl) ?_
  intro F ls A _ hF X hH hA hl hT
  obtain ⟨H, hH0⟩ : ∃ z : Heap, z = (fxS F).heap := ⟨_, rfl⟩
  obtain ⟨locs, hL0⟩ : ∃ z : List Loc, z = [] := ⟨_, rfl⟩
  have hH : HH F D A (CX3 K o u) H locs := by rw [hH0, hL0]; exact hH
  suffices goal : V F (WQV F D (TY K) A (fun z : BX3 => CX3 K o z) (fun z : BX3 => post z)) H locs 0 ls [] by rw [hH0, hL0] at goal; exact goal
  clear hH0 hL0
  have X : Cx F cX3_make 4 RX3 D (TY K) := X
  have hl : lv_has ls 4 [(0, .ref (o 0)), (1, .int a0), (2, .int a1)] := hl
  unfold w_X3_make at h
  refine v_aload_n X dX3_make_0 rfl (lv_at hl 0 rfl) ?_
  refine v_iload_n X dX3_make_1 rfl (lv_at hl 1 rfl) ?_
  refine v_put X hH 0 rfl fi_X3_19 (Nat.le_of_ble_eq_true rfl) dX3_make_2 (fun H locs hH => ?_)
  have hH : HH F D A (CX3 K o (u.1, a0, u.2.2)) H locs := hH
  refine v_aload_n X dX3_make_5 rfl (lv_at hl 0 rfl) ?_
  refine v_iload_n X dX3_make_6 rfl (lv_at hl 2 rfl) ?_
  refine v_put X hH 0 rfl fi_X3_15 (Nat.le_of_ble_eq_true rfl) dX3_make_7 (fun H locs hH => ?_)
  have hH : HH F D A (CX3 K o (u.1, a0, a1)) H locs := hH
  refine v_iconst (v := (0 : Int32)) X dX3_make_10 (by decide) ?_
  refine v_istore_n (lv' := [(3, .int (0 : Int32)), (0, .ref (o 0)), (1, .int a0), (2, .int a1)]) X dX3_make_11 rfl hl (by decide) rfl (fun ls hl => ?_)
  obtain ⟨Kx12, hK12⟩ : ∃ f : BX3 → Prop, f = (fun (u3 : BX3) => post u3) := ⟨_, rfl⟩
  have kx4 : ∀ (u3 : BX3) (ls : Array Slot) (H : Heap) (locs : List Loc), (Kx12 u3) → lv_has ls 4 [] → HH F D A (CX3 K o u3) H locs → V F (WQV F D (TY K) A (fun z : BX3 => CX3 K o z) (fun z : BX3 => post z)) H locs 31 ls [] := by
    intro u3 ls H locs h hl hH
    have h : post u3 := by rw [hK12] at h; exact h
    exact v_wvret X hF u3 hH h dX3_make_31
  have lp12 : ∀ (n12 : Nat) (x1 : Int32) (u2 : BX3) (ls : Array Slot) (H : Heap) (locs : List Loc), wL_X3_make_12  post Kx12 n12 x1 u2 → lv_has ls 4 [(0, .ref (o 0)), (3, .int x1)] → HH F D A (CX3 K o u2) H locs → V F (WQV F D (TY K) A (fun z : BX3 => CX3 K o z) (fun z : BX3 => post z)) H locs 12 ls [] := by
    intro n12
    induction n12 with
    | zero => intro x1 u2 ls H locs h hl hH; exact h.elim
    | succ n12 ih12 =>
      intro x1 u2 ls H locs h hl hH
      refine v_iload_n X dX3_make_12 rfl (lv_at hl 1 rfl) ?_
      refine v_bipush (v := (40 : Int32)) X dX3_make_13 (by decide) ?_
      refine v_icmp_ge (tgt := 31) X dX3_make_15 (by decide) (fun c5 => ?_) (fun c5 => ?_)
      · have h := h.1 c5
        exact kx4 u2 ls H locs h (lv_sub hl [] rfl) hH
      · have h := h.2 c5
        refine v_aload_n X dX3_make_18 rfl (lv_at hl 0 rfl) ?_
        refine v_get (v := .ref (o 1)) X hH.1 0 rfl fk_X3_9 rfl dX3_make_19 ?_
        refine v_iload_n X dX3_make_22 rfl (lv_at hl 1 rfl) ?_
        refine v_iconst (v := (0 : Int32)) X dX3_make_23 (by decide) ?_
        have hin := h.1
        have h := h.2
        refine v_iast (f := u2.1) X hH 1 0 rfl rfl hin dX3_make_24 (fun H locs hH => ?_)
        have hH : HH F D A (CX3 K o ((upd u2.1 x1.toNatClampNeg (0 : Int32)), u2.2.1, u2.2.2)) H locs := hH
        refine v_iinc (v := (x1 + (1 : Int32))) (lv' := [(3, .int (x1 + (1 : Int32))), (0, .ref (o 0))]) X dX3_make_25 hl (k := 1) rfl rfl (by decide) rfl (fun ls hl => ?_)
        refine v_goto (tgt := 12) X dX3_make_28 (by decide) ?_
        exact ih12 (x1 + (1 : Int32)) ((upd u2.1 x1.toNatClampNeg (0 : Int32)), u2.2.1, u2.2.2) ls H locs h (lv_sub hl [1, 0] rfl) hH
  obtain ⟨n12, h⟩ := h
  have h : wL_X3_make_12  post Kx12 n12 (0 : Int32) (u.1, a0, a1) := by rw [hK12]; exact h
  exact lp12 n12 (0 : Int32) (u.1, a0, a1) ls H locs h (lv_sub hl [1, 0] rfl) hH
def w_X3_put (u : BX3) (a0 : Int32) (a1 : Int32) (post : Int32 → BX3 → Prop) : Prop := (u.2.1 = 0 → vp_in a0 40 ∧ (vp_in a0 40 ∧ (post ((upd u.1 a0.toNatClampNeg a1.toInt8.toInt32) a0.toNatClampNeg) ((upd u.1 a0.toNatClampNeg a1.toInt8.toInt32), u.2.1, u.2.2)))) ∧ (¬ u.2.1 = 0 → (u.2.1 = (1 : Int32) → vp_in a0 40 ∧ (vp_in a0 40 ∧ (post ((upd u.1 a0.toNatClampNeg a1.toInt16.toInt32) a0.toNatClampNeg) ((upd u.1 a0.toNatClampNeg a1.toInt16.toInt32), u.2.1, u.2.2)))) ∧ (¬ u.2.1 = (1 : Int32) → vp_in a0 40 ∧ (vp_in a0 40 ∧ (post ((upd u.1 a0.toNatClampNeg a1) a0.toNatClampNeg) ((upd u.1 a0.toNatClampNeg a1), u.2.1, u.2.2)))))
set_option maxHeartbeats 4000000 in
set_option maxRecDepth 100000 in
theorem c_X3_put (l : Launch) (D : va_G) (K : Nat → ClassId) (t : Nat → Nat) (o : Nat → Nat) (u : BX3) (a0 : Int32) (a1 : Int32) (post : Int32 → BX3 → Prop) (h : w_X3_put u a0 a1 post) : WrI l yX3_put cX3_put 3 (some .int) ({ frames := 0, cells := 0, slots := 0, locals := 0 } : Room) D (TY K) t (CX3 K o u) [.ref (o 0), .int a0, .int a1] (fun z : BX3 => CX3 K o z) (fun (r : Int32) (z : BX3) => post r z) := by
  refine WrI.mk rfl (Nat.le_of_ble_eq_true rfl) ?_
  intro F ls A _ hF X hH hA hl hT
  obtain ⟨H, hH0⟩ : ∃ z : Heap, z = (fxS F).heap := ⟨_, rfl⟩
  obtain ⟨locs, hL0⟩ : ∃ z : List Loc, z = [] := ⟨_, rfl⟩
  have hH : HH F D A (CX3 K o u) H locs := by rw [hH0, hL0]; exact hH
  suffices goal : V F (WQI F D (TY K) A (fun z : BX3 => CX3 K o z) (fun (r : Int32) (z : BX3) => post r z)) H locs 0 ls [] by rw [hH0, hL0] at goal; exact goal
  clear hH0 hL0
  have X : Cx F cX3_put 3 RX3 D (TY K) := X
  have hl : lv_has ls 3 [(0, .ref (o 0)), (1, .int a0), (2, .int a1)] := hl
  unfold w_X3_put at h
  refine v_aload_n X dX3_put_0 rfl (lv_at hl 0 rfl) ?_
  refine v_get (v := .ref (o 1)) X hH.1 0 rfl fk_X3_9 rfl dX3_put_1 ?_
  refine v_iload_n X dX3_put_4 rfl (lv_at hl 1 rfl) ?_
  refine v_aload_n X dX3_put_5 rfl (lv_at hl 0 rfl) ?_
  refine v_get (v := .int u.2.1) X hH.1 0 rfl fk_X3_19 rfl dX3_put_6 ?_
  refine v_if_ne (tgt := 17) X dX3_put_9 (by decide) (fun c2 => ?_) (fun c2 => ?_)
  · have h := h.2 c2
    refine v_aload_n X dX3_put_17 rfl (lv_at hl 0 rfl) ?_
    refine v_get (v := .int u.2.1) X hH.1 0 rfl fk_X3_19 rfl dX3_put_18 ?_
    refine v_iconst (v := (1 : Int32)) X dX3_put_21 (by decide) ?_
    refine v_icmp_ne (tgt := 30) X dX3_put_22 (by decide) (fun c1 => ?_) (fun c1 => ?_)
    · have h := h.2 c1
      refine v_iload_n X dX3_put_30 rfl (lv_at hl 2 rfl) ?_
      have hin := h.1
      have h := h.2
      refine v_iast (f := u.1) X hH 1 0 rfl rfl hin dX3_put_31 (fun H locs hH => ?_)
      have hH : HH F D A (CX3 K o ((upd u.1 a0.toNatClampNeg a1), u.2.1, u.2.2)) H locs := hH
      refine v_aload_n X dX3_put_32 rfl (lv_at hl 0 rfl) ?_
      refine v_get (v := .ref (o 1)) X hH.1 0 rfl fk_X3_9 rfl dX3_put_33 ?_
      refine v_iload_n X dX3_put_36 rfl (lv_at hl 1 rfl) ?_
      have hin := h.1
      have h := h.2
      refine v_iald (f := (upd u.1 a0.toNatClampNeg a1)) X hH.1 1 0 rfl rfl hin dX3_put_37 ?_
      exact v_wiret X hF ((upd u.1 a0.toNatClampNeg a1), u.2.1, u.2.2) hH h dX3_put_38
    · have h := h.1 c1
      refine v_iload_n X dX3_put_25 rfl (lv_at hl 2 rfl) ?_
      refine v_i2s X dX3_put_26 rfl ?_
      refine v_goto (tgt := 31) X dX3_put_27 (by decide) ?_
      have hin := h.1
      have h := h.2
      refine v_iast (f := u.1) X hH 1 0 rfl rfl hin dX3_put_31 (fun H locs hH => ?_)
      have hH : HH F D A (CX3 K o ((upd u.1 a0.toNatClampNeg a1.toInt16.toInt32), u.2.1, u.2.2)) H locs := hH
      refine v_aload_n X dX3_put_32 rfl (lv_at hl 0 rfl) ?_
      refine v_get (v := .ref (o 1)) X hH.1 0 rfl fk_X3_9 rfl dX3_put_33 ?_
      refine v_iload_n X dX3_put_36 rfl (lv_at hl 1 rfl) ?_
      have hin := h.1
      have h := h.2
      refine v_iald (f := (upd u.1 a0.toNatClampNeg a1.toInt16.toInt32)) X hH.1 1 0 rfl rfl hin dX3_put_37 ?_
      exact v_wiret X hF ((upd u.1 a0.toNatClampNeg a1.toInt16.toInt32), u.2.1, u.2.2) hH h dX3_put_38
  · have h := h.1 c2
    refine v_iload_n X dX3_put_12 rfl (lv_at hl 2 rfl) ?_
    refine v_i2b X dX3_put_13 rfl ?_
    refine v_goto (tgt := 31) X dX3_put_14 (by decide) ?_
    have hin := h.1
    have h := h.2
    refine v_iast (f := u.1) X hH 1 0 rfl rfl hin dX3_put_31 (fun H locs hH => ?_)
    have hH : HH F D A (CX3 K o ((upd u.1 a0.toNatClampNeg a1.toInt8.toInt32), u.2.1, u.2.2)) H locs := hH
    refine v_aload_n X dX3_put_32 rfl (lv_at hl 0 rfl) ?_
    refine v_get (v := .ref (o 1)) X hH.1 0 rfl fk_X3_9 rfl dX3_put_33 ?_
    refine v_iload_n X dX3_put_36 rfl (lv_at hl 1 rfl) ?_
    have hin := h.1
    have h := h.2
    refine v_iald (f := (upd u.1 a0.toNatClampNeg a1.toInt8.toInt32)) X hH.1 1 0 rfl rfl hin dX3_put_37 ?_
    exact v_wiret X hF ((upd u.1 a0.toNatClampNeg a1.toInt8.toInt32), u.2.1, u.2.2) hH h dX3_put_38
def w_X3_lose (u : BX3) (post : Int32 → BX3 → Prop) : Prop := ∀ x1 : Int32, x1 = u.2.2 → post x1 (u.1, u.2.1, (-1 : Int32))
set_option maxHeartbeats 4000000 in
set_option maxRecDepth 100000 in
theorem c_X3_lose (l : Launch) (D : va_G) (K : Nat → ClassId) (t : Nat → Nat) (o : Nat → Nat) (u : BX3) (post : Int32 → BX3 → Prop) (h : w_X3_lose u post) : WrI l yX3_lose cX3_lose 2 (some .int) ({ frames := 0, cells := 0, slots := 0, locals := 0 } : Room) D (TY K) t (CX3 K o u) [.ref (o 0)] (fun z : BX3 => CX3 K o z) (fun (r : Int32) (z : BX3) => post r z) := by
  refine WrI.mk rfl (Nat.le_of_ble_eq_true rfl) ?_
  intro F ls A _ hF X hH hA hl hT
  obtain ⟨H, hH0⟩ : ∃ z : Heap, z = (fxS F).heap := ⟨_, rfl⟩
  obtain ⟨locs, hL0⟩ : ∃ z : List Loc, z = [] := ⟨_, rfl⟩
  have hH : HH F D A (CX3 K o u) H locs := by rw [hH0, hL0]; exact hH
  suffices goal : V F (WQI F D (TY K) A (fun z : BX3 => CX3 K o z) (fun (r : Int32) (z : BX3) => post r z)) H locs 0 ls [] by rw [hH0, hL0] at goal; exact goal
  clear hH0 hL0
  have X : Cx F cX3_lose 2 RX3 D (TY K) := X
  have hl : lv_has ls 2 [(0, .ref (o 0))] := hl
  unfold w_X3_lose at h
  refine v_aload_n X dX3_lose_0 rfl (lv_at hl 0 rfl) ?_
  refine v_get (v := .int u.2.2) X hH.1 0 rfl fk_X3_15 rfl dX3_lose_1 ?_
  refine v_topi (fun x1 ex1 => ?_)
  have h := h x1 ex1
  refine v_istore_n (lv' := [(1, .int x1), (0, .ref (o 0))]) X dX3_lose_4 rfl hl (by decide) rfl (fun ls hl => ?_)
  refine v_aload_n X dX3_lose_5 rfl (lv_at hl 1 rfl) ?_
  refine v_iconst (v := (-1 : Int32)) X dX3_lose_6 (by decide) ?_
  refine v_put X hH 0 rfl fi_X3_15 (Nat.le_of_ble_eq_true rfl) dX3_lose_7 (fun H locs hH => ?_)
  have hH : HH F D A (CX3 K o (u.1, u.2.1, (-1 : Int32))) H locs := hH
  refine v_iload_n X dX3_lose_10 rfl (lv_at hl 0 rfl) ?_
  exact v_wiret X hF (u.1, u.2.1, (-1 : Int32)) hH h dX3_lose_11
def rmR (n : Nat) : Room := { frames := 5 + 2 * n, cells := 0, slots := 0, locals := 200 + 50 * n }
def rmA (n : Nat) : Room := { frames := 6 + 2 * n, cells := 0, slots := 0, locals := 225 + 50 * n }
def w_X2_askAnew (RB : BX2 → BX1 → Int32 → Int32 → Int32 → (Int32 → BX2 → Prop) → Prop) (u : BX2) (up0 : BX1) (a1 a2 a3 : Int32) (post : Int32 → BX2 → Prop) : Prop := w_X1_hasWaker up0 a1 (fun r1 => (r1 = 0 → post (0 : Int32) u) ∧ (¬ r1 = 0 → vp_in a1 4 ∧ (w_X2_bodyFor (up0.2.2.1 a1.toNatClampNeg) a2 (fun r2 => RB u up0 a1 r2 (a3 + (1 : Int32)) (fun r3 u4 => post r3 u4)))))
def CRB (RB : BX2 → BX1 → Int32 → Int32 → Int32 → (Int32 → BX2 → Prop) → Prop) (l : Launch) (D : va_G) (K : Nat → ClassId) (t : Nat → Nat) (o o0 : Nat → Nat) (n0 : Nat) : Prop := ∀ (u : BX2) (up0 : BX1) (a1 a2 a3 : Int32) (post : Int32 → BX2 → Prop), RB u up0 a1 a2 a3 post → WrI l yX2_runBody cX2_runBody 6 (some .int) (rmR n0) D (TY K) t (CX2 K o u ++ CX1 K o0 up0) [.ref (o 0), .ref (o0 0), .int a1, .int a2, .int a3] (fun z : BX2 => CX2 K o z ++ CX1 K o0 up0) (fun (r : Int32) (z : BX2) => post r z)
set_option maxHeartbeats 4000000 in
set_option maxRecDepth 100000 in
theorem c_X2_askAnew {RB : BX2 → BX1 → Int32 → Int32 → Int32 → (Int32 → BX2 → Prop) → Prop} (l : Launch) (D : va_G) (K : Nat → ClassId) (t : Nat → Nat) (o o0 : Nat → Nat) (n0 : Nat) (hRB : CRB RB l D K t o o0 n0) (u : BX2) (up0 : BX1) (a1 a2 a3 : Int32) (post : Int32 → BX2 → Prop) (h : w_X2_askAnew RB u up0 a1 a2 a3 post) : WrI l yX2_askAnew cX2_askAnew 5 (some .int) (rmA n0) D (TY K) t (CX2 K o u ++ CX1 K o0 up0) [.ref (o 0), .ref (o0 0), .int a1, .int a2, .int a3] (fun z : BX2 => CX2 K o z ++ CX1 K o0 up0) (fun (r : Int32) (z : BX2) => post r z) := by
  refine WrI.mk rfl (Nat.le_of_ble_eq_true rfl) ?_
  intro F ls A hl0 hF X hH hA hl hT
  subst hl0
  obtain ⟨H, hH0⟩ : ∃ z : Heap, z = (fxS F).heap := ⟨_, rfl⟩
  obtain ⟨locs, hL0⟩ : ∃ z : List Loc, z = [] := ⟨_, rfl⟩
  have hH : HH F D A (CX2 K o u ++ CX1 K o0 up0) H locs := by rw [hH0, hL0]; exact hH
  suffices goal : V F (WQI F D (TY K) A (fun z : BX2 => CX2 K o z ++ CX1 K o0 up0) (fun (r : Int32) (z : BX2) => post r z)) H locs 0 ls [] by rw [hH0, hL0] at goal; exact goal
  clear hH0 hL0
  have X : Cx F cX2_askAnew 5 RX2 D (TY K) := X
  have hl : lv_has ls 5 [(0, .ref (o 0)), (1, .ref (o0 0)), (2, .int a1), (3, .int a2), (4, .int a3)] := hl
  unfold w_X2_askAnew at h
  refine v_aload_n X dX2_askAnew_0 rfl (lv_at hl 1 rfl) ?_
  refine v_iload_n X dX2_askAnew_1 rfl (lv_at hl 2 rfl) ?_
  refine rdV (As := [.int a1]) (rest := []) X mv_X2_30 (c_X1_hasWaker F.2.1 D K t o0 up0 a1 _ h) hF ⟨rfl, rfl, by simp only [rmR, rmA]; omega, by simp only [rmR, rmA]; omega⟩ (stW hT hH) hH.1 [2, 3, 4, 5, 6, 7, 8, 9] rfl 2 rfl rfl hl.1 rfl rfl (Nat.le_of_ble_eq_true rfl) dX2_askAnew_2 (fun r1 h => ?_)
  refine v_if_ne (tgt := 10) X dX2_askAnew_5 (by decide) (fun c5 => ?_) (fun c5 => ?_)
  · have h := h.2 c5
    refine v_aload_n X dX2_askAnew_10 rfl (lv_at hl 0 rfl) ?_
    refine v_aload_n X dX2_askAnew_11 rfl (lv_at hl 1 rfl) ?_
    refine v_iload_n X dX2_askAnew_12 rfl (lv_at hl 2 rfl) ?_
    refine v_aload_n X dX2_askAnew_13 rfl (lv_at hl 1 rfl) ?_
    refine v_get (v := .ref (o0 3)) X hH.1 2 rfl fk_X2_36 rfl dX2_askAnew_14 ?_
    refine v_iload_n X dX2_askAnew_17 rfl (lv_at hl 2 rfl) ?_
    have hin := h.1
    have h := h.2
    refine v_iald (f := up0.2.2.1) X hH.1 5 0 rfl rfl hin dX2_askAnew_18 ?_
    refine v_iload_n X dX2_askAnew_19 rfl (lv_at hl 3 rfl) ?_
    refine rdS (As := [.int (up0.2.2.1 a1.toNatClampNeg), .int a2]) (rest := [.int a1, .ref (o0 0), .ref (o 0)]) X ms_X2_39 (c_X2_bodyFor F.2.1 D K t (up0.2.2.1 a1.toNatClampNeg) a2 _ h) hF ⟨rfl, rfl, by simp only [rmR, rmA]; omega, by simp only [rmR, rmA]; omega⟩ (stW hT hH) hH.1 [] rfl hl.1 rfl rfl (Nat.le_of_ble_eq_true rfl) dX2_askAnew_20 (fun r2 h => ?_)
    refine v_iload X dX2_askAnew_23 (lv_at hl 4 rfl) ?_
    refine v_iconst (v := (1 : Int32)) X dX2_askAnew_25 (by decide) ?_
    refine v_iadd X dX2_askAnew_26 ?_
    refine wrVI (As := [.ref (o0 0), .int a1, .int r2, .int (a3 + (1 : Int32))]) (rest := []) (wr := ([] : va_W)) X mv_X2_43 (hRB u up0 a1 r2 (a3 + (1 : Int32)) _ h) hF ⟨rfl, rfl, by simp only [rmR, rmA]; omega, by simp only [rmR, rmA]; omega⟩ hT hA hH [0, 1, 2, 3, 4, 5, 6, 7, 8, 9] [] ⟨rfl, rfl, rfl, rfl, by decide⟩ 0 rfl rfl hl.1 rfl rfl (Nat.le_of_ble_eq_true rfl) dX2_askAnew_27 (fun r3 u4 H locs h hH => ?_)
    have hH : HH F D A (CX2 K o u4 ++ CX1 K o0 up0) H locs := hH
    exact v_wiret X hF u4 hH h dX2_askAnew_30
  · have h := h.1 c5
    refine v_iconst (v := (0 : Int32)) X dX2_askAnew_8 (by decide) ?_
    exact v_wiret X hF u hH h dX2_askAnew_9
def w_X2_runBody : Nat → BX2 → BX1 → Int32 → Int32 → Int32 → (Int32 → BX2 → Prop) → Prop
  | 0, _, _, _, _, _, _ => False
  | n0 + 1, u, up0, a1, a2, a3, post => ((16 : Int32) < a3 → post (0 : Int32) u) ∧ (¬ (16 : Int32) < a3 → w_X1_hasWaker up0 a1 (fun r1 => (r1 = 0 → post (0 : Int32) u) ∧ (¬ r1 = 0 → w_X2_leave u a2 (fun u3 => (a2 = (10 : Int32) → vp_in a1 4 ∧ (post (up0.2.2.2.1 a1.toNatClampNeg) u3)) ∧ (¬ a2 = (10 : Int32) → (a2 = (11 : Int32) → w_X2_runBody n0 u3 up0 a1 (10 : Int32) (a3 + (1 : Int32)) (fun r6 u7 => w_X2_askAnew (w_X2_runBody n0) u7 up0 a1 (1 : Int32) (a3 + (1 : Int32)) (fun r8 u9 => post (r6 + r8) u9))) ∧ (¬ a2 = (11 : Int32) → (a2 = (12 : Int32) → w_X2_runBody n0 u3 up0 a1 (11 : Int32) (a3 + (1 : Int32)) (fun r11 u12 => post (-r11) u12)) ∧ (¬ a2 = (12 : Int32) → (a2 = (13 : Int32) → w_X2_runBody n0 u3 up0 a1 (10 : Int32) (a3 + (1 : Int32)) (fun r14 u15 => post (r14 - (100 : Int32)) u15)) ∧ (¬ a2 = (13 : Int32) → (a2 = (14 : Int32) → w_X2_runBody n0 u3 up0 a1 (13 : Int32) (a3 + (1 : Int32)) (fun r17 u18 => post ((2 : Int32) * r17) u18)) ∧ (¬ a2 = (14 : Int32) → (a2 = (15 : Int32) → post (0 : Int32) u3) ∧ (¬ a2 = (15 : Int32) → (a2 = (16 : Int32) → post (0 : Int32) u3) ∧ (¬ a2 = (16 : Int32) → (a2 = (17 : Int32) → post (0 : Int32) u3) ∧ (¬ a2 = (17 : Int32) → (a2 = (18 : Int32) → post (0 : Int32) u3) ∧ (¬ a2 = (18 : Int32) → (a2 = (19 : Int32) → post (0 : Int32) u3) ∧ (¬ a2 = (19 : Int32) → (a2 = (20 : Int32) → post a1 u3) ∧ (¬ a2 = (20 : Int32) → (a2 = (21 : Int32) → w_X2_runBody n0 u3 up0 a1 (20 : Int32) (a3 + (1 : Int32)) (fun r26 u27 => vp_in a1 4 ∧ (post (r26 + (up0.2.2.2.2.2.2.1 a1.toNatClampNeg)) u27))) ∧ (¬ a2 = (21 : Int32) → (a2 = (22 : Int32) → w_X2_runBody n0 u3 up0 a1 (21 : Int32) (a3 + (1 : Int32)) (fun r29 u30 => post (r29 - (1000 : Int32)) u30)) ∧ (¬ a2 = (22 : Int32) → (a2 = (23 : Int32) → w_X2_runBody n0 u3 up0 a1 (20 : Int32) (a3 + (1 : Int32)) (fun r32 u33 => w_X2_askAnew (w_X2_runBody n0) u33 up0 a1 (0 : Int32) (a3 + (1 : Int32)) (fun r34 u35 => post (r32 - r34) u35))) ∧ (¬ a2 = (23 : Int32) → (a2 = (24 : Int32) → w_X2_runBody n0 u3 up0 a1 (21 : Int32) (a3 + (1 : Int32)) (fun r37 u38 => post ((2 : Int32) * r37) u38)) ∧ (¬ a2 = (24 : Int32) → post (0 : Int32) u3)))))))))))))))))))
set_option maxHeartbeats 4000000 in
set_option maxRecDepth 100000 in
theorem c_X2_runBody (l : Launch) (D : va_G) (K : Nat → ClassId) (t : Nat → Nat) (o o0 : Nat → Nat) : ∀ n0 : Nat, CRB (w_X2_runBody n0) l D K t o o0 n0
  | 0 => fun _ _ _ _ _ _ h => h.elim
  | n0 + 1 => by
    have ih := c_X2_runBody l D K t o o0 n0
    intro u up0 a1 a2 a3 post h
    refine WrI.mk rfl (Nat.le_of_ble_eq_true rfl) ?_
    intro F ls A hl0 hF X hH hA hl hT
    subst hl0
    obtain ⟨H, hH0⟩ : ∃ z : Heap, z = (fxS F).heap := ⟨_, rfl⟩
    obtain ⟨locs, hL0⟩ : ∃ z : List Loc, z = [] := ⟨_, rfl⟩
    have hH : HH F D A (CX2 K o u ++ CX1 K o0 up0) H locs := by rw [hH0, hL0]; exact hH
    suffices goal : V F (WQI F D (TY K) A (fun z : BX2 => CX2 K o z ++ CX1 K o0 up0) (fun (r : Int32) (z : BX2) => post r z)) H locs 0 ls [] by rw [hH0, hL0] at goal; exact goal
    clear hH0 hL0
    have X : Cx F cX2_runBody 6 RX2 D (TY K) := X
    have hl : lv_has ls 6 [(0, .ref (o 0)), (1, .ref (o0 0)), (2, .int a1), (3, .int a2), (4, .int a3)] := hl
    unfold w_X2_runBody at h
    refine v_iload X dX2_runBody_0 (lv_at hl 4 rfl) ?_
    refine v_bipush (v := (16 : Int32)) X dX2_runBody_2 (by decide) ?_
    refine v_icmp_gt (tgt := 15) X dX2_runBody_4 (by decide) (fun c40 => ?_) (fun c40 => ?_)
    · have h := h.1 c40
      refine v_iconst (v := (0 : Int32)) X dX2_runBody_15 (by decide) ?_
      exact v_wiret X hF u hH h dX2_runBody_16
    · have h := h.2 c40
      refine v_aload_n X dX2_runBody_7 rfl (lv_at hl 1 rfl) ?_
      refine v_iload_n X dX2_runBody_8 rfl (lv_at hl 2 rfl) ?_
      refine rdV (As := [.int a1]) (rest := []) X mv_X2_30 (c_X1_hasWaker F.2.1 D K t o0 up0 a1 _ h) hF ⟨rfl, rfl, by simp only [rmR, rmA]; omega, by simp only [rmR, rmA]; omega⟩ (stW hT hH) hH.1 [2, 3, 4, 5, 6, 7, 8, 9] rfl 2 rfl rfl hl.1 rfl rfl (Nat.le_of_ble_eq_true rfl) dX2_runBody_9 (fun r1 h => ?_)
      refine v_if_ne (tgt := 17) X dX2_runBody_12 (by decide) (fun c39 => ?_) (fun c39 => ?_)
      · have h := h.2 c39
        refine v_aload_n X dX2_runBody_17 rfl (lv_at hl 0 rfl) ?_
        refine v_iload_n X dX2_runBody_18 rfl (lv_at hl 3 rfl) ?_
        refine wrVV (As := [.int a2]) (rest := []) (wr := (CX1 K o0 up0)) X mv_X2_55 (c_X2_leave F.2.1 D K t o u a2 _ h) hF ⟨rfl, rfl, by simp only [rmR, rmA]; omega, by simp only [rmR, rmA]; omega⟩ hT hA hH [0, 1] [2, 3, 4, 5, 6, 7, 8, 9] ⟨rfl, rfl, rfl, rfl, by decide⟩ 0 rfl rfl hl.1 rfl rfl (Nat.le_of_ble_eq_true rfl) dX2_runBody_19 (fun u3 H locs h hH => ?_)
        have hH : HH F D A (CX1 K o0 up0 ++ CX2 K o u3) H locs := hH
        refine v_iload X dX2_runBody_22 (lv_at hl 4 rfl) ?_
        refine v_iconst (v := (1 : Int32)) X dX2_runBody_24 (by decide) ?_
        refine v_iadd X dX2_runBody_25 ?_
        refine v_istore (lv' := [(5, .int (a3 + (1 : Int32))), (0, .ref (o 0)), (1, .ref (o0 0)), (2, .int a1), (3, .int a2), (4, .int a3)]) X dX2_runBody_26 hl (by decide) rfl (fun ls hl => ?_)
        refine v_iload_n X dX2_runBody_28 rfl (lv_at hl 4 rfl) ?_
        by_cases c4 : a2 = (10 : Int32)
        · have h := h.1 c4
          refine v_tableIn (tgt := 104) (off := 75) X dX2_runBody_29 (by rw [c4]; decide) (by rw [c4]; decide) (by rw [c4]; rfl) (by decide) ?_
          refine v_aload_n X dX2_runBody_104 rfl (lv_at hl 2 rfl) ?_
          refine v_get (v := .ref (o0 4)) X hH.1 0 rfl fk_X2_59 rfl dX2_runBody_105 ?_
          refine v_iload_n X dX2_runBody_108 rfl (lv_at hl 3 rfl) ?_
          have hin := h.1
          have h := h.2
          refine v_iald (f := up0.2.2.2.1) X hH.1 4 0 rfl rfl hin dX2_runBody_109 ?_
          exact v_wiret X hF u3 (hH.perm [8, 9, 0, 1, 2, 3, 4, 5, 6, 7] rfl rfl) h dX2_runBody_110
        · have h := h.2 c4
          by_cases c5 : a2 = (11 : Int32)
          · have h := h.1 c5
            refine v_tableIn (tgt := 111) (off := 82) X dX2_runBody_29 (by rw [c5]; decide) (by rw [c5]; decide) (by rw [c5]; rfl) (by decide) ?_
            refine v_aload_n X dX2_runBody_111 rfl (lv_at hl 1 rfl) ?_
            refine v_aload_n X dX2_runBody_112 rfl (lv_at hl 2 rfl) ?_
            refine v_iload_n X dX2_runBody_113 rfl (lv_at hl 3 rfl) ?_
            refine v_bipush (v := (10 : Int32)) X dX2_runBody_114 (by decide) ?_
            refine v_iload X dX2_runBody_116 (lv_at hl 0 rfl) ?_
            refine wrVI (As := [.ref (o0 0), .int a1, .int (10 : Int32), .int (a3 + (1 : Int32))]) (rest := []) (wr := ([] : va_W)) X mv_X2_43 (ih u3 up0 a1 (10 : Int32) (a3 + (1 : Int32)) _ h) hF ⟨rfl, rfl, by simp only [rmR, rmA]; omega, by simp only [rmR, rmA]; omega⟩ hT hA hH [8, 9, 0, 1, 2, 3, 4, 5, 6, 7] [] ⟨rfl, rfl, rfl, rfl, by decide⟩ 8 rfl rfl hl.1 rfl rfl (Nat.le_of_ble_eq_true rfl) dX2_runBody_118 (fun r6 u7 H locs h hH => ?_)
            have hH : HH F D A (CX2 K o u7 ++ CX1 K o0 up0) H locs := hH
            refine v_aload_n X dX2_runBody_121 rfl (lv_at hl 1 rfl) ?_
            refine v_aload_n X dX2_runBody_122 rfl (lv_at hl 2 rfl) ?_
            refine v_iload_n X dX2_runBody_123 rfl (lv_at hl 3 rfl) ?_
            refine v_iconst (v := (1 : Int32)) X dX2_runBody_124 (by decide) ?_
            refine v_iload X dX2_runBody_125 (lv_at hl 0 rfl) ?_
            refine wrVI (As := [.ref (o0 0), .int a1, .int (1 : Int32), .int (a3 + (1 : Int32))]) (rest := [.int r6]) (wr := ([] : va_W)) X mv_X2_19 (c_X2_askAnew F.2.1 D K t o o0 n0 ih u7 up0 a1 (1 : Int32) (a3 + (1 : Int32)) _ h) hF ⟨rfl, rfl, by simp only [rmR, rmA]; omega, by simp only [rmR, rmA]; omega⟩ hT hA hH [0, 1, 2, 3, 4, 5, 6, 7, 8, 9] [] ⟨rfl, rfl, rfl, rfl, by decide⟩ 0 rfl rfl hl.1 rfl rfl (Nat.le_of_ble_eq_true rfl) dX2_runBody_127 (fun r8 u9 H locs h hH => ?_)
            have hH : HH F D A (CX2 K o u9 ++ CX1 K o0 up0) H locs := hH
            refine v_iadd X dX2_runBody_130 ?_
            exact v_wiret X hF u9 hH h dX2_runBody_131
          · have h := h.2 c5
            by_cases c10 : a2 = (12 : Int32)
            · have h := h.1 c10
              refine v_tableIn (tgt := 132) (off := 103) X dX2_runBody_29 (by rw [c10]; decide) (by rw [c10]; decide) (by rw [c10]; rfl) (by decide) ?_
              refine v_aload_n X dX2_runBody_132 rfl (lv_at hl 1 rfl) ?_
              refine v_aload_n X dX2_runBody_133 rfl (lv_at hl 2 rfl) ?_
              refine v_iload_n X dX2_runBody_134 rfl (lv_at hl 3 rfl) ?_
              refine v_bipush (v := (11 : Int32)) X dX2_runBody_135 (by decide) ?_
              refine v_iload X dX2_runBody_137 (lv_at hl 0 rfl) ?_
              refine wrVI (As := [.ref (o0 0), .int a1, .int (11 : Int32), .int (a3 + (1 : Int32))]) (rest := []) (wr := ([] : va_W)) X mv_X2_43 (ih u3 up0 a1 (11 : Int32) (a3 + (1 : Int32)) _ h) hF ⟨rfl, rfl, by simp only [rmR, rmA]; omega, by simp only [rmR, rmA]; omega⟩ hT hA hH [8, 9, 0, 1, 2, 3, 4, 5, 6, 7] [] ⟨rfl, rfl, rfl, rfl, by decide⟩ 8 rfl rfl hl.1 rfl rfl (Nat.le_of_ble_eq_true rfl) dX2_runBody_139 (fun r11 u12 H locs h hH => ?_)
              have hH : HH F D A (CX2 K o u12 ++ CX1 K o0 up0) H locs := hH
              refine v_ineg X dX2_runBody_142 ?_
              exact v_wiret X hF u12 hH h dX2_runBody_143
            · have h := h.2 c10
              by_cases c13 : a2 = (13 : Int32)
              · have h := h.1 c13
                refine v_tableIn (tgt := 144) (off := 115) X dX2_runBody_29 (by rw [c13]; decide) (by rw [c13]; decide) (by rw [c13]; rfl) (by decide) ?_
                refine v_aload_n X dX2_runBody_144 rfl (lv_at hl 1 rfl) ?_
                refine v_aload_n X dX2_runBody_145 rfl (lv_at hl 2 rfl) ?_
                refine v_iload_n X dX2_runBody_146 rfl (lv_at hl 3 rfl) ?_
                refine v_bipush (v := (10 : Int32)) X dX2_runBody_147 (by decide) ?_
                refine v_iload X dX2_runBody_149 (lv_at hl 0 rfl) ?_
                refine wrVI (As := [.ref (o0 0), .int a1, .int (10 : Int32), .int (a3 + (1 : Int32))]) (rest := []) (wr := ([] : va_W)) X mv_X2_43 (ih u3 up0 a1 (10 : Int32) (a3 + (1 : Int32)) _ h) hF ⟨rfl, rfl, by simp only [rmR, rmA]; omega, by simp only [rmR, rmA]; omega⟩ hT hA hH [8, 9, 0, 1, 2, 3, 4, 5, 6, 7] [] ⟨rfl, rfl, rfl, rfl, by decide⟩ 8 rfl rfl hl.1 rfl rfl (Nat.le_of_ble_eq_true rfl) dX2_runBody_151 (fun r14 u15 H locs h hH => ?_)
                have hH : HH F D A (CX2 K o u15 ++ CX1 K o0 up0) H locs := hH
                refine v_bipush (v := (100 : Int32)) X dX2_runBody_154 (by decide) ?_
                refine v_isub X dX2_runBody_156 ?_
                exact v_wiret X hF u15 hH h dX2_runBody_157
              · have h := h.2 c13
                by_cases c16 : a2 = (14 : Int32)
                · have h := h.1 c16
                  refine v_tableIn (tgt := 158) (off := 129) X dX2_runBody_29 (by rw [c16]; decide) (by rw [c16]; decide) (by rw [c16]; rfl) (by decide) ?_
                  refine v_iconst (v := (2 : Int32)) X dX2_runBody_158 (by decide) ?_
                  refine v_aload_n X dX2_runBody_159 rfl (lv_at hl 1 rfl) ?_
                  refine v_aload_n X dX2_runBody_160 rfl (lv_at hl 2 rfl) ?_
                  refine v_iload_n X dX2_runBody_161 rfl (lv_at hl 3 rfl) ?_
                  refine v_bipush (v := (13 : Int32)) X dX2_runBody_162 (by decide) ?_
                  refine v_iload X dX2_runBody_164 (lv_at hl 0 rfl) ?_
                  refine wrVI (As := [.ref (o0 0), .int a1, .int (13 : Int32), .int (a3 + (1 : Int32))]) (rest := [.int (2 : Int32)]) (wr := ([] : va_W)) X mv_X2_43 (ih u3 up0 a1 (13 : Int32) (a3 + (1 : Int32)) _ h) hF ⟨rfl, rfl, by simp only [rmR, rmA]; omega, by simp only [rmR, rmA]; omega⟩ hT hA hH [8, 9, 0, 1, 2, 3, 4, 5, 6, 7] [] ⟨rfl, rfl, rfl, rfl, by decide⟩ 8 rfl rfl hl.1 rfl rfl (Nat.le_of_ble_eq_true rfl) dX2_runBody_166 (fun r17 u18 H locs h hH => ?_)
                  have hH : HH F D A (CX2 K o u18 ++ CX1 K o0 up0) H locs := hH
                  refine v_imul X dX2_runBody_169 ?_
                  exact v_wiret X hF u18 hH h dX2_runBody_170
                · have h := h.2 c16
                  by_cases c19 : a2 = (15 : Int32)
                  · have h := h.1 c19
                    refine v_tableIn (tgt := 240) (off := 211) X dX2_runBody_29 (by rw [c19]; decide) (by rw [c19]; decide) (by rw [c19]; rfl) (by decide) ?_
                    refine v_iconst (v := (0 : Int32)) X dX2_runBody_240 (by decide) ?_
                    exact v_wiret X hF u3 (hH.perm [8, 9, 0, 1, 2, 3, 4, 5, 6, 7] rfl rfl) h dX2_runBody_241
                  · have h := h.2 c19
                    by_cases c20 : a2 = (16 : Int32)
                    · have h := h.1 c20
                      refine v_tableIn (tgt := 240) (off := 211) X dX2_runBody_29 (by rw [c20]; decide) (by rw [c20]; decide) (by rw [c20]; rfl) (by decide) ?_
                      refine v_iconst (v := (0 : Int32)) X dX2_runBody_240 (by decide) ?_
                      exact v_wiret X hF u3 (hH.perm [8, 9, 0, 1, 2, 3, 4, 5, 6, 7] rfl rfl) h dX2_runBody_241
                    · have h := h.2 c20
                      by_cases c21 : a2 = (17 : Int32)
                      · have h := h.1 c21
                        refine v_tableIn (tgt := 240) (off := 211) X dX2_runBody_29 (by rw [c21]; decide) (by rw [c21]; decide) (by rw [c21]; rfl) (by decide) ?_
                        refine v_iconst (v := (0 : Int32)) X dX2_runBody_240 (by decide) ?_
                        exact v_wiret X hF u3 (hH.perm [8, 9, 0, 1, 2, 3, 4, 5, 6, 7] rfl rfl) h dX2_runBody_241
                      · have h := h.2 c21
                        by_cases c22 : a2 = (18 : Int32)
                        · have h := h.1 c22
                          refine v_tableIn (tgt := 240) (off := 211) X dX2_runBody_29 (by rw [c22]; decide) (by rw [c22]; decide) (by rw [c22]; rfl) (by decide) ?_
                          refine v_iconst (v := (0 : Int32)) X dX2_runBody_240 (by decide) ?_
                          exact v_wiret X hF u3 (hH.perm [8, 9, 0, 1, 2, 3, 4, 5, 6, 7] rfl rfl) h dX2_runBody_241
                        · have h := h.2 c22
                          by_cases c23 : a2 = (19 : Int32)
                          · have h := h.1 c23
                            refine v_tableIn (tgt := 240) (off := 211) X dX2_runBody_29 (by rw [c23]; decide) (by rw [c23]; decide) (by rw [c23]; rfl) (by decide) ?_
                            refine v_iconst (v := (0 : Int32)) X dX2_runBody_240 (by decide) ?_
                            exact v_wiret X hF u3 (hH.perm [8, 9, 0, 1, 2, 3, 4, 5, 6, 7] rfl rfl) h dX2_runBody_241
                          · have h := h.2 c23
                            by_cases c24 : a2 = (20 : Int32)
                            · have h := h.1 c24
                              refine v_tableIn (tgt := 171) (off := 142) X dX2_runBody_29 (by rw [c24]; decide) (by rw [c24]; decide) (by rw [c24]; rfl) (by decide) ?_
                              refine v_iload_n X dX2_runBody_171 rfl (lv_at hl 3 rfl) ?_
                              exact v_wiret X hF u3 (hH.perm [8, 9, 0, 1, 2, 3, 4, 5, 6, 7] rfl rfl) h dX2_runBody_172
                            · have h := h.2 c24
                              by_cases c25 : a2 = (21 : Int32)
                              · have h := h.1 c25
                                refine v_tableIn (tgt := 173) (off := 144) X dX2_runBody_29 (by rw [c25]; decide) (by rw [c25]; decide) (by rw [c25]; rfl) (by decide) ?_
                                refine v_aload_n X dX2_runBody_173 rfl (lv_at hl 1 rfl) ?_
                                refine v_aload_n X dX2_runBody_174 rfl (lv_at hl 2 rfl) ?_
                                refine v_iload_n X dX2_runBody_175 rfl (lv_at hl 3 rfl) ?_
                                refine v_bipush (v := (20 : Int32)) X dX2_runBody_176 (by decide) ?_
                                refine v_iload X dX2_runBody_178 (lv_at hl 0 rfl) ?_
                                refine wrVI (As := [.ref (o0 0), .int a1, .int (20 : Int32), .int (a3 + (1 : Int32))]) (rest := []) (wr := ([] : va_W)) X mv_X2_43 (ih u3 up0 a1 (20 : Int32) (a3 + (1 : Int32)) _ h) hF ⟨rfl, rfl, by simp only [rmR, rmA]; omega, by simp only [rmR, rmA]; omega⟩ hT hA hH [8, 9, 0, 1, 2, 3, 4, 5, 6, 7] [] ⟨rfl, rfl, rfl, rfl, by decide⟩ 8 rfl rfl hl.1 rfl rfl (Nat.le_of_ble_eq_true rfl) dX2_runBody_180 (fun r26 u27 H locs h hH => ?_)
                                have hH : HH F D A (CX2 K o u27 ++ CX1 K o0 up0) H locs := hH
                                refine v_aload_n X dX2_runBody_183 rfl (lv_at hl 2 rfl) ?_
                                refine v_get (v := .ref (o0 7)) X hH.1 2 rfl fk_X2_62 rfl dX2_runBody_184 ?_
                                refine v_iload_n X dX2_runBody_187 rfl (lv_at hl 3 rfl) ?_
                                have hin := h.1
                                have h := h.2
                                refine v_iald (f := up0.2.2.2.2.2.2.1) X hH.1 9 0 rfl rfl hin dX2_runBody_188 ?_
                                refine v_iadd X dX2_runBody_189 ?_
                                exact v_wiret X hF u27 hH h dX2_runBody_190
                              · have h := h.2 c25
                                by_cases c28 : a2 = (22 : Int32)
                                · have h := h.1 c28
                                  refine v_tableIn (tgt := 191) (off := 162) X dX2_runBody_29 (by rw [c28]; decide) (by rw [c28]; decide) (by rw [c28]; rfl) (by decide) ?_
                                  refine v_aload_n X dX2_runBody_191 rfl (lv_at hl 1 rfl) ?_
                                  refine v_aload_n X dX2_runBody_192 rfl (lv_at hl 2 rfl) ?_
                                  refine v_iload_n X dX2_runBody_193 rfl (lv_at hl 3 rfl) ?_
                                  refine v_bipush (v := (21 : Int32)) X dX2_runBody_194 (by decide) ?_
                                  refine v_iload X dX2_runBody_196 (lv_at hl 0 rfl) ?_
                                  refine wrVI (As := [.ref (o0 0), .int a1, .int (21 : Int32), .int (a3 + (1 : Int32))]) (rest := []) (wr := ([] : va_W)) X mv_X2_43 (ih u3 up0 a1 (21 : Int32) (a3 + (1 : Int32)) _ h) hF ⟨rfl, rfl, by simp only [rmR, rmA]; omega, by simp only [rmR, rmA]; omega⟩ hT hA hH [8, 9, 0, 1, 2, 3, 4, 5, 6, 7] [] ⟨rfl, rfl, rfl, rfl, by decide⟩ 8 rfl rfl hl.1 rfl rfl (Nat.le_of_ble_eq_true rfl) dX2_runBody_198 (fun r29 u30 H locs h hH => ?_)
                                  have hH : HH F D A (CX2 K o u30 ++ CX1 K o0 up0) H locs := hH
                                  refine v_sipush (v := (1000 : Int32)) X dX2_runBody_201 (by decide) ?_
                                  refine v_isub X dX2_runBody_204 ?_
                                  exact v_wiret X hF u30 hH h dX2_runBody_205
                                · have h := h.2 c28
                                  by_cases c31 : a2 = (23 : Int32)
                                  · have h := h.1 c31
                                    refine v_tableIn (tgt := 206) (off := 177) X dX2_runBody_29 (by rw [c31]; decide) (by rw [c31]; decide) (by rw [c31]; rfl) (by decide) ?_
                                    refine v_aload_n X dX2_runBody_206 rfl (lv_at hl 1 rfl) ?_
                                    refine v_aload_n X dX2_runBody_207 rfl (lv_at hl 2 rfl) ?_
                                    refine v_iload_n X dX2_runBody_208 rfl (lv_at hl 3 rfl) ?_
                                    refine v_bipush (v := (20 : Int32)) X dX2_runBody_209 (by decide) ?_
                                    refine v_iload X dX2_runBody_211 (lv_at hl 0 rfl) ?_
                                    refine wrVI (As := [.ref (o0 0), .int a1, .int (20 : Int32), .int (a3 + (1 : Int32))]) (rest := []) (wr := ([] : va_W)) X mv_X2_43 (ih u3 up0 a1 (20 : Int32) (a3 + (1 : Int32)) _ h) hF ⟨rfl, rfl, by simp only [rmR, rmA]; omega, by simp only [rmR, rmA]; omega⟩ hT hA hH [8, 9, 0, 1, 2, 3, 4, 5, 6, 7] [] ⟨rfl, rfl, rfl, rfl, by decide⟩ 8 rfl rfl hl.1 rfl rfl (Nat.le_of_ble_eq_true rfl) dX2_runBody_213 (fun r32 u33 H locs h hH => ?_)
                                    have hH : HH F D A (CX2 K o u33 ++ CX1 K o0 up0) H locs := hH
                                    refine v_aload_n X dX2_runBody_216 rfl (lv_at hl 1 rfl) ?_
                                    refine v_aload_n X dX2_runBody_217 rfl (lv_at hl 2 rfl) ?_
                                    refine v_iload_n X dX2_runBody_218 rfl (lv_at hl 3 rfl) ?_
                                    refine v_iconst (v := (0 : Int32)) X dX2_runBody_219 (by decide) ?_
                                    refine v_iload X dX2_runBody_220 (lv_at hl 0 rfl) ?_
                                    refine wrVI (As := [.ref (o0 0), .int a1, .int (0 : Int32), .int (a3 + (1 : Int32))]) (rest := [.int r32]) (wr := ([] : va_W)) X mv_X2_19 (c_X2_askAnew F.2.1 D K t o o0 n0 ih u33 up0 a1 (0 : Int32) (a3 + (1 : Int32)) _ h) hF ⟨rfl, rfl, by simp only [rmR, rmA]; omega, by simp only [rmR, rmA]; omega⟩ hT hA hH [0, 1, 2, 3, 4, 5, 6, 7, 8, 9] [] ⟨rfl, rfl, rfl, rfl, by decide⟩ 0 rfl rfl hl.1 rfl rfl (Nat.le_of_ble_eq_true rfl) dX2_runBody_222 (fun r34 u35 H locs h hH => ?_)
                                    have hH : HH F D A (CX2 K o u35 ++ CX1 K o0 up0) H locs := hH
                                    refine v_isub X dX2_runBody_225 ?_
                                    exact v_wiret X hF u35 hH h dX2_runBody_226
                                  · have h := h.2 c31
                                    by_cases c36 : a2 = (24 : Int32)
                                    · have h := h.1 c36
                                      refine v_tableIn (tgt := 227) (off := 198) X dX2_runBody_29 (by rw [c36]; decide) (by rw [c36]; decide) (by rw [c36]; rfl) (by decide) ?_
                                      refine v_iconst (v := (2 : Int32)) X dX2_runBody_227 (by decide) ?_
                                      refine v_aload_n X dX2_runBody_228 rfl (lv_at hl 1 rfl) ?_
                                      refine v_aload_n X dX2_runBody_229 rfl (lv_at hl 2 rfl) ?_
                                      refine v_iload_n X dX2_runBody_230 rfl (lv_at hl 3 rfl) ?_
                                      refine v_bipush (v := (21 : Int32)) X dX2_runBody_231 (by decide) ?_
                                      refine v_iload X dX2_runBody_233 (lv_at hl 0 rfl) ?_
                                      refine wrVI (As := [.ref (o0 0), .int a1, .int (21 : Int32), .int (a3 + (1 : Int32))]) (rest := [.int (2 : Int32)]) (wr := ([] : va_W)) X mv_X2_43 (ih u3 up0 a1 (21 : Int32) (a3 + (1 : Int32)) _ h) hF ⟨rfl, rfl, by simp only [rmR, rmA]; omega, by simp only [rmR, rmA]; omega⟩ hT hA hH [8, 9, 0, 1, 2, 3, 4, 5, 6, 7] [] ⟨rfl, rfl, rfl, rfl, by decide⟩ 8 rfl rfl hl.1 rfl rfl (Nat.le_of_ble_eq_true rfl) dX2_runBody_235 (fun r37 u38 H locs h hH => ?_)
                                      have hH : HH F D A (CX2 K o u38 ++ CX1 K o0 up0) H locs := hH
                                      refine v_imul X dX2_runBody_238 ?_
                                      exact v_wiret X hF u38 hH h dX2_runBody_239
                                    · have h := h.2 c36
                                      refine v_tableOut (tgt := 240) X dX2_runBody_29 (by have e0 : a2.toInt ≠ 10 := fun q => c4 (Int32.toInt_inj.mp (by rw [q]; rfl)); have e1 : a2.toInt ≠ 11 := fun q => c5 (Int32.toInt_inj.mp (by rw [q]; rfl)); have e2 : a2.toInt ≠ 12 := fun q => c10 (Int32.toInt_inj.mp (by rw [q]; rfl)); have e3 : a2.toInt ≠ 13 := fun q => c13 (Int32.toInt_inj.mp (by rw [q]; rfl)); have e4 : a2.toInt ≠ 14 := fun q => c16 (Int32.toInt_inj.mp (by rw [q]; rfl)); have e5 : a2.toInt ≠ 15 := fun q => c19 (Int32.toInt_inj.mp (by rw [q]; rfl)); have e6 : a2.toInt ≠ 16 := fun q => c20 (Int32.toInt_inj.mp (by rw [q]; rfl)); have e7 : a2.toInt ≠ 17 := fun q => c21 (Int32.toInt_inj.mp (by rw [q]; rfl)); have e8 : a2.toInt ≠ 18 := fun q => c22 (Int32.toInt_inj.mp (by rw [q]; rfl)); have e9 : a2.toInt ≠ 19 := fun q => c23 (Int32.toInt_inj.mp (by rw [q]; rfl)); have e10 : a2.toInt ≠ 20 := fun q => c24 (Int32.toInt_inj.mp (by rw [q]; rfl)); have e11 : a2.toInt ≠ 21 := fun q => c25 (Int32.toInt_inj.mp (by rw [q]; rfl)); have e12 : a2.toInt ≠ 22 := fun q => c28 (Int32.toInt_inj.mp (by rw [q]; rfl)); have e13 : a2.toInt ≠ 23 := fun q => c31 (Int32.toInt_inj.mp (by rw [q]; rfl)); have e14 : a2.toInt ≠ 24 := fun q => c36 (Int32.toInt_inj.mp (by rw [q]; rfl)); omega) (by decide) ?_
                                      refine v_iconst (v := (0 : Int32)) X dX2_runBody_240 (by decide) ?_
                                      exact v_wiret X hF u3 (hH.perm [8, 9, 0, 1, 2, 3, 4, 5, 6, 7] rfl rfl) h dX2_runBody_241
      · have h := h.1 c39
        refine v_iconst (v := (0 : Int32)) X dX2_runBody_15 (by decide) ?_
        exact v_wiret X hF u hH h dX2_runBody_16
def w_X2_begin (u : BX2) (up0 : BX1) (a1 : Int32) (a2 : Int32) (post : Int32 → BX2 → Prop) : Prop := w_X2_askAnew (w_X2_runBody 20) (u.1, (0 : Int32)) up0 a1 a2 (0 : Int32) (fun r1 u2 => post r1 u2)
set_option maxHeartbeats 4000000 in
set_option maxRecDepth 100000 in
theorem c_X2_begin (l : Launch) (D : va_G) (K : Nat → ClassId) (t : Nat → Nat) (o : Nat → Nat) (o0 : Nat → Nat) (u : BX2) (up0 : BX1) (a1 : Int32) (a2 : Int32) (post : Int32 → BX2 → Prop) (h : w_X2_begin u up0 a1 a2 post) : WrI l yX2_begin cX2_begin 4 (some .int) ({ frames := 47, cells := 0, slots := 0, locals := 1249 } : Room) D (TY K) t (CX2 K o u ++ CX1 K o0 up0) [.ref (o 0), .ref (o0 0), .int a1, .int a2] (fun z : BX2 => CX2 K o z ++ CX1 K o0 up0) (fun (r : Int32) (z : BX2) => post r z) := by
  refine WrI.mk rfl (Nat.le_of_ble_eq_true rfl) ?_
  intro F ls A _ hF X hH hA hl hT
  obtain ⟨H, hH0⟩ : ∃ z : Heap, z = (fxS F).heap := ⟨_, rfl⟩
  obtain ⟨locs, hL0⟩ : ∃ z : List Loc, z = [] := ⟨_, rfl⟩
  have hH : HH F D A (CX2 K o u ++ CX1 K o0 up0) H locs := by rw [hH0, hL0]; exact hH
  suffices goal : V F (WQI F D (TY K) A (fun z : BX2 => CX2 K o z ++ CX1 K o0 up0) (fun (r : Int32) (z : BX2) => post r z)) H locs 0 ls [] by rw [hH0, hL0] at goal; exact goal
  clear hH0 hL0
  have X : Cx F cX2_begin 4 RX2 D (TY K) := X
  have hl : lv_has ls 4 [(0, .ref (o 0)), (1, .ref (o0 0)), (2, .int a1), (3, .int a2)] := hl
  unfold w_X2_begin at h
  refine v_aload_n X dX2_begin_0 rfl (lv_at hl 0 rfl) ?_
  refine v_iconst (v := (0 : Int32)) X dX2_begin_1 (by decide) ?_
  refine v_put X hH 0 rfl fi_X2_15 (Nat.le_of_ble_eq_true rfl) dX2_begin_2 (fun H locs hH => ?_)
  have hH : HH F D A (CX2 K o (u.1, (0 : Int32)) ++ CX1 K o0 up0) H locs := hH
  refine v_aload_n X dX2_begin_5 rfl (lv_at hl 0 rfl) ?_
  refine v_aload_n X dX2_begin_6 rfl (lv_at hl 1 rfl) ?_
  refine v_iload_n X dX2_begin_7 rfl (lv_at hl 2 rfl) ?_
  refine v_iload_n X dX2_begin_8 rfl (lv_at hl 3 rfl) ?_
  refine v_iconst (v := (0 : Int32)) X dX2_begin_9 (by decide) ?_
  refine wrVI (As := [.ref (o0 0), .int a1, .int a2, .int (0 : Int32)]) (rest := []) (wr := ([] : va_W)) X mv_X2_19 (c_X2_askAnew F.2.1 D K t o o0 20 (c_X2_runBody F.2.1 D K t o o0 20) (u.1, (0 : Int32)) up0 a1 a2 (0 : Int32) _ h) hF ⟨rfl, rfl, Nat.le_of_ble_eq_true rfl, Nat.le_of_ble_eq_true rfl⟩ hT hA hH [0, 1, 2, 3, 4, 5, 6, 7, 8, 9] [] ⟨rfl, rfl, rfl, rfl, by decide⟩ 0 rfl rfl hl.1 rfl rfl (Nat.le_of_ble_eq_true rfl) dX2_begin_10 (fun r1 u2 H locs h hH => ?_)
  have hH : HH F D A (CX2 K o u2 ++ CX1 K o0 up0) H locs := hH
  exact v_wiret X hF u2 hH h dX2_begin_13
