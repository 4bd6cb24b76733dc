def wL_X4_findTaken_10 (y3 : Int32) (y4 : Int32) (b5 : BX1) (post : BX4 → Prop) (Kx10 : BX4 → Prop) : Nat → Int32 → BX4 → Prop
  | 0, _, _ => False
  | n10 + 1, x1, u2 => ((16 : Int32) ≤ x1 → Kx10 u2) ∧ (¬ (16 : Int32) ≤ x1 → ∀ x8 : Int32, x8 = (x1 &&& (x1 - (1 : Int32))) → (x8 = 0 → w_J6_numberOfTrailingZeros_0f7a4 x1 (fun r9 => w_X1_takenBy b5 r9 y3 y4 (fun r10 => vp_in x1 16 ∧ (wL_X4_findTaken_10 y3 y4 b5 post Kx10 n10 (x1 + (1 : Int32)) (u2.1, (upd u2.2.1 x1.toNatClampNeg r10), u2.2.2.1, u2.2.2.2.1, u2.2.2.2.2.1, u2.2.2.2.2.2.1, u2.2.2.2.2.2.2.1, u2.2.2.2.2.2.2.2))))) ∧ (¬ x8 = 0 → vp_in x8 16 ∧ (vp_in (x1 - x8) 16 ∧ (vp_in x1 16 ∧ (wL_X4_findTaken_10 y3 y4 b5 post Kx10 n10 (x1 + (1 : Int32)) (u2.1, (upd u2.2.1 x1.toNatClampNeg (if (u2.2.1 x8.toNatClampNeg) < (u2.2.1 (x1 - x8).toNatClampNeg) then (u2.2.1 (x1 - x8).toNatClampNeg) else (u2.2.1 x8.toNatClampNeg))), u2.2.2.1, u2.2.2.2.1, u2.2.2.2.2.1, u2.2.2.2.2.2.1, u2.2.2.2.2.2.2.1, u2.2.2.2.2.2.2.2))))))
def w_X4_findTaken (u : BX4) (up0 : BX1) (a1 : Int32) (a2 : Int32) (post : BX4 → Prop) : Prop := vp_in (0 : Int32) 16 ∧ (∃ n10, wL_X4_findTaken_10 a1 a2 up0 post (fun (u6 : BX4) => post u6) n10 (1 : Int32) (u.1, (upd u.2.1 (0 : Int32).toNatClampNeg (0 : Int32)), u.2.2.1, u.2.2.2.1, u.2.2.2.2.1, u.2.2.2.2.2.1, u.2.2.2.2.2.2.1, u.2.2.2.2.2.2.2))
set_option maxHeartbeats 4000000 in
set_option maxRecDepth 100000 in
theorem c_X4_findTaken (l : Launch) (D : va_G) (K : Nat → ClassId) (t : Nat → Nat) (o : Nat → Nat) (o0 : Nat → Nat) (u : BX4) (up0 : BX1) (a1 : Int32) (a2 : Int32) (post : BX4 → Prop) (h : w_X4_findTaken u up0 a1 a2 post) : WrV l yX4_findTaken cX4_findTaken 6 ({ frames := 3, cells := 0, slots := 0, locals := 88 } : Room) D (TY K) t (CX4 K o u ++ CX1 K o0 up0) [.ref (o 0), .ref (o0 0), .int a1, .int a2] (fun z : BX4 => CX4 K o z ++ CX1 K o0 up0) (fun z : BX4 => post z) := by
  refine WrV.mk rfl (Nat.le_of_ble_eq_true rfl) ?_
  intro F ls A _ hF X hH hA hl hT
  obtain ⟨H, hH0⟩ : ∃ z : Heap, z = (fxS F).heap := ⟨_, rfl⟩
  obtain ⟨locs, hL0⟩ : ∃ z : List Loc, z = [] := ⟨_, rfl⟩
  have hH : HH F D A (CX4 K o u ++ CX1 K o0 up0) H locs := by rw [hH0, hL0]; exact hH
  suffices goal : V F (WQV F D (TY K) A (fun z : BX4 => CX4 K o z ++ CX1 K o0 up0) (fun z : BX4 => post z)) H locs 0 ls [] by rw [hH0, hL0] at goal; exact goal
  clear hH0 hL0
  have X : Cx F cX4_findTaken 6 RX4 D (TY K) := X
  have hl : lv_has ls 6 [(0, .ref (o 0)), (1, .ref (o0 0)), (2, .int a1), (3, .int a2)] := hl
  unfold w_X4_findTaken at h
  refine v_aload_n X dX4_findTaken_0 rfl (lv_at hl 0 rfl) ?_
  refine v_get (v := .ref (o 2)) X hH.1 0 rfl fk_X4_15 rfl dX4_findTaken_1 ?_
  refine v_iconst (v := (0 : Int32)) X dX4_findTaken_4 (by decide) ?_
  refine v_iconst (v := (0 : Int32)) X dX4_findTaken_5 (by decide) ?_
  have hin := h.1
  have h := h.2
  refine v_iast (f := u.2.1) X hH 2 0 rfl rfl hin dX4_findTaken_6 (fun H locs hH => ?_)
  have hH : HH F D A (CX4 K o (u.1, (upd u.2.1 (0 : Int32).toNatClampNeg (0 : Int32)), u.2.2.1, u.2.2.2.1, u.2.2.2.2.1, u.2.2.2.2.2.1, u.2.2.2.2.2.2.1, u.2.2.2.2.2.2.2) ++ CX1 K o0 up0) H locs := hH
  refine v_iconst (v := (1 : Int32)) X dX4_findTaken_7 (by decide) ?_
  refine v_istore (lv' := [(4, .int (1 : Int32)), (0, .ref (o 0)), (1, .ref (o0 0)), (2, .int a1), (3, .int a2)]) X dX4_findTaken_8 hl (by decide) rfl (fun ls hl => ?_)
  obtain ⟨Kx10, hK10⟩ : ∃ f : BX4 → Prop, f = (fun (u6 : BX4) => post u6) := ⟨_, rfl⟩
  have kx7 : ∀ (u6 : BX4) (ls : Array Slot) (H : Heap) (locs : List Loc), (Kx10 u6) → lv_has ls 6 [] → HH F D A (CX4 K o u6 ++ CX1 K o0 up0) H locs → V F (WQV F D (TY K) A (fun z : BX4 => CX4 K o z ++ CX1 K o0 up0) (fun z : BX4 => post z)) H locs 78 ls [] := by
    intro u6 ls H locs h hl hH
    have h : post u6 := by rw [hK10] at h; exact h
    exact v_wvret X hF u6 hH h dX4_findTaken_78
  have lp10 : ∀ (n10 : Nat) (x1 : Int32) (u2 : BX4) (ls : Array Slot) (H : Heap) (locs : List Loc), wL_X4_findTaken_10 a1 a2 up0 post Kx10 n10 x1 u2 → lv_has ls 6 [(0, .ref (o 0)), (1, .ref (o0 0)), (2, .int a1), (3, .int a2), (4, .int x1)] → HH F D A (CX4 K o u2 ++ CX1 K o0 up0) H locs → V F (WQV F D (TY K) A (fun z : BX4 => CX4 K o z ++ CX1 K o0 up0) (fun z : BX4 => post z)) H locs 10 ls [] := by
    intro n10
    induction n10 with
    | zero => intro x1 u2 ls H locs h hl hH; exact h.elim
    | succ n10 ih10 =>
      intro x1 u2 ls H locs h hl hH
      refine v_iload X dX4_findTaken_10 (lv_at hl 4 rfl) ?_
      refine v_bipush (v := (16 : Int32)) X dX4_findTaken_12 (by decide) ?_
      refine v_icmp_ge (tgt := 78) X dX4_findTaken_14 (by decide) (fun c12 => ?_) (fun c12 => ?_)
      · have h := h.1 c12
        exact kx7 u2 ls H locs h (lv_sub hl [] rfl) hH
      · have h := h.2 c12
        refine v_iload X dX4_findTaken_17 (lv_at hl 4 rfl) ?_
        refine v_iload X dX4_findTaken_19 (lv_at hl 4 rfl) ?_
        refine v_iconst (v := (1 : Int32)) X dX4_findTaken_21 (by decide) ?_
        refine v_isub X dX4_findTaken_22 ?_
        refine v_iand X dX4_findTaken_23 ?_
        refine v_topi (fun x8 ex8 => ?_)
        have h := h x8 ex8
        refine v_istore (lv' := [(5, .int x8), (0, .ref (o 0)), (1, .ref (o0 0)), (2, .int a1), (3, .int a2), (4, .int x1)]) X dX4_findTaken_24 hl (by decide) rfl (fun ls hl => ?_)
        refine v_aload_n X dX4_findTaken_26 rfl (lv_at hl 1 rfl) ?_
        refine v_get (v := .ref (o 2)) X hH.1 0 rfl fk_X4_15 rfl dX4_findTaken_27 ?_
        refine v_iload X dX4_findTaken_30 (lv_at hl 5 rfl) ?_
        refine v_iload X dX4_findTaken_32 (lv_at hl 0 rfl) ?_
        refine v_if_ne (tgt := 51) X dX4_findTaken_34 (by decide) (fun c11 => ?_) (fun c11 => ?_)
        · have h := h.2 c11
          refine v_aload_n X dX4_findTaken_51 rfl (lv_at hl 1 rfl) ?_
          refine v_get (v := .ref (o 2)) X hH.1 0 rfl fk_X4_15 rfl dX4_findTaken_52 ?_
          refine v_iload X dX4_findTaken_55 (lv_at hl 0 rfl) ?_
          have hin := h.1
          have h := h.2
          refine v_iald (f := u2.2.1) X hH.1 2 0 rfl rfl hin dX4_findTaken_57 ?_
          refine v_aload_n X dX4_findTaken_58 rfl (lv_at hl 1 rfl) ?_
          refine v_get (v := .ref (o 2)) X hH.1 0 rfl fk_X4_15 rfl dX4_findTaken_59 ?_
          refine v_iload X dX4_findTaken_62 (lv_at hl 5 rfl) ?_
          refine v_iload X dX4_findTaken_64 (lv_at hl 0 rfl) ?_
          refine v_isub X dX4_findTaken_66 ?_
          have hin := h.1
          have h := h.2
          refine v_iald (f := u2.2.1) X hH.1 2 0 rfl rfl hin dX4_findTaken_67 ?_
          refine v_mmax X hl.1 hF km_X4_98 ⟨Nat.le_of_ble_eq_true rfl, Nat.le_of_ble_eq_true rfl⟩ dX4_findTaken_68 ?_
          have hin := h.1
          have h := h.2
          refine v_iast (f := u2.2.1) X hH 2 0 rfl rfl hin dX4_findTaken_71 (fun H locs hH => ?_)
          have hH : HH F D A (CX4 K o (u2.1, (upd u2.2.1 x1.toNatClampNeg (if (u2.2.1 x8.toNatClampNeg) < (u2.2.1 (x1 - x8).toNatClampNeg) then (u2.2.1 (x1 - x8).toNatClampNeg) else (u2.2.1 x8.toNatClampNeg))), u2.2.2.1, u2.2.2.2.1, u2.2.2.2.2.1, u2.2.2.2.2.2.1, u2.2.2.2.2.2.2.1, u2.2.2.2.2.2.2.2) ++ CX1 K o0 up0) H locs := hH
          refine v_iinc (v := (x1 + (1 : Int32))) (lv' := [(4, .int (x1 + (1 : Int32))), (5, .int x8), (0, .ref (o 0)), (1, .ref (o0 0)), (2, .int a1), (3, .int a2)]) X dX4_findTaken_72 hl (k := 5) rfl rfl (by decide) rfl (fun ls hl => ?_)
          refine v_goto (tgt := 10) X dX4_findTaken_75 (by decide) ?_
          exact ih10 (x1 + (1 : Int32)) (u2.1, (upd u2.2.1 x1.toNatClampNeg (if (u2.2.1 x8.toNatClampNeg) < (u2.2.1 (x1 - x8).toNatClampNeg) then (u2.2.1 (x1 - x8).toNatClampNeg) else (u2.2.1 x8.toNatClampNeg))), u2.2.2.1, u2.2.2.2.1, u2.2.2.2.2.1, u2.2.2.2.2.2.1, u2.2.2.2.2.2.2.1, u2.2.2.2.2.2.2.2) ls H locs h (lv_sub hl [2, 3, 4, 5, 0] rfl) hH
        · have h := h.1 c11
          refine v_aload_n X dX4_findTaken_37 rfl (lv_at hl 2 rfl) ?_
          refine v_iload X dX4_findTaken_38 (lv_at hl 5 rfl) ?_
          refine rdS (As := [.int x1]) (rest := [.ref (o0 0), .int x1, .ref (o 2)]) X ms_X4_89 (c_J6_numberOfTrailingZeros_0f7a4 F.2.1 D K t x1 _ h) hF ⟨rfl, rfl, Nat.le_of_ble_eq_true rfl, Nat.le_of_ble_eq_true rfl⟩ (stW hT hH) hH.1 [] rfl hl.1 rfl rfl (Nat.le_of_ble_eq_true rfl) dX4_findTaken_40 (fun r9 h => ?_)
          refine v_iload_n X dX4_findTaken_43 rfl (lv_at hl 3 rfl) ?_
          refine v_iload_n X dX4_findTaken_44 rfl (lv_at hl 4 rfl) ?_
          refine rdV (As := [.int r9, .int a1, .int a2]) (rest := [.int x1, .ref (o 2)]) X mv_X4_94 (c_X1_takenBy F.2.1 D K t o0 up0 r9 a1 a2 _ h) hF ⟨rfl, rfl, Nat.le_of_ble_eq_true rfl, Nat.le_of_ble_eq_true rfl⟩ (stW hT hH) hH.1 [6, 7, 8, 9, 10, 11, 12, 13] rfl 6 rfl rfl hl.1 rfl rfl (Nat.le_of_ble_eq_true rfl) dX4_findTaken_45 (fun r10 h => ?_)
          refine v_goto (tgt := 71) X dX4_findTaken_48 (by decide) ?_
          have hin := h.1
          have h := h.2
          refine v_iast (f := u2.2.1) X hH 2 0 rfl rfl hin dX4_findTaken_71 (fun H locs hH => ?_)
          have hH : HH F D A (CX4 K o (u2.1, (upd u2.2.1 x1.toNatClampNeg r10), u2.2.2.1, u2.2.2.2.1, u2.2.2.2.2.1, u2.2.2.2.2.2.1, u2.2.2.2.2.2.2.1, u2.2.2.2.2.2.2.2) ++ CX1 K o0 up0) H locs := hH
          refine v_iinc (v := (x1 + (1 : Int32))) (lv' := [(4, .int (x1 + (1 : Int32))), (5, .int x8), (0, .ref (o 0)), (1, .ref (o0 0)), (2, .int a1), (3, .int a2)]) X dX4_findTaken_72 hl (k := 5) rfl rfl (by decide) rfl (fun ls hl => ?_)
          refine v_goto (tgt := 10) X dX4_findTaken_75 (by decide) ?_
          exact ih10 (x1 + (1 : Int32)) (u2.1, (upd u2.2.1 x1.toNatClampNeg r10), u2.2.2.1, u2.2.2.2.1, u2.2.2.2.2.1, u2.2.2.2.2.2.1, u2.2.2.2.2.2.2.1, u2.2.2.2.2.2.2.2) ls H locs h (lv_sub hl [2, 3, 4, 5, 0] rfl) hH
  obtain ⟨n10, h⟩ := h
  have h : wL_X4_findTaken_10 a1 a2 up0 post Kx10 n10 (1 : Int32) (u.1, (upd u.2.1 (0 : Int32).toNatClampNeg (0 : Int32)), u.2.2.1, u.2.2.2.1, u.2.2.2.2.1, u.2.2.2.2.2.1, u.2.2.2.2.2.2.1, u.2.2.2.2.2.2.2) := by rw [hK10]; exact h
  exact lp10 n10 (1 : Int32) (u.1, (upd u.2.1 (0 : Int32).toNatClampNeg (0 : Int32)), u.2.2.1, u.2.2.2.1, u.2.2.2.2.1, u.2.2.2.2.2.1, u.2.2.2.2.2.2.1, u.2.2.2.2.2.2.2) ls H locs h (lv_sub hl [1, 2, 3, 4, 0] rfl) hH
def wL_X4_foretellSets_69 (y24 : Int32) (y25 : Int32) (y26 : Int32) (b27 : BX1) (post : BX4 → Prop) (Kx69 : BX4 → Prop) : Nat → Int32 → BX4 → Prop
  | 0, _, _ => False
  | n69 + 1, x22, u23 => ((16 : Int32) ≤ x22 → Kx69 u23) ∧ (¬ (16 : Int32) ≤ x22 → ∀ x30 : Int32, x30 = ((y25 * (16 : Int32)) + x22) → vp_in x30 80 ∧ (vp_in x22 16 ∧ (w_X1_nextWeight (u23.1 x30.toNatClampNeg) (u23.2.1 x22.toNatClampNeg) (fun r31 => vp_in x30 80 ∧ (wL_X4_foretellSets_69 y24 y25 y26 b27 post Kx69 n69 (x22 + (1 : Int32)) ((upd u23.1 x30.toNatClampNeg r31), u23.2.1, u23.2.2.1, u23.2.2.2.1, u23.2.2.2.2.1, u23.2.2.2.2.2.1, u23.2.2.2.2.2.2.1, u23.2.2.2.2.2.2.2))))))
def wL_X4_foretellSets_47 (y15 : Int32) (y16 : Int32) (b17 : BX1) (post : BX4 → Prop) (Kx47 : BX4 → Prop) : Nat → Int32 → BX4 → Prop
  | 0, _, _ => False
  | n47 + 1, x13, u14 => (y15 ≤ x13 → Kx47 u14) ∧ (¬ y15 ≤ x13 → w_X4_findTaken u14 b17 y16 (b17.2.2.2.2.2.2.2.2.2.2.2 + x13) (fun u21 => ∃ n69, wL_X4_foretellSets_69 y15 y16 x13 b17 post (fun (u28 : BX4) => wL_X4_foretellSets_47 y15 y16 b17 post Kx47 n47 (x13 + (1 : Int32)) u28) n69 (0 : Int32) u21))
def wL_X4_foretellSets_13 (y9 : Int32) (y10 : Int32) (b11 : BX1) (post : BX4 → Prop) (Kx13 : BX4 → Prop) : Nat → Int32 → BX4 → Prop
  | 0, _, _ => False
  | n13 + 1, x7, u8 => ((16 : Int32) ≤ x7 → Kx13 u8) ∧ (¬ (16 : Int32) ≤ x7 → vp_in y10 5 ∧ (vp_in ((y10 * (16 : Int32)) + x7) 80 ∧ (wL_X4_foretellSets_13 y9 y10 b11 post Kx13 n13 (x7 + (1 : Int32)) ((upd u8.1 ((y10 * (16 : Int32)) + x7).toNatClampNeg (b11.1 y10.toNatClampNeg)), u8.2.1, u8.2.2.1, u8.2.2.2.1, u8.2.2.2.2.1, u8.2.2.2.2.2.1, u8.2.2.2.2.2.2.1, u8.2.2.2.2.2.2.2))))
def wL_X4_foretellSets_2 (y3 : Int32) (b4 : BX1) (post : BX4 → Prop) (Kx2 : BX4 → Prop) : Nat → Int32 → BX4 → Prop
  | 0, _, _ => False
  | n2 + 1, x1, u2 => (b4.2.2.2.2.2.2.2.1 ≤ x1 → Kx2 u2) ∧ (¬ b4.2.2.2.2.2.2.2.1 ≤ x1 → ∃ n13, wL_X4_foretellSets_13 y3 x1 b4 post (fun (u12 : BX4) => ∃ n47, wL_X4_foretellSets_47 y3 x1 b4 post (fun (u18 : BX4) => wL_X4_foretellSets_2 y3 b4 post Kx2 n2 (x1 + (1 : Int32)) u18) n47 (0 : Int32) u12) n13 (0 : Int32) u2)
def w_X4_foretellSets (u : BX4) (up0 : BX1) (a1 : Int32) (post : BX4 → Prop) : Prop := ∃ n2, wL_X4_foretellSets_2 a1 up0 post (fun (u5 : BX4) => post u5) n2 (0 : Int32) u
set_option maxHeartbeats 4000000 in
set_option maxRecDepth 100000 in
theorem c_X4_foretellSets (l : Launch) (D : va_G) (K : Nat → ClassId) (t : Nat → Nat) (o : Nat → Nat) (o0 : Nat → Nat) (u : BX4) (up0 : BX1) (a1 : Int32) (post : BX4 → Prop) (h : w_X4_foretellSets u up0 a1 post) : WrV l yX4_foretellSets cX4_foretellSets 7 ({ frames := 4, cells := 0, slots := 0, locals := 113 } : Room) D (TY K) t (CX4 K o u ++ CX1 K o0 up0) [.ref (o 0), .ref (o0 0), .int a1] (fun z : BX4 => CX4 K o z ++ CX1 K o0 up0) (fun z : BX4 => post z) := by
  refine WrV.mk rfl (Nat.le_of_ble_eq_true rfl) ?_
  intro F ls A _ hF X hH hA hl hT
  obtain ⟨H, hH0⟩ : ∃ z : Heap, z = (fxS F).heap := ⟨_, rfl⟩
  obtain ⟨locs, hL0⟩ : ∃ z : List Loc, z = [] := ⟨_, rfl⟩
  have hH : HH F D A (CX4 K o u ++ CX1 K o0 up0) H locs := by rw [hH0, hL0]; exact hH
  suffices goal : V F (WQV F D (TY K) A (fun z : BX4 => CX4 K o z ++ CX1 K o0 up0) (fun z : BX4 => post z)) H locs 0 ls [] by rw [hH0, hL0] at goal; exact goal
  clear hH0 hL0
  have X : Cx F cX4_foretellSets 7 RX4 D (TY K) := X
  have hl : lv_has ls 7 [(0, .ref (o 0)), (1, .ref (o0 0)), (2, .int a1)] := hl
  unfold w_X4_foretellSets at h
  refine v_iconst (v := (0 : Int32)) X dX4_foretellSets_0 (by decide) ?_
  refine v_istore_n (lv' := [(3, .int (0 : Int32)), (0, .ref (o 0)), (1, .ref (o0 0)), (2, .int a1)]) X dX4_foretellSets_1 rfl hl (by decide) rfl (fun ls hl => ?_)
  obtain ⟨Kx2, hK2⟩ : ∃ f : BX4 → Prop, f = (fun (u5 : BX4) => post u5) := ⟨_, rfl⟩
  have kx6 : ∀ (u5 : BX4) (ls : Array Slot) (H : Heap) (locs : List Loc), (Kx2 u5) → lv_has ls 7 [] → HH F D A (CX4 K o u5 ++ CX1 K o0 up0) H locs → V F (WQV F D (TY K) A (fun z : BX4 => CX4 K o z ++ CX1 K o0 up0) (fun z : BX4 => post z)) H locs 127 ls [] := by
    intro u5 ls H locs h hl hH
    have h : post u5 := by rw [hK2] at h; exact h
    exact v_wvret X hF u5 hH h dX4_foretellSets_127
  have lp2 : ∀ (n2 : Nat) (x1 : Int32) (u2 : BX4) (ls : Array Slot) (H : Heap) (locs : List Loc), wL_X4_foretellSets_2 a1 up0 post Kx2 n2 x1 u2 → lv_has ls 7 [(0, .ref (o 0)), (1, .ref (o0 0)), (2, .int a1), (3, .int x1)] → HH F D A (CX4 K o u2 ++ CX1 K o0 up0) H locs → V F (WQV F D (TY K) A (fun z : BX4 => CX4 K o z ++ CX1 K o0 up0) (fun z : BX4 => post z)) H locs 2 ls [] := by
    intro n2
    induction n2 with
    | zero => intro x1 u2 ls H locs h hl hH; exact h.elim
    | succ n2 ih2 =>
      intro x1 u2 ls H locs h hl hH
      refine v_iload_n X dX4_foretellSets_2 rfl (lv_at hl 3 rfl) ?_
      refine v_aload_n X dX4_foretellSets_3 rfl (lv_at hl 1 rfl) ?_
      refine v_get (v := .int up0.2.2.2.2.2.2.2.1) X hH.1 6 rfl fk_X4_43 rfl dX4_foretellSets_4 ?_
      refine v_icmp_ge (tgt := 127) X dX4_foretellSets_7 (by decide) (fun c36 => ?_) (fun c36 => ?_)
      · have h := h.1 c36
        exact kx6 u2 ls H locs h (lv_sub hl [] rfl) hH
      · have h := h.2 c36
        refine v_iconst (v := (0 : Int32)) X dX4_foretellSets_10 (by decide) ?_
        refine v_istore (lv' := [(4, .int (0 : Int32)), (0, .ref (o 0)), (1, .ref (o0 0)), (2, .int a1), (3, .int x1)]) X dX4_foretellSets_11 hl (by decide) rfl (fun ls hl => ?_)
        obtain ⟨Kx13, hK13⟩ : ∃ f : BX4 → Prop, f = (fun (u12 : BX4) => ∃ n47, wL_X4_foretellSets_47 a1 x1 up0 post (fun (u18 : BX4) => wL_X4_foretellSets_2 a1 up0 post Kx2 n2 (x1 + (1 : Int32)) u18) n47 (0 : Int32) u12) := ⟨_, rfl⟩
        have kx34 : ∀ (u12 : BX4) (ls : Array Slot) (H : Heap) (locs : List Loc), (Kx13 u12) → lv_has ls 7 [(0, .ref (o 0)), (1, .ref (o0 0)), (2, .int a1), (3, .int x1)] → HH F D A (CX4 K o u12 ++ CX1 K o0 up0) H locs → V F (WQV F D (TY K) A (fun z : BX4 => CX4 K o z ++ CX1 K o0 up0) (fun z : BX4 => post z)) H locs 44 ls [] := by
          intro u12 ls H locs h hl hH
          have h : ∃ n47, wL_X4_foretellSets_47 a1 x1 up0 post (fun (u18 : BX4) => wL_X4_foretellSets_2 a1 up0 post Kx2 n2 (x1 + (1 : Int32)) u18) n47 (0 : Int32) u12 := by rw [hK13] at h; exact h
          refine v_iconst (v := (0 : Int32)) X dX4_foretellSets_44 (by decide) ?_
          refine v_istore (lv' := [(4, .int (0 : Int32)), (0, .ref (o 0)), (1, .ref (o0 0)), (2, .int a1), (3, .int x1)]) X dX4_foretellSets_45 hl (by decide) rfl (fun ls hl => ?_)
          obtain ⟨Kx47, hK47⟩ : ∃ f : BX4 → Prop, f = (fun (u18 : BX4) => wL_X4_foretellSets_2 a1 up0 post Kx2 n2 (x1 + (1 : Int32)) u18) := ⟨_, rfl⟩
          have kx19 : ∀ (u18 : BX4) (ls : Array Slot) (H : Heap) (locs : List Loc), (Kx47 u18) → lv_has ls 7 [(0, .ref (o 0)), (1, .ref (o0 0)), (2, .int a1), (3, .int x1)] → HH F D A (CX4 K o u18 ++ CX1 K o0 up0) H locs → V F (WQV F D (TY K) A (fun z : BX4 => CX4 K o z ++ CX1 K o0 up0) (fun z : BX4 => post z)) H locs 121 ls [] := by
            intro u18 ls H locs h hl hH
            have h : wL_X4_foretellSets_2 a1 up0 post Kx2 n2 (x1 + (1 : Int32)) u18 := by rw [hK47] at h; exact h
            refine v_iinc (v := (x1 + (1 : Int32))) (lv' := [(3, .int (x1 + (1 : Int32))), (0, .ref (o 0)), (1, .ref (o0 0)), (2, .int a1)]) X dX4_foretellSets_121 hl (k := 3) rfl rfl (by decide) rfl (fun ls hl => ?_)
            refine v_goto (tgt := 2) X dX4_foretellSets_124 (by decide) ?_
            exact ih2 (x1 + (1 : Int32)) u18 ls H locs h (lv_sub hl [1, 2, 3, 0] rfl) hH
          have lp47 : ∀ (n47 : Nat) (x13 : Int32) (u14 : BX4) (ls : Array Slot) (H : Heap) (locs : List Loc), wL_X4_foretellSets_47 a1 x1 up0 post Kx47 n47 x13 u14 → lv_has ls 7 [(0, .ref (o 0)), (1, .ref (o0 0)), (2, .int a1), (3, .int x1), (4, .int x13)] → HH F D A (CX4 K o u14 ++ CX1 K o0 up0) H locs → V F (WQV F D (TY K) A (fun z : BX4 => CX4 K o z ++ CX1 K o0 up0) (fun z : BX4 => post z)) H locs 47 ls [] := by
            intro n47
            induction n47 with
            | zero => intro x13 u14 ls H locs h hl hH; exact h.elim
            | succ n47 ih47 =>
              intro x13 u14 ls H locs h hl hH
              refine v_iload X dX4_foretellSets_47 (lv_at hl 4 rfl) ?_
              refine v_iload_n X dX4_foretellSets_49 rfl (lv_at hl 2 rfl) ?_
              refine v_icmp_ge (tgt := 121) X dX4_foretellSets_50 (by decide) (fun c33 => ?_) (fun c33 => ?_)
              · have h := h.1 c33
                exact kx19 u14 ls H locs h (lv_sub hl [0, 1, 2, 3] rfl) hH
              · have h := h.2 c33
                refine v_aload_n X dX4_foretellSets_53 rfl (lv_at hl 0 rfl) ?_
                refine v_aload_n X dX4_foretellSets_54 rfl (lv_at hl 1 rfl) ?_
                refine v_iload_n X dX4_foretellSets_55 rfl (lv_at hl 3 rfl) ?_
                refine v_aload_n X dX4_foretellSets_56 rfl (lv_at hl 1 rfl) ?_
                refine v_get (v := .int up0.2.2.2.2.2.2.2.2.2.2.2) X hH.1 6 rfl fk_X4_78 rfl dX4_foretellSets_57 ?_
                refine v_iload X dX4_foretellSets_60 (lv_at hl 4 rfl) ?_
                refine v_iadd X dX4_foretellSets_62 ?_
                refine wrVV (As := [.ref (o0 0), .int x1, .int (up0.2.2.2.2.2.2.2.2.2.2.2 + x13)]) (rest := []) (wr := ([] : va_W)) X mv_X4_81 (c_X4_findTaken F.2.1 D K t o o0 u14 up0 x1 (up0.2.2.2.2.2.2.2.2.2.2.2 + x13) _ h) hF ⟨rfl, rfl, Nat.le_of_ble_eq_true rfl, Nat.le_of_ble_eq_true rfl⟩ hT hA hH [0, 1, 2, 3, 4, 5, 6, 7, 8, 9, 10, 11, 12, 13] [] ⟨rfl, rfl, rfl, rfl, by decide⟩ 0 rfl rfl hl.1 rfl rfl (Nat.le_of_ble_eq_true rfl) dX4_foretellSets_63 (fun u21 H locs h hH => ?_)
                have hH : HH F D A (CX4 K o u21 ++ CX1 K o0 up0) H locs := hH
                refine v_iconst (v := (0 : Int32)) X dX4_foretellSets_66 (by decide) ?_
                refine v_istore (lv' := [(5, .int (0 : Int32)), (0, .ref (o 0)), (1, .ref (o0 0)), (2, .int a1), (3, .int x1), (4, .int x13)]) X dX4_foretellSets_67 hl (by decide) rfl (fun ls hl => ?_)
                obtain ⟨Kx69, hK69⟩ : ∃ f : BX4 → Prop, f = (fun (u28 : BX4) => wL_X4_foretellSets_47 a1 x1 up0 post Kx47 n47 (x13 + (1 : Int32)) u28) := ⟨_, rfl⟩
                have kx29 : ∀ (u28 : BX4) (ls : Array Slot) (H : Heap) (locs : List Loc), (Kx69 u28) → lv_has ls 7 [(0, .ref (o 0)), (1, .ref (o0 0)), (2, .int a1), (3, .int x1), (4, .int x13)] → HH F D A (CX4 K o u28 ++ CX1 K o0 up0) H locs → V F (WQV F D (TY K) A (fun z : BX4 => CX4 K o z ++ CX1 K o0 up0) (fun z : BX4 => post z)) H locs 115 ls [] := by
                  intro u28 ls H locs h hl hH
                  have h : wL_X4_foretellSets_47 a1 x1 up0 post Kx47 n47 (x13 + (1 : Int32)) u28 := by rw [hK69] at h; exact h
                  refine v_iinc (v := (x13 + (1 : Int32))) (lv' := [(4, .int (x13 + (1 : Int32))), (0, .ref (o 0)), (1, .ref (o0 0)), (2, .int a1), (3, .int x1)]) X dX4_foretellSets_115 hl (k := 4) rfl rfl (by decide) rfl (fun ls hl => ?_)
                  refine v_goto (tgt := 47) X dX4_foretellSets_118 (by decide) ?_
                  exact ih47 (x13 + (1 : Int32)) u28 ls H locs h (lv_sub hl [1, 2, 3, 4, 0] rfl) hH
                have lp69 : ∀ (n69 : Nat) (x22 : Int32) (u23 : BX4) (ls : Array Slot) (H : Heap) (locs : List Loc), wL_X4_foretellSets_69 a1 x1 x13 up0 post Kx69 n69 x22 u23 → lv_has ls 7 [(0, .ref (o 0)), (1, .ref (o0 0)), (2, .int a1), (3, .int x1), (4, .int x13), (5, .int x22)] → HH F D A (CX4 K o u23 ++ CX1 K o0 up0) H locs → V F (WQV F D (TY K) A (fun z : BX4 => CX4 K o z ++ CX1 K o0 up0) (fun z : BX4 => post z)) H locs 69 ls [] := by
                  intro n69
                  induction n69 with
                  | zero => intro x22 u23 ls H locs h hl hH; exact h.elim
                  | succ n69 ih69 =>
                    intro x22 u23 ls H locs h hl hH
                    refine v_iload X dX4_foretellSets_69 (lv_at hl 5 rfl) ?_
                    refine v_bipush (v := (16 : Int32)) X dX4_foretellSets_71 (by decide) ?_
                    refine v_icmp_ge (tgt := 115) X dX4_foretellSets_73 (by decide) (fun c32 => ?_) (fun c32 => ?_)
                    · have h := h.1 c32
                      exact kx29 u23 ls H locs h (lv_sub hl [0, 1, 2, 3, 4] rfl) hH
                    · have h := h.2 c32
                      refine v_iload_n X dX4_foretellSets_76 rfl (lv_at hl 3 rfl) ?_
                      refine v_bipush (v := (16 : Int32)) X dX4_foretellSets_77 (by decide) ?_
                      refine v_imul X dX4_foretellSets_79 ?_
                      refine v_iload X dX4_foretellSets_80 (lv_at hl 5 rfl) ?_
                      refine v_iadd X dX4_foretellSets_82 ?_
                      refine v_topi (fun x30 ex30 => ?_)
                      have h := h x30 ex30
                      refine v_istore (lv' := [(6, .int x30), (0, .ref (o 0)), (1, .ref (o0 0)), (2, .int a1), (3, .int x1), (4, .int x13), (5, .int x22)]) X dX4_foretellSets_83 hl (by decide) rfl (fun ls hl => ?_)
                      refine v_aload_n X dX4_foretellSets_85 rfl (lv_at hl 1 rfl) ?_
                      refine v_get (v := .ref (o 1)) X hH.1 0 rfl fk_X4_9 rfl dX4_foretellSets_86 ?_
                      refine v_iload X dX4_foretellSets_89 (lv_at hl 0 rfl) ?_
                      refine v_aload_n X dX4_foretellSets_91 rfl (lv_at hl 1 rfl) ?_
                      refine v_get (v := .ref (o 1)) X hH.1 0 rfl fk_X4_9 rfl dX4_foretellSets_92 ?_
                      refine v_iload X dX4_foretellSets_95 (lv_at hl 0 rfl) ?_
                      have hin := h.1
                      have h := h.2
                      refine v_iald (f := u23.1) X hH.1 1 0 rfl rfl hin dX4_foretellSets_97 ?_
                      refine v_aload_n X dX4_foretellSets_98 rfl (lv_at hl 1 rfl) ?_
                      refine v_get (v := .ref (o 2)) X hH.1 0 rfl fk_X4_15 rfl dX4_foretellSets_99 ?_
                      refine v_iload X dX4_foretellSets_102 (lv_at hl 6 rfl) ?_
                      have hin := h.1
                      have h := h.2
                      refine v_iald (f := u23.2.1) X hH.1 2 0 rfl rfl hin dX4_foretellSets_104 ?_
                      refine rdS (As := [.int (u23.1 x30.toNatClampNeg), .int (u23.2.1 x22.toNatClampNeg)]) (rest := [.int x30, .ref (o 1)]) X ms_X4_85 (c_X1_nextWeight F.2.1 D K t (u23.1 x30.toNatClampNeg) (u23.2.1 x22.toNatClampNeg) _ h) hF ⟨rfl, rfl, Nat.le_of_ble_eq_true rfl, Nat.le_of_ble_eq_true rfl⟩ (stW hT hH) hH.1 [] rfl hl.1 rfl rfl (Nat.le_of_ble_eq_true rfl) dX4_foretellSets_105 (fun r31 h => ?_)
                      have hin := h.1
                      have h := h.2
                      refine v_iast (f := u23.1) X hH 1 0 rfl rfl hin dX4_foretellSets_108 (fun H locs hH => ?_)
                      have hH : HH F D A (CX4 K o ((upd u23.1 x30.toNatClampNeg r31), u23.2.1, u23.2.2.1, u23.2.2.2.1, u23.2.2.2.2.1, u23.2.2.2.2.2.1, u23.2.2.2.2.2.2.1, u23.2.2.2.2.2.2.2) ++ CX1 K o0 up0) H locs := hH
                      refine v_iinc (v := (x22 + (1 : Int32))) (lv' := [(5, .int (x22 + (1 : Int32))), (6, .int x30), (0, .ref (o 0)), (1, .ref (o0 0)), (2, .int a1), (3, .int x1), (4, .int x13)]) X dX4_foretellSets_109 hl (k := 6) rfl rfl (by decide) rfl (fun ls hl => ?_)
                      refine v_goto (tgt := 69) X dX4_foretellSets_112 (by decide) ?_
                      exact ih69 (x22 + (1 : Int32)) ((upd u23.1 x30.toNatClampNeg r31), u23.2.1, u23.2.2.1, u23.2.2.2.1, u23.2.2.2.2.1, u23.2.2.2.2.2.1, u23.2.2.2.2.2.2.1, u23.2.2.2.2.2.2.2) ls H locs h (lv_sub hl [2, 3, 4, 5, 6, 0] rfl) hH
                obtain ⟨n69, h⟩ := h
                have h : wL_X4_foretellSets_69 a1 x1 x13 up0 post Kx69 n69 (0 : Int32) u21 := by rw [hK69]; exact h
                exact lp69 n69 (0 : Int32) u21 ls H locs h (lv_sub hl [1, 2, 3, 4, 5, 0] rfl) hH
          obtain ⟨n47, h⟩ := h
          have h : wL_X4_foretellSets_47 a1 x1 up0 post Kx47 n47 (0 : Int32) u12 := by rw [hK47]; exact h
          exact lp47 n47 (0 : Int32) u12 ls H locs h (lv_sub hl [1, 2, 3, 4, 0] rfl) hH
        have lp13 : ∀ (n13 : Nat) (x7 : Int32) (u8 : BX4) (ls : Array Slot) (H : Heap) (locs : List Loc), wL_X4_foretellSets_13 a1 x1 up0 post Kx13 n13 x7 u8 → lv_has ls 7 [(0, .ref (o 0)), (1, .ref (o0 0)), (2, .int a1), (3, .int x1), (4, .int x7)] → HH F D A (CX4 K o u8 ++ CX1 K o0 up0) H locs → V F (WQV F D (TY K) A (fun z : BX4 => CX4 K o z ++ CX1 K o0 up0) (fun z : BX4 => post z)) H locs 13 ls [] := by
          intro n13
          induction n13 with
          | zero => intro x7 u8 ls H locs h hl hH; exact h.elim
          | succ n13 ih13 =>
            intro x7 u8 ls H locs h hl hH
            refine v_iload X dX4_foretellSets_13 (lv_at hl 4 rfl) ?_
            refine v_bipush (v := (16 : Int32)) X dX4_foretellSets_15 (by decide) ?_
            refine v_icmp_ge (tgt := 44) X dX4_foretellSets_17 (by decide) (fun c35 => ?_) (fun c35 => ?_)
            · have h := h.1 c35
              exact kx34 u8 ls H locs h (lv_sub hl [0, 1, 2, 3] rfl) hH
            · have h := h.2 c35
              refine v_aload_n X dX4_foretellSets_20 rfl (lv_at hl 0 rfl) ?_
              refine v_get (v := .ref (o 1)) X hH.1 0 rfl fk_X4_9 rfl dX4_foretellSets_21 ?_
              refine v_iload_n X dX4_foretellSets_24 rfl (lv_at hl 3 rfl) ?_
              refine v_bipush (v := (16 : Int32)) X dX4_foretellSets_25 (by decide) ?_
              refine v_imul X dX4_foretellSets_27 ?_
              refine v_iload X dX4_foretellSets_28 (lv_at hl 4 rfl) ?_
              refine v_iadd X dX4_foretellSets_30 ?_
              refine v_aload_n X dX4_foretellSets_31 rfl (lv_at hl 1 rfl) ?_
              refine v_get (v := .ref (o0 1)) X hH.1 6 rfl fk_X4_75 rfl dX4_foretellSets_32 ?_
              refine v_iload_n X dX4_foretellSets_35 rfl (lv_at hl 3 rfl) ?_
              have hin := h.1
              have h := h.2
              refine v_iald (f := up0.1) X hH.1 7 0 rfl rfl hin dX4_foretellSets_36 ?_
              have hin := h.1
              have h := h.2
              refine v_iast (f := u8.1) X hH 1 0 rfl rfl hin dX4_foretellSets_37 (fun H locs hH => ?_)
              have hH : HH F D A (CX4 K o ((upd u8.1 ((x1 * (16 : Int32)) + x7).toNatClampNeg (up0.1 x1.toNatClampNeg)), u8.2.1, u8.2.2.1, u8.2.2.2.1, u8.2.2.2.2.1, u8.2.2.2.2.2.1, u8.2.2.2.2.2.2.1, u8.2.2.2.2.2.2.2) ++ CX1 K o0 up0) H locs := hH
              refine v_iinc (v := (x7 + (1 : Int32))) (lv' := [(4, .int (x7 + (1 : Int32))), (0, .ref (o 0)), (1, .ref (o0 0)), (2, .int a1), (3, .int x1)]) X dX4_foretellSets_38 hl (k := 4) rfl rfl (by decide) rfl (fun ls hl => ?_)
              refine v_goto (tgt := 13) X dX4_foretellSets_41 (by decide) ?_
              exact ih13 (x7 + (1 : Int32)) ((upd u8.1 ((x1 * (16 : Int32)) + x7).toNatClampNeg (up0.1 x1.toNatClampNeg)), u8.2.1, u8.2.2.1, u8.2.2.2.1, u8.2.2.2.2.1, u8.2.2.2.2.2.1, u8.2.2.2.2.2.2.1, u8.2.2.2.2.2.2.2) ls H locs h (lv_sub hl [1, 2, 3, 4, 0] rfl) hH
        obtain ⟨n13, h⟩ := h
        have h : wL_X4_foretellSets_13 a1 x1 up0 post Kx13 n13 (0 : Int32) u2 := by rw [hK13]; exact h
        exact lp13 n13 (0 : Int32) u2 ls H locs h (lv_sub hl [1, 2, 3, 4, 0] rfl) hH
  obtain ⟨n2, h⟩ := h
  have h : wL_X4_foretellSets_2 a1 up0 post Kx2 n2 (0 : Int32) u := by rw [hK2]; exact h
  exact lp2 n2 (0 : Int32) u ls H locs h (lv_sub hl [1, 2, 3, 0] rfl) hH
def wL_X4_waysToLet_4 (b3 : BX1) (post : Int32 → Prop) (Kx4 : Int32 → Prop) : Nat → Int32 → Int32 → Prop
  | 0, _, _ => False
  | n4 + 1, x1, x2 => (b3.2.2.2.2.2.2.2.2.1 ≤ x2 → Kx4 x1) ∧ (¬ b3.2.2.2.2.2.2.2.2.1 ≤ x2 → ∀ x6 : Int32, x6 = (x1 * (b3.2.2.2.2.2.2.2.1 + (1 : Int32))) → wL_X4_waysToLet_4 b3 post Kx4 n4 x6 (x2 + (1 : Int32)))
def w_X4_waysToLet (up0 : BX1) (post : Int32 → Prop) : Prop := ∃ n4, wL_X4_waysToLet_4 up0 post (fun (x4 : Int32) => post x4) n4 (1 : Int32) (0 : Int32)
set_option maxHeartbeats 4000000 in
set_option maxRecDepth 100000 in
theorem c_X4_waysToLet (l : Launch) (D : va_G) (K : Nat → ClassId) (t : Nat → Nat) (o0 : Nat → Nat) (up0 : BX1) (post : Int32 → Prop) (h : w_X4_waysToLet up0 post) : RdM l yX4_waysToLet cX4_waysToLet 3 (some .int) ({ frames := 0, cells := 0, slots := 0, locals := 0 } : Room) D (TY K) t (CX1 K o0 up0) [.ref (o0 0)] post := by
  refine RdM.mk rfl (Nat.le_of_ble_eq_true rfl) ?_
  intro F ls _ hF X hP hl hT
  have X : Cx F cX4_waysToLet 3 RX4 D (TY K) := X
  have hl : lv_has ls 3 [(0, .ref (o0 0))] := hl
  unfold w_X4_waysToLet at h
  refine v_iconst (v := (1 : Int32)) X dX4_waysToLet_0 (by decide) ?_
  refine v_istore_n (lv' := [(1, .int (1 : Int32)), (0, .ref (o0 0))]) X dX4_waysToLet_1 rfl hl (by decide) rfl (fun ls hl => ?_)
  refine v_iconst (v := (0 : Int32)) X dX4_waysToLet_2 (by decide) ?_
  refine v_istore_n (lv' := [(2, .int (0 : Int32)), (1, .int (1 : Int32)), (0, .ref (o0 0))]) X dX4_waysToLet_3 rfl hl (by decide) rfl (fun ls hl => ?_)
  obtain ⟨Kx4, hK4⟩ : ∃ f : Int32 → Prop, f = (fun (x4 : Int32) => post x4) := ⟨_, rfl⟩
  have kx5 : ∀ (x4 : Int32) (ls : Array Slot), (Kx4 x4) → lv_has ls 3 [(1, .int x4)] → V F (RQ F post) (fxS F).heap [] 27 ls [] := by
    intro x4 ls h hl
    have h : post x4 := by rw [hK4] at h; exact h
    refine v_iload_n X dX4_waysToLet_27 rfl (lv_at hl 0 rfl) ?_
    exact v_riret X hF h dX4_waysToLet_28
  have lp4 : ∀ (n4 : Nat) (x1 : Int32) (x2 : Int32) (ls : Array Slot), wL_X4_waysToLet_4 up0 post Kx4 n4 x1 x2 → lv_has ls 3 [(0, .ref (o0 0)), (1, .int x1), (2, .int x2)] → V F (RQ F post) (fxS F).heap [] 4 ls [] := by
    intro n4
    induction n4 with
    | zero => intro x1 x2 ls h hl; exact h.elim
    | succ n4 ih4 =>
      intro x1 x2 ls h hl
      refine v_iload_n X dX4_waysToLet_4 rfl (lv_at hl 2 rfl) ?_
      refine v_aload_n X dX4_waysToLet_5 rfl (lv_at hl 0 rfl) ?_
      refine v_get (v := .int up0.2.2.2.2.2.2.2.2.1) X hP 0 rfl fk_X4_103 rfl dX4_waysToLet_6 ?_
      refine v_icmp_ge (tgt := 27) X dX4_waysToLet_9 (by decide) (fun c7 => ?_) (fun c7 => ?_)
      · have h := h.1 c7
        exact kx5 x1 ls h (lv_sub hl [1] rfl)
      · have h := h.2 c7
        refine v_iload_n X dX4_waysToLet_12 rfl (lv_at hl 1 rfl) ?_
        refine v_aload_n X dX4_waysToLet_13 rfl (lv_at hl 0 rfl) ?_
        refine v_get (v := .int up0.2.2.2.2.2.2.2.1) X hP 0 rfl fk_X4_43 rfl dX4_waysToLet_14 ?_
        refine v_iconst (v := (1 : Int32)) X dX4_waysToLet_17 (by decide) ?_
        refine v_iadd X dX4_waysToLet_18 ?_
        refine v_imul X dX4_waysToLet_19 ?_
        refine v_topi (fun x6 ex6 => ?_)
        have h := h x6 ex6
        refine v_istore_n (lv' := [(1, .int x6), (0, .ref (o0 0)), (2, .int x2)]) X dX4_waysToLet_20 rfl hl (by decide) rfl (fun ls hl => ?_)
        refine v_iinc (v := (x2 + (1 : Int32))) (lv' := [(2, .int (x2 + (1 : Int32))), (1, .int x6), (0, .ref (o0 0))]) X dX4_waysToLet_21 hl (k := 2) rfl rfl (by decide) rfl (fun ls hl => ?_)
        refine v_goto (tgt := 4) X dX4_waysToLet_24 (by decide) ?_
        exact ih4 x6 (x2 + (1 : Int32)) ls h (lv_sub hl [2, 1, 0] rfl)
  obtain ⟨n4, h⟩ := h
  have h : wL_X4_waysToLet_4 up0 post Kx4 n4 (1 : Int32) (0 : Int32) := by rw [hK4]; exact h
  exact lp4 n4 (1 : Int32) (0 : Int32) ls h (lv_sub hl [2, 1, 0] rfl)
def wL_X4_tryWay_45 (y12 : Int32) (b13 : BX1) (post : Int32 → BX4 → Prop) (Kx45 : Int32 → BX4 → Prop) : Nat → Int32 → Int32 → Int32 → BX4 → Prop
  | 0, _, _, _, _ => False
  | n45 + 1, x8, x9, x10, u11 => (x10 < 0 → Kx45 x9 u11) ∧ (¬ x10 < 0 → ¬ y12 = 0 ∧ (∀ x17 : Int32, x17 = (x8 - x8 / y12 * y12) → ¬ y12 = 0 ∧ (∀ x18 : Int32, x18 = (x8 / y12) → vp_in x10 4 ∧ (w_X1_hasClient b13 x17 (fun r19 => (r19 = 0 → wL_X4_tryWay_45 y12 b13 post Kx45 n45 x18 x9 (x10 + (-1 : Int32)) (u11.1, u11.2.1, u11.2.2.1, (upd u11.2.2.2.1 x10.toNatClampNeg (5 : Int32)), u11.2.2.2.2.1, u11.2.2.2.2.2.1, u11.2.2.2.2.2.2.1, u11.2.2.2.2.2.2.2)) ∧ (¬ r19 = 0 → vp_in x10 4 ∧ (vp_in x17 5 ∧ (vp_in x17 5 ∧ (wL_X4_tryWay_45 y12 b13 post Kx45 n45 x18 (x9 + (1 : Int32)) (x10 + (-1 : Int32)) (u11.1, u11.2.1, (upd u11.2.2.1 x17.toNatClampNeg ((u11.2.2.1 x17.toNatClampNeg) ||| ((1 : Int32) <<< (x10 &&& 31)))), (upd (upd u11.2.2.2.1 x10.toNatClampNeg (5 : Int32)) x10.toNatClampNeg x17), u11.2.2.2.2.1, u11.2.2.2.2.2.1, u11.2.2.2.2.2.2.1, u11.2.2.2.2.2.2.2))))))))))
def wL_X4_tryWay_2 (y3 : Int32) (b4 : BX1) (post : Int32 → BX4 → Prop) (Kx2 : BX4 → Prop) : Nat → Int32 → BX4 → Prop
  | 0, _, _ => False
  | n2 + 1, x1, u2 => ((5 : Int32) ≤ x1 → Kx2 u2) ∧ (¬ (5 : Int32) ≤ x1 → vp_in x1 5 ∧ (wL_X4_tryWay_2 y3 b4 post Kx2 n2 (x1 + (1 : Int32)) (u2.1, u2.2.1, (upd u2.2.2.1 x1.toNatClampNeg (0 : Int32)), u2.2.2.2.1, u2.2.2.2.2.1, u2.2.2.2.2.2.1, u2.2.2.2.2.2.2.1, u2.2.2.2.2.2.2.2)))
def w_X4_tryWay (u : BX4) (up0 : BX1) (a1 : Int32) (post : Int32 → BX4 → Prop) : Prop := ∃ n2, wL_X4_tryWay_2 a1 up0 post (fun (u5 : BX4) => ∀ x6 : Int32, x6 = (if (1 : Int32) < (up0.2.2.2.2.2.2.2.1 + (1 : Int32)) then (up0.2.2.2.2.2.2.2.1 + (1 : Int32)) else (1 : Int32)) → ∀ x7 : Int32, x7 = (up0.2.2.2.2.2.2.2.2.1 - (1 : Int32)) → ∃ n45, wL_X4_tryWay_45 x6 up0 post (fun (x14 : Int32) (u15 : BX4) => post x14 u15) n45 a1 (0 : Int32) x7 u5) n2 (0 : Int32) u
set_option maxHeartbeats 4000000 in
set_option maxRecDepth 100000 in
theorem c_X4_tryWay (l : Launch) (D : va_G) (K : Nat → ClassId) (t : Nat → Nat) (o : Nat → Nat) (o0 : Nat → Nat) (u : BX4) (up0 : BX1) (a1 : Int32) (post : Int32 → BX4 → Prop) (h : w_X4_tryWay u up0 a1 post) : WrI l yX4_tryWay cX4_tryWay 8 (some .int) ({ frames := 1, cells := 0, slots := 0, locals := 40 } : Room) D (TY K) t (CX4 K o u ++ CX1 K o0 up0) [.ref (o 0), .ref (o0 0), .int a1] (fun z : BX4 => CX4 K o z ++ CX1 K o0 up0) (fun (r : Int32) (z : BX4) => post r z) := by
  refine WrI.mk rfl (Nat.le_of_ble_eq_true rfl) ?_
  intro F ls A _ hF X hH hA hl hT
  obtain ⟨H, hH0⟩ : ∃ z : Heap, z = (fxS F).heap := ⟨_, rfl⟩
  obtain ⟨locs, hL0⟩ : ∃ z : List Loc, z = [] := ⟨_, rfl⟩
  have hH : HH F D A (CX4 K o u ++ CX1 K o0 up0) H locs := by rw [hH0, hL0]; exact hH
  suffices goal : V F (WQI F D (TY K) A (fun z : BX4 => CX4 K o z ++ CX1 K o0 up0) (fun (r : Int32) (z : BX4) => post r z)) H locs 0 ls [] by rw [hH0, hL0] at goal; exact goal
  clear hH0 hL0
  have X : Cx F cX4_tryWay 8 RX4 D (TY K) := X
  have hl : lv_has ls 8 [(0, .ref (o 0)), (1, .ref (o0 0)), (2, .int a1)] := hl
  unfold w_X4_tryWay at h
  refine v_iconst (v := (0 : Int32)) X dX4_tryWay_0 (by decide) ?_
  refine v_istore_n (lv' := [(3, .int (0 : Int32)), (0, .ref (o 0)), (1, .ref (o0 0)), (2, .int a1)]) X dX4_tryWay_1 rfl hl (by decide) rfl (fun ls hl => ?_)
  obtain ⟨Kx2, hK2⟩ : ∃ f : BX4 → Prop, f = (fun (u5 : BX4) => ∀ x6 : Int32, x6 = (if (1 : Int32) < (up0.2.2.2.2.2.2.2.1 + (1 : Int32)) then (up0.2.2.2.2.2.2.2.1 + (1 : Int32)) else (1 : Int32)) → ∀ x7 : Int32, x7 = (up0.2.2.2.2.2.2.2.2.1 - (1 : Int32)) → ∃ n45, wL_X4_tryWay_45 x6 up0 post (fun (x14 : Int32) (u15 : BX4) => post x14 u15) n45 a1 (0 : Int32) x7 u5) := ⟨_, rfl⟩
  have kx22 : ∀ (u5 : BX4) (ls : Array Slot) (H : Heap) (locs : List Loc), (Kx2 u5) → lv_has ls 8 [(0, .ref (o 0)), (1, .ref (o0 0)), (2, .int a1)] → HH F D A (CX4 K o u5 ++ CX1 K o0 up0) H locs → V F (WQI F D (TY K) A (fun z : BX4 => CX4 K o z ++ CX1 K o0 up0) (fun (r : Int32) (z : BX4) => post r z)) H locs 20 ls [] := by
    intro u5 ls H locs h hl hH
    have h : ∀ x6 : Int32, x6 = (if (1 : Int32) < (up0.2.2.2.2.2.2.2.1 + (1 : Int32)) then (up0.2.2.2.2.2.2.2.1 + (1 : Int32)) else (1 : Int32)) → ∀ x7 : Int32, x7 = (up0.2.2.2.2.2.2.2.2.1 - (1 : Int32)) → ∃ n45, wL_X4_tryWay_45 x6 up0 post (fun (x14 : Int32) (u15 : BX4) => post x14 u15) n45 a1 (0 : Int32) x7 u5 := by rw [hK2] at h; exact h
    refine v_iconst (v := (1 : Int32)) X dX4_tryWay_20 (by decide) ?_
    refine v_aload_n X dX4_tryWay_21 rfl (lv_at hl 1 rfl) ?_
    refine v_get (v := .int up0.2.2.2.2.2.2.2.1) X hH.1 6 rfl fk_X4_43 rfl dX4_tryWay_22 ?_
    refine v_iconst (v := (1 : Int32)) X dX4_tryWay_25 (by decide) ?_
    refine v_iadd X dX4_tryWay_26 ?_
    refine v_mmax X hl.1 hF km_X4_98 ⟨Nat.le_of_ble_eq_true rfl, Nat.le_of_ble_eq_true rfl⟩ dX4_tryWay_27 ?_
    refine v_topi (fun x6 ex6 => ?_)
    have h := h x6 ex6
    refine v_istore_n (lv' := [(3, .int x6), (0, .ref (o 0)), (1, .ref (o0 0)), (2, .int a1)]) X dX4_tryWay_30 rfl hl (by decide) rfl (fun ls hl => ?_)
    refine v_iload_n X dX4_tryWay_31 rfl (lv_at hl 3 rfl) ?_
    refine v_istore (lv' := [(4, .int a1), (3, .int x6), (0, .ref (o 0)), (1, .ref (o0 0)), (2, .int a1)]) X dX4_tryWay_32 hl (by decide) rfl (fun ls hl => ?_)
    refine v_iconst (v := (0 : Int32)) X dX4_tryWay_34 (by decide) ?_
    refine v_istore (lv' := [(5, .int (0 : Int32)), (4, .int a1), (3, .int x6), (0, .ref (o 0)), (1, .ref (o0 0)), (2, .int a1)]) X dX4_tryWay_35 hl (by decide) rfl (fun ls hl => ?_)
    refine v_aload_n X dX4_tryWay_37 rfl (lv_at hl 4 rfl) ?_
    refine v_get (v := .int up0.2.2.2.2.2.2.2.2.1) X hH.1 6 rfl fk_X4_103 rfl dX4_tryWay_38 ?_
    refine v_iconst (v := (1 : Int32)) X dX4_tryWay_41 (by decide) ?_
    refine v_isub X dX4_tryWay_42 ?_
    refine v_topi (fun x7 ex7 => ?_)
    have h := h x7 ex7
    refine v_istore (lv' := [(6, .int x7), (5, .int (0 : Int32)), (4, .int a1), (3, .int x6), (0, .ref (o 0)), (1, .ref (o0 0)), (2, .int a1)]) X dX4_tryWay_43 hl (by decide) rfl (fun ls hl => ?_)
    obtain ⟨Kx45, hK45⟩ : ∃ f : Int32 → BX4 → Prop, f = (fun (x14 : Int32) (u15 : BX4) => post x14 u15) := ⟨_, rfl⟩
    have kx16 : ∀ (x14 : Int32) (u15 : BX4) (ls : Array Slot) (H : Heap) (locs : List Loc), (Kx45 x14 u15) → lv_has ls 8 [(5, .int x14)] → HH F D A (CX4 K o u15 ++ CX1 K o0 up0) H locs → V F (WQI F D (TY K) A (fun z : BX4 => CX4 K o z ++ CX1 K o0 up0) (fun (r : Int32) (z : BX4) => post r z)) H locs 111 ls [] := by
      intro x14 u15 ls H locs h hl hH
      have h : post x14 u15 := by rw [hK45] at h; exact h
      refine v_iload X dX4_tryWay_111 (lv_at hl 0 rfl) ?_
      exact v_wiret X hF u15 hH h dX4_tryWay_113
    have lp45 : ∀ (n45 : Nat) (x8 : Int32) (x9 : Int32) (x10 : Int32) (u11 : BX4) (ls : Array Slot) (H : Heap) (locs : List Loc), wL_X4_tryWay_45 x6 up0 post Kx45 n45 x8 x9 x10 u11 → lv_has ls 8 [(0, .ref (o 0)), (1, .ref (o0 0)), (3, .int x6), (4, .int x8), (5, .int x9), (6, .int x10)] → HH F D A (CX4 K o u11 ++ CX1 K o0 up0) H locs → V F (WQI F D (TY K) A (fun z : BX4 => CX4 K o z ++ CX1 K o0 up0) (fun (r : Int32) (z : BX4) => post r z)) H locs 45 ls [] := by
      intro n45
      induction n45 with
      | zero => intro x8 x9 x10 u11 ls H locs h hl hH; exact h.elim
      | succ n45 ih45 =>
        intro x8 x9 x10 u11 ls H locs h hl hH
        refine v_iload X dX4_tryWay_45 (lv_at hl 5 rfl) ?_
        refine v_if_lt (tgt := 111) X dX4_tryWay_47 (by decide) (fun c21 => ?_) (fun c21 => ?_)
        · have h := h.1 c21
          exact kx16 x9 u11 ls H locs h (lv_sub hl [4] rfl) hH
        · have h := h.2 c21
          refine v_iload X dX4_tryWay_50 (lv_at hl 3 rfl) ?_
          refine v_iload_n X dX4_tryWay_52 rfl (lv_at hl 2 rfl) ?_
          have hne := h.1
          have h := h.2
          refine v_irem X dX4_tryWay_53 hne ?_
          refine v_topi (fun x17 ex17 => ?_)
          have h := h x17 ex17
          refine v_istore (lv' := [(7, .int x17), (0, .ref (o 0)), (1, .ref (o0 0)), (3, .int x6), (4, .int x8), (5, .int x9), (6, .int x10)]) X dX4_tryWay_54 hl (by decide) rfl (fun ls hl => ?_)
          refine v_iload X dX4_tryWay_56 (lv_at hl 4 rfl) ?_
          refine v_iload_n X dX4_tryWay_58 rfl (lv_at hl 3 rfl) ?_
          have hne := h.1
          have h := h.2
          refine v_idiv X dX4_tryWay_59 hne ?_
          refine v_topi (fun x18 ex18 => ?_)
          have h := h x18 ex18
          refine v_istore (lv' := [(4, .int x18), (7, .int x17), (0, .ref (o 0)), (1, .ref (o0 0)), (3, .int x6), (5, .int x9), (6, .int x10)]) X dX4_tryWay_60 hl (by decide) rfl (fun ls hl => ?_)
          refine v_aload_n X dX4_tryWay_62 rfl (lv_at hl 2 rfl) ?_
          refine v_get (v := .ref (o 4)) X hH.1 0 rfl fk_X4_21 rfl dX4_tryWay_63 ?_
          refine v_iload X dX4_tryWay_66 (lv_at hl 6 rfl) ?_
          refine v_iconst (v := (5 : Int32)) X dX4_tryWay_68 (by decide) ?_
          have hin := h.1
          have h := h.2
          refine v_iast (f := u11.2.2.2.1) X hH 4 0 rfl rfl hin dX4_tryWay_69 (fun H locs hH => ?_)
          have hH : HH F D A (CX4 K o (u11.1, u11.2.1, u11.2.2.1, (upd u11.2.2.2.1 x10.toNatClampNeg (5 : Int32)), u11.2.2.2.2.1, u11.2.2.2.2.2.1, u11.2.2.2.2.2.2.1, u11.2.2.2.2.2.2.2) ++ CX1 K o0 up0) H locs := hH
          refine v_aload_n X dX4_tryWay_70 rfl (lv_at hl 3 rfl) ?_
          refine v_iload X dX4_tryWay_71 (lv_at hl 1 rfl) ?_
          refine rdV (As := [.int x17]) (rest := []) X mv_X4_106 (c_X1_hasClient F.2.1 D K t o0 up0 x17 _ h) hF ⟨rfl, rfl, Nat.le_of_ble_eq_true rfl, Nat.le_of_ble_eq_true rfl⟩ (stW hT hH) hH.1 [6, 7, 8, 9, 10, 11, 12, 13] rfl 6 rfl rfl hl.1 rfl rfl (Nat.le_of_ble_eq_true rfl) dX4_tryWay_73 (fun r19 h => ?_)
          refine v_if_eq (tgt := 105) X dX4_tryWay_76 (by decide) (fun c20 => ?_) (fun c20 => ?_)
          · have h := h.1 c20
            refine v_iinc (v := (x10 + (-1 : Int32))) (lv' := [(6, .int (x10 + (-1 : Int32))), (4, .int x18), (7, .int x17), (0, .ref (o 0)), (1, .ref (o0 0)), (3, .int x6), (5, .int x9)]) X dX4_tryWay_105 hl (k := 6) rfl rfl (by decide) rfl (fun ls hl => ?_)
            refine v_goto (tgt := 45) X dX4_tryWay_108 (by decide) ?_
            exact ih45 x18 x9 (x10 + (-1 : Int32)) (u11.1, u11.2.1, u11.2.2.1, (upd u11.2.2.2.1 x10.toNatClampNeg (5 : Int32)), u11.2.2.2.2.1, u11.2.2.2.2.2.1, u11.2.2.2.2.2.2.1, u11.2.2.2.2.2.2.2) ls H locs h (lv_sub hl [3, 4, 5, 1, 6, 0] rfl) hH
          · have h := h.2 c20
            refine v_aload_n X dX4_tryWay_79 rfl (lv_at hl 2 rfl) ?_
            refine v_get (v := .ref (o 4)) X hH.1 0 rfl fk_X4_21 rfl dX4_tryWay_80 ?_
            refine v_iload X dX4_tryWay_83 (lv_at hl 6 rfl) ?_
            refine v_iload X dX4_tryWay_85 (lv_at hl 1 rfl) ?_
            have hin := h.1
            have h := h.2
            refine v_iast (f := (upd u11.2.2.2.1 x10.toNatClampNeg (5 : Int32))) X hH 4 0 rfl rfl hin dX4_tryWay_87 (fun H locs hH => ?_)
            have hH : HH F D A (CX4 K o (u11.1, u11.2.1, u11.2.2.1, (upd (upd u11.2.2.2.1 x10.toNatClampNeg (5 : Int32)) x10.toNatClampNeg x17), u11.2.2.2.2.1, u11.2.2.2.2.2.1, u11.2.2.2.2.2.2.1, u11.2.2.2.2.2.2.2) ++ CX1 K o0 up0) H locs := hH
            refine v_aload_n X dX4_tryWay_88 rfl (lv_at hl 2 rfl) ?_
            refine v_get (v := .ref (o 3)) X hH.1 0 rfl fk_X4_18 rfl dX4_tryWay_89 ?_
            refine v_iload X dX4_tryWay_92 (lv_at hl 1 rfl) ?_
            refine v_dup2_11 X dX4_tryWay_94 rfl rfl ?_
            have hin := h.1
            have h := h.2
            refine v_iald (f := u11.2.2.1) X hH.1 3 0 rfl rfl hin dX4_tryWay_95 ?_
            refine v_iconst (v := (1 : Int32)) X dX4_tryWay_96 (by decide) ?_
            refine v_iload X dX4_tryWay_97 (lv_at hl 6 rfl) ?_
            refine v_ishl X dX4_tryWay_99 ?_
            refine v_ior X dX4_tryWay_100 ?_
            have hin := h.1
            have h := h.2
            refine v_iast (f := u11.2.2.1) X hH 3 0 rfl rfl hin dX4_tryWay_101 (fun H locs hH => ?_)
            have hH : HH F D A (CX4 K o (u11.1, u11.2.1, (upd u11.2.2.1 x17.toNatClampNeg ((u11.2.2.1 x17.toNatClampNeg) ||| ((1 : Int32) <<< (x10 &&& 31)))), (upd (upd u11.2.2.2.1 x10.toNatClampNeg (5 : Int32)) x10.toNatClampNeg x17), u11.2.2.2.2.1, u11.2.2.2.2.2.1, u11.2.2.2.2.2.2.1, u11.2.2.2.2.2.2.2) ++ CX1 K o0 up0) H locs := hH
            refine v_iinc (v := (x9 + (1 : Int32))) (lv' := [(5, .int (x9 + (1 : Int32))), (4, .int x18), (7, .int x17), (0, .ref (o 0)), (1, .ref (o0 0)), (3, .int x6), (6, .int x10)]) X dX4_tryWay_102 hl (k := 5) rfl rfl (by decide) rfl (fun ls hl => ?_)
            refine v_iinc (v := (x10 + (-1 : Int32))) (lv' := [(6, .int (x10 + (-1 : Int32))), (5, .int (x9 + (1 : Int32))), (4, .int x18), (7, .int x17), (0, .ref (o 0)), (1, .ref (o0 0)), (3, .int x6)]) X dX4_tryWay_105 hl (k := 6) rfl rfl (by decide) rfl (fun ls hl => ?_)
            refine v_goto (tgt := 45) X dX4_tryWay_108 (by decide) ?_
            exact ih45 x18 (x9 + (1 : Int32)) (x10 + (-1 : Int32)) (u11.1, u11.2.1, (upd u11.2.2.1 x17.toNatClampNeg ((u11.2.2.1 x17.toNatClampNeg) ||| ((1 : Int32) <<< (x10 &&& 31)))), (upd (upd u11.2.2.2.1 x10.toNatClampNeg (5 : Int32)) x10.toNatClampNeg x17), u11.2.2.2.2.1, u11.2.2.2.2.2.1, u11.2.2.2.2.2.2.1, u11.2.2.2.2.2.2.2) ls H locs h (lv_sub hl [4, 5, 6, 2, 1, 0] rfl) hH
    obtain ⟨n45, h⟩ := h
    have h : wL_X4_tryWay_45 x6 up0 post Kx45 n45 a1 (0 : Int32) x7 u5 := by rw [hK45]; exact h
    exact lp45 n45 a1 (0 : Int32) x7 u5 ls H locs h (lv_sub hl [4, 5, 3, 2, 1, 0] rfl) hH
  have lp2 : ∀ (n2 : Nat) (x1 : Int32) (u2 : BX4) (ls : Array Slot) (H : Heap) (locs : List Loc), wL_X4_tryWay_2 a1 up0 post Kx2 n2 x1 u2 → lv_has ls 8 [(0, .ref (o 0)), (1, .ref (o0 0)), (2, .int a1), (3, .int x1)] → HH F D A (CX4 K o u2 ++ CX1 K o0 up0) H locs → V F (WQI F D (TY K) A (fun z : BX4 => CX4 K o z ++ CX1 K o0 up0) (fun (r : Int32) (z : BX4) => post r z)) H locs 2 ls [] := by
    intro n2
    induction n2 with
    | zero => intro x1 u2 ls H locs h hl hH; exact h.elim
    | succ n2 ih2 =>
      intro x1 u2 ls H locs h hl hH
      refine v_iload_n X dX4_tryWay_2 rfl (lv_at hl 3 rfl) ?_
      refine v_iconst (v := (5 : Int32)) X dX4_tryWay_3 (by decide) ?_
      refine v_icmp_ge (tgt := 20) X dX4_tryWay_4 (by decide) (fun c23 => ?_) (fun c23 => ?_)
      · have h := h.1 c23
        exact kx22 u2 ls H locs h (lv_sub hl [0, 1, 2] rfl) hH
      · have h := h.2 c23
        refine v_aload_n X dX4_tryWay_7 rfl (lv_at hl 0 rfl) ?_
        refine v_get (v := .ref (o 3)) X hH.1 0 rfl fk_X4_18 rfl dX4_tryWay_8 ?_
        refine v_iload_n X dX4_tryWay_11 rfl (lv_at hl 3 rfl) ?_
        refine v_iconst (v := (0 : Int32)) X dX4_tryWay_12 (by decide) ?_
        have hin := h.1
        have h := h.2
        refine v_iast (f := u2.2.2.1) X hH 3 0 rfl rfl hin dX4_tryWay_13 (fun H locs hH => ?_)
        have hH : HH F D A (CX4 K o (u2.1, u2.2.1, (upd u2.2.2.1 x1.toNatClampNeg (0 : Int32)), u2.2.2.2.1, u2.2.2.2.2.1, u2.2.2.2.2.2.1, u2.2.2.2.2.2.2.1, u2.2.2.2.2.2.2.2) ++ CX1 K o0 up0) H locs := hH
        refine v_iinc (v := (x1 + (1 : Int32))) (lv' := [(3, .int (x1 + (1 : Int32))), (0, .ref (o 0)), (1, .ref (o0 0)), (2, .int a1)]) X dX4_tryWay_14 hl (k := 3) rfl rfl (by decide) rfl (fun ls hl => ?_)
        refine v_goto (tgt := 2) X dX4_tryWay_17 (by decide) ?_
        exact ih2 (x1 + (1 : Int32)) (u2.1, u2.2.1, (upd u2.2.2.1 x1.toNatClampNeg (0 : Int32)), u2.2.2.2.1, u2.2.2.2.2.1, u2.2.2.2.2.2.1, u2.2.2.2.2.2.2.1, u2.2.2.2.2.2.2.2) ls H locs h (lv_sub hl [1, 2, 3, 0] rfl) hH
  obtain ⟨n2, h⟩ := h
  have h : wL_X4_tryWay_2 a1 up0 post Kx2 n2 (0 : Int32) u := by rw [hK2]; exact h
  exact lp2 n2 (0 : Int32) u ls H locs h (lv_sub hl [1, 2, 3, 0] rfl) hH
def w_X4_weightBehind (u : BX4) (a0 : Int32) (post : Int32 → Prop) : Prop := vp_in a0 5 ∧ (vp_in ((a0 * (16 : Int32)) + (u.2.2.1 a0.toNatClampNeg)) 80 ∧ (post (u.1 ((a0 * (16 : Int32)) + (u.2.2.1 a0.toNatClampNeg)).toNatClampNeg)))
set_option maxHeartbeats 4000000 in
set_option maxRecDepth 100000 in
theorem c_X4_weightBehind (l : Launch) (D : va_G) (K : Nat → ClassId) (t : Nat → Nat) (o : Nat → Nat) (u : BX4) (a0 : Int32) (post : Int32 → Prop) (h : w_X4_weightBehind u a0 post) : RdM l yX4_weightBehind cX4_weightBehind 2 (some .int) ({ frames := 0, cells := 0, slots := 0, locals := 0 } : Room) D (TY K) t (CX4 K o u) [.ref (o 0), .int a0] post := by
  refine RdM.mk rfl (Nat.le_of_ble_eq_true rfl) ?_
  intro F ls _ hF X hP hl hT
  have X : Cx F cX4_weightBehind 2 RX4 D (TY K) := X
  have hl : lv_has ls 2 [(0, .ref (o 0)), (1, .int a0)] := hl
  unfold w_X4_weightBehind at h
  refine v_aload_n X dX4_weightBehind_0 rfl (lv_at hl 0 rfl) ?_
  refine v_get (v := .ref (o 1)) X hP 0 rfl fk_X4_9 rfl dX4_weightBehind_1 ?_
  refine v_iload_n X dX4_weightBehind_4 rfl (lv_at hl 1 rfl) ?_
  refine v_bipush (v := (16 : Int32)) X dX4_weightBehind_5 (by decide) ?_
  refine v_imul X dX4_weightBehind_7 ?_
  refine v_aload_n X dX4_weightBehind_8 rfl (lv_at hl 0 rfl) ?_
  refine v_get (v := .ref (o 3)) X hP 0 rfl fk_X4_18 rfl dX4_weightBehind_9 ?_
  refine v_iload_n X dX4_weightBehind_12 rfl (lv_at hl 1 rfl) ?_
  have hin := h.1
  have h := h.2
  refine v_iald (f := u.2.2.1) X hP 3 0 rfl rfl hin dX4_weightBehind_13 ?_
  refine v_iadd X dX4_weightBehind_14 ?_
  have hin := h.1
  have h := h.2
  refine v_iald (f := u.1) X hP 1 0 rfl rfl hin dX4_weightBehind_15 ?_
  exact v_riret X hF h dX4_weightBehind_16
def w_X4_choose (u : BX4) (post : BX4 → Prop) : Prop := ((¬ (0 : Int32) < 0 ∧ ¬ (0 : Int32) < 0 ∧ ¬ (4 : Int32) < 0) ∧ (0 : Int32).toNatClampNeg + (4 : Int32).toNatClampNeg ≤ 4 ∧ (0 : Int32).toNatClampNeg + (4 : Int32).toNatClampNeg ≤ 4) ∧ (post (u.1, u.2.1, u.2.2.1, u.2.2.2.1, (va_cpy u.2.2.2.1 u.2.2.2.2.1 (0 : Int32).toNatClampNeg (0 : Int32).toNatClampNeg (4 : Int32).toNatClampNeg), u.2.2.2.2.2.1, u.2.2.2.2.2.2.1, u.2.2.2.2.2.2.2))
set_option maxHeartbeats 4000000 in
set_option maxRecDepth 100000 in
theorem c_X4_choose (l : Launch) (D : va_G) (K : Nat → ClassId) (t : Nat → Nat) (o : Nat → Nat) (u : BX4) (post : BX4 → Prop) (h : w_X4_choose u post) : WrV l yX4_choose cX4_choose 1 ({ frames := 1, cells := 0, slots := 0, locals := 60 } : Room) D (TY K) t (CX4 K o u) [.ref (o 0)] (fun z : BX4 => CX4 K o z) (fun z : BX4 => post z) := by
  refine WrV.mk rfl (Nat.le_of_ble_eq_true rfl) ?_
  intro F ls A _ hF X hH hA hl hT
  obtain ⟨H, hH0⟩ : ∃ z : Heap, z = (fxS F).heap := ⟨_, rfl⟩
  obtain ⟨locs, hL0⟩ : ∃ z : List Loc, z = [] := ⟨_, rfl⟩
  have hH : HH F D A (CX4 K o u) H locs := by rw [hH0, hL0]; exact hH
  suffices goal : V F (WQV F D (TY K) A (fun z : BX4 => CX4 K o z) (fun z : BX4 => post z)) H locs 0 ls [] by rw [hH0, hL0] at goal; exact goal
  clear hH0 hL0
  have X : Cx F cX4_choose 1 RX4 D (TY K) := X
  have hl : lv_has ls 1 [(0, .ref (o 0))] := hl
  unfold w_X4_choose at h
  refine v_aload_n X dX4_choose_0 rfl (lv_at hl 0 rfl) ?_
  refine v_get (v := .ref (o 4)) X hH.1 0 rfl fk_X4_21 rfl dX4_choose_1 ?_
  refine v_iconst (v := (0 : Int32)) X dX4_choose_4 (by decide) ?_
  refine v_aload_n X dX4_choose_5 rfl (lv_at hl 0 rfl) ?_
  refine v_get (v := .ref (o 5)) X hH.1 0 rfl fk_X4_24 rfl dX4_choose_6 ?_
  refine v_iconst (v := (0 : Int32)) X dX4_choose_9 (by decide) ?_
  refine v_iconst (v := (4 : Int32)) X dX4_choose_10 (by decide) ?_
  have hin := h.1
  have h := h.2
  refine v_copy (f := u.2.2.2.1) (g := u.2.2.2.2.1) X hl.1 hF ka_X4_69 hH 4 5 0 rfl rfl rfl hin ⟨Nat.le_of_ble_eq_true rfl, Nat.le_of_ble_eq_true rfl⟩ dX4_choose_11 (fun H locs hH => ?_)
  have hH : HH F D A (CX4 K o (u.1, u.2.1, u.2.2.1, u.2.2.2.1, (va_cpy u.2.2.2.1 u.2.2.2.2.1 (0 : Int32).toNatClampNeg (0 : Int32).toNatClampNeg (4 : Int32).toNatClampNeg), u.2.2.2.2.2.1, u.2.2.2.2.2.2.1, u.2.2.2.2.2.2.2)) H locs := hH
  exact v_wvret X hF (u.1, u.2.1, u.2.2.1, u.2.2.2.1, (va_cpy u.2.2.2.1 u.2.2.2.2.1 (0 : Int32).toNatClampNeg (0 : Int32).toNatClampNeg (4 : Int32).toNatClampNeg), u.2.2.2.2.2.1, u.2.2.2.2.2.2.1, u.2.2.2.2.2.2.2) hH h dX4_choose_14
def wL_X4_findBest_42 (y15 : Int32) (y16 : Int32) (b17 : BX4) (b18 : BX1) (post : BX4 → Prop) (Kx42 : Int32 → Int32 → Prop) : Nat → Int32 → Int32 → Int32 → Prop
  | 0, _, _, _ => False
  | n42 + 1, x12, x13, x14 => (b18.2.2.2.2.2.2.2.1 ≤ x14 → Kx42 x12 x13) ∧ (¬ b18.2.2.2.2.2.2.2.1 ≤ x14 → w_X4_weightBehind b17 x14 (fun r28 => ∀ x29 : Int32, x29 = (x13 + r28) → (b18.2.2.2.2.2.2.2.2.2.1 < r28 → wL_X4_findBest_42 y15 y16 b17 b18 post Kx42 n42 (x12 + (0 : Int32)) x29 (x14 + (1 : Int32))) ∧ (¬ b18.2.2.2.2.2.2.2.2.2.1 < r28 → wL_X4_findBest_42 y15 y16 b17 b18 post Kx42 n42 (x12 + (1 : Int32)) x29 (x14 + (1 : Int32)))))
def wL_X4_findBest_19 (y6 : Int32) (b7 : BX1) (post : BX4 → Prop) (Kx19 : BX4 → Prop) : Nat → Int32 → BX4 → Prop
  | 0, _, _ => False
  | n19 + 1, x4, u5 => (y6 ≤ x4 → Kx19 u5) ∧ (¬ y6 ≤ x4 → w_X4_tryWay u5 b7 x4 (fun r10 u11 => ∃ n42, wL_X4_findBest_42 y6 x4 u11 b7 post (fun (x19 : Int32) (x20 : Int32) => wpJ (T := Unit → Prop) (fun (_ : Unit) => w_X4_choose (u11.1, u11.2.1, u11.2.2.1, u11.2.2.2.1, u11.2.2.2.2.1, x19, x20, u11.2.2.2.2.2.2.2) (fun u23 => wL_X4_findBest_19 y6 b7 post Kx19 n19 (x4 + (1 : Int32)) u23)) (fun J21 => (u11.2.2.2.2.2.1 < x19 → J21 ()) ∧ (¬ u11.2.2.2.2.2.1 < x19 → (x19 = u11.2.2.2.2.2.1 → (u11.2.2.2.2.2.2.1 ≤ x20 → wL_X4_findBest_19 y6 b7 post Kx19 n19 (x4 + (1 : Int32)) u11) ∧ (¬ u11.2.2.2.2.2.2.1 ≤ x20 → J21 ())) ∧ (¬ x19 = u11.2.2.2.2.2.1 → wL_X4_findBest_19 y6 b7 post Kx19 n19 (x4 + (1 : Int32)) u11)))) n42 (0 : Int32) (0 : Int32) (0 : Int32)))
def w_X4_findBest (u : BX4) (up0 : BX1) (a1 : Int32) (post : BX4 → Prop) : Prop := w_X4_foretellSets u up0 a1 (fun u2 => w_X4_waysToLet up0 (fun r3 => ∃ n19, wL_X4_findBest_19 r3 up0 post (fun (u8 : BX4) => post u8) n19 (0 : Int32) (u2.1, u2.2.1, u2.2.2.1, u2.2.2.2.1, u2.2.2.2.2.1, (-1 : Int32), u2.2.2.2.2.2.2.1, u2.2.2.2.2.2.2.2)))
set_option maxHeartbeats 4000000 in
set_option maxRecDepth 100000 in
theorem c_X4_findBest (l : Launch) (D : va_G) (K : Nat → ClassId) (t : Nat → Nat) (o : Nat → Nat) (o0 : Nat → Nat) (u : BX4) (up0 : BX1) (a1 : Int32) (post : BX4 → Prop) (h : w_X4_findBest u up0 a1 post) : WrV l yX4_findBest cX4_findBest 9 ({ frames := 5, cells := 0, slots := 0, locals := 139 } : Room) D (TY K) t (CX4 K o u ++ CX1 K o0 up0) [.ref (o 0), .ref (o0 0), .int a1] (fun z : BX4 => CX4 K o z ++ CX1 K o0 up0) (fun z : BX4 => post z) := by
  refine WrV.mk rfl (Nat.le_of_ble_eq_true rfl) ?_
  intro F ls A _ hF X hH hA hl hT
  obtain ⟨H, hH0⟩ : ∃ z : Heap, z = (fxS F).heap := ⟨_, rfl⟩
  obtain ⟨locs, hL0⟩ : ∃ z : List Loc, z = [] := ⟨_, rfl⟩
  have hH : HH F D A (CX4 K o u ++ CX1 K o0 up0) H locs := by rw [hH0, hL0]; exact hH
  suffices goal : V F (WQV F D (TY K) A (fun z : BX4 => CX4 K o z ++ CX1 K o0 up0) (fun z : BX4 => post z)) H locs 0 ls [] by rw [hH0, hL0] at goal; exact goal
  clear hH0 hL0
  have X : Cx F cX4_findBest 9 RX4 D (TY K) := X
  have hl : lv_has ls 9 [(0, .ref (o 0)), (1, .ref (o0 0)), (2, .int a1)] := hl
  unfold w_X4_findBest at h
  refine v_aload_n X dX4_findBest_0 rfl (lv_at hl 0 rfl) ?_
  refine v_aload_n X dX4_findBest_1 rfl (lv_at hl 1 rfl) ?_
  refine v_iload_n X dX4_findBest_2 rfl (lv_at hl 2 rfl) ?_
  refine wrVV (As := [.ref (o0 0), .int a1]) (rest := []) (wr := ([] : va_W)) X mv_X4_27 (c_X4_foretellSets F.2.1 D K t o o0 u up0 a1 _ h) hF ⟨rfl, rfl, Nat.le_of_ble_eq_true rfl, Nat.le_of_ble_eq_true rfl⟩ hT hA hH [0, 1, 2, 3, 4, 5, 6, 7, 8, 9, 10, 11, 12, 13] [] ⟨rfl, rfl, rfl, rfl, by decide⟩ 0 rfl rfl hl.1 rfl rfl (Nat.le_of_ble_eq_true rfl) dX4_findBest_3 (fun u2 H locs h hH => ?_)
  have hH : HH F D A (CX4 K o u2 ++ CX1 K o0 up0) H locs := hH
  refine v_aload_n X dX4_findBest_6 rfl (lv_at hl 0 rfl) ?_
  refine v_iconst (v := (-1 : Int32)) X dX4_findBest_7 (by decide) ?_
  refine v_put X hH 0 rfl fi_X4_31 (Nat.le_of_ble_eq_true rfl) dX4_findBest_8 (fun H locs hH => ?_)
  have hH : HH F D A (CX4 K o (u2.1, u2.2.1, u2.2.2.1, u2.2.2.2.1, u2.2.2.2.2.1, (-1 : Int32), u2.2.2.2.2.2.2.1, u2.2.2.2.2.2.2.2) ++ CX1 K o0 up0) H locs := hH
  refine v_aload_n X dX4_findBest_11 rfl (lv_at hl 1 rfl) ?_
  refine rdS (As := [.ref (o0 0)]) (rest := []) X ms_X4_35 (c_X4_waysToLet F.2.1 D K t o0 up0 _ h) hF ⟨rfl, rfl, Nat.le_of_ble_eq_true rfl, Nat.le_of_ble_eq_true rfl⟩ (stW hT hH) hH.1 [6, 7, 8, 9, 10, 11, 12, 13] rfl hl.1 rfl rfl (Nat.le_of_ble_eq_true rfl) dX4_findBest_12 (fun r3 h => ?_)
  refine v_istore_n (lv' := [(3, .int r3), (0, .ref (o 0)), (1, .ref (o0 0)), (2, .int a1)]) X dX4_findBest_15 rfl hl (by decide) rfl (fun ls hl => ?_)
  refine v_iconst (v := (0 : Int32)) X dX4_findBest_16 (by decide) ?_
  refine v_istore (lv' := [(4, .int (0 : Int32)), (3, .int r3), (0, .ref (o 0)), (1, .ref (o0 0)), (2, .int a1)]) X dX4_findBest_17 hl (by decide) rfl (fun ls hl => ?_)
  obtain ⟨Kx19, hK19⟩ : ∃ f : BX4 → Prop, f = (fun (u8 : BX4) => post u8) := ⟨_, rfl⟩
  have kx9 : ∀ (u8 : BX4) (ls : Array Slot) (H : Heap) (locs : List Loc), (Kx19 u8) → lv_has ls 9 [] → HH F D A (CX4 K o u8 ++ CX1 K o0 up0) H locs → V F (WQV F D (TY K) A (fun z : BX4 => CX4 K o z ++ CX1 K o0 up0) (fun z : BX4 => post z)) H locs 140 ls [] := by
    intro u8 ls H locs h hl hH
    have h : post u8 := by rw [hK19] at h; exact h
    exact v_wvret X hF u8 hH h dX4_findBest_140
  have lp19 : ∀ (n19 : Nat) (x4 : Int32) (u5 : BX4) (ls : Array Slot) (H : Heap) (locs : List Loc), wL_X4_findBest_19 r3 up0 post Kx19 n19 x4 u5 → lv_has ls 9 [(0, .ref (o 0)), (1, .ref (o0 0)), (3, .int r3), (4, .int x4)] → HH F D A (CX4 K o u5 ++ CX1 K o0 up0) H locs → V F (WQV F D (TY K) A (fun z : BX4 => CX4 K o z ++ CX1 K o0 up0) (fun z : BX4 => post z)) H locs 19 ls [] := by
    intro n19
    induction n19 with
    | zero => intro x4 u5 ls H locs h hl hH; exact h.elim
    | succ n19 ih19 =>
      intro x4 u5 ls H locs h hl hH
      refine v_iload X dX4_findBest_19 (lv_at hl 3 rfl) ?_
      refine v_iload_n X dX4_findBest_21 rfl (lv_at hl 2 rfl) ?_
      refine v_icmp_ge (tgt := 140) X dX4_findBest_22 (by decide) (fun c32 => ?_) (fun c32 => ?_)
      · have h := h.1 c32
        exact kx9 u5 ls H locs h (lv_sub hl [] rfl) hH
      · have h := h.2 c32
        refine v_aload_n X dX4_findBest_25 rfl (lv_at hl 0 rfl) ?_
        refine v_aload_n X dX4_findBest_26 rfl (lv_at hl 1 rfl) ?_
        refine v_iload X dX4_findBest_27 (lv_at hl 3 rfl) ?_
        refine wrVI (As := [.ref (o0 0), .int x4]) (rest := []) (wr := ([] : va_W)) X mv_X4_39 (c_X4_tryWay F.2.1 D K t o o0 u5 up0 x4 _ h) hF ⟨rfl, rfl, Nat.le_of_ble_eq_true rfl, Nat.le_of_ble_eq_true rfl⟩ hT hA hH [0, 1, 2, 3, 4, 5, 6, 7, 8, 9, 10, 11, 12, 13] [] ⟨rfl, rfl, rfl, rfl, by decide⟩ 0 rfl rfl hl.1 rfl rfl (Nat.le_of_ble_eq_true rfl) dX4_findBest_29 (fun r10 u11 H locs h hH => ?_)
        have hH : HH F D A (CX4 K o u11 ++ CX1 K o0 up0) H locs := hH
        refine v_pop X dX4_findBest_32 rfl ?_
        refine v_iconst (v := (0 : Int32)) X dX4_findBest_33 (by decide) ?_
        refine v_istore (lv' := [(5, .int (0 : Int32)), (0, .ref (o 0)), (1, .ref (o0 0)), (3, .int r3), (4, .int x4)]) X dX4_findBest_34 hl (by decide) rfl (fun ls hl => ?_)
        refine v_iconst (v := (0 : Int32)) X dX4_findBest_36 (by decide) ?_
        refine v_istore (lv' := [(6, .int (0 : Int32)), (5, .int (0 : Int32)), (0, .ref (o 0)), (1, .ref (o0 0)), (3, .int r3), (4, .int x4)]) X dX4_findBest_37 hl (by decide) rfl (fun ls hl => ?_)
        refine v_iconst (v := (0 : Int32)) X dX4_findBest_39 (by decide) ?_
        refine v_istore (lv' := [(7, .int (0 : Int32)), (6, .int (0 : Int32)), (5, .int (0 : Int32)), (0, .ref (o 0)), (1, .ref (o0 0)), (3, .int r3), (4, .int x4)]) X dX4_findBest_40 hl (by decide) rfl (fun ls hl => ?_)
        obtain ⟨Kx42, hK42⟩ : ∃ f : Int32 → Int32 → Prop, f = (fun (x19 : Int32) (x20 : Int32) => wpJ (T := Unit → Prop) (fun (_ : Unit) => w_X4_choose (u11.1, u11.2.1, u11.2.2.1, u11.2.2.2.1, u11.2.2.2.2.1, x19, x20, u11.2.2.2.2.2.2.2) (fun u23 => wL_X4_findBest_19 r3 up0 post Kx19 n19 (x4 + (1 : Int32)) u23)) (fun J21 => (u11.2.2.2.2.2.1 < x19 → J21 ()) ∧ (¬ u11.2.2.2.2.2.1 < x19 → (x19 = u11.2.2.2.2.2.1 → (u11.2.2.2.2.2.2.1 ≤ x20 → wL_X4_findBest_19 r3 up0 post Kx19 n19 (x4 + (1 : Int32)) u11) ∧ (¬ u11.2.2.2.2.2.2.1 ≤ x20 → J21 ())) ∧ (¬ x19 = u11.2.2.2.2.2.1 → wL_X4_findBest_19 r3 up0 post Kx19 n19 (x4 + (1 : Int32)) u11)))) := ⟨_, rfl⟩
        have kx27 : ∀ (x19 : Int32) (x20 : Int32) (ls : Array Slot) (H : Heap) (locs : List Loc), (Kx42 x19 x20) → lv_has ls 9 [(0, .ref (o 0)), (1, .ref (o0 0)), (3, .int r3), (4, .int x4), (5, .int x19), (6, .int x20)] → HH F D A (CX4 K o u11 ++ CX1 K o0 up0) H locs → V F (WQV F D (TY K) A (fun z : BX4 => CX4 K o z ++ CX1 K o0 up0) (fun z : BX4 => post z)) H locs 91 ls [] := by
          intro x19 x20 ls H locs h hl hH
          have h : wpJ (T := Unit → Prop) (fun (_ : Unit) => w_X4_choose (u11.1, u11.2.1, u11.2.2.1, u11.2.2.2.1, u11.2.2.2.2.1, x19, x20, u11.2.2.2.2.2.2.2) (fun u23 => wL_X4_findBest_19 r3 up0 post Kx19 n19 (x4 + (1 : Int32)) u23)) (fun J21 => (u11.2.2.2.2.2.1 < x19 → J21 ()) ∧ (¬ u11.2.2.2.2.2.1 < x19 → (x19 = u11.2.2.2.2.2.1 → (u11.2.2.2.2.2.2.1 ≤ x20 → wL_X4_findBest_19 r3 up0 post Kx19 n19 (x4 + (1 : Int32)) u11) ∧ (¬ u11.2.2.2.2.2.2.1 ≤ x20 → J21 ())) ∧ (¬ x19 = u11.2.2.2.2.2.1 → wL_X4_findBest_19 r3 up0 post Kx19 n19 (x4 + (1 : Int32)) u11))) := by rw [hK42] at h; exact h
          refine v_iload X dX4_findBest_91 (lv_at hl 4 rfl) ?_
          refine v_aload_n X dX4_findBest_93 rfl (lv_at hl 0 rfl) ?_
          refine v_get (v := .int u11.2.2.2.2.2.1) X hH.1 0 rfl fk_X4_31 rfl dX4_findBest_94 ?_
          obtain ⟨J21, hJ21⟩ : ∃ f : Unit → Prop, f = (fun (_ : Unit) => w_X4_choose (u11.1, u11.2.1, u11.2.2.1, u11.2.2.2.1, u11.2.2.2.2.1, x19, x20, u11.2.2.2.2.2.2.2) (fun u23 => wL_X4_findBest_19 r3 up0 post Kx19 n19 (x4 + (1 : Int32)) u23)) := ⟨_, rfl⟩
          have kJ21 : ∀ (ls : Array Slot) (H : Heap) (locs : List Loc), (J21 ()) → lv_has ls 9 [(0, .ref (o 0)), (1, .ref (o0 0)), (3, .int r3), (4, .int x4), (5, .int x19), (6, .int x20)] → HH F D A (CX4 K o u11 ++ CX1 K o0 up0) H locs → V F (WQV F D (TY K) A (fun z : BX4 => CX4 K o z ++ CX1 K o0 up0) (fun z : BX4 => post z)) H locs 118 ls [] := by
            intro ls H locs h hl hH
            have h : w_X4_choose (u11.1, u11.2.1, u11.2.2.1, u11.2.2.2.1, u11.2.2.2.2.1, x19, x20, u11.2.2.2.2.2.2.2) (fun u23 => wL_X4_findBest_19 r3 up0 post Kx19 n19 (x4 + (1 : Int32)) u23) := by rw [hJ21] at h; exact h
            refine v_aload_n X dX4_findBest_118 rfl (lv_at hl 0 rfl) ?_
            refine v_iload X dX4_findBest_119 (lv_at hl 4 rfl) ?_
            refine v_put X hH 0 rfl fi_X4_31 (Nat.le_of_ble_eq_true rfl) dX4_findBest_121 (fun H locs hH => ?_)
            have hH : HH F D A (CX4 K o (u11.1, u11.2.1, u11.2.2.1, u11.2.2.2.1, u11.2.2.2.2.1, x19, u11.2.2.2.2.2.2.1, u11.2.2.2.2.2.2.2) ++ CX1 K o0 up0) H locs := hH
            refine v_aload_n X dX4_findBest_124 rfl (lv_at hl 0 rfl) ?_
            refine v_iload X dX4_findBest_125 (lv_at hl 5 rfl) ?_
            refine v_put X hH 0 rfl fi_X4_55 (Nat.le_of_ble_eq_true rfl) dX4_findBest_127 (fun H locs hH => ?_)
            have hH : HH F D A (CX4 K o (u11.1, u11.2.1, u11.2.2.1, u11.2.2.2.1, u11.2.2.2.2.1, x19, x20, u11.2.2.2.2.2.2.2) ++ CX1 K o0 up0) H locs := hH
            refine v_aload_n X dX4_findBest_130 rfl (lv_at hl 0 rfl) ?_
            refine wrVV (As := []) (rest := []) (wr := (CX1 K o0 up0)) X mv_X4_58 (c_X4_choose F.2.1 D K t o (u11.1, u11.2.1, u11.2.2.1, u11.2.2.2.1, u11.2.2.2.2.1, x19, x20, u11.2.2.2.2.2.2.2) _ h) hF ⟨rfl, rfl, Nat.le_of_ble_eq_true rfl, Nat.le_of_ble_eq_true rfl⟩ hT hA hH [0, 1, 2, 3, 4, 5] [6, 7, 8, 9, 10, 11, 12, 13] ⟨rfl, rfl, rfl, rfl, by decide⟩ 0 rfl rfl hl.1 rfl rfl (Nat.le_of_ble_eq_true rfl) dX4_findBest_131 (fun u23 H locs h hH => ?_)
            have hH : HH F D A (CX1 K o0 up0 ++ CX4 K o u23) H locs := hH
            refine v_iinc (v := (x4 + (1 : Int32))) (lv' := [(4, .int (x4 + (1 : Int32))), (0, .ref (o 0)), (1, .ref (o0 0)), (3, .int r3), (5, .int x19), (6, .int x20)]) X dX4_findBest_134 hl (k := 3) rfl rfl (by decide) rfl (fun ls hl => ?_)
            refine v_goto (tgt := 19) X dX4_findBest_137 (by decide) ?_
            exact ih19 (x4 + (1 : Int32)) u23 ls H locs h (lv_sub hl [1, 2, 3, 0] rfl) (hH.perm [8, 9, 10, 11, 12, 13, 0, 1, 2, 3, 4, 5, 6, 7] rfl rfl)
          have h : (u11.2.2.2.2.2.1 < x19 → J21 ()) ∧ (¬ u11.2.2.2.2.2.1 < x19 → (x19 = u11.2.2.2.2.2.1 → (u11.2.2.2.2.2.2.1 ≤ x20 → wL_X4_findBest_19 r3 up0 post Kx19 n19 (x4 + (1 : Int32)) u11) ∧ (¬ u11.2.2.2.2.2.2.1 ≤ x20 → J21 ())) ∧ (¬ x19 = u11.2.2.2.2.2.1 → wL_X4_findBest_19 r3 up0 post Kx19 n19 (x4 + (1 : Int32)) u11)) := by rw [hJ21]; exact h
          refine v_icmp_gt (tgt := 118) X dX4_findBest_97 (by decide) (fun c26 => ?_) (fun c26 => ?_)
          · have h := h.1 c26
            exact kJ21  ls H locs h (lv_sub hl [0, 1, 2, 3, 4, 5] rfl) hH
          · have h := h.2 c26
            refine v_iload X dX4_findBest_100 (lv_at hl 4 rfl) ?_
            refine v_aload_n X dX4_findBest_102 rfl (lv_at hl 0 rfl) ?_
            refine v_get (v := .int u11.2.2.2.2.2.1) X hH.1 0 rfl fk_X4_31 rfl dX4_findBest_103 ?_
            refine v_icmp_ne (tgt := 134) X dX4_findBest_106 (by decide) (fun c25 => ?_) (fun c25 => ?_)
            · have h := h.2 c25
              refine v_iinc (v := (x4 + (1 : Int32))) (lv' := [(4, .int (x4 + (1 : Int32))), (0, .ref (o 0)), (1, .ref (o0 0)), (3, .int r3), (5, .int x19), (6, .int x20)]) X dX4_findBest_134 hl (k := 3) rfl rfl (by decide) rfl (fun ls hl => ?_)
              refine v_goto (tgt := 19) X dX4_findBest_137 (by decide) ?_
              exact ih19 (x4 + (1 : Int32)) u11 ls H locs h (lv_sub hl [1, 2, 3, 0] rfl) hH
            · have h := h.1 c25
              refine v_iload X dX4_findBest_109 (lv_at hl 5 rfl) ?_
              refine v_aload_n X dX4_findBest_111 rfl (lv_at hl 0 rfl) ?_
              refine v_get (v := .int u11.2.2.2.2.2.2.1) X hH.1 0 rfl fk_X4_55 rfl dX4_findBest_112 ?_
              refine v_icmp_ge (tgt := 134) X dX4_findBest_115 (by decide) (fun c24 => ?_) (fun c24 => ?_)
              · have h := h.1 c24
                refine v_iinc (v := (x4 + (1 : Int32))) (lv' := [(4, .int (x4 + (1 : Int32))), (0, .ref (o 0)), (1, .ref (o0 0)), (3, .int r3), (5, .int x19), (6, .int x20)]) X dX4_findBest_134 hl (k := 3) rfl rfl (by decide) rfl (fun ls hl => ?_)
                refine v_goto (tgt := 19) X dX4_findBest_137 (by decide) ?_
                exact ih19 (x4 + (1 : Int32)) u11 ls H locs h (lv_sub hl [1, 2, 3, 0] rfl) hH
              · have h := h.2 c24
                exact kJ21  ls H locs h (lv_sub hl [0, 1, 2, 3, 4, 5] rfl) hH
        have lp42 : ∀ (n42 : Nat) (x12 : Int32) (x13 : Int32) (x14 : Int32) (ls : Array Slot) (H : Heap) (locs : List Loc), wL_X4_findBest_42 r3 x4 u11 up0 post Kx42 n42 x12 x13 x14 → lv_has ls 9 [(0, .ref (o 0)), (1, .ref (o0 0)), (3, .int r3), (4, .int x4), (5, .int x12), (6, .int x13), (7, .int x14)] → HH F D A (CX4 K o u11 ++ CX1 K o0 up0) H locs → V F (WQV F D (TY K) A (fun z : BX4 => CX4 K o z ++ CX1 K o0 up0) (fun z : BX4 => post z)) H locs 42 ls [] := by
          intro n42
          induction n42 with
          | zero => intro x12 x13 x14 ls H locs h hl hH; exact h.elim
          | succ n42 ih42 =>
            intro x12 x13 x14 ls H locs h hl hH
            refine v_iload X dX4_findBest_42 (lv_at hl 6 rfl) ?_
            refine v_aload_n X dX4_findBest_44 rfl (lv_at hl 1 rfl) ?_
            refine v_get (v := .int up0.2.2.2.2.2.2.2.1) X hH.1 6 rfl fk_X4_43 rfl dX4_findBest_45 ?_
            refine v_icmp_ge (tgt := 91) X dX4_findBest_48 (by decide) (fun c31 => ?_) (fun c31 => ?_)
            · have h := h.1 c31
              exact kx27 x12 x13 ls H locs h (lv_sub hl [0, 1, 2, 3, 4, 5] rfl) hH
            · have h := h.2 c31
              refine v_aload_n X dX4_findBest_51 rfl (lv_at hl 0 rfl) ?_
              refine v_iload X dX4_findBest_52 (lv_at hl 6 rfl) ?_
              refine rdV (As := [.int x14]) (rest := []) X mv_X4_48 (c_X4_weightBehind F.2.1 D K t o u11 x14 _ h) hF ⟨rfl, rfl, Nat.le_of_ble_eq_true rfl, Nat.le_of_ble_eq_true rfl⟩ (stW hT hH) hH.1 [0, 1, 2, 3, 4, 5] rfl 0 rfl rfl hl.1 rfl rfl (Nat.le_of_ble_eq_true rfl) dX4_findBest_54 (fun r28 h => ?_)
              refine v_istore (lv' := [(8, .int r28), (0, .ref (o 0)), (1, .ref (o0 0)), (3, .int r3), (4, .int x4), (5, .int x12), (6, .int x13), (7, .int x14)]) X dX4_findBest_57 hl (by decide) rfl (fun ls hl => ?_)
              refine v_iload X dX4_findBest_59 (lv_at hl 6 rfl) ?_
              refine v_iload X dX4_findBest_61 (lv_at hl 0 rfl) ?_
              refine v_iadd X dX4_findBest_63 ?_
              refine v_topi (fun x29 ex29 => ?_)
              have h := h x29 ex29
              refine v_istore (lv' := [(6, .int x29), (8, .int r28), (0, .ref (o 0)), (1, .ref (o0 0)), (3, .int r3), (4, .int x4), (5, .int x12), (7, .int x14)]) X dX4_findBest_64 hl (by decide) rfl (fun ls hl => ?_)
              refine v_iload X dX4_findBest_66 (lv_at hl 6 rfl) ?_
              refine v_iload X dX4_findBest_68 (lv_at hl 1 rfl) ?_
              refine v_aload_n X dX4_findBest_70 rfl (lv_at hl 3 rfl) ?_
              refine v_get (v := .int up0.2.2.2.2.2.2.2.2.2.1) X hH.1 6 rfl fk_X4_52 rfl dX4_findBest_71 ?_
              refine v_icmp_gt (tgt := 81) X dX4_findBest_74 (by decide) (fun c30 => ?_) (fun c30 => ?_)
              · have h := h.1 c30
                refine v_iconst (v := (0 : Int32)) X dX4_findBest_81 (by decide) ?_
                refine v_iadd X dX4_findBest_82 ?_
                refine v_istore (lv' := [(5, .int (x12 + (0 : Int32))), (6, .int x29), (8, .int r28), (0, .ref (o 0)), (1, .ref (o0 0)), (3, .int r3), (4, .int x4), (7, .int x14)]) X dX4_findBest_83 hl (by decide) rfl (fun ls hl => ?_)
                refine v_iinc (v := (x14 + (1 : Int32))) (lv' := [(7, .int (x14 + (1 : Int32))), (5, .int (x12 + (0 : Int32))), (6, .int x29), (8, .int r28), (0, .ref (o 0)), (1, .ref (o0 0)), (3, .int r3), (4, .int x4)]) X dX4_findBest_85 hl (k := 7) rfl rfl (by decide) rfl (fun ls hl => ?_)
                refine v_goto (tgt := 42) X dX4_findBest_88 (by decide) ?_
                exact ih42 (x12 + (0 : Int32)) x29 (x14 + (1 : Int32)) ls H locs h (lv_sub hl [4, 5, 6, 7, 1, 2, 0] rfl) hH
              · have h := h.2 c30
                refine v_iconst (v := (1 : Int32)) X dX4_findBest_77 (by decide) ?_
                refine v_goto (tgt := 82) X dX4_findBest_78 (by decide) ?_
                refine v_iadd X dX4_findBest_82 ?_
                refine v_istore (lv' := [(5, .int (x12 + (1 : Int32))), (6, .int x29), (8, .int r28), (0, .ref (o 0)), (1, .ref (o0 0)), (3, .int r3), (4, .int x4), (7, .int x14)]) X dX4_findBest_83 hl (by decide) rfl (fun ls hl => ?_)
                refine v_iinc (v := (x14 + (1 : Int32))) (lv' := [(7, .int (x14 + (1 : Int32))), (5, .int (x12 + (1 : Int32))), (6, .int x29), (8, .int r28), (0, .ref (o 0)), (1, .ref (o0 0)), (3, .int r3), (4, .int x4)]) X dX4_findBest_85 hl (k := 7) rfl rfl (by decide) rfl (fun ls hl => ?_)
                refine v_goto (tgt := 42) X dX4_findBest_88 (by decide) ?_
                exact ih42 (x12 + (1 : Int32)) x29 (x14 + (1 : Int32)) ls H locs h (lv_sub hl [4, 5, 6, 7, 1, 2, 0] rfl) hH
        obtain ⟨n42, h⟩ := h
        have h : wL_X4_findBest_42 r3 x4 u11 up0 post Kx42 n42 (0 : Int32) (0 : Int32) (0 : Int32) := by rw [hK42]; exact h
        exact lp42 n42 (0 : Int32) (0 : Int32) (0 : Int32) ls H locs h (lv_sub hl [3, 4, 5, 6, 2, 1, 0] rfl) hH
  obtain ⟨n19, h⟩ := h
  have h : wL_X4_findBest_19 r3 up0 post Kx19 n19 (0 : Int32) (u2.1, u2.2.1, u2.2.2.1, u2.2.2.2.1, u2.2.2.2.2.1, (-1 : Int32), u2.2.2.2.2.2.2.1, u2.2.2.2.2.2.2.2) := by rw [hK19]; exact h
  exact lp19 n19 (0 : Int32) (u2.1, u2.2.1, u2.2.2.1, u2.2.2.2.1, u2.2.2.2.2.1, (-1 : Int32), u2.2.2.2.2.2.2.1, u2.2.2.2.2.2.2.2) ls H locs h (lv_sub hl [2, 3, 1, 0] rfl) hH
def wL_X4_restAll_2 (y2 : Int32) (b3 : BX4) (b4 : BX1) (post : Int32 → Prop) (Kx2 : Prop) : Nat → Int32 → Prop
  | 0, _ => False
  | n2 + 1, x1 => (b4.2.2.2.2.2.2.2.1 ≤ x1 → post (1 : Int32)) ∧ (¬ b4.2.2.2.2.2.2.2.1 ≤ x1 → (((y2 >>> (x1 &&& 31)) &&& (1 : Int32)) = (1 : Int32) → w_X4_weightBehind b3 x1 (fun r6 => (r6 ≤ b4.2.2.2.2.2.2.2.2.2.1 → wL_X4_restAll_2 y2 b3 b4 post Kx2 n2 (x1 + (1 : Int32))) ∧ (¬ r6 ≤ b4.2.2.2.2.2.2.2.2.2.1 → Kx2))) ∧ (¬ ((y2 >>> (x1 &&& 31)) &&& (1 : Int32)) = (1 : Int32) → wL_X4_restAll_2 y2 b3 b4 post Kx2 n2 (x1 + (1 : Int32))))
def w_X4_restAll (u : BX4) (up0 : BX1) (a1 : Int32) (post : Int32 → Prop) : Prop := ∃ n2, wL_X4_restAll_2 a1 u up0 post (post (0 : Int32)) n2 (0 : Int32)
set_option maxHeartbeats 4000000 in
set_option maxRecDepth 100000 in
theorem c_X4_restAll (l : Launch) (D : va_G) (K : Nat → ClassId) (t : Nat → Nat) (o : Nat → Nat) (o0 : Nat → Nat) (u : BX4) (up0 : BX1) (a1 : Int32) (post : Int32 → Prop) (h : w_X4_restAll u up0 a1 post) : RdM l yX4_restAll cX4_restAll 4 (some .boolean) ({ frames := 1, cells := 0, slots := 0, locals := 21 } : Room) D (TY K) t (CX4 K o u ++ CX1 K o0 up0) [.ref (o 0), .ref (o0 0), .int a1] post := by
  refine RdM.mk rfl (Nat.le_of_ble_eq_true rfl) ?_
  intro F ls _ hF X hP hl hT
  have X : Cx F cX4_restAll 4 RX4 D (TY K) := X
  have hl : lv_has ls 4 [(0, .ref (o 0)), (1, .ref (o0 0)), (2, .int a1)] := hl
  unfold w_X4_restAll at h
  refine v_iconst (v := (0 : Int32)) X dX4_restAll_0 (by decide) ?_
  refine v_istore_n (lv' := [(3, .int (0 : Int32)), (0, .ref (o 0)), (1, .ref (o0 0)), (2, .int a1)]) X dX4_restAll_1 rfl hl (by decide) rfl (fun ls hl => ?_)
  obtain ⟨Kx2, hK2⟩ : ∃ f : Prop, f = (post (0 : Int32)) := ⟨_, rfl⟩
  have kx5 : ∀ (ls : Array Slot), (Kx2 ) → lv_has ls 4 [] → V F (RQ F post) (fxS F).heap [] 31 ls [] := by
    intro ls h hl
    have h : post (0 : Int32) := by rw [hK2] at h; exact h
    refine v_iconst (v := (0 : Int32)) X dX4_restAll_31 (by decide) ?_
    exact v_rzret X hF rfl h dX4_restAll_32
  have lp2 : ∀ (n2 : Nat) (x1 : Int32) (ls : Array Slot), wL_X4_restAll_2 a1 u up0 post Kx2 n2 x1 → lv_has ls 4 [(0, .ref (o 0)), (1, .ref (o0 0)), (2, .int a1), (3, .int x1)] → V F (RQ F post) (fxS F).heap [] 2 ls [] := by
    intro n2
    induction n2 with
    | zero => intro x1 ls h hl; exact h.elim
    | succ n2 ih2 =>
      intro x1 ls h hl
      refine v_iload_n X dX4_restAll_2 rfl (lv_at hl 3 rfl) ?_
      refine v_aload_n X dX4_restAll_3 rfl (lv_at hl 1 rfl) ?_
      refine v_get (v := .int up0.2.2.2.2.2.2.2.1) X hP 6 rfl fk_X4_43 rfl dX4_restAll_4 ?_
      refine v_icmp_ge (tgt := 39) X dX4_restAll_7 (by decide) (fun c9 => ?_) (fun c9 => ?_)
      · have h := h.1 c9
        refine v_iconst (v := (1 : Int32)) X dX4_restAll_39 (by decide) ?_
        exact v_rzret X hF rfl h dX4_restAll_40
      · have h := h.2 c9
        refine v_iload_n X dX4_restAll_10 rfl (lv_at hl 2 rfl) ?_
        refine v_iload_n X dX4_restAll_11 rfl (lv_at hl 3 rfl) ?_
        refine v_ishr X dX4_restAll_12 ?_
        refine v_iconst (v := (1 : Int32)) X dX4_restAll_13 (by decide) ?_
        refine v_iand X dX4_restAll_14 ?_
        refine v_iconst (v := (1 : Int32)) X dX4_restAll_15 (by decide) ?_
        refine v_icmp_ne (tgt := 33) X dX4_restAll_16 (by decide) (fun c8 => ?_) (fun c8 => ?_)
        · have h := h.2 c8
          refine v_iinc (v := (x1 + (1 : Int32))) (lv' := [(3, .int (x1 + (1 : Int32))), (0, .ref (o 0)), (1, .ref (o0 0)), (2, .int a1)]) X dX4_restAll_33 hl (k := 3) rfl rfl (by decide) rfl (fun ls hl => ?_)
          refine v_goto (tgt := 2) X dX4_restAll_36 (by decide) ?_
          exact ih2 (x1 + (1 : Int32)) ls h (lv_sub hl [1, 2, 3, 0] rfl)
        · have h := h.1 c8
          refine v_aload_n X dX4_restAll_19 rfl (lv_at hl 0 rfl) ?_
          refine v_iload_n X dX4_restAll_20 rfl (lv_at hl 3 rfl) ?_
          refine rdV (As := [.int x1]) (rest := []) X mv_X4_48 (c_X4_weightBehind F.2.1 D K t o u x1 _ h) hF ⟨rfl, rfl, Nat.le_of_ble_eq_true rfl, Nat.le_of_ble_eq_true rfl⟩ hT hP [0, 1, 2, 3, 4, 5] rfl 0 rfl rfl hl.1 rfl rfl (Nat.le_of_ble_eq_true rfl) dX4_restAll_21 (fun r6 h => ?_)
          refine v_aload_n X dX4_restAll_24 rfl (lv_at hl 1 rfl) ?_
          refine v_get (v := .int up0.2.2.2.2.2.2.2.2.2.1) X hP 6 rfl fk_X4_52 rfl dX4_restAll_25 ?_
          refine v_icmp_le (tgt := 33) X dX4_restAll_28 (by decide) (fun c7 => ?_) (fun c7 => ?_)
          · have h := h.1 c7
            refine v_iinc (v := (x1 + (1 : Int32))) (lv' := [(3, .int (x1 + (1 : Int32))), (0, .ref (o 0)), (1, .ref (o0 0)), (2, .int a1)]) X dX4_restAll_33 hl (k := 3) rfl rfl (by decide) rfl (fun ls hl => ?_)
            refine v_goto (tgt := 2) X dX4_restAll_36 (by decide) ?_
            exact ih2 (x1 + (1 : Int32)) ls h (lv_sub hl [1, 2, 3, 0] rfl)
          · have h := h.2 c7
            exact kx5  ls h (lv_sub hl [] rfl)
  obtain ⟨n2, h⟩ := h
  have h : wL_X4_restAll_2 a1 u up0 post Kx2 n2 (0 : Int32) := by rw [hK2]; exact h
  exact lp2 n2 (0 : Int32) ls h (lv_sub hl [1, 2, 3, 0] rfl)
def wL_X4_findFewest_21 (y6 : Int32) (y7 : Int32) (b8 : BX1) (post : BX4 → Prop) (Kx21 : BX4 → Prop) : Nat → Int32 → BX4 → Prop
  | 0, _, _ => False
  | n21 + 1, x4, u5 => (y7 ≤ x4 → Kx21 u5) ∧ (¬ y7 ≤ x4 → w_X4_tryWay u5 b8 x4 (fun r11 u12 => wpJ (T := Unit → Prop) (fun (_ : Unit) => w_X4_restAll u12 b8 y6 (fun r14 => (r14 = 0 → wL_X4_findFewest_21 y6 y7 b8 post Kx21 n21 (x4 + (1 : Int32)) u12) ∧ (¬ r14 = 0 → w_X4_choose (u12.1, u12.2.1, u12.2.2.1, u12.2.2.2.1, u12.2.2.2.2.1, u12.2.2.2.2.2.1, u12.2.2.2.2.2.2.1, r11) (fun u16 => wL_X4_findFewest_21 y6 y7 b8 post Kx21 n21 (x4 + (1 : Int32)) u16)))) (fun J13 => (u12.2.2.2.2.2.2.2 = (-1000000 : Int32) → J13 ()) ∧ (¬ u12.2.2.2.2.2.2.2 = (-1000000 : Int32) → (u12.2.2.2.2.2.2.2 ≤ r11 → wL_X4_findFewest_21 y6 y7 b8 post Kx21 n21 (x4 + (1 : Int32)) u12) ∧ (¬ u12.2.2.2.2.2.2.2 ≤ r11 → J13 ())))))
def w_X4_findFewest (u : BX4) (up0 : BX1) (a1 : Int32) (a2 : Int32) (post : BX4 → Prop) : Prop := w_X4_foretellSets u up0 a2 (fun u2 => w_X4_waysToLet up0 (fun r3 => ∃ n21, wL_X4_findFewest_21 a1 r3 up0 post (fun (u9 : BX4) => post u9) n21 (0 : Int32) (u2.1, u2.2.1, u2.2.2.1, u2.2.2.2.1, u2.2.2.2.2.1, u2.2.2.2.2.2.1, u2.2.2.2.2.2.2.1, (-1000000 : Int32))))
set_option maxHeartbeats 4000000 in
set_option maxRecDepth 100000 in
theorem c_X4_findFewest (l : Launch) (D : va_G) (K : Nat → ClassId) (t : Nat → Nat) (o : Nat → Nat) (o0 : Nat → Nat) (u : BX4) (up0 : BX1) (a1 : Int32) (a2 : Int32) (post : BX4 → Prop) (h : w_X4_findFewest u up0 a1 a2 post) : WrV l yX4_findFewest cX4_findFewest 7 ({ frames := 5, cells := 0, slots := 0, locals := 139 } : Room) D (TY K) t (CX4 K o u ++ CX1 K o0 up0) [.ref (o 0), .ref (o0 0), .int a1, .int a2] (fun z : BX4 => CX4 K o z ++ CX1 K o0 up0) (fun z : BX4 => post z) := by
  refine WrV.mk rfl (Nat.le_of_ble_eq_true rfl) ?_
  intro F ls A _ hF X hH hA hl hT
  obtain ⟨H, hH0⟩ : ∃ z : Heap, z = (fxS F).heap := ⟨_, rfl⟩
  obtain ⟨locs, hL0⟩ : ∃ z : List Loc, z = [] := ⟨_, rfl⟩
  have hH : HH F D A (CX4 K o u ++ CX1 K o0 up0) H locs := by rw [hH0, hL0]; exact hH
  suffices goal : V F (WQV F D (TY K) A (fun z : BX4 => CX4 K o z ++ CX1 K o0 up0) (fun z : BX4 => post z)) H locs 0 ls [] by rw [hH0, hL0] at goal; exact goal
  clear hH0 hL0
  have X : Cx F cX4_findFewest 7 RX4 D (TY K) := X
  have hl : lv_has ls 7 [(0, .ref (o 0)), (1, .ref (o0 0)), (2, .int a1), (3, .int a2)] := hl
  unfold w_X4_findFewest at h
  refine v_aload_n X dX4_findFewest_0 rfl (lv_at hl 0 rfl) ?_
  refine v_aload_n X dX4_findFewest_1 rfl (lv_at hl 1 rfl) ?_
  refine v_iload_n X dX4_findFewest_2 rfl (lv_at hl 3 rfl) ?_
  refine wrVV (As := [.ref (o0 0), .int a2]) (rest := []) (wr := ([] : va_W)) X mv_X4_27 (c_X4_foretellSets F.2.1 D K t o o0 u up0 a2 _ h) hF ⟨rfl, rfl, Nat.le_of_ble_eq_true rfl, Nat.le_of_ble_eq_true rfl⟩ hT hA hH [0, 1, 2, 3, 4, 5, 6, 7, 8, 9, 10, 11, 12, 13] [] ⟨rfl, rfl, rfl, rfl, by decide⟩ 0 rfl rfl hl.1 rfl rfl (Nat.le_of_ble_eq_true rfl) dX4_findFewest_3 (fun u2 H locs h hH => ?_)
  have hH : HH F D A (CX4 K o u2 ++ CX1 K o0 up0) H locs := hH
  refine v_aload_n X dX4_findFewest_6 rfl (lv_at hl 0 rfl) ?_
  refine v_ldc X kc_X4_61 dX4_findFewest_7 ?_
  refine v_put X hH 0 rfl fi_X4_62 (Nat.le_of_ble_eq_true rfl) dX4_findFewest_9 (fun H locs hH => ?_)
  have hH : HH F D A (CX4 K o (u2.1, u2.2.1, u2.2.2.1, u2.2.2.2.1, u2.2.2.2.2.1, u2.2.2.2.2.2.1, u2.2.2.2.2.2.2.1, (-1000000 : Int32)) ++ CX1 K o0 up0) H locs := hH
  refine v_aload_n X dX4_findFewest_12 rfl (lv_at hl 1 rfl) ?_
  refine rdS (As := [.ref (o0 0)]) (rest := []) X ms_X4_35 (c_X4_waysToLet F.2.1 D K t o0 up0 _ h) hF ⟨rfl, rfl, Nat.le_of_ble_eq_true rfl, Nat.le_of_ble_eq_true rfl⟩ (stW hT hH) hH.1 [6, 7, 8, 9, 10, 11, 12, 13] rfl hl.1 rfl rfl (Nat.le_of_ble_eq_true rfl) dX4_findFewest_13 (fun r3 h => ?_)
  refine v_istore (lv' := [(4, .int r3), (0, .ref (o 0)), (1, .ref (o0 0)), (2, .int a1), (3, .int a2)]) X dX4_findFewest_16 hl (by decide) rfl (fun ls hl => ?_)
  refine v_iconst (v := (0 : Int32)) X dX4_findFewest_18 (by decide) ?_
  refine v_istore (lv' := [(5, .int (0 : Int32)), (4, .int r3), (0, .ref (o 0)), (1, .ref (o0 0)), (2, .int a1), (3, .int a2)]) X dX4_findFewest_19 hl (by decide) rfl (fun ls hl => ?_)
  obtain ⟨Kx21, hK21⟩ : ∃ f : BX4 → Prop, f = (fun (u9 : BX4) => post u9) := ⟨_, rfl⟩
  have kx10 : ∀ (u9 : BX4) (ls : Array Slot) (H : Heap) (locs : List Loc), (Kx21 u9) → lv_has ls 7 [] → HH F D A (CX4 K o u9 ++ CX1 K o0 up0) H locs → V F (WQV F D (TY K) A (fun z : BX4 => CX4 K o z ++ CX1 K o0 up0) (fun z : BX4 => post z)) H locs 80 ls [] := by
    intro u9 ls H locs h hl hH
    have h : post u9 := by rw [hK21] at h; exact h
    exact v_wvret X hF u9 hH h dX4_findFewest_80
  have lp21 : ∀ (n21 : Nat) (x4 : Int32) (u5 : BX4) (ls : Array Slot) (H : Heap) (locs : List Loc), wL_X4_findFewest_21 a1 r3 up0 post Kx21 n21 x4 u5 → lv_has ls 7 [(0, .ref (o 0)), (1, .ref (o0 0)), (2, .int a1), (4, .int r3), (5, .int x4)] → HH F D A (CX4 K o u5 ++ CX1 K o0 up0) H locs → V F (WQV F D (TY K) A (fun z : BX4 => CX4 K o z ++ CX1 K o0 up0) (fun z : BX4 => post z)) H locs 21 ls [] := by
    intro n21
    induction n21 with
    | zero => intro x4 u5 ls H locs h hl hH; exact h.elim
    | succ n21 ih21 =>
      intro x4 u5 ls H locs h hl hH
      refine v_iload X dX4_findFewest_21 (lv_at hl 4 rfl) ?_
      refine v_iload X dX4_findFewest_23 (lv_at hl 3 rfl) ?_
      refine v_icmp_ge (tgt := 80) X dX4_findFewest_25 (by decide) (fun c20 => ?_) (fun c20 => ?_)
      · have h := h.1 c20
        exact kx10 u5 ls H locs h (lv_sub hl [] rfl) hH
      · have h := h.2 c20
        refine v_aload_n X dX4_findFewest_28 rfl (lv_at hl 0 rfl) ?_
        refine v_aload_n X dX4_findFewest_29 rfl (lv_at hl 1 rfl) ?_
        refine v_iload X dX4_findFewest_30 (lv_at hl 4 rfl) ?_
        refine wrVI (As := [.ref (o0 0), .int x4]) (rest := []) (wr := ([] : va_W)) X mv_X4_39 (c_X4_tryWay F.2.1 D K t o o0 u5 up0 x4 _ h) hF ⟨rfl, rfl, Nat.le_of_ble_eq_true rfl, Nat.le_of_ble_eq_true rfl⟩ hT hA hH [0, 1, 2, 3, 4, 5, 6, 7, 8, 9, 10, 11, 12, 13] [] ⟨rfl, rfl, rfl, rfl, by decide⟩ 0 rfl rfl hl.1 rfl rfl (Nat.le_of_ble_eq_true rfl) dX4_findFewest_32 (fun r11 u12 H locs h hH => ?_)
        have hH : HH F D A (CX4 K o u12 ++ CX1 K o0 up0) H locs := hH
        refine v_istore (lv' := [(6, .int r11), (0, .ref (o 0)), (1, .ref (o0 0)), (2, .int a1), (4, .int r3), (5, .int x4)]) X dX4_findFewest_35 hl (by decide) rfl (fun ls hl => ?_)
        refine v_aload_n X dX4_findFewest_37 rfl (lv_at hl 1 rfl) ?_
        refine v_get (v := .int u12.2.2.2.2.2.2.2) X hH.1 0 rfl fk_X4_62 rfl dX4_findFewest_38 ?_
        refine v_ldc X kc_X4_61 dX4_findFewest_41 ?_
        obtain ⟨J13, hJ13⟩ : ∃ f : Unit → Prop, f = (fun (_ : Unit) => w_X4_restAll u12 up0 a1 (fun r14 => (r14 = 0 → wL_X4_findFewest_21 a1 r3 up0 post Kx21 n21 (x4 + (1 : Int32)) u12) ∧ (¬ r14 = 0 → w_X4_choose (u12.1, u12.2.1, u12.2.2.1, u12.2.2.2.1, u12.2.2.2.2.1, u12.2.2.2.2.2.1, u12.2.2.2.2.2.2.1, r11) (fun u16 => wL_X4_findFewest_21 a1 r3 up0 post Kx21 n21 (x4 + (1 : Int32)) u16)))) := ⟨_, rfl⟩
        have kJ13 : ∀ (ls : Array Slot) (H : Heap) (locs : List Loc), (J13 ()) → lv_has ls 7 [(0, .ref (o 0)), (1, .ref (o0 0)), (2, .int a1), (4, .int r3), (5, .int x4), (6, .int r11)] → HH F D A (CX4 K o u12 ++ CX1 K o0 up0) H locs → V F (WQV F D (TY K) A (fun z : BX4 => CX4 K o z ++ CX1 K o0 up0) (fun z : BX4 => post z)) H locs 55 ls [] := by
          intro ls H locs h hl hH
          have h : w_X4_restAll u12 up0 a1 (fun r14 => (r14 = 0 → wL_X4_findFewest_21 a1 r3 up0 post Kx21 n21 (x4 + (1 : Int32)) u12) ∧ (¬ r14 = 0 → w_X4_choose (u12.1, u12.2.1, u12.2.2.1, u12.2.2.2.1, u12.2.2.2.2.1, u12.2.2.2.2.2.1, u12.2.2.2.2.2.2.1, r11) (fun u16 => wL_X4_findFewest_21 a1 r3 up0 post Kx21 n21 (x4 + (1 : Int32)) u16))) := by rw [hJ13] at h; exact h
          refine v_aload_n X dX4_findFewest_55 rfl (lv_at hl 0 rfl) ?_
          refine v_aload_n X dX4_findFewest_56 rfl (lv_at hl 1 rfl) ?_
          refine v_iload_n X dX4_findFewest_57 rfl (lv_at hl 2 rfl) ?_
          refine rdV (As := [.ref (o0 0), .int a1]) (rest := []) X mv_X4_65 (c_X4_restAll F.2.1 D K t o o0 u12 up0 a1 _ h) hF ⟨rfl, rfl, Nat.le_of_ble_eq_true rfl, Nat.le_of_ble_eq_true rfl⟩ (stW hT hH) hH.1 [0, 1, 2, 3, 4, 5, 6, 7, 8, 9, 10, 11, 12, 13] rfl 0 rfl rfl hl.1 rfl rfl (Nat.le_of_ble_eq_true rfl) dX4_findFewest_58 (fun r14 h => ?_)
          refine v_if_eq (tgt := 74) X dX4_findFewest_61 (by decide) (fun c17 => ?_) (fun c17 => ?_)
          · have h := h.1 c17
            refine v_iinc (v := (x4 + (1 : Int32))) (lv' := [(5, .int (x4 + (1 : Int32))), (0, .ref (o 0)), (1, .ref (o0 0)), (2, .int a1), (4, .int r3), (6, .int r11)]) X dX4_findFewest_74 hl (k := 4) rfl rfl (by decide) rfl (fun ls hl => ?_)
            refine v_goto (tgt := 21) X dX4_findFewest_77 (by decide) ?_
            exact ih21 (x4 + (1 : Int32)) u12 ls H locs h (lv_sub hl [1, 2, 3, 4, 0] rfl) hH
          · have h := h.2 c17
            refine v_aload_n X dX4_findFewest_64 rfl (lv_at hl 0 rfl) ?_
            refine v_iload X dX4_findFewest_65 (lv_at hl 5 rfl) ?_
            refine v_put X hH 0 rfl fi_X4_62 (Nat.le_of_ble_eq_true rfl) dX4_findFewest_67 (fun H locs hH => ?_)
            have hH : HH F D A (CX4 K o (u12.1, u12.2.1, u12.2.2.1, u12.2.2.2.1, u12.2.2.2.2.1, u12.2.2.2.2.2.1, u12.2.2.2.2.2.2.1, r11) ++ CX1 K o0 up0) H locs := hH
            refine v_aload_n X dX4_findFewest_70 rfl (lv_at hl 0 rfl) ?_
            refine wrVV (As := []) (rest := []) (wr := (CX1 K o0 up0)) X mv_X4_58 (c_X4_choose F.2.1 D K t o (u12.1, u12.2.1, u12.2.2.1, u12.2.2.2.1, u12.2.2.2.2.1, u12.2.2.2.2.2.1, u12.2.2.2.2.2.2.1, r11) _ h) hF ⟨rfl, rfl, Nat.le_of_ble_eq_true rfl, Nat.le_of_ble_eq_true rfl⟩ hT hA hH [0, 1, 2, 3, 4, 5] [6, 7, 8, 9, 10, 11, 12, 13] ⟨rfl, rfl, rfl, rfl, by decide⟩ 0 rfl rfl hl.1 rfl rfl (Nat.le_of_ble_eq_true rfl) dX4_findFewest_71 (fun u16 H locs h hH => ?_)
            have hH : HH F D A (CX1 K o0 up0 ++ CX4 K o u16) H locs := hH
            refine v_iinc (v := (x4 + (1 : Int32))) (lv' := [(5, .int (x4 + (1 : Int32))), (0, .ref (o 0)), (1, .ref (o0 0)), (2, .int a1), (4, .int r3), (6, .int r11)]) X dX4_findFewest_74 hl (k := 4) rfl rfl (by decide) rfl (fun ls hl => ?_)
            refine v_goto (tgt := 21) X dX4_findFewest_77 (by decide) ?_
            exact ih21 (x4 + (1 : Int32)) u16 ls H locs h (lv_sub hl [1, 2, 3, 4, 0] rfl) (hH.perm [8, 9, 10, 11, 12, 13, 0, 1, 2, 3, 4, 5, 6, 7] rfl rfl)
        have h : (u12.2.2.2.2.2.2.2 = (-1000000 : Int32) → J13 ()) ∧ (¬ u12.2.2.2.2.2.2.2 = (-1000000 : Int32) → (u12.2.2.2.2.2.2.2 ≤ r11 → wL_X4_findFewest_21 a1 r3 up0 post Kx21 n21 (x4 + (1 : Int32)) u12) ∧ (¬ u12.2.2.2.2.2.2.2 ≤ r11 → J13 ())) := by rw [hJ13]; exact h
        refine v_icmp_eq (tgt := 55) X dX4_findFewest_43 (by decide) (fun c19 => ?_) (fun c19 => ?_)
        · have h := h.1 c19
          exact kJ13  ls H locs h (lv_sub hl [1, 2, 3, 4, 5, 0] rfl) hH
        · have h := h.2 c19
          refine v_iload X dX4_findFewest_46 (lv_at hl 0 rfl) ?_
          refine v_aload_n X dX4_findFewest_48 rfl (lv_at hl 1 rfl) ?_
          refine v_get (v := .int u12.2.2.2.2.2.2.2) X hH.1 0 rfl fk_X4_62 rfl dX4_findFewest_49 ?_
          refine v_icmp_ge (tgt := 74) X dX4_findFewest_52 (by decide) (fun c18 => ?_) (fun c18 => ?_)
          · have h := h.1 c18
            refine v_iinc (v := (x4 + (1 : Int32))) (lv' := [(5, .int (x4 + (1 : Int32))), (6, .int r11), (0, .ref (o 0)), (1, .ref (o0 0)), (2, .int a1), (4, .int r3)]) X dX4_findFewest_74 hl (k := 5) rfl rfl (by decide) rfl (fun ls hl => ?_)
            refine v_goto (tgt := 21) X dX4_findFewest_77 (by decide) ?_
            exact ih21 (x4 + (1 : Int32)) u12 ls H locs h (lv_sub hl [2, 3, 4, 5, 0] rfl) hH
          · have h := h.2 c18
            exact kJ13  ls H locs h (lv_sub hl [1, 2, 3, 4, 5, 0] rfl) hH
  obtain ⟨n21, h⟩ := h
  have h : wL_X4_findFewest_21 a1 r3 up0 post Kx21 n21 (0 : Int32) (u2.1, u2.2.1, u2.2.2.1, u2.2.2.2.1, u2.2.2.2.2.1, u2.2.2.2.2.2.1, u2.2.2.2.2.2.2.1, (-1000000 : Int32)) := by rw [hK21]; exact h
  exact lp21 n21 (0 : Int32) (u2.1, u2.2.1, u2.2.2.1, u2.2.2.2.1, u2.2.2.2.2.1, u2.2.2.2.2.2.1, u2.2.2.2.2.2.2.1, (-1000000 : Int32)) ls H locs h (lv_sub hl [2, 3, 4, 1, 0] rfl) hH
