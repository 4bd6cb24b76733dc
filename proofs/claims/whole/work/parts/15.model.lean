def w_X7_in (a0 : Int64) (a1 : Int64) (a2 : Int64) (post : Int32 → Prop) : Prop := ((lg_cmp a0 a1) < 0 → post (0 : Int32)) ∧ (¬ (lg_cmp a0 a1) < 0 → (0 < (lg_cmp a0 a2) → post (0 : Int32)) ∧ (¬ 0 < (lg_cmp a0 a2) → post (1 : Int32)))
set_option maxHeartbeats 4000000 in
set_option maxRecDepth 100000 in
theorem c_X7_in (l : Launch) (D : va_G) (K : Nat → ClassId) (t : Nat → Nat) (a0 : Int64) (a1 : Int64) (a2 : Int64) (post : Int32 → Prop) (h : w_X7_in a0 a1 a2 post) : RdM l yX7_in cX7_in 6 (some .boolean) ({ frames := 0, cells := 0, slots := 0, locals := 0 } : Room) D (TY K) t ([] : va_W) [.long a0, .long a1, .long a2] post := by
  refine RdM.mk rfl (Nat.le_of_ble_eq_true rfl) ?_
  intro F ls _ hF X hP hl hT
  have X : Cx F cX7_in 6 RX7 D (TY K) := X
  have hl : lv_has ls 6 [(0, .long a0), (2, .long a1), (4, .long a2)] := hl
  unfold w_X7_in at h
  refine v_lload_n X dX7_in_0 rfl (lv_at hl 0 rfl) ?_
  refine v_lload_n X dX7_in_1 rfl (lv_at hl 1 rfl) ?_
  refine v_lcmp X dX7_in_2 ?_
  refine v_if_lt (tgt := 17) X dX7_in_3 (by decide) (fun c2 => ?_) (fun c2 => ?_)
  · have h := h.1 c2
    refine v_iconst (v := (0 : Int32)) X dX7_in_17 (by decide) ?_
    exact v_rzret X hF rfl h dX7_in_18
  · have h := h.2 c2
    refine v_lload_n X dX7_in_6 rfl (lv_at hl 0 rfl) ?_
    refine v_lload X dX7_in_7 (lv_at hl 2 rfl) ?_
    refine v_lcmp X dX7_in_9 ?_
    refine v_if_gt (tgt := 17) X dX7_in_10 (by decide) (fun c1 => ?_) (fun c1 => ?_)
    · have h := h.1 c1
      refine v_iconst (v := (0 : Int32)) X dX7_in_17 (by decide) ?_
      exact v_rzret X hF rfl h dX7_in_18
    · have h := h.2 c1
      refine v_iconst (v := (1 : Int32)) X dX7_in_13 (by decide) ?_
      refine v_goto (tgt := 18) X dX7_in_14 (by decide) ?_
      exact v_rzret X hF rfl h dX7_in_18
def w_X7_has (a0 : Int32) (a1 : Int32) (post : Int32 → Prop) : Prop := (((a0 >>> (a1 &&& 31)) &&& (1 : Int32)) = (1 : Int32) → post (1 : Int32)) ∧ (¬ ((a0 >>> (a1 &&& 31)) &&& (1 : Int32)) = (1 : Int32) → post (0 : Int32))
set_option maxHeartbeats 4000000 in
set_option maxRecDepth 100000 in
theorem c_X7_has (l : Launch) (D : va_G) (K : Nat → ClassId) (t : Nat → Nat) (a0 : Int32) (a1 : Int32) (post : Int32 → Prop) (h : w_X7_has a0 a1 post) : RdM l yX7_has cX7_has 2 (some .boolean) ({ frames := 0, cells := 0, slots := 0, locals := 0 } : Room) D (TY K) t ([] : va_W) [.int a0, .int a1] post := by
  refine RdM.mk rfl (Nat.le_of_ble_eq_true rfl) ?_
  intro F ls _ hF X hP hl hT
  have X : Cx F cX7_has 2 RX7 D (TY K) := X
  have hl : lv_has ls 2 [(0, .int a0), (1, .int a1)] := hl
  unfold w_X7_has at h
  refine v_iload_n X dX7_has_0 rfl (lv_at hl 0 rfl) ?_
  refine v_iload_n X dX7_has_1 rfl (lv_at hl 1 rfl) ?_
  refine v_ishr X dX7_has_2 ?_
  refine v_iconst (v := (1 : Int32)) X dX7_has_3 (by decide) ?_
  refine v_iand X dX7_has_4 ?_
  refine v_iconst (v := (1 : Int32)) X dX7_has_5 (by decide) ?_
  refine v_icmp_ne (tgt := 13) X dX7_has_6 (by decide) (fun c1 => ?_) (fun c1 => ?_)
  · have h := h.2 c1
    refine v_iconst (v := (0 : Int32)) X dX7_has_13 (by decide) ?_
    exact v_rzret X hF rfl h dX7_has_14
  · have h := h.1 c1
    refine v_iconst (v := (1 : Int32)) X dX7_has_9 (by decide) ?_
    refine v_goto (tgt := 14) X dX7_has_10 (by decide) ?_
    exact v_rzret X hF rfl h dX7_has_14
def wL_X7_ones_4 (y3 : Int32) (post : Int32 → Prop) (Kx4 : Int32 → Prop) : Nat → Int32 → Int32 → Prop
  | 0, _, _ => False
  | n4 + 1, x1, x2 => ((5 : Int32) ≤ x2 → Kx4 x1) ∧ (¬ (5 : Int32) ≤ x2 → ∀ x6 : Int32, x6 = (x1 + ((y3 >>> (x2 &&& 31)) &&& (1 : Int32))) → wL_X7_ones_4 y3 post Kx4 n4 x6 (x2 + (1 : Int32)))
def w_X7_ones (a0 : Int32) (post : Int32 → Prop) : Prop := ∃ n4, wL_X7_ones_4 a0 post (fun (x4 : Int32) => post x4) n4 (0 : Int32) (0 : Int32)
set_option maxHeartbeats 4000000 in
set_option maxRecDepth 100000 in
theorem c_X7_ones (l : Launch) (D : va_G) (K : Nat → ClassId) (t : Nat → Nat) (a0 : Int32) (post : Int32 → Prop) (h : w_X7_ones a0 post) : RdM l yX7_ones cX7_ones 3 (some .int) ({ frames := 0, cells := 0, slots := 0, locals := 0 } : Room) D (TY K) t ([] : va_W) [.int a0] post := by
  refine RdM.mk rfl (Nat.le_of_ble_eq_true rfl) ?_
  intro F ls _ hF X hP hl hT
  have X : Cx F cX7_ones 3 RX7 D (TY K) := X
  have hl : lv_has ls 3 [(0, .int a0)] := hl
  unfold w_X7_ones at h
  refine v_iconst (v := (0 : Int32)) X dX7_ones_0 (by decide) ?_
  refine v_istore_n (lv' := [(1, .int (0 : Int32)), (0, .int a0)]) X dX7_ones_1 rfl hl (by decide) rfl (fun ls hl => ?_)
  refine v_iconst (v := (0 : Int32)) X dX7_ones_2 (by decide) ?_
  refine v_istore_n (lv' := [(2, .int (0 : Int32)), (1, .int (0 : Int32)), (0, .int a0)]) X dX7_ones_3 rfl hl (by decide) rfl (fun ls hl => ?_)
  obtain ⟨Kx4, hK4⟩ : ∃ f : Int32 → Prop, f = (fun (x4 : Int32) => post x4) := ⟨_, rfl⟩
  have kx5 : ∀ (x4 : Int32) (ls : Array Slot), (Kx4 x4) → lv_has ls 3 [(1, .int x4)] → V F (RQ F post) (fxS F).heap [] 23 ls [] := by
    intro x4 ls h hl
    have h : post x4 := by rw [hK4] at h; exact h
    refine v_iload_n X dX7_ones_23 rfl (lv_at hl 0 rfl) ?_
    exact v_riret X hF h dX7_ones_24
  have lp4 : ∀ (n4 : Nat) (x1 : Int32) (x2 : Int32) (ls : Array Slot), wL_X7_ones_4 a0 post Kx4 n4 x1 x2 → lv_has ls 3 [(0, .int a0), (1, .int x1), (2, .int x2)] → V F (RQ F post) (fxS F).heap [] 4 ls [] := by
    intro n4
    induction n4 with
    | zero => intro x1 x2 ls h hl; exact h.elim
    | succ n4 ih4 =>
      intro x1 x2 ls h hl
      refine v_iload_n X dX7_ones_4 rfl (lv_at hl 2 rfl) ?_
      refine v_iconst (v := (5 : Int32)) X dX7_ones_5 (by decide) ?_
      refine v_icmp_ge (tgt := 23) X dX7_ones_6 (by decide) (fun c7 => ?_) (fun c7 => ?_)
      · have h := h.1 c7
        exact kx5 x1 ls h (lv_sub hl [1] rfl)
      · have h := h.2 c7
        refine v_iload_n X dX7_ones_9 rfl (lv_at hl 1 rfl) ?_
        refine v_iload_n X dX7_ones_10 rfl (lv_at hl 0 rfl) ?_
        refine v_iload_n X dX7_ones_11 rfl (lv_at hl 2 rfl) ?_
        refine v_ishr X dX7_ones_12 ?_
        refine v_iconst (v := (1 : Int32)) X dX7_ones_13 (by decide) ?_
        refine v_iand X dX7_ones_14 ?_
        refine v_iadd X dX7_ones_15 ?_
        refine v_topi (fun x6 ex6 => ?_)
        have h := h x6 ex6
        refine v_istore_n (lv' := [(1, .int x6), (0, .int a0), (2, .int x2)]) X dX7_ones_16 rfl hl (by decide) rfl (fun ls hl => ?_)
        refine v_iinc (v := (x2 + (1 : Int32))) (lv' := [(2, .int (x2 + (1 : Int32))), (1, .int x6), (0, .int a0)]) X dX7_ones_17 hl (k := 2) rfl rfl (by decide) rfl (fun ls hl => ?_)
        refine v_goto (tgt := 4) X dX7_ones_20 (by decide) ?_
        exact ih4 x6 (x2 + (1 : Int32)) ls h (lv_sub hl [2, 1, 0] rfl)
  obtain ⟨n4, h⟩ := h
  have h : wL_X7_ones_4 a0 post Kx4 n4 (0 : Int32) (0 : Int32) := by rw [hK4]; exact h
  exact lp4 n4 (0 : Int32) (0 : Int32) ls h (lv_sub hl [2, 1, 0] rfl)
def w_X7_found (u : BX7) (a0 : Int32) (post : Int32 → BX7 → Prop) : Prop := post ((-1000010 : Int32) - a0) (u.1, u.2.1, u.2.2.1, u.2.2.2.1, u.2.2.2.2.1, u.2.2.2.2.2.1, u.2.2.2.2.2.2.1, a0, u.2.2.2.2.2.2.2.2.1, u.2.2.2.2.2.2.2.2.2.1, u.2.2.2.2.2.2.2.2.2.2.1, u.2.2.2.2.2.2.2.2.2.2.2.1, u.2.2.2.2.2.2.2.2.2.2.2.2.1, u.2.2.2.2.2.2.2.2.2.2.2.2.2.1, u.2.2.2.2.2.2.2.2.2.2.2.2.2.2.1, u.2.2.2.2.2.2.2.2.2.2.2.2.2.2.2.1, u.2.2.2.2.2.2.2.2.2.2.2.2.2.2.2.2)
set_option maxHeartbeats 4000000 in
set_option maxRecDepth 100000 in
theorem c_X7_found (l : Launch) (D : va_G) (K : Nat → ClassId) (t : Nat → Nat) (o : Nat → Nat) (u : BX7) (a0 : Int32) (post : Int32 → BX7 → Prop) (h : w_X7_found u a0 post) : WrI l yX7_found cX7_found 2 (some .int) ({ frames := 0, cells := 0, slots := 0, locals := 0 } : Room) D (TY K) t (CX7 K o u) [.ref (o 0), .int a0] (fun z : BX7 => CX7 K o z) (fun (r : Int32) (z : BX7) => post r z) := by
  refine WrI.mk rfl (Nat.le_of_ble_eq_true rfl) ?_
  intro F ls A _ hF X hH hA hl hT
  obtain ⟨H, hH0⟩ : ∃ z : Heap, z = (fxS F).heap := ⟨_, rfl⟩
  obtain ⟨locs, hL0⟩ : ∃ z : List Loc, z = [] := ⟨_, rfl⟩
  have hH : HH F D A (CX7 K o u) H locs := by rw [hH0, hL0]; exact hH
  suffices goal : V F (WQI F D (TY K) A (fun z : BX7 => CX7 K o z) (fun (r : Int32) (z : BX7) => post r z)) H locs 0 ls [] by rw [hH0, hL0] at goal; exact goal
  clear hH0 hL0
  have X : Cx F cX7_found 2 RX7 D (TY K) := X
  have hl : lv_has ls 2 [(0, .ref (o 0)), (1, .int a0)] := hl
  unfold w_X7_found at h
  refine v_aload_n X dX7_found_0 rfl (lv_at hl 0 rfl) ?_
  refine v_iload_n X dX7_found_1 rfl (lv_at hl 1 rfl) ?_
  refine v_put X hH 0 rfl fi_X7_38 (Nat.le_of_ble_eq_true rfl) dX7_found_2 (fun H locs hH => ?_)
  have hH : HH F D A (CX7 K o (u.1, u.2.1, u.2.2.1, u.2.2.2.1, u.2.2.2.2.1, u.2.2.2.2.2.1, u.2.2.2.2.2.2.1, a0, u.2.2.2.2.2.2.2.2.1, u.2.2.2.2.2.2.2.2.2.1, u.2.2.2.2.2.2.2.2.2.2.1, u.2.2.2.2.2.2.2.2.2.2.2.1, u.2.2.2.2.2.2.2.2.2.2.2.2.1, u.2.2.2.2.2.2.2.2.2.2.2.2.2.1, u.2.2.2.2.2.2.2.2.2.2.2.2.2.2.1, u.2.2.2.2.2.2.2.2.2.2.2.2.2.2.2.1, u.2.2.2.2.2.2.2.2.2.2.2.2.2.2.2.2)) H locs := hH
  refine v_ldc X kc_X7_42 dX7_found_5 ?_
  refine v_iload_n X dX7_found_7 rfl (lv_at hl 1 rfl) ?_
  refine v_isub X dX7_found_8 ?_
  exact v_wiret X hF (u.1, u.2.1, u.2.2.1, u.2.2.2.1, u.2.2.2.2.1, u.2.2.2.2.2.1, u.2.2.2.2.2.2.1, a0, u.2.2.2.2.2.2.2.2.1, u.2.2.2.2.2.2.2.2.2.1, u.2.2.2.2.2.2.2.2.2.2.1, u.2.2.2.2.2.2.2.2.2.2.2.1, u.2.2.2.2.2.2.2.2.2.2.2.2.1, u.2.2.2.2.2.2.2.2.2.2.2.2.2.1, u.2.2.2.2.2.2.2.2.2.2.2.2.2.2.1, u.2.2.2.2.2.2.2.2.2.2.2.2.2.2.2.1, u.2.2.2.2.2.2.2.2.2.2.2.2.2.2.2.2) hH h dX7_found_9
def w_X7_good (u : BX7) (a0 : Int32) (post : Int32 → BX7 → Prop) : Prop := post a0 (u.1, u.2.1, u.2.2.1, u.2.2.2.1, u.2.2.2.2.1, u.2.2.2.2.2.1, u.2.2.2.2.2.2.1, (0 : Int32), u.2.2.2.2.2.2.2.2.1, u.2.2.2.2.2.2.2.2.2.1, u.2.2.2.2.2.2.2.2.2.2.1, u.2.2.2.2.2.2.2.2.2.2.2.1, u.2.2.2.2.2.2.2.2.2.2.2.2.1, u.2.2.2.2.2.2.2.2.2.2.2.2.2.1, u.2.2.2.2.2.2.2.2.2.2.2.2.2.2.1, u.2.2.2.2.2.2.2.2.2.2.2.2.2.2.2.1, u.2.2.2.2.2.2.2.2.2.2.2.2.2.2.2.2)
set_option maxHeartbeats 4000000 in
set_option maxRecDepth 100000 in
theorem c_X7_good (l : Launch) (D : va_G) (K : Nat → ClassId) (t : Nat → Nat) (o : Nat → Nat) (u : BX7) (a0 : Int32) (post : Int32 → BX7 → Prop) (h : w_X7_good u a0 post) : WrI l yX7_good cX7_good 2 (some .int) ({ frames := 0, cells := 0, slots := 0, locals := 0 } : Room) D (TY K) t (CX7 K o u) [.ref (o 0), .int a0] (fun z : BX7 => CX7 K o z) (fun (r : Int32) (z : BX7) => post r z) := by
  refine WrI.mk rfl (Nat.le_of_ble_eq_true rfl) ?_
  intro F ls A _ hF X hH hA hl hT
  obtain ⟨H, hH0⟩ : ∃ z : Heap, z = (fxS F).heap := ⟨_, rfl⟩
  obtain ⟨locs, hL0⟩ : ∃ z : List Loc, z = [] := ⟨_, rfl⟩
  have hH : HH F D A (CX7 K o u) H locs := by rw [hH0, hL0]; exact hH
  suffices goal : V F (WQI F D (TY K) A (fun z : BX7 => CX7 K o z) (fun (r : Int32) (z : BX7) => post r z)) H locs 0 ls [] by rw [hH0, hL0] at goal; exact goal
  clear hH0 hL0
  have X : Cx F cX7_good 2 RX7 D (TY K) := X
  have hl : lv_has ls 2 [(0, .ref (o 0)), (1, .int a0)] := hl
  unfold w_X7_good at h
  refine v_aload_n X dX7_good_0 rfl (lv_at hl 0 rfl) ?_
  refine v_iconst (v := (0 : Int32)) X dX7_good_1 (by decide) ?_
  refine v_put X hH 0 rfl fi_X7_38 (Nat.le_of_ble_eq_true rfl) dX7_good_2 (fun H locs hH => ?_)
  have hH : HH F D A (CX7 K o (u.1, u.2.1, u.2.2.1, u.2.2.2.1, u.2.2.2.2.1, u.2.2.2.2.2.1, u.2.2.2.2.2.2.1, (0 : Int32), u.2.2.2.2.2.2.2.2.1, u.2.2.2.2.2.2.2.2.2.1, u.2.2.2.2.2.2.2.2.2.2.1, u.2.2.2.2.2.2.2.2.2.2.2.1, u.2.2.2.2.2.2.2.2.2.2.2.2.1, u.2.2.2.2.2.2.2.2.2.2.2.2.2.1, u.2.2.2.2.2.2.2.2.2.2.2.2.2.2.1, u.2.2.2.2.2.2.2.2.2.2.2.2.2.2.2.1, u.2.2.2.2.2.2.2.2.2.2.2.2.2.2.2.2)) H locs := hH
  refine v_iload_n X dX7_good_5 rfl (lv_at hl 1 rfl) ?_
  exact v_wiret X hF (u.1, u.2.1, u.2.2.1, u.2.2.2.1, u.2.2.2.2.1, u.2.2.2.2.2.1, u.2.2.2.2.2.2.1, (0 : Int32), u.2.2.2.2.2.2.2.2.1, u.2.2.2.2.2.2.2.2.2.1, u.2.2.2.2.2.2.2.2.2.2.1, u.2.2.2.2.2.2.2.2.2.2.2.1, u.2.2.2.2.2.2.2.2.2.2.2.2.1, u.2.2.2.2.2.2.2.2.2.2.2.2.2.1, u.2.2.2.2.2.2.2.2.2.2.2.2.2.2.1, u.2.2.2.2.2.2.2.2.2.2.2.2.2.2.2.1, u.2.2.2.2.2.2.2.2.2.2.2.2.2.2.2.2) hH h dX7_good_6
def w_X7_isRow (a0 : Int32) (post : Int32 → Prop) : Prop := w_X7_in a0.toInt64 (0 : Int64) (7 : Int64) (fun r1 => bz r1 ∧ post r1)
set_option maxHeartbeats 4000000 in
set_option maxRecDepth 100000 in
theorem c_X7_isRow (l : Launch) (D : va_G) (K : Nat → ClassId) (t : Nat → Nat) (a0 : Int32) (post : Int32 → Prop) (h : w_X7_isRow a0 post) : RdM l yX7_isRow cX7_isRow 1 (some .boolean) ({ frames := 1, cells := 0, slots := 0, locals := 25 } : Room) D (TY K) t ([] : va_W) [.int a0] post := by
  refine RdM.mk rfl (Nat.le_of_ble_eq_true rfl) ?_
  intro F ls _ hF X hP hl hT
  have X : Cx F cX7_isRow 1 RX7 D (TY K) := X
  have hl : lv_has ls 1 [(0, .int a0)] := hl
  unfold w_X7_isRow at h
  refine v_iload_n X dX7_isRow_0 rfl (lv_at hl 0 rfl) ?_
  refine v_i2l X dX7_isRow_1 rfl ?_
  refine v_lconst (v := (0 : Int64)) X dX7_isRow_2 (by decide) ?_
  refine v_ldc2 X kc_X7_43 dX7_isRow_3 ?_
  refine rdS (As := [.long a0.toInt64, .long (0 : Int64), .long (7 : Int64)]) (rest := []) X ms_X7_45 (c_X7_in F.2.1 D K t a0.toInt64 (0 : Int64) (7 : Int64) _ h) hF ⟨rfl, rfl, Nat.le_of_ble_eq_true rfl, Nat.le_of_ble_eq_true rfl⟩ hT hP [] rfl hl.1 rfl rfl (Nat.le_of_ble_eq_true rfl) dX7_isRow_6 (fun r1 h => ?_)
  exact v_rzret X hF h.1 h.2 dX7_isRow_9
def wL_X7_row_55 (y5 : Int32) (y6 : Int32) (post : Int32 → BX7 → Prop) (Kx55 : BX7 → Prop) : Nat → Int32 → BX7 → Prop
  | 0, _, _ => False
  | n55 + 1, x3, u4 => ((40 : Int32) ≤ x3 → Kx55 u4) ∧ (¬ (40 : Int32) ≤ x3 → vp_in (((40 : Int32) * y5) + x3) 320 ∧ (wL_X7_row_55 y5 y6 post Kx55 n55 (x3 + (1 : Int32)) (u4.1, u4.2.1, u4.2.2.1, u4.2.2.2.1, (upd u4.2.2.2.2.1 (((40 : Int32) * y5) + x3).toNatClampNeg (0 : Int32)), u4.2.2.2.2.2.1, u4.2.2.2.2.2.2.1, u4.2.2.2.2.2.2.2.1, u4.2.2.2.2.2.2.2.2.1, u4.2.2.2.2.2.2.2.2.2.1, u4.2.2.2.2.2.2.2.2.2.2.1, u4.2.2.2.2.2.2.2.2.2.2.2.1, u4.2.2.2.2.2.2.2.2.2.2.2.2.1, u4.2.2.2.2.2.2.2.2.2.2.2.2.2.1, u4.2.2.2.2.2.2.2.2.2.2.2.2.2.2.1, u4.2.2.2.2.2.2.2.2.2.2.2.2.2.2.2.1, u4.2.2.2.2.2.2.2.2.2.2.2.2.2.2.2.2)))
def w_X7_row (u : BX7) (a0 : Int32) (a1 : Int32) (a2 : Int32) (post : Int32 → BX7 → Prop) : Prop := w_X7_isRow a0 (fun r1 => (r1 = 0 → post (-1000001 : Int32) u) ∧ (¬ r1 = 0 → w_X7_in a1.toInt64 (0 : Int64) (2 : Int64) (fun r2 => (r2 = 0 → post (-1000001 : Int32) u) ∧ (¬ r2 = 0 → (a2 ≤ (40 : Int32) → (0 ≤ a2 → vp_in a0 8 ∧ (vp_in a0 8 ∧ (∃ n55, wL_X7_row_55 a0 a2 post (fun (u7 : BX7) => w_X7_good u7 a2 (fun r8 u9 => post r8 u9)) n55 (0 : Int32) (u.1, u.2.1, u.2.2.1, u.2.2.2.1, u.2.2.2.2.1, (upd u.2.2.2.2.2.1 a0.toNatClampNeg a2), (upd u.2.2.2.2.2.2.1 a0.toNatClampNeg a1), u.2.2.2.2.2.2.2.1, u.2.2.2.2.2.2.2.2.1, u.2.2.2.2.2.2.2.2.2.1, u.2.2.2.2.2.2.2.2.2.2.1, u.2.2.2.2.2.2.2.2.2.2.2.1, u.2.2.2.2.2.2.2.2.2.2.2.2.1, u.2.2.2.2.2.2.2.2.2.2.2.2.2.1, u.2.2.2.2.2.2.2.2.2.2.2.2.2.2.1, u.2.2.2.2.2.2.2.2.2.2.2.2.2.2.2.1, u.2.2.2.2.2.2.2.2.2.2.2.2.2.2.2.2)))) ∧ (¬ 0 ≤ a2 → w_X7_found u (4 : Int32) (fun r12 u13 => post r12 u13))) ∧ (¬ a2 ≤ (40 : Int32) → post (-1000001 : Int32) u)))))
set_option maxHeartbeats 4000000 in
set_option maxRecDepth 100000 in
theorem c_X7_row (l : Launch) (D : va_G) (K : Nat → ClassId) (t : Nat → Nat) (o : Nat → Nat) (u : BX7) (a0 : Int32) (a1 : Int32) (a2 : Int32) (post : Int32 → BX7 → Prop) (h : w_X7_row u a0 a1 a2 post) : WrI l yX7_row cX7_row 5 (some .int) ({ frames := 2, cells := 0, slots := 0, locals := 45 } : Room) D (TY K) t (CX7 K o u) [.ref (o 0), .int a0, .int a1, .int a2] (fun z : BX7 => CX7 K o z) (fun (r : Int32) (z : BX7) => post r z) := by
  refine WrI.mk rfl (Nat.le_of_ble_eq_true rfl) ?_
  intro F ls A _ hF X hH hA hl hT
  obtain ⟨H, hH0⟩ : ∃ z : Heap, z = (fxS F).heap := ⟨_, rfl⟩
  obtain ⟨locs, hL0⟩ : ∃ z : List Loc, z = [] := ⟨_, rfl⟩
  have hH : HH F D A (CX7 K o u) H locs := by rw [hH0, hL0]; exact hH
  suffices goal : V F (WQI F D (TY K) A (fun z : BX7 => CX7 K o z) (fun (r : Int32) (z : BX7) => post r z)) H locs 0 ls [] by rw [hH0, hL0] at goal; exact goal
  clear hH0 hL0
  have X : Cx F cX7_row 5 RX7 D (TY K) := X
  have hl : lv_has ls 5 [(0, .ref (o 0)), (1, .int a0), (2, .int a1), (3, .int a2)] := hl
  unfold w_X7_row at h
  refine v_iload_n X dX7_row_0 rfl (lv_at hl 1 rfl) ?_
  refine rdS (As := [.int a0]) (rest := []) X ms_X7_49 (c_X7_isRow F.2.1 D K t a0 _ h) hF ⟨rfl, rfl, Nat.le_of_ble_eq_true rfl, Nat.le_of_ble_eq_true rfl⟩ (stW hT hH) hH.1 [] rfl hl.1 rfl rfl (Nat.le_of_ble_eq_true rfl) dX7_row_1 (fun r1 h => ?_)
  refine v_if_eq (tgt := 25) X dX7_row_4 (by decide) (fun c17 => ?_) (fun c17 => ?_)
  · have h := h.1 c17
    refine v_ldc X kc_X7_55 dX7_row_25 ?_
    exact v_wiret X hF u hH h dX7_row_27
  · have h := h.2 c17
    refine v_iload_n X dX7_row_7 rfl (lv_at hl 2 rfl) ?_
    refine v_i2l X dX7_row_8 rfl ?_
    refine v_lconst (v := (0 : Int64)) X dX7_row_9 (by decide) ?_
    refine v_ldc2 X kc_X7_53 dX7_row_10 ?_
    refine rdS (As := [.long a1.toInt64, .long (0 : Int64), .long (2 : Int64)]) (rest := []) X ms_X7_45 (c_X7_in F.2.1 D K t a1.toInt64 (0 : Int64) (2 : Int64) _ h) hF ⟨rfl, rfl, Nat.le_of_ble_eq_true rfl, Nat.le_of_ble_eq_true rfl⟩ (stW hT hH) hH.1 [] rfl hl.1 rfl rfl (Nat.le_of_ble_eq_true rfl) dX7_row_13 (fun r2 h => ?_)
    refine v_if_eq (tgt := 25) X dX7_row_16 (by decide) (fun c16 => ?_) (fun c16 => ?_)
    · have h := h.1 c16
      refine v_ldc X kc_X7_55 dX7_row_25 ?_
      exact v_wiret X hF u hH h dX7_row_27
    · have h := h.2 c16
      refine v_iload_n X dX7_row_19 rfl (lv_at hl 3 rfl) ?_
      refine v_bipush (v := (40 : Int32)) X dX7_row_20 (by decide) ?_
      refine v_icmp_le (tgt := 28) X dX7_row_22 (by decide) (fun c15 => ?_) (fun c15 => ?_)
      · have h := h.1 c15
        refine v_iload_n X dX7_row_28 rfl (lv_at hl 3 rfl) ?_
        refine v_if_ge (tgt := 38) X dX7_row_29 (by decide) (fun c14 => ?_) (fun c14 => ?_)
        · have h := h.1 c14
          refine v_aload_n X dX7_row_38 rfl (lv_at hl 0 rfl) ?_
          refine v_get (v := .ref (o 5)) X hH.1 0 rfl fk_X7_23 rfl dX7_row_39 ?_
          refine v_iload_n X dX7_row_42 rfl (lv_at hl 1 rfl) ?_
          refine v_iload_n X dX7_row_43 rfl (lv_at hl 3 rfl) ?_
          have hin := h.1
          have h := h.2
          refine v_iast (f := u.2.2.2.2.2.1) X hH 5 0 rfl rfl hin dX7_row_44 (fun H locs hH => ?_)
          have hH : HH F D A (CX7 K o (u.1, u.2.1, u.2.2.1, u.2.2.2.1, u.2.2.2.2.1, (upd u.2.2.2.2.2.1 a0.toNatClampNeg a2), u.2.2.2.2.2.2.1, u.2.2.2.2.2.2.2.1, u.2.2.2.2.2.2.2.2.1, u.2.2.2.2.2.2.2.2.2.1, u.2.2.2.2.2.2.2.2.2.2.1, u.2.2.2.2.2.2.2.2.2.2.2.1, u.2.2.2.2.2.2.2.2.2.2.2.2.1, u.2.2.2.2.2.2.2.2.2.2.2.2.2.1, u.2.2.2.2.2.2.2.2.2.2.2.2.2.2.1, u.2.2.2.2.2.2.2.2.2.2.2.2.2.2.2.1, u.2.2.2.2.2.2.2.2.2.2.2.2.2.2.2.2)) H locs := hH
          refine v_aload_n X dX7_row_45 rfl (lv_at hl 0 rfl) ?_
          refine v_get (v := .ref (o 6)) X hH.1 0 rfl fk_X7_26 rfl dX7_row_46 ?_
          refine v_iload_n X dX7_row_49 rfl (lv_at hl 1 rfl) ?_
          refine v_iload_n X dX7_row_50 rfl (lv_at hl 2 rfl) ?_
          have hin := h.1
          have h := h.2
          refine v_iast (f := u.2.2.2.2.2.2.1) X hH 6 0 rfl rfl hin dX7_row_51 (fun H locs hH => ?_)
          have hH : HH F D A (CX7 K o (u.1, u.2.1, u.2.2.1, u.2.2.2.1, u.2.2.2.2.1, (upd u.2.2.2.2.2.1 a0.toNatClampNeg a2), (upd u.2.2.2.2.2.2.1 a0.toNatClampNeg a1), u.2.2.2.2.2.2.2.1, u.2.2.2.2.2.2.2.2.1, u.2.2.2.2.2.2.2.2.2.1, u.2.2.2.2.2.2.2.2.2.2.1, u.2.2.2.2.2.2.2.2.2.2.2.1, u.2.2.2.2.2.2.2.2.2.2.2.2.1, u.2.2.2.2.2.2.2.2.2.2.2.2.2.1, u.2.2.2.2.2.2.2.2.2.2.2.2.2.2.1, u.2.2.2.2.2.2.2.2.2.2.2.2.2.2.2.1, u.2.2.2.2.2.2.2.2.2.2.2.2.2.2.2.2)) H locs := hH
          refine v_iconst (v := (0 : Int32)) X dX7_row_52 (by decide) ?_
          refine v_istore (lv' := [(4, .int (0 : Int32)), (0, .ref (o 0)), (1, .int a0), (2, .int a1), (3, .int a2)]) X dX7_row_53 hl (by decide) rfl (fun ls hl => ?_)
          obtain ⟨Kx55, hK55⟩ : ∃ f : BX7 → Prop, f = (fun (u7 : BX7) => w_X7_good u7 a2 (fun r8 u9 => post r8 u9)) := ⟨_, rfl⟩
          have kx10 : ∀ (u7 : BX7) (ls : Array Slot) (H : Heap) (locs : List Loc), (Kx55 u7) → lv_has ls 5 [(0, .ref (o 0)), (3, .int a2)] → HH F D A (CX7 K o u7) H locs → V F (WQI F D (TY K) A (fun z : BX7 => CX7 K o z) (fun (r : Int32) (z : BX7) => post r z)) H locs 81 ls [] := by
            intro u7 ls H locs h hl hH
            have h : w_X7_good u7 a2 (fun r8 u9 => post r8 u9) := by rw [hK55] at h; exact h
            refine v_aload_n X dX7_row_81 rfl (lv_at hl 0 rfl) ?_
            refine v_iload_n X dX7_row_82 rfl (lv_at hl 1 rfl) ?_
            refine wrVI (As := [.int a2]) (rest := []) (wr := ([] : va_W)) X mv_X7_60 (c_X7_good F.2.1 D K t o u7 a2 _ h) hF ⟨rfl, rfl, Nat.le_of_ble_eq_true rfl, Nat.le_of_ble_eq_true rfl⟩ hT hA hH [0, 1, 2, 3, 4, 5, 6, 7, 8, 9] [] ⟨rfl, rfl, rfl, rfl, by decide⟩ 0 rfl rfl hl.1 rfl rfl (Nat.le_of_ble_eq_true rfl) dX7_row_83 (fun r8 u9 H locs h hH => ?_)
            have hH : HH F D A (CX7 K o u9) H locs := hH
            exact v_wiret X hF u9 hH h dX7_row_86
          have lp55 : ∀ (n55 : Nat) (x3 : Int32) (u4 : BX7) (ls : Array Slot) (H : Heap) (locs : List Loc), wL_X7_row_55 a0 a2 post Kx55 n55 x3 u4 → lv_has ls 5 [(0, .ref (o 0)), (1, .int a0), (3, .int a2), (4, .int x3)] → HH F D A (CX7 K o u4) H locs → V F (WQI F D (TY K) A (fun z : BX7 => CX7 K o z) (fun (r : Int32) (z : BX7) => post r z)) H locs 55 ls [] := by
            intro n55
            induction n55 with
            | zero => intro x3 u4 ls H locs h hl hH; exact h.elim
            | succ n55 ih55 =>
              intro x3 u4 ls H locs h hl hH
              refine v_iload X dX7_row_55 (lv_at hl 3 rfl) ?_
              refine v_bipush (v := (40 : Int32)) X dX7_row_57 (by decide) ?_
              refine v_icmp_ge (tgt := 81) X dX7_row_59 (by decide) (fun c11 => ?_) (fun c11 => ?_)
              · have h := h.1 c11
                exact kx10 u4 ls H locs h (lv_sub hl [0, 2] rfl) hH
              · have h := h.2 c11
                refine v_aload_n X dX7_row_62 rfl (lv_at hl 0 rfl) ?_
                refine v_get (v := .ref (o 4)) X hH.1 0 rfl fk_X7_20 rfl dX7_row_63 ?_
                refine v_bipush (v := (40 : Int32)) X dX7_row_66 (by decide) ?_
                refine v_iload_n X dX7_row_68 rfl (lv_at hl 1 rfl) ?_
                refine v_imul X dX7_row_69 ?_
                refine v_iload X dX7_row_70 (lv_at hl 3 rfl) ?_
                refine v_iadd X dX7_row_72 ?_
                refine v_iconst (v := (0 : Int32)) X dX7_row_73 (by decide) ?_
                have hin := h.1
                have h := h.2
                refine v_iast (f := u4.2.2.2.2.1) X hH 4 0 rfl rfl hin dX7_row_74 (fun H locs hH => ?_)
                have hH : HH F D A (CX7 K o (u4.1, u4.2.1, u4.2.2.1, u4.2.2.2.1, (upd u4.2.2.2.2.1 (((40 : Int32) * a0) + x3).toNatClampNeg (0 : Int32)), u4.2.2.2.2.2.1, u4.2.2.2.2.2.2.1, u4.2.2.2.2.2.2.2.1, u4.2.2.2.2.2.2.2.2.1, u4.2.2.2.2.2.2.2.2.2.1, u4.2.2.2.2.2.2.2.2.2.2.1, u4.2.2.2.2.2.2.2.2.2.2.2.1, u4.2.2.2.2.2.2.2.2.2.2.2.2.1, u4.2.2.2.2.2.2.2.2.2.2.2.2.2.1, u4.2.2.2.2.2.2.2.2.2.2.2.2.2.2.1, u4.2.2.2.2.2.2.2.2.2.2.2.2.2.2.2.1, u4.2.2.2.2.2.2.2.2.2.2.2.2.2.2.2.2)) H locs := hH
                refine v_iinc (v := (x3 + (1 : Int32))) (lv' := [(4, .int (x3 + (1 : Int32))), (0, .ref (o 0)), (1, .int a0), (3, .int a2)]) X dX7_row_75 hl (k := 3) rfl rfl (by decide) rfl (fun ls hl => ?_)
                refine v_goto (tgt := 55) X dX7_row_78 (by decide) ?_
                exact ih55 (x3 + (1 : Int32)) (u4.1, u4.2.1, u4.2.2.1, u4.2.2.2.1, (upd u4.2.2.2.2.1 (((40 : Int32) * a0) + x3).toNatClampNeg (0 : Int32)), u4.2.2.2.2.2.1, u4.2.2.2.2.2.2.1, u4.2.2.2.2.2.2.2.1, u4.2.2.2.2.2.2.2.2.1, u4.2.2.2.2.2.2.2.2.2.1, u4.2.2.2.2.2.2.2.2.2.2.1, u4.2.2.2.2.2.2.2.2.2.2.2.1, u4.2.2.2.2.2.2.2.2.2.2.2.2.1, u4.2.2.2.2.2.2.2.2.2.2.2.2.2.1, u4.2.2.2.2.2.2.2.2.2.2.2.2.2.2.1, u4.2.2.2.2.2.2.2.2.2.2.2.2.2.2.2.1, u4.2.2.2.2.2.2.2.2.2.2.2.2.2.2.2.2) ls H locs h (lv_sub hl [1, 2, 3, 0] rfl) hH
          obtain ⟨n55, h⟩ := h
          have h : wL_X7_row_55 a0 a2 post Kx55 n55 (0 : Int32) (u.1, u.2.1, u.2.2.1, u.2.2.2.1, u.2.2.2.2.1, (upd u.2.2.2.2.2.1 a0.toNatClampNeg a2), (upd u.2.2.2.2.2.2.1 a0.toNatClampNeg a1), u.2.2.2.2.2.2.2.1, u.2.2.2.2.2.2.2.2.1, u.2.2.2.2.2.2.2.2.2.1, u.2.2.2.2.2.2.2.2.2.2.1, u.2.2.2.2.2.2.2.2.2.2.2.1, u.2.2.2.2.2.2.2.2.2.2.2.2.1, u.2.2.2.2.2.2.2.2.2.2.2.2.2.1, u.2.2.2.2.2.2.2.2.2.2.2.2.2.2.1, u.2.2.2.2.2.2.2.2.2.2.2.2.2.2.2.1, u.2.2.2.2.2.2.2.2.2.2.2.2.2.2.2.2) := by rw [hK55]; exact h
          exact lp55 n55 (0 : Int32) (u.1, u.2.1, u.2.2.1, u.2.2.2.1, u.2.2.2.2.1, (upd u.2.2.2.2.2.1 a0.toNatClampNeg a2), (upd u.2.2.2.2.2.2.1 a0.toNatClampNeg a1), u.2.2.2.2.2.2.2.1, u.2.2.2.2.2.2.2.2.1, u.2.2.2.2.2.2.2.2.2.1, u.2.2.2.2.2.2.2.2.2.2.1, u.2.2.2.2.2.2.2.2.2.2.2.1, u.2.2.2.2.2.2.2.2.2.2.2.2.1, u.2.2.2.2.2.2.2.2.2.2.2.2.2.1, u.2.2.2.2.2.2.2.2.2.2.2.2.2.2.1, u.2.2.2.2.2.2.2.2.2.2.2.2.2.2.2.1, u.2.2.2.2.2.2.2.2.2.2.2.2.2.2.2.2) ls H locs h (lv_sub hl [1, 2, 4, 0] rfl) hH
        · have h := h.2 c14
          refine v_aload_n X dX7_row_32 rfl (lv_at hl 0 rfl) ?_
          refine v_iconst (v := (4 : Int32)) X dX7_row_33 (by decide) ?_
          refine wrVI (As := [.int (4 : Int32)]) (rest := []) (wr := ([] : va_W)) X mv_X7_56 (c_X7_found F.2.1 D K t o u (4 : Int32) _ h) hF ⟨rfl, rfl, Nat.le_of_ble_eq_true rfl, Nat.le_of_ble_eq_true rfl⟩ hT hA hH [0, 1, 2, 3, 4, 5, 6, 7, 8, 9] [] ⟨rfl, rfl, rfl, rfl, by decide⟩ 0 rfl rfl hl.1 rfl rfl (Nat.le_of_ble_eq_true rfl) dX7_row_34 (fun r12 u13 H locs h hH => ?_)
          have hH : HH F D A (CX7 K o u13) H locs := hH
          exact v_wiret X hF u13 hH h dX7_row_37
      · have h := h.2 c15
        refine v_ldc X kc_X7_55 dX7_row_25 ?_
        exact v_wiret X hF u hH h dX7_row_27
def w_X7_set (u : BX7) (a0 : Int32) (a1 : Int32) (a2 : Int32) (post : Int32 → BX7 → Prop) : Prop := w_X7_isRow a0 (fun r1 => (r1 = 0 → post (-1000001 : Int32) u) ∧ (¬ r1 = 0 → vp_in a0 8 ∧ ((0 ≤ (u.2.2.2.2.2.1 a0.toNatClampNeg) → vp_in a0 8 ∧ (w_X7_in a1.toInt64 (0 : Int64) (((u.2.2.2.2.2.1 a0.toNatClampNeg) - (1 : Int32)).toInt64) (fun r2 => (r2 = 0 → w_X7_found u (2 : Int32) (fun r9 u10 => post r9 u10)) ∧ (¬ r2 = 0 → vp_in a0 8 ∧ (wpJ (T := Int32 → Prop) (fun (v4 : Int32) => vp_in (((40 : Int32) * a0) + a1) 320 ∧ (vp_in (((40 : Int32) * a0) + a1) 320 ∧ (w_X7_good (u.1, u.2.1, u.2.2.1, u.2.2.2.1, (upd u.2.2.2.2.1 (((40 : Int32) * a0) + a1).toNatClampNeg v4), u.2.2.2.2.2.1, u.2.2.2.2.2.2.1, u.2.2.2.2.2.2.2.1, u.2.2.2.2.2.2.2.2.1, u.2.2.2.2.2.2.2.2.2.1, u.2.2.2.2.2.2.2.2.2.2.1, u.2.2.2.2.2.2.2.2.2.2.2.1, u.2.2.2.2.2.2.2.2.2.2.2.2.1, u.2.2.2.2.2.2.2.2.2.2.2.2.2.1, u.2.2.2.2.2.2.2.2.2.2.2.2.2.2.1, u.2.2.2.2.2.2.2.2.2.2.2.2.2.2.2.1, u.2.2.2.2.2.2.2.2.2.2.2.2.2.2.2.2) ((upd u.2.2.2.2.1 (((40 : Int32) * a0) + a1).toNatClampNeg v4) (((40 : Int32) * a0) + a1).toNatClampNeg) (fun r5 u6 => post r5 u6)))) (fun J3 => ((u.2.2.2.2.2.2.1 a0.toNatClampNeg) = 0 → J3 a2.toInt8.toInt32) ∧ (¬ (u.2.2.2.2.2.2.1 a0.toNatClampNeg) = 0 → vp_in a0 8 ∧ (((u.2.2.2.2.2.2.1 a0.toNatClampNeg) = (1 : Int32) → J3 a2.toInt16.toInt32) ∧ (¬ (u.2.2.2.2.2.2.1 a0.toNatClampNeg) = (1 : Int32) → J3 a2))))))))) ∧ (¬ 0 ≤ (u.2.2.2.2.2.1 a0.toNatClampNeg) → w_X7_found u (1 : Int32) (fun r12 u13 => post r12 u13)))))
set_option maxHeartbeats 4000000 in
set_option maxRecDepth 100000 in
theorem c_X7_set (l : Launch) (D : va_G) (K : Nat → ClassId) (t : Nat → Nat) (o : Nat → Nat) (u : BX7) (a0 : Int32) (a1 : Int32) (a2 : Int32) (post : Int32 → BX7 → Prop) (h : w_X7_set u a0 a1 a2 post) : WrI l yX7_set cX7_set 4 (some .int) ({ frames := 2, cells := 0, slots := 0, locals := 45 } : Room) D (TY K) t (CX7 K o u) [.ref (o 0), .int a0, .int a1, .int a2] (fun z : BX7 => CX7 K o z) (fun (r : Int32) (z : BX7) => post r z) := by
  refine WrI.mk rfl (Nat.le_of_ble_eq_true rfl) ?_
  intro F ls A _ hF X hH hA hl hT
  obtain ⟨H, hH0⟩ : ∃ z : Heap, z = (fxS F).heap := ⟨_, rfl⟩
  obtain ⟨locs, hL0⟩ : ∃ z : List Loc, z = [] := ⟨_, rfl⟩
  have hH : HH F D A (CX7 K o u) H locs := by rw [hH0, hL0]; exact hH
  suffices goal : V F (WQI F D (TY K) A (fun z : BX7 => CX7 K o z) (fun (r : Int32) (z : BX7) => post r z)) H locs 0 ls [] by rw [hH0, hL0] at goal; exact goal
  clear hH0 hL0
  have X : Cx F cX7_set 4 RX7 D (TY K) := X
  have hl : lv_has ls 4 [(0, .ref (o 0)), (1, .int a0), (2, .int a1), (3, .int a2)] := hl
  unfold w_X7_set at h
  refine v_iload_n X dX7_set_0 rfl (lv_at hl 1 rfl) ?_
  refine rdS (As := [.int a0]) (rest := []) X ms_X7_49 (c_X7_isRow F.2.1 D K t a0 _ h) hF ⟨rfl, rfl, Nat.le_of_ble_eq_true rfl, Nat.le_of_ble_eq_true rfl⟩ (stW hT hH) hH.1 [] rfl hl.1 rfl rfl (Nat.le_of_ble_eq_true rfl) dX7_set_1 (fun r1 h => ?_)
  refine v_if_ne (tgt := 10) X dX7_set_4 (by decide) (fun c15 => ?_) (fun c15 => ?_)
  · have h := h.2 c15
    refine v_aload_n X dX7_set_10 rfl (lv_at hl 0 rfl) ?_
    refine v_get (v := .ref (o 5)) X hH.1 0 rfl fk_X7_23 rfl dX7_set_11 ?_
    refine v_iload_n X dX7_set_14 rfl (lv_at hl 1 rfl) ?_
    have hin := h.1
    have h := h.2
    refine v_iald (f := u.2.2.2.2.2.1) X hH.1 5 0 rfl rfl hin dX7_set_15 ?_
    refine v_if_ge (tgt := 25) X dX7_set_16 (by decide) (fun c14 => ?_) (fun c14 => ?_)
    · have h := h.1 c14
      refine v_iload_n X dX7_set_25 rfl (lv_at hl 2 rfl) ?_
      refine v_i2l X dX7_set_26 rfl ?_
      refine v_lconst (v := (0 : Int64)) X dX7_set_27 (by decide) ?_
      refine v_aload_n X dX7_set_28 rfl (lv_at hl 0 rfl) ?_
      refine v_get (v := .ref (o 5)) X hH.1 0 rfl fk_X7_23 rfl dX7_set_29 ?_
      refine v_iload_n X dX7_set_32 rfl (lv_at hl 1 rfl) ?_
      have hin := h.1
      have h := h.2
      refine v_iald (f := u.2.2.2.2.2.1) X hH.1 5 0 rfl rfl hin dX7_set_33 ?_
      refine v_iconst (v := (1 : Int32)) X dX7_set_34 (by decide) ?_
      refine v_isub X dX7_set_35 ?_
      refine v_i2l X dX7_set_36 rfl ?_
      refine rdS (As := [.long a1.toInt64, .long (0 : Int64), .long ((u.2.2.2.2.2.1 a0.toNatClampNeg) - (1 : Int32)).toInt64]) (rest := []) X ms_X7_45 (c_X7_in F.2.1 D K t a1.toInt64 (0 : Int64) (((u.2.2.2.2.2.1 a0.toNatClampNeg) - (1 : Int32)).toInt64) _ h) hF ⟨rfl, rfl, Nat.le_of_ble_eq_true rfl, Nat.le_of_ble_eq_true rfl⟩ (stW hT hH) hH.1 [] rfl hl.1 rfl rfl (Nat.le_of_ble_eq_true rfl) dX7_set_37 (fun r2 h => ?_)
      refine v_if_ne (tgt := 49) X dX7_set_40 (by decide) (fun c11 => ?_) (fun c11 => ?_)
      · have h := h.2 c11
        refine v_aload_n X dX7_set_49 rfl (lv_at hl 0 rfl) ?_
        refine v_get (v := .ref (o 4)) X hH.1 0 rfl fk_X7_20 rfl dX7_set_50 ?_
        refine v_bipush (v := (40 : Int32)) X dX7_set_53 (by decide) ?_
        refine v_iload_n X dX7_set_55 rfl (lv_at hl 1 rfl) ?_
        refine v_imul X dX7_set_56 ?_
        refine v_iload_n X dX7_set_57 rfl (lv_at hl 2 rfl) ?_
        refine v_iadd X dX7_set_58 ?_
        refine v_aload_n X dX7_set_59 rfl (lv_at hl 0 rfl) ?_
        refine v_get (v := .ref (o 6)) X hH.1 0 rfl fk_X7_26 rfl dX7_set_60 ?_
        refine v_iload_n X dX7_set_63 rfl (lv_at hl 1 rfl) ?_
        have hin := h.1
        have h := h.2
        refine v_iald (f := u.2.2.2.2.2.2.1) X hH.1 6 0 rfl rfl hin dX7_set_64 ?_
        obtain ⟨J3, hJ3⟩ : ∃ f : Int32 → Prop, f = (fun (v4 : Int32) => vp_in (((40 : Int32) * a0) + a1) 320 ∧ (vp_in (((40 : Int32) * a0) + a1) 320 ∧ (w_X7_good (u.1, u.2.1, u.2.2.1, u.2.2.2.1, (upd u.2.2.2.2.1 (((40 : Int32) * a0) + a1).toNatClampNeg v4), u.2.2.2.2.2.1, u.2.2.2.2.2.2.1, u.2.2.2.2.2.2.2.1, u.2.2.2.2.2.2.2.2.1, u.2.2.2.2.2.2.2.2.2.1, u.2.2.2.2.2.2.2.2.2.2.1, u.2.2.2.2.2.2.2.2.2.2.2.1, u.2.2.2.2.2.2.2.2.2.2.2.2.1, u.2.2.2.2.2.2.2.2.2.2.2.2.2.1, u.2.2.2.2.2.2.2.2.2.2.2.2.2.2.1, u.2.2.2.2.2.2.2.2.2.2.2.2.2.2.2.1, u.2.2.2.2.2.2.2.2.2.2.2.2.2.2.2.2) ((upd u.2.2.2.2.1 (((40 : Int32) * a0) + a1).toNatClampNeg v4) (((40 : Int32) * a0) + a1).toNatClampNeg) (fun r5 u6 => post r5 u6)))) := ⟨_, rfl⟩
        have kJ3 : ∀ (v4 : Int32) (ls : Array Slot) (H : Heap) (locs : List Loc), (J3 v4) → lv_has ls 4 [(0, .ref (o 0)), (1, .int a0), (2, .int a1)] → HH F D A (CX7 K o u) H locs → V F (WQI F D (TY K) A (fun z : BX7 => CX7 K o z) (fun (r : Int32) (z : BX7) => post r z)) H locs 89 ls [.int v4, .int (((40 : Int32) * a0) + a1), .ref (o 4)] := by
          intro v4 ls H locs h hl hH
          have h : vp_in (((40 : Int32) * a0) + a1) 320 ∧ (vp_in (((40 : Int32) * a0) + a1) 320 ∧ (w_X7_good (u.1, u.2.1, u.2.2.1, u.2.2.2.1, (upd u.2.2.2.2.1 (((40 : Int32) * a0) + a1).toNatClampNeg v4), u.2.2.2.2.2.1, u.2.2.2.2.2.2.1, u.2.2.2.2.2.2.2.1, u.2.2.2.2.2.2.2.2.1, u.2.2.2.2.2.2.2.2.2.1, u.2.2.2.2.2.2.2.2.2.2.1, u.2.2.2.2.2.2.2.2.2.2.2.1, u.2.2.2.2.2.2.2.2.2.2.2.2.1, u.2.2.2.2.2.2.2.2.2.2.2.2.2.1, u.2.2.2.2.2.2.2.2.2.2.2.2.2.2.1, u.2.2.2.2.2.2.2.2.2.2.2.2.2.2.2.1, u.2.2.2.2.2.2.2.2.2.2.2.2.2.2.2.2) ((upd u.2.2.2.2.1 (((40 : Int32) * a0) + a1).toNatClampNeg v4) (((40 : Int32) * a0) + a1).toNatClampNeg) (fun r5 u6 => post r5 u6))) := by rw [hJ3] at h; exact h
          have hin := h.1
          have h := h.2
          refine v_iast (f := u.2.2.2.2.1) X hH 4 0 rfl rfl hin dX7_set_89 (fun H locs hH => ?_)
          have hH : HH F D A (CX7 K o (u.1, u.2.1, u.2.2.1, u.2.2.2.1, (upd u.2.2.2.2.1 (((40 : Int32) * a0) + a1).toNatClampNeg v4), u.2.2.2.2.2.1, u.2.2.2.2.2.2.1, u.2.2.2.2.2.2.2.1, u.2.2.2.2.2.2.2.2.1, u.2.2.2.2.2.2.2.2.2.1, u.2.2.2.2.2.2.2.2.2.2.1, u.2.2.2.2.2.2.2.2.2.2.2.1, u.2.2.2.2.2.2.2.2.2.2.2.2.1, u.2.2.2.2.2.2.2.2.2.2.2.2.2.1, u.2.2.2.2.2.2.2.2.2.2.2.2.2.2.1, u.2.2.2.2.2.2.2.2.2.2.2.2.2.2.2.1, u.2.2.2.2.2.2.2.2.2.2.2.2.2.2.2.2)) H locs := hH
          refine v_aload_n X dX7_set_90 rfl (lv_at hl 0 rfl) ?_
          refine v_aload_n X dX7_set_91 rfl (lv_at hl 0 rfl) ?_
          refine v_get (v := .ref (o 4)) X hH.1 0 rfl fk_X7_20 rfl dX7_set_92 ?_
          refine v_bipush (v := (40 : Int32)) X dX7_set_95 (by decide) ?_
          refine v_iload_n X dX7_set_97 rfl (lv_at hl 1 rfl) ?_
          refine v_imul X dX7_set_98 ?_
          refine v_iload_n X dX7_set_99 rfl (lv_at hl 2 rfl) ?_
          refine v_iadd X dX7_set_100 ?_
          have hin := h.1
          have h := h.2
          refine v_iald (f := (upd u.2.2.2.2.1 (((40 : Int32) * a0) + a1).toNatClampNeg v4)) X hH.1 4 0 rfl rfl hin dX7_set_101 ?_
          refine wrVI (As := [.int ((upd u.2.2.2.2.1 (((40 : Int32) * a0) + a1).toNatClampNeg v4) (((40 : Int32) * a0) + a1).toNatClampNeg)]) (rest := []) (wr := ([] : va_W)) X mv_X7_60 (c_X7_good F.2.1 D K t o (u.1, u.2.1, u.2.2.1, u.2.2.2.1, (upd u.2.2.2.2.1 (((40 : Int32) * a0) + a1).toNatClampNeg v4), u.2.2.2.2.2.1, u.2.2.2.2.2.2.1, u.2.2.2.2.2.2.2.1, u.2.2.2.2.2.2.2.2.1, u.2.2.2.2.2.2.2.2.2.1, u.2.2.2.2.2.2.2.2.2.2.1, u.2.2.2.2.2.2.2.2.2.2.2.1, u.2.2.2.2.2.2.2.2.2.2.2.2.1, u.2.2.2.2.2.2.2.2.2.2.2.2.2.1, u.2.2.2.2.2.2.2.2.2.2.2.2.2.2.1, u.2.2.2.2.2.2.2.2.2.2.2.2.2.2.2.1, u.2.2.2.2.2.2.2.2.2.2.2.2.2.2.2.2) ((upd u.2.2.2.2.1 (((40 : Int32) * a0) + a1).toNatClampNeg v4) (((40 : Int32) * a0) + a1).toNatClampNeg) _ h) hF ⟨rfl, rfl, Nat.le_of_ble_eq_true rfl, Nat.le_of_ble_eq_true rfl⟩ hT hA hH [0, 1, 2, 3, 4, 5, 6, 7, 8, 9] [] ⟨rfl, rfl, rfl, rfl, by decide⟩ 0 rfl rfl hl.1 rfl rfl (Nat.le_of_ble_eq_true rfl) dX7_set_102 (fun r5 u6 H locs h hH => ?_)
          have hH : HH F D A (CX7 K o u6) H locs := hH
          exact v_wiret X hF u6 hH h dX7_set_105
        have h : ((u.2.2.2.2.2.2.1 a0.toNatClampNeg) = 0 → J3 a2.toInt8.toInt32) ∧ (¬ (u.2.2.2.2.2.2.1 a0.toNatClampNeg) = 0 → vp_in a0 8 ∧ (((u.2.2.2.2.2.2.1 a0.toNatClampNeg) = (1 : Int32) → J3 a2.toInt16.toInt32) ∧ (¬ (u.2.2.2.2.2.2.1 a0.toNatClampNeg) = (1 : Int32) → J3 a2))) := by rw [hJ3]; exact h
        refine v_if_ne (tgt := 73) X dX7_set_65 (by decide) (fun c8 => ?_) (fun c8 => ?_)
        · have h := h.2 c8
          refine v_aload_n X dX7_set_73 rfl (lv_at hl 0 rfl) ?_
          refine v_get (v := .ref (o 6)) X hH.1 0 rfl fk_X7_26 rfl dX7_set_74 ?_
          refine v_iload_n X dX7_set_77 rfl (lv_at hl 1 rfl) ?_
          have hin := h.1
          have h := h.2
          refine v_iald (f := u.2.2.2.2.2.2.1) X hH.1 6 0 rfl rfl hin dX7_set_78 ?_
          refine v_iconst (v := (1 : Int32)) X dX7_set_79 (by decide) ?_
          refine v_icmp_ne (tgt := 88) X dX7_set_80 (by decide) (fun c7 => ?_) (fun c7 => ?_)
          · have h := h.2 c7
            refine v_iload_n X dX7_set_88 rfl (lv_at hl 3 rfl) ?_
            exact kJ3 a2 ls H locs h (lv_sub hl [0, 1, 2] rfl) hH
          · have h := h.1 c7
            refine v_iload_n X dX7_set_83 rfl (lv_at hl 3 rfl) ?_
            refine v_i2s X dX7_set_84 rfl ?_
            refine v_goto (tgt := 89) X dX7_set_85 (by decide) ?_
            exact kJ3 a2.toInt16.toInt32 ls H locs h (lv_sub hl [0, 1, 2] rfl) hH
        · have h := h.1 c8
          refine v_iload_n X dX7_set_68 rfl (lv_at hl 3 rfl) ?_
          refine v_i2b X dX7_set_69 rfl ?_
          refine v_goto (tgt := 89) X dX7_set_70 (by decide) ?_
          exact kJ3 a2.toInt8.toInt32 ls H locs h (lv_sub hl [0, 1, 2] rfl) hH
      · have h := h.1 c11
        refine v_aload_n X dX7_set_43 rfl (lv_at hl 0 rfl) ?_
        refine v_iconst (v := (2 : Int32)) X dX7_set_44 (by decide) ?_
        refine wrVI (As := [.int (2 : Int32)]) (rest := []) (wr := ([] : va_W)) X mv_X7_56 (c_X7_found F.2.1 D K t o u (2 : Int32) _ h) hF ⟨rfl, rfl, Nat.le_of_ble_eq_true rfl, Nat.le_of_ble_eq_true rfl⟩ hT hA hH [0, 1, 2, 3, 4, 5, 6, 7, 8, 9] [] ⟨rfl, rfl, rfl, rfl, by decide⟩ 0 rfl rfl hl.1 rfl rfl (Nat.le_of_ble_eq_true rfl) dX7_set_45 (fun r9 u10 H locs h hH => ?_)
        have hH : HH F D A (CX7 K o u10) H locs := hH
        exact v_wiret X hF u10 hH h dX7_set_48
    · have h := h.2 c14
      refine v_aload_n X dX7_set_19 rfl (lv_at hl 0 rfl) ?_
      refine v_iconst (v := (1 : Int32)) X dX7_set_20 (by decide) ?_
      refine wrVI (As := [.int (1 : Int32)]) (rest := []) (wr := ([] : va_W)) X mv_X7_56 (c_X7_found F.2.1 D K t o u (1 : Int32) _ h) hF ⟨rfl, rfl, Nat.le_of_ble_eq_true rfl, Nat.le_of_ble_eq_true rfl⟩ hT hA hH [0, 1, 2, 3, 4, 5, 6, 7, 8, 9] [] ⟨rfl, rfl, rfl, rfl, by decide⟩ 0 rfl rfl hl.1 rfl rfl (Nat.le_of_ble_eq_true rfl) dX7_set_21 (fun r12 u13 H locs h hH => ?_)
      have hH : HH F D A (CX7 K o u13) H locs := hH
      exact v_wiret X hF u13 hH h dX7_set_24
  · have h := h.1 c15
    refine v_ldc X kc_X7_55 dX7_set_7 ?_
    exact v_wiret X hF u hH h dX7_set_9
def w_X7_isWithin (a0 : Int32) (a1 : Int32) (a2 : Int32) (post : Int32 → Prop) : Prop := (a0 < 0 → post (0 : Int32)) ∧ (¬ a0 < 0 → (0 < (lg_cmp (a0.toInt64 + a1.toInt64) a2.toInt64) → post (0 : Int32)) ∧ (¬ 0 < (lg_cmp (a0.toInt64 + a1.toInt64) a2.toInt64) → post (1 : Int32)))
set_option maxHeartbeats 4000000 in
set_option maxRecDepth 100000 in
theorem c_X7_isWithin (l : Launch) (D : va_G) (K : Nat → ClassId) (t : Nat → Nat) (a0 : Int32) (a1 : Int32) (a2 : Int32) (post : Int32 → Prop) (h : w_X7_isWithin a0 a1 a2 post) : RdM l yX7_isWithin cX7_isWithin 3 (some .boolean) ({ frames := 0, cells := 0, slots := 0, locals := 0 } : Room) D (TY K) t ([] : va_W) [.int a0, .int a1, .int a2] post := by
  refine RdM.mk rfl (Nat.le_of_ble_eq_true rfl) ?_
  intro F ls _ hF X hP hl hT
  have X : Cx F cX7_isWithin 3 RX7 D (TY K) := X
  have hl : lv_has ls 3 [(0, .int a0), (1, .int a1), (2, .int a2)] := hl
  unfold w_X7_isWithin at h
  refine v_iload_n X dX7_isWithin_0 rfl (lv_at hl 0 rfl) ?_
  refine v_if_lt (tgt := 19) X dX7_isWithin_1 (by decide) (fun c2 => ?_) (fun c2 => ?_)
  · have h := h.1 c2
    refine v_iconst (v := (0 : Int32)) X dX7_isWithin_19 (by decide) ?_
    exact v_rzret X hF rfl h dX7_isWithin_20
  · have h := h.2 c2
    refine v_iload_n X dX7_isWithin_4 rfl (lv_at hl 0 rfl) ?_
    refine v_i2l X dX7_isWithin_5 rfl ?_
    refine v_iload_n X dX7_isWithin_6 rfl (lv_at hl 1 rfl) ?_
    refine v_i2l X dX7_isWithin_7 rfl ?_
    refine v_ladd X dX7_isWithin_8 ?_
    refine v_iload_n X dX7_isWithin_9 rfl (lv_at hl 2 rfl) ?_
    refine v_i2l X dX7_isWithin_10 rfl ?_
    refine v_lcmp X dX7_isWithin_11 ?_
    refine v_if_gt (tgt := 19) X dX7_isWithin_12 (by decide) (fun c1 => ?_) (fun c1 => ?_)
    · have h := h.1 c1
      refine v_iconst (v := (0 : Int32)) X dX7_isWithin_19 (by decide) ?_
      exact v_rzret X hF rfl h dX7_isWithin_20
    · have h := h.2 c1
      refine v_iconst (v := (1 : Int32)) X dX7_isWithin_15 (by decide) ?_
      refine v_goto (tgt := 20) X dX7_isWithin_16 (by decide) ?_
      exact v_rzret X hF rfl h dX7_isWithin_20
def wL_X7_copy_144 (y21 : Int32) (y22 : Int32) (y23 : Int32) (post : Int32 → BX7 → Prop) (Kx144 : BX7 → Prop) : Nat → Int32 → BX7 → Prop
  | 0, _, _ => False
  | n144 + 1, x19, u20 => (y23 ≤ x19 → Kx144 u20) ∧ (¬ y23 ≤ x19 → vp_in x19 40 ∧ (vp_in ((((40 : Int32) * y21) + y22) + x19) 320 ∧ (wL_X7_copy_144 y21 y22 y23 post Kx144 n144 (x19 + (1 : Int32)) (u20.1, u20.2.1, u20.2.2.1, u20.2.2.2.1, (upd u20.2.2.2.2.1 ((((40 : Int32) * y21) + y22) + x19).toNatClampNeg (u20.2.2.2.2.2.2.2.2.2.2.2.2.2.1 x19.toNatClampNeg)), u20.2.2.2.2.2.1, u20.2.2.2.2.2.2.1, u20.2.2.2.2.2.2.2.1, u20.2.2.2.2.2.2.2.2.1, u20.2.2.2.2.2.2.2.2.2.1, u20.2.2.2.2.2.2.2.2.2.2.1, u20.2.2.2.2.2.2.2.2.2.2.2.1, u20.2.2.2.2.2.2.2.2.2.2.2.2.1, u20.2.2.2.2.2.2.2.2.2.2.2.2.2.1, u20.2.2.2.2.2.2.2.2.2.2.2.2.2.2.1, u20.2.2.2.2.2.2.2.2.2.2.2.2.2.2.2.1, u20.2.2.2.2.2.2.2.2.2.2.2.2.2.2.2.2))))
def wL_X7_copy_107 (y13 : Int32) (y14 : Int32) (y15 : Int32) (y16 : Int32) (y17 : Int32) (post : Int32 → BX7 → Prop) (Kx107 : BX7 → Prop) : Nat → Int32 → BX7 → Prop
  | 0, _, _ => False
  | n107 + 1, x11, u12 => (y17 ≤ x11 → Kx107 u12) ∧ (¬ y17 ≤ x11 → vp_in ((((40 : Int32) * y13) + y14) + x11) 320 ∧ (vp_in x11 40 ∧ (wL_X7_copy_107 y13 y14 y15 y16 y17 post Kx107 n107 (x11 + (1 : Int32)) (u12.1, u12.2.1, u12.2.2.1, u12.2.2.2.1, u12.2.2.2.2.1, u12.2.2.2.2.2.1, u12.2.2.2.2.2.2.1, u12.2.2.2.2.2.2.2.1, u12.2.2.2.2.2.2.2.2.1, u12.2.2.2.2.2.2.2.2.2.1, u12.2.2.2.2.2.2.2.2.2.2.1, u12.2.2.2.2.2.2.2.2.2.2.2.1, u12.2.2.2.2.2.2.2.2.2.2.2.2.1, (upd u12.2.2.2.2.2.2.2.2.2.2.2.2.2.1 x11.toNatClampNeg (u12.2.2.2.2.1 ((((40 : Int32) * y13) + y14) + x11).toNatClampNeg)), u12.2.2.2.2.2.2.2.2.2.2.2.2.2.2.1, u12.2.2.2.2.2.2.2.2.2.2.2.2.2.2.2.1, u12.2.2.2.2.2.2.2.2.2.2.2.2.2.2.2.2))))
def w_X7_copy (u : BX7) (a0 : Int32) (a1 : Int32) (a2 : Int32) (a3 : Int32) (a4 : Int32) (post : Int32 → BX7 → Prop) : Prop := w_X7_isRow a0 (fun r1 => (r1 = 0 → post (-1000001 : Int32) u) ∧ (¬ r1 = 0 → w_X7_isRow a2 (fun r2 => (r2 = 0 → post (-1000001 : Int32) u) ∧ (¬ r2 = 0 → vp_in a0 8 ∧ (((u.2.2.2.2.2.1 a0.toNatClampNeg) < 0 → w_X7_found u (1 : Int32) (fun r3 u4 => post r3 u4)) ∧ (¬ (u.2.2.2.2.2.1 a0.toNatClampNeg) < 0 → vp_in a2 8 ∧ ((0 ≤ (u.2.2.2.2.2.1 a2.toNatClampNeg) → vp_in a0 8 ∧ (vp_in a2 8 ∧ (((u.2.2.2.2.2.2.1 a0.toNatClampNeg) = (u.2.2.2.2.2.2.1 a2.toNatClampNeg) → (a4 < 0 → w_X7_found u (2 : Int32) (fun r5 u6 => post r5 u6)) ∧ (¬ a4 < 0 → vp_in a0 8 ∧ (w_X7_isWithin a1 a4 (u.2.2.2.2.2.1 a0.toNatClampNeg) (fun r7 => (r7 = 0 → w_X7_found u (2 : Int32) (fun r8 u9 => post r8 u9)) ∧ (¬ r7 = 0 → vp_in a2 8 ∧ (w_X7_isWithin a3 a4 (u.2.2.2.2.2.1 a2.toNatClampNeg) (fun r10 => (r10 = 0 → w_X7_found u (2 : Int32) (fun r31 u32 => post r31 u32)) ∧ (¬ r10 = 0 → ∃ n107, wL_X7_copy_107 a0 a1 a2 a3 a4 post (fun (u18 : BX7) => ∃ n144, wL_X7_copy_144 a2 a3 a4 post (fun (u24 : BX7) => w_X7_good u24 a4 (fun r25 u26 => post r25 u26)) n144 (0 : Int32) u18) n107 (0 : Int32) u)))))))) ∧ (¬ (u.2.2.2.2.2.2.1 a0.toNatClampNeg) = (u.2.2.2.2.2.2.1 a2.toNatClampNeg) → w_X7_found u (5 : Int32) (fun r36 u37 => post r36 u37))))) ∧ (¬ 0 ≤ (u.2.2.2.2.2.1 a2.toNatClampNeg) → w_X7_found u (1 : Int32) (fun r39 u40 => post r39 u40)))))))))
set_option maxHeartbeats 4000000 in
set_option maxRecDepth 100000 in
theorem c_X7_copy (l : Launch) (D : va_G) (K : Nat → ClassId) (t : Nat → Nat) (o : Nat → Nat) (u : BX7) (a0 : Int32) (a1 : Int32) (a2 : Int32) (a3 : Int32) (a4 : Int32) (post : Int32 → BX7 → Prop) (h : w_X7_copy u a0 a1 a2 a3 a4 post) : WrI l yX7_copy cX7_copy 7 (some .int) ({ frames := 2, cells := 0, slots := 0, locals := 45 } : Room) D (TY K) t (CX7 K o u) [.ref (o 0), .int a0, .int a1, .int a2, .int a3, .int a4] (fun z : BX7 => CX7 K o z) (fun (r : Int32) (z : BX7) => post r z) := by
  refine WrI.mk rfl (Nat.le_of_ble_eq_true rfl) ?_
  intro F ls A _ hF X hH hA hl hT
  obtain ⟨H, hH0⟩ : ∃ z : Heap, z = (fxS F).heap := ⟨_, rfl⟩
  obtain ⟨locs, hL0⟩ : ∃ z : List Loc, z = [] := ⟨_, rfl⟩
  have hH : HH F D A (CX7 K o u) H locs := by rw [hH0, hL0]; exact hH
  suffices goal : V F (WQI F D (TY K) A (fun z : BX7 => CX7 K o z) (fun (r : Int32) (z : BX7) => post r z)) H locs 0 ls [] by rw [hH0, hL0] at goal; exact goal
  clear hH0 hL0
  have X : Cx F cX7_copy 7 RX7 D (TY K) := X
  have hl : lv_has ls 7 [(0, .ref (o 0)), (1, .int a0), (2, .int a1), (3, .int a2), (4, .int a3), (5, .int a4)] := hl
  unfold w_X7_copy at h
  refine v_iload_n X dX7_copy_0 rfl (lv_at hl 1 rfl) ?_
  refine rdS (As := [.int a0]) (rest := []) X ms_X7_49 (c_X7_isRow F.2.1 D K t a0 _ h) hF ⟨rfl, rfl, Nat.le_of_ble_eq_true rfl, Nat.le_of_ble_eq_true rfl⟩ (stW hT hH) hH.1 [] rfl hl.1 rfl rfl (Nat.le_of_ble_eq_true rfl) dX7_copy_1 (fun r1 h => ?_)
  refine v_if_eq (tgt := 14) X dX7_copy_4 (by decide) (fun c44 => ?_) (fun c44 => ?_)
  · have h := h.1 c44
    refine v_ldc X kc_X7_55 dX7_copy_14 ?_
    exact v_wiret X hF u hH h dX7_copy_16
  · have h := h.2 c44
    refine v_iload_n X dX7_copy_7 rfl (lv_at hl 3 rfl) ?_
    refine rdS (As := [.int a2]) (rest := []) X ms_X7_49 (c_X7_isRow F.2.1 D K t a2 _ h) hF ⟨rfl, rfl, Nat.le_of_ble_eq_true rfl, Nat.le_of_ble_eq_true rfl⟩ (stW hT hH) hH.1 [] rfl hl.1 rfl rfl (Nat.le_of_ble_eq_true rfl) dX7_copy_8 (fun r2 h => ?_)
    refine v_if_ne (tgt := 17) X dX7_copy_11 (by decide) (fun c43 => ?_) (fun c43 => ?_)
    · have h := h.2 c43
      refine v_aload_n X dX7_copy_17 rfl (lv_at hl 0 rfl) ?_
      refine v_get (v := .ref (o 5)) X hH.1 0 rfl fk_X7_23 rfl dX7_copy_18 ?_
      refine v_iload_n X dX7_copy_21 rfl (lv_at hl 1 rfl) ?_
      have hin := h.1
      have h := h.2
      refine v_iald (f := u.2.2.2.2.2.1) X hH.1 5 0 rfl rfl hin dX7_copy_22 ?_
      refine v_if_lt (tgt := 35) X dX7_copy_23 (by decide) (fun c42 => ?_) (fun c42 => ?_)
      · have h := h.1 c42
        refine v_aload_n X dX7_copy_35 rfl (lv_at hl 0 rfl) ?_
        refine v_iconst (v := (1 : Int32)) X dX7_copy_36 (by decide) ?_
        refine wrVI (As := [.int (1 : Int32)]) (rest := []) (wr := ([] : va_W)) X mv_X7_56 (c_X7_found F.2.1 D K t o u (1 : Int32) _ h) hF ⟨rfl, rfl, Nat.le_of_ble_eq_true rfl, Nat.le_of_ble_eq_true rfl⟩ hT hA hH [0, 1, 2, 3, 4, 5, 6, 7, 8, 9] [] ⟨rfl, rfl, rfl, rfl, by decide⟩ 0 rfl rfl hl.1 rfl rfl (Nat.le_of_ble_eq_true rfl) dX7_copy_37 (fun r3 u4 H locs h hH => ?_)
        have hH : HH F D A (CX7 K o u4) H locs := hH
        exact v_wiret X hF u4 hH h dX7_copy_40
      · have h := h.2 c42
        refine v_aload_n X dX7_copy_26 rfl (lv_at hl 0 rfl) ?_
        refine v_get (v := .ref (o 5)) X hH.1 0 rfl fk_X7_23 rfl dX7_copy_27 ?_
        refine v_iload_n X dX7_copy_30 rfl (lv_at hl 3 rfl) ?_
        have hin := h.1
        have h := h.2
        refine v_iald (f := u.2.2.2.2.2.1) X hH.1 5 0 rfl rfl hin dX7_copy_31 ?_
        refine v_if_ge (tgt := 41) X dX7_copy_32 (by decide) (fun c41 => ?_) (fun c41 => ?_)
        · have h := h.1 c41
          refine v_aload_n X dX7_copy_41 rfl (lv_at hl 0 rfl) ?_
          refine v_get (v := .ref (o 6)) X hH.1 0 rfl fk_X7_26 rfl dX7_copy_42 ?_
          refine v_iload_n X dX7_copy_45 rfl (lv_at hl 1 rfl) ?_
          have hin := h.1
          have h := h.2
          refine v_iald (f := u.2.2.2.2.2.2.1) X hH.1 6 0 rfl rfl hin dX7_copy_46 ?_
          refine v_aload_n X dX7_copy_47 rfl (lv_at hl 0 rfl) ?_
          refine v_get (v := .ref (o 6)) X hH.1 0 rfl fk_X7_26 rfl dX7_copy_48 ?_
          refine v_iload_n X dX7_copy_51 rfl (lv_at hl 3 rfl) ?_
          have hin := h.1
          have h := h.2
          refine v_iald (f := u.2.2.2.2.2.2.1) X hH.1 6 0 rfl rfl hin dX7_copy_52 ?_
          refine v_icmp_eq (tgt := 62) X dX7_copy_53 (by decide) (fun c38 => ?_) (fun c38 => ?_)
          · have h := h.1 c38
            refine v_iload X dX7_copy_62 (lv_at hl 5 rfl) ?_
            refine v_if_lt (tgt := 98) X dX7_copy_64 (by decide) (fun c35 => ?_) (fun c35 => ?_)
            · have h := h.1 c35
              refine v_aload_n X dX7_copy_98 rfl (lv_at hl 0 rfl) ?_
              refine v_iconst (v := (2 : Int32)) X dX7_copy_99 (by decide) ?_
              refine wrVI (As := [.int (2 : Int32)]) (rest := []) (wr := ([] : va_W)) X mv_X7_56 (c_X7_found F.2.1 D K t o u (2 : Int32) _ h) hF ⟨rfl, rfl, Nat.le_of_ble_eq_true rfl, Nat.le_of_ble_eq_true rfl⟩ hT hA hH [0, 1, 2, 3, 4, 5, 6, 7, 8, 9] [] ⟨rfl, rfl, rfl, rfl, by decide⟩ 0 rfl rfl hl.1 rfl rfl (Nat.le_of_ble_eq_true rfl) dX7_copy_100 (fun r5 u6 H locs h hH => ?_)
              have hH : HH F D A (CX7 K o u6) H locs := hH
              exact v_wiret X hF u6 hH h dX7_copy_103
            · have h := h.2 c35
              refine v_iload_n X dX7_copy_67 rfl (lv_at hl 2 rfl) ?_
              refine v_iload X dX7_copy_68 (lv_at hl 5 rfl) ?_
              refine v_aload_n X dX7_copy_70 rfl (lv_at hl 0 rfl) ?_
              refine v_get (v := .ref (o 5)) X hH.1 0 rfl fk_X7_23 rfl dX7_copy_71 ?_
              refine v_iload_n X dX7_copy_74 rfl (lv_at hl 1 rfl) ?_
              have hin := h.1
              have h := h.2
              refine v_iald (f := u.2.2.2.2.2.1) X hH.1 5 0 rfl rfl hin dX7_copy_75 ?_
              refine rdS (As := [.int a1, .int a4, .int (u.2.2.2.2.2.1 a0.toNatClampNeg)]) (rest := []) X ms_X7_63 (c_X7_isWithin F.2.1 D K t a1 a4 (u.2.2.2.2.2.1 a0.toNatClampNeg) _ h) hF ⟨rfl, rfl, Nat.le_of_ble_eq_true rfl, Nat.le_of_ble_eq_true rfl⟩ (stW hT hH) hH.1 [] rfl hl.1 rfl rfl (Nat.le_of_ble_eq_true rfl) dX7_copy_76 (fun r7 h => ?_)
              refine v_if_eq (tgt := 98) X dX7_copy_79 (by decide) (fun c34 => ?_) (fun c34 => ?_)
              · have h := h.1 c34
                refine v_aload_n X dX7_copy_98 rfl (lv_at hl 0 rfl) ?_
                refine v_iconst (v := (2 : Int32)) X dX7_copy_99 (by decide) ?_
                refine wrVI (As := [.int (2 : Int32)]) (rest := []) (wr := ([] : va_W)) X mv_X7_56 (c_X7_found F.2.1 D K t o u (2 : Int32) _ h) hF ⟨rfl, rfl, Nat.le_of_ble_eq_true rfl, Nat.le_of_ble_eq_true rfl⟩ hT hA hH [0, 1, 2, 3, 4, 5, 6, 7, 8, 9] [] ⟨rfl, rfl, rfl, rfl, by decide⟩ 0 rfl rfl hl.1 rfl rfl (Nat.le_of_ble_eq_true rfl) dX7_copy_100 (fun r8 u9 H locs h hH => ?_)
                have hH : HH F D A (CX7 K o u9) H locs := hH
                exact v_wiret X hF u9 hH h dX7_copy_103
              · have h := h.2 c34
                refine v_iload X dX7_copy_82 (lv_at hl 4 rfl) ?_
                refine v_iload X dX7_copy_84 (lv_at hl 5 rfl) ?_
                refine v_aload_n X dX7_copy_86 rfl (lv_at hl 0 rfl) ?_
                refine v_get (v := .ref (o 5)) X hH.1 0 rfl fk_X7_23 rfl dX7_copy_87 ?_
                refine v_iload_n X dX7_copy_90 rfl (lv_at hl 3 rfl) ?_
                have hin := h.1
                have h := h.2
                refine v_iald (f := u.2.2.2.2.2.1) X hH.1 5 0 rfl rfl hin dX7_copy_91 ?_
                refine rdS (As := [.int a3, .int a4, .int (u.2.2.2.2.2.1 a2.toNatClampNeg)]) (rest := []) X ms_X7_63 (c_X7_isWithin F.2.1 D K t a3 a4 (u.2.2.2.2.2.1 a2.toNatClampNeg) _ h) hF ⟨rfl, rfl, Nat.le_of_ble_eq_true rfl, Nat.le_of_ble_eq_true rfl⟩ (stW hT hH) hH.1 [] rfl hl.1 rfl rfl (Nat.le_of_ble_eq_true rfl) dX7_copy_92 (fun r10 h => ?_)
                refine v_if_ne (tgt := 104) X dX7_copy_95 (by decide) (fun c33 => ?_) (fun c33 => ?_)
                · have h := h.2 c33
                  refine v_iconst (v := (0 : Int32)) X dX7_copy_104 (by decide) ?_
                  refine v_istore (lv' := [(6, .int (0 : Int32)), (0, .ref (o 0)), (1, .int a0), (2, .int a1), (3, .int a2), (4, .int a3), (5, .int a4)]) X dX7_copy_105 hl (by decide) rfl (fun ls hl => ?_)
                  obtain ⟨Kx107, hK107⟩ : ∃ f : BX7 → Prop, f = (fun (u18 : BX7) => ∃ n144, wL_X7_copy_144 a2 a3 a4 post (fun (u24 : BX7) => w_X7_good u24 a4 (fun r25 u26 => post r25 u26)) n144 (0 : Int32) u18) := ⟨_, rfl⟩
                  have kx29 : ∀ (u18 : BX7) (ls : Array Slot) (H : Heap) (locs : List Loc), (Kx107 u18) → lv_has ls 7 [(0, .ref (o 0)), (3, .int a2), (4, .int a3), (5, .int a4)] → HH F D A (CX7 K o u18) H locs → V F (WQI F D (TY K) A (fun z : BX7 => CX7 K o z) (fun (r : Int32) (z : BX7) => post r z)) H locs 141 ls [] := by
                    intro u18 ls H locs h hl hH
                    have h : ∃ n144, wL_X7_copy_144 a2 a3 a4 post (fun (u24 : BX7) => w_X7_good u24 a4 (fun r25 u26 => post r25 u26)) n144 (0 : Int32) u18 := by rw [hK107] at h; exact h
                    refine v_iconst (v := (0 : Int32)) X dX7_copy_141 (by decide) ?_
                    refine v_istore (lv' := [(6, .int (0 : Int32)), (0, .ref (o 0)), (3, .int a2), (4, .int a3), (5, .int a4)]) X dX7_copy_142 hl (by decide) rfl (fun ls hl => ?_)
                    obtain ⟨Kx144, hK144⟩ : ∃ f : BX7 → Prop, f = (fun (u24 : BX7) => w_X7_good u24 a4 (fun r25 u26 => post r25 u26)) := ⟨_, rfl⟩
                    have kx27 : ∀ (u24 : BX7) (ls : Array Slot) (H : Heap) (locs : List Loc), (Kx144 u24) → lv_has ls 7 [(0, .ref (o 0)), (5, .int a4)] → HH F D A (CX7 K o u24) H locs → V F (WQI F D (TY K) A (fun z : BX7 => CX7 K o z) (fun (r : Int32) (z : BX7) => post r z)) H locs 179 ls [] := by
                      intro u24 ls H locs h hl hH
                      have h : w_X7_good u24 a4 (fun r25 u26 => post r25 u26) := by rw [hK144] at h; exact h
                      refine v_aload_n X dX7_copy_179 rfl (lv_at hl 0 rfl) ?_
                      refine v_iload X dX7_copy_180 (lv_at hl 1 rfl) ?_
                      refine wrVI (As := [.int a4]) (rest := []) (wr := ([] : va_W)) X mv_X7_60 (c_X7_good F.2.1 D K t o u24 a4 _ h) hF ⟨rfl, rfl, Nat.le_of_ble_eq_true rfl, Nat.le_of_ble_eq_true rfl⟩ hT hA hH [0, 1, 2, 3, 4, 5, 6, 7, 8, 9] [] ⟨rfl, rfl, rfl, rfl, by decide⟩ 0 rfl rfl hl.1 rfl rfl (Nat.le_of_ble_eq_true rfl) dX7_copy_182 (fun r25 u26 H locs h hH => ?_)
                      have hH : HH F D A (CX7 K o u26) H locs := hH
                      exact v_wiret X hF u26 hH h dX7_copy_185
                    have lp144 : ∀ (n144 : Nat) (x19 : Int32) (u20 : BX7) (ls : Array Slot) (H : Heap) (locs : List Loc), wL_X7_copy_144 a2 a3 a4 post Kx144 n144 x19 u20 → lv_has ls 7 [(0, .ref (o 0)), (3, .int a2), (4, .int a3), (5, .int a4), (6, .int x19)] → HH F D A (CX7 K o u20) H locs → V F (WQI F D (TY K) A (fun z : BX7 => CX7 K o z) (fun (r : Int32) (z : BX7) => post r z)) H locs 144 ls [] := by
                      intro n144
                      induction n144 with
                      | zero => intro x19 u20 ls H locs h hl hH; exact h.elim
                      | succ n144 ih144 =>
                        intro x19 u20 ls H locs h hl hH
                        refine v_iload X dX7_copy_144 (lv_at hl 4 rfl) ?_
                        refine v_iload X dX7_copy_146 (lv_at hl 3 rfl) ?_
                        refine v_icmp_ge (tgt := 179) X dX7_copy_148 (by decide) (fun c28 => ?_) (fun c28 => ?_)
                        · have h := h.1 c28
                          exact kx27 u20 ls H locs h (lv_sub hl [0, 3] rfl) hH
                        · have h := h.2 c28
                          refine v_aload_n X dX7_copy_151 rfl (lv_at hl 0 rfl) ?_
                          refine v_get (v := .ref (o 4)) X hH.1 0 rfl fk_X7_20 rfl dX7_copy_152 ?_
                          refine v_bipush (v := (40 : Int32)) X dX7_copy_155 (by decide) ?_
                          refine v_iload_n X dX7_copy_157 rfl (lv_at hl 1 rfl) ?_
                          refine v_imul X dX7_copy_158 ?_
                          refine v_iload X dX7_copy_159 (lv_at hl 2 rfl) ?_
                          refine v_iadd X dX7_copy_161 ?_
                          refine v_iload X dX7_copy_162 (lv_at hl 4 rfl) ?_
                          refine v_iadd X dX7_copy_164 ?_
                          refine v_aload_n X dX7_copy_165 rfl (lv_at hl 0 rfl) ?_
                          refine v_get (v := .ref (o 9)) X hH.1 0 rfl fk_X7_35 rfl dX7_copy_166 ?_
                          refine v_iload X dX7_copy_169 (lv_at hl 4 rfl) ?_
                          have hin := h.1
                          have h := h.2
                          refine v_iald (f := u20.2.2.2.2.2.2.2.2.2.2.2.2.2.1) X hH.1 9 0 rfl rfl hin dX7_copy_171 ?_
                          have hin := h.1
                          have h := h.2
                          refine v_iast (f := u20.2.2.2.2.1) X hH 4 0 rfl rfl hin dX7_copy_172 (fun H locs hH => ?_)
                          have hH : HH F D A (CX7 K o (u20.1, u20.2.1, u20.2.2.1, u20.2.2.2.1, (upd u20.2.2.2.2.1 ((((40 : Int32) * a2) + a3) + x19).toNatClampNeg (u20.2.2.2.2.2.2.2.2.2.2.2.2.2.1 x19.toNatClampNeg)), u20.2.2.2.2.2.1, u20.2.2.2.2.2.2.1, u20.2.2.2.2.2.2.2.1, u20.2.2.2.2.2.2.2.2.1, u20.2.2.2.2.2.2.2.2.2.1, u20.2.2.2.2.2.2.2.2.2.2.1, u20.2.2.2.2.2.2.2.2.2.2.2.1, u20.2.2.2.2.2.2.2.2.2.2.2.2.1, u20.2.2.2.2.2.2.2.2.2.2.2.2.2.1, u20.2.2.2.2.2.2.2.2.2.2.2.2.2.2.1, u20.2.2.2.2.2.2.2.2.2.2.2.2.2.2.2.1, u20.2.2.2.2.2.2.2.2.2.2.2.2.2.2.2.2)) H locs := hH
                          refine v_iinc (v := (x19 + (1 : Int32))) (lv' := [(6, .int (x19 + (1 : Int32))), (0, .ref (o 0)), (3, .int a2), (4, .int a3), (5, .int a4)]) X dX7_copy_173 hl (k := 4) rfl rfl (by decide) rfl (fun ls hl => ?_)
                          refine v_goto (tgt := 144) X dX7_copy_176 (by decide) ?_
                          exact ih144 (x19 + (1 : Int32)) (u20.1, u20.2.1, u20.2.2.1, u20.2.2.2.1, (upd u20.2.2.2.2.1 ((((40 : Int32) * a2) + a3) + x19).toNatClampNeg (u20.2.2.2.2.2.2.2.2.2.2.2.2.2.1 x19.toNatClampNeg)), u20.2.2.2.2.2.1, u20.2.2.2.2.2.2.1, u20.2.2.2.2.2.2.2.1, u20.2.2.2.2.2.2.2.2.1, u20.2.2.2.2.2.2.2.2.2.1, u20.2.2.2.2.2.2.2.2.2.2.1, u20.2.2.2.2.2.2.2.2.2.2.2.1, u20.2.2.2.2.2.2.2.2.2.2.2.2.1, u20.2.2.2.2.2.2.2.2.2.2.2.2.2.1, u20.2.2.2.2.2.2.2.2.2.2.2.2.2.2.1, u20.2.2.2.2.2.2.2.2.2.2.2.2.2.2.2.1, u20.2.2.2.2.2.2.2.2.2.2.2.2.2.2.2.2) ls H locs h (lv_sub hl [1, 2, 3, 4, 0] rfl) hH
                    obtain ⟨n144, h⟩ := h
                    have h : wL_X7_copy_144 a2 a3 a4 post Kx144 n144 (0 : Int32) u18 := by rw [hK144]; exact h
                    exact lp144 n144 (0 : Int32) u18 ls H locs h (lv_sub hl [1, 2, 3, 4, 0] rfl) hH
                  have lp107 : ∀ (n107 : Nat) (x11 : Int32) (u12 : BX7) (ls : Array Slot) (H : Heap) (locs : List Loc), wL_X7_copy_107 a0 a1 a2 a3 a4 post Kx107 n107 x11 u12 → lv_has ls 7 [(0, .ref (o 0)), (1, .int a0), (2, .int a1), (3, .int a2), (4, .int a3), (5, .int a4), (6, .int x11)] → HH F D A (CX7 K o u12) H locs → V F (WQI F D (TY K) A (fun z : BX7 => CX7 K o z) (fun (r : Int32) (z : BX7) => post r z)) H locs 107 ls [] := by
                    intro n107
                    induction n107 with
                    | zero => intro x11 u12 ls H locs h hl hH; exact h.elim
                    | succ n107 ih107 =>
                      intro x11 u12 ls H locs h hl hH
                      refine v_iload X dX7_copy_107 (lv_at hl 6 rfl) ?_
                      refine v_iload X dX7_copy_109 (lv_at hl 5 rfl) ?_
                      refine v_icmp_ge (tgt := 141) X dX7_copy_111 (by decide) (fun c30 => ?_) (fun c30 => ?_)
                      · have h := h.1 c30
                        exact kx29 u12 ls H locs h (lv_sub hl [0, 3, 4, 5] rfl) hH
                      · have h := h.2 c30
                        refine v_aload_n X dX7_copy_114 rfl (lv_at hl 0 rfl) ?_
                        refine v_get (v := .ref (o 9)) X hH.1 0 rfl fk_X7_35 rfl dX7_copy_115 ?_
                        refine v_iload X dX7_copy_118 (lv_at hl 6 rfl) ?_
                        refine v_aload_n X dX7_copy_120 rfl (lv_at hl 0 rfl) ?_
                        refine v_get (v := .ref (o 4)) X hH.1 0 rfl fk_X7_20 rfl dX7_copy_121 ?_
                        refine v_bipush (v := (40 : Int32)) X dX7_copy_124 (by decide) ?_
                        refine v_iload_n X dX7_copy_126 rfl (lv_at hl 1 rfl) ?_
                        refine v_imul X dX7_copy_127 ?_
                        refine v_iload_n X dX7_copy_128 rfl (lv_at hl 2 rfl) ?_
                        refine v_iadd X dX7_copy_129 ?_
                        refine v_iload X dX7_copy_130 (lv_at hl 6 rfl) ?_
                        refine v_iadd X dX7_copy_132 ?_
                        have hin := h.1
                        have h := h.2
                        refine v_iald (f := u12.2.2.2.2.1) X hH.1 4 0 rfl rfl hin dX7_copy_133 ?_
                        have hin := h.1
                        have h := h.2
                        refine v_iast (f := u12.2.2.2.2.2.2.2.2.2.2.2.2.2.1) X hH 9 0 rfl rfl hin dX7_copy_134 (fun H locs hH => ?_)
                        have hH : HH F D A (CX7 K o (u12.1, u12.2.1, u12.2.2.1, u12.2.2.2.1, u12.2.2.2.2.1, u12.2.2.2.2.2.1, u12.2.2.2.2.2.2.1, u12.2.2.2.2.2.2.2.1, u12.2.2.2.2.2.2.2.2.1, u12.2.2.2.2.2.2.2.2.2.1, u12.2.2.2.2.2.2.2.2.2.2.1, u12.2.2.2.2.2.2.2.2.2.2.2.1, u12.2.2.2.2.2.2.2.2.2.2.2.2.1, (upd u12.2.2.2.2.2.2.2.2.2.2.2.2.2.1 x11.toNatClampNeg (u12.2.2.2.2.1 ((((40 : Int32) * a0) + a1) + x11).toNatClampNeg)), u12.2.2.2.2.2.2.2.2.2.2.2.2.2.2.1, u12.2.2.2.2.2.2.2.2.2.2.2.2.2.2.2.1, u12.2.2.2.2.2.2.2.2.2.2.2.2.2.2.2.2)) H locs := hH
                        refine v_iinc (v := (x11 + (1 : Int32))) (lv' := [(6, .int (x11 + (1 : Int32))), (0, .ref (o 0)), (1, .int a0), (2, .int a1), (3, .int a2), (4, .int a3), (5, .int a4)]) X dX7_copy_135 hl (k := 6) rfl rfl (by decide) rfl (fun ls hl => ?_)
                        refine v_goto (tgt := 107) X dX7_copy_138 (by decide) ?_
                        exact ih107 (x11 + (1 : Int32)) (u12.1, u12.2.1, u12.2.2.1, u12.2.2.2.1, u12.2.2.2.2.1, u12.2.2.2.2.2.1, u12.2.2.2.2.2.2.1, u12.2.2.2.2.2.2.2.1, u12.2.2.2.2.2.2.2.2.1, u12.2.2.2.2.2.2.2.2.2.1, u12.2.2.2.2.2.2.2.2.2.2.1, u12.2.2.2.2.2.2.2.2.2.2.2.1, u12.2.2.2.2.2.2.2.2.2.2.2.2.1, (upd u12.2.2.2.2.2.2.2.2.2.2.2.2.2.1 x11.toNatClampNeg (u12.2.2.2.2.1 ((((40 : Int32) * a0) + a1) + x11).toNatClampNeg)), u12.2.2.2.2.2.2.2.2.2.2.2.2.2.2.1, u12.2.2.2.2.2.2.2.2.2.2.2.2.2.2.2.1, u12.2.2.2.2.2.2.2.2.2.2.2.2.2.2.2.2) ls H locs h (lv_sub hl [1, 2, 3, 4, 5, 6, 0] rfl) hH
                  obtain ⟨n107, h⟩ := h
                  have h : wL_X7_copy_107 a0 a1 a2 a3 a4 post Kx107 n107 (0 : Int32) u := by rw [hK107]; exact h
                  exact lp107 n107 (0 : Int32) u ls H locs h (lv_sub hl [1, 2, 3, 4, 5, 6, 0] rfl) hH
                · have h := h.1 c33
                  refine v_aload_n X dX7_copy_98 rfl (lv_at hl 0 rfl) ?_
                  refine v_iconst (v := (2 : Int32)) X dX7_copy_99 (by decide) ?_
                  refine wrVI (As := [.int (2 : Int32)]) (rest := []) (wr := ([] : va_W)) X mv_X7_56 (c_X7_found F.2.1 D K t o u (2 : Int32) _ h) hF ⟨rfl, rfl, Nat.le_of_ble_eq_true rfl, Nat.le_of_ble_eq_true rfl⟩ hT hA hH [0, 1, 2, 3, 4, 5, 6, 7, 8, 9] [] ⟨rfl, rfl, rfl, rfl, by decide⟩ 0 rfl rfl hl.1 rfl rfl (Nat.le_of_ble_eq_true rfl) dX7_copy_100 (fun r31 u32 H locs h hH => ?_)
                  have hH : HH F D A (CX7 K o u32) H locs := hH
                  exact v_wiret X hF u32 hH h dX7_copy_103
          · have h := h.2 c38
            refine v_aload_n X dX7_copy_56 rfl (lv_at hl 0 rfl) ?_
            refine v_iconst (v := (5 : Int32)) X dX7_copy_57 (by decide) ?_
            refine wrVI (As := [.int (5 : Int32)]) (rest := []) (wr := ([] : va_W)) X mv_X7_56 (c_X7_found F.2.1 D K t o u (5 : Int32) _ h) hF ⟨rfl, rfl, Nat.le_of_ble_eq_true rfl, Nat.le_of_ble_eq_true rfl⟩ hT hA hH [0, 1, 2, 3, 4, 5, 6, 7, 8, 9] [] ⟨rfl, rfl, rfl, rfl, by decide⟩ 0 rfl rfl hl.1 rfl rfl (Nat.le_of_ble_eq_true rfl) dX7_copy_58 (fun r36 u37 H locs h hH => ?_)
            have hH : HH F D A (CX7 K o u37) H locs := hH
            exact v_wiret X hF u37 hH h dX7_copy_61
        · have h := h.2 c41
          refine v_aload_n X dX7_copy_35 rfl (lv_at hl 0 rfl) ?_
          refine v_iconst (v := (1 : Int32)) X dX7_copy_36 (by decide) ?_
          refine wrVI (As := [.int (1 : Int32)]) (rest := []) (wr := ([] : va_W)) X mv_X7_56 (c_X7_found F.2.1 D K t o u (1 : Int32) _ h) hF ⟨rfl, rfl, Nat.le_of_ble_eq_true rfl, Nat.le_of_ble_eq_true rfl⟩ hT hA hH [0, 1, 2, 3, 4, 5, 6, 7, 8, 9] [] ⟨rfl, rfl, rfl, rfl, by decide⟩ 0 rfl rfl hl.1 rfl rfl (Nat.le_of_ble_eq_true rfl) dX7_copy_37 (fun r39 u40 H locs h hH => ?_)
          have hH : HH F D A (CX7 K o u40) H locs := hH
          exact v_wiret X hF u40 hH h dX7_copy_40
    · have h := h.1 c43
      refine v_ldc X kc_X7_55 dX7_copy_14 ?_
      exact v_wiret X hF u hH h dX7_copy_16
def w_X7_drop (u : BX7) (a0 : Int32) (post : Int32 → BX7 → Prop) : Prop := w_X7_isRow a0 (fun r1 => (r1 = 0 → post (-1000001 : Int32) u) ∧ (¬ r1 = 0 → vp_in a0 8 ∧ ((0 ≤ (u.2.2.2.2.2.1 a0.toNatClampNeg) → vp_in a0 8 ∧ (∀ x2 : Int32, x2 = (u.2.2.2.2.2.1 a0.toNatClampNeg) → vp_in a0 8 ∧ (w_X7_good (u.1, u.2.1, u.2.2.1, u.2.2.2.1, u.2.2.2.2.1, (upd u.2.2.2.2.2.1 a0.toNatClampNeg (-1 : Int32)), u.2.2.2.2.2.2.1, u.2.2.2.2.2.2.2.1, u.2.2.2.2.2.2.2.2.1, u.2.2.2.2.2.2.2.2.2.1, u.2.2.2.2.2.2.2.2.2.2.1, u.2.2.2.2.2.2.2.2.2.2.2.1, u.2.2.2.2.2.2.2.2.2.2.2.2.1, u.2.2.2.2.2.2.2.2.2.2.2.2.2.1, u.2.2.2.2.2.2.2.2.2.2.2.2.2.2.1, u.2.2.2.2.2.2.2.2.2.2.2.2.2.2.2.1, u.2.2.2.2.2.2.2.2.2.2.2.2.2.2.2.2) x2 (fun r3 u4 => post r3 u4)))) ∧ (¬ 0 ≤ (u.2.2.2.2.2.1 a0.toNatClampNeg) → w_X7_found u (1 : Int32) (fun r5 u6 => post r5 u6)))))
set_option maxHeartbeats 4000000 in
set_option maxRecDepth 100000 in
theorem c_X7_drop (l : Launch) (D : va_G) (K : Nat → ClassId) (t : Nat → Nat) (o : Nat → Nat) (u : BX7) (a0 : Int32) (post : Int32 → BX7 → Prop) (h : w_X7_drop u a0 post) : WrI l yX7_drop cX7_drop 3 (some .int) ({ frames := 2, cells := 0, slots := 0, locals := 45 } : Room) D (TY K) t (CX7 K o u) [.ref (o 0), .int a0] (fun z : BX7 => CX7 K o z) (fun (r : Int32) (z : BX7) => post r z) := by
  refine WrI.mk rfl (Nat.le_of_ble_eq_true rfl) ?_
  intro F ls A _ hF X hH hA hl hT
  obtain ⟨H, hH0⟩ : ∃ z : Heap, z = (fxS F).heap := ⟨_, rfl⟩
  obtain ⟨locs, hL0⟩ : ∃ z : List Loc, z = [] := ⟨_, rfl⟩
  have hH : HH F D A (CX7 K o u) H locs := by rw [hH0, hL0]; exact hH
  suffices goal : V F (WQI F D (TY K) A (fun z : BX7 => CX7 K o z) (fun (r : Int32) (z : BX7) => post r z)) H locs 0 ls [] by rw [hH0, hL0] at goal; exact goal
  clear hH0 hL0
  have X : Cx F cX7_drop 3 RX7 D (TY K) := X
  have hl : lv_has ls 3 [(0, .ref (o 0)), (1, .int a0)] := hl
  unfold w_X7_drop at h
  refine v_iload_n X dX7_drop_0 rfl (lv_at hl 1 rfl) ?_
  refine rdS (As := [.int a0]) (rest := []) X ms_X7_49 (c_X7_isRow F.2.1 D K t a0 _ h) hF ⟨rfl, rfl, Nat.le_of_ble_eq_true rfl, Nat.le_of_ble_eq_true rfl⟩ (stW hT hH) hH.1 [] rfl hl.1 rfl rfl (Nat.le_of_ble_eq_true rfl) dX7_drop_1 (fun r1 h => ?_)
  refine v_if_ne (tgt := 10) X dX7_drop_4 (by decide) (fun c8 => ?_) (fun c8 => ?_)
  · have h := h.2 c8
    refine v_aload_n X dX7_drop_10 rfl (lv_at hl 0 rfl) ?_
    refine v_get (v := .ref (o 5)) X hH.1 0 rfl fk_X7_23 rfl dX7_drop_11 ?_
    refine v_iload_n X dX7_drop_14 rfl (lv_at hl 1 rfl) ?_
    have hin := h.1
    have h := h.2
    refine v_iald (f := u.2.2.2.2.2.1) X hH.1 5 0 rfl rfl hin dX7_drop_15 ?_
    refine v_if_ge (tgt := 25) X dX7_drop_16 (by decide) (fun c7 => ?_) (fun c7 => ?_)
    · have h := h.1 c7
      refine v_aload_n X dX7_drop_25 rfl (lv_at hl 0 rfl) ?_
      refine v_get (v := .ref (o 5)) X hH.1 0 rfl fk_X7_23 rfl dX7_drop_26 ?_
      refine v_iload_n X dX7_drop_29 rfl (lv_at hl 1 rfl) ?_
      have hin := h.1
      have h := h.2
      refine v_iald (f := u.2.2.2.2.2.1) X hH.1 5 0 rfl rfl hin dX7_drop_30 ?_
      refine v_topi (fun x2 ex2 => ?_)
      have h := h x2 ex2
      refine v_istore_n (lv' := [(2, .int x2), (0, .ref (o 0)), (1, .int a0)]) X dX7_drop_31 rfl hl (by decide) rfl (fun ls hl => ?_)
      refine v_aload_n X dX7_drop_32 rfl (lv_at hl 1 rfl) ?_
      refine v_get (v := .ref (o 5)) X hH.1 0 rfl fk_X7_23 rfl dX7_drop_33 ?_
      refine v_iload_n X dX7_drop_36 rfl (lv_at hl 2 rfl) ?_
      refine v_iconst (v := (-1 : Int32)) X dX7_drop_37 (by decide) ?_
      have hin := h.1
      have h := h.2
      refine v_iast (f := u.2.2.2.2.2.1) X hH 5 0 rfl rfl hin dX7_drop_38 (fun H locs hH => ?_)
      have hH : HH F D A (CX7 K o (u.1, u.2.1, u.2.2.1, u.2.2.2.1, u.2.2.2.2.1, (upd u.2.2.2.2.2.1 a0.toNatClampNeg (-1 : Int32)), u.2.2.2.2.2.2.1, u.2.2.2.2.2.2.2.1, u.2.2.2.2.2.2.2.2.1, u.2.2.2.2.2.2.2.2.2.1, u.2.2.2.2.2.2.2.2.2.2.1, u.2.2.2.2.2.2.2.2.2.2.2.1, u.2.2.2.2.2.2.2.2.2.2.2.2.1, u.2.2.2.2.2.2.2.2.2.2.2.2.2.1, u.2.2.2.2.2.2.2.2.2.2.2.2.2.2.1, u.2.2.2.2.2.2.2.2.2.2.2.2.2.2.2.1, u.2.2.2.2.2.2.2.2.2.2.2.2.2.2.2.2)) H locs := hH
      refine v_aload_n X dX7_drop_39 rfl (lv_at hl 1 rfl) ?_
      refine v_iload_n X dX7_drop_40 rfl (lv_at hl 0 rfl) ?_
      refine wrVI (As := [.int x2]) (rest := []) (wr := ([] : va_W)) X mv_X7_60 (c_X7_good F.2.1 D K t o (u.1, u.2.1, u.2.2.1, u.2.2.2.1, u.2.2.2.2.1, (upd u.2.2.2.2.2.1 a0.toNatClampNeg (-1 : Int32)), u.2.2.2.2.2.2.1, u.2.2.2.2.2.2.2.1, u.2.2.2.2.2.2.2.2.1, u.2.2.2.2.2.2.2.2.2.1, u.2.2.2.2.2.2.2.2.2.2.1, u.2.2.2.2.2.2.2.2.2.2.2.1, u.2.2.2.2.2.2.2.2.2.2.2.2.1, u.2.2.2.2.2.2.2.2.2.2.2.2.2.1, u.2.2.2.2.2.2.2.2.2.2.2.2.2.2.1, u.2.2.2.2.2.2.2.2.2.2.2.2.2.2.2.1, u.2.2.2.2.2.2.2.2.2.2.2.2.2.2.2.2) x2 _ h) hF ⟨rfl, rfl, Nat.le_of_ble_eq_true rfl, Nat.le_of_ble_eq_true rfl⟩ hT hA hH [0, 1, 2, 3, 4, 5, 6, 7, 8, 9] [] ⟨rfl, rfl, rfl, rfl, by decide⟩ 0 rfl rfl hl.1 rfl rfl (Nat.le_of_ble_eq_true rfl) dX7_drop_41 (fun r3 u4 H locs h hH => ?_)
      have hH : HH F D A (CX7 K o u4) H locs := hH
      exact v_wiret X hF u4 hH h dX7_drop_44
    · have h := h.2 c7
      refine v_aload_n X dX7_drop_19 rfl (lv_at hl 0 rfl) ?_
      refine v_iconst (v := (1 : Int32)) X dX7_drop_20 (by decide) ?_
      refine wrVI (As := [.int (1 : Int32)]) (rest := []) (wr := ([] : va_W)) X mv_X7_56 (c_X7_found F.2.1 D K t o u (1 : Int32) _ h) hF ⟨rfl, rfl, Nat.le_of_ble_eq_true rfl, Nat.le_of_ble_eq_true rfl⟩ hT hA hH [0, 1, 2, 3, 4, 5, 6, 7, 8, 9] [] ⟨rfl, rfl, rfl, rfl, by decide⟩ 0 rfl rfl hl.1 rfl rfl (Nat.le_of_ble_eq_true rfl) dX7_drop_21 (fun r5 u6 H locs h hH => ?_)
      have hH : HH F D A (CX7 K o u6) H locs := hH
      exact v_wiret X hF u6 hH h dX7_drop_24
  · have h := h.1 c8
    refine v_ldc X kc_X7_55 dX7_drop_7 ?_
    exact v_wiret X hF u hH h dX7_drop_9
def w_X7_against (u : BX7) (a0 : Int32) (a1 : Int32) (a2 : Int32) (post : Int32 → BX7 → Prop) : Prop := vp_in a0 8 ∧ ((0 ≤ (u.2.2.2.2.2.1 a0.toNatClampNeg) → vp_in a0 8 ∧ (w_X7_isWithin a1 a2 (u.2.2.2.2.2.1 a0.toNatClampNeg) (fun r1 => (r1 = 0 → w_X7_found u (2 : Int32) (fun r2 u3 => post r2 u3)) ∧ (¬ r1 = 0 → post (0 : Int32) u)))) ∧ (¬ 0 ≤ (u.2.2.2.2.2.1 a0.toNatClampNeg) → w_X7_found u (1 : Int32) (fun r5 u6 => post r5 u6)))
set_option maxHeartbeats 4000000 in
set_option maxRecDepth 100000 in
theorem c_X7_against (l : Launch) (D : va_G) (K : Nat → ClassId) (t : Nat → Nat) (o : Nat → Nat) (u : BX7) (a0 : Int32) (a1 : Int32) (a2 : Int32) (post : Int32 → BX7 → Prop) (h : w_X7_against u a0 a1 a2 post) : WrI l yX7_against cX7_against 4 (some .int) ({ frames := 1, cells := 0, slots := 0, locals := 22 } : Room) D (TY K) t (CX7 K o u) [.ref (o 0), .int a0, .int a1, .int a2] (fun z : BX7 => CX7 K o z) (fun (r : Int32) (z : BX7) => post r z) := by
  refine WrI.mk rfl (Nat.le_of_ble_eq_true rfl) ?_
  intro F ls A _ hF X hH hA hl hT
  obtain ⟨H, hH0⟩ : ∃ z : Heap, z = (fxS F).heap := ⟨_, rfl⟩
  obtain ⟨locs, hL0⟩ : ∃ z : List Loc, z = [] := ⟨_, rfl⟩
  have hH : HH F D A (CX7 K o u) H locs := by rw [hH0, hL0]; exact hH
  suffices goal : V F (WQI F D (TY K) A (fun z : BX7 => CX7 K o z) (fun (r : Int32) (z : BX7) => post r z)) H locs 0 ls [] by rw [hH0, hL0] at goal; exact goal
  clear hH0 hL0
  have X : Cx F cX7_against 4 RX7 D (TY K) := X
  have hl : lv_has ls 4 [(0, .ref (o 0)), (1, .int a0), (2, .int a1), (3, .int a2)] := hl
  unfold w_X7_against at h
  refine v_aload_n X dX7_against_0 rfl (lv_at hl 0 rfl) ?_
  refine v_get (v := .ref (o 5)) X hH.1 0 rfl fk_X7_23 rfl dX7_against_1 ?_
  refine v_iload_n X dX7_against_4 rfl (lv_at hl 1 rfl) ?_
  have hin := h.1
  have h := h.2
  refine v_iald (f := u.2.2.2.2.2.1) X hH.1 5 0 rfl rfl hin dX7_against_5 ?_
  refine v_if_ge (tgt := 15) X dX7_against_6 (by decide) (fun c7 => ?_) (fun c7 => ?_)
  · have h := h.1 c7
    refine v_iload_n X dX7_against_15 rfl (lv_at hl 2 rfl) ?_
    refine v_iload_n X dX7_against_16 rfl (lv_at hl 3 rfl) ?_
    refine v_aload_n X dX7_against_17 rfl (lv_at hl 0 rfl) ?_
    refine v_get (v := .ref (o 5)) X hH.1 0 rfl fk_X7_23 rfl dX7_against_18 ?_
    refine v_iload_n X dX7_against_21 rfl (lv_at hl 1 rfl) ?_
    have hin := h.1
    have h := h.2
    refine v_iald (f := u.2.2.2.2.2.1) X hH.1 5 0 rfl rfl hin dX7_against_22 ?_
    refine rdS (As := [.int a1, .int a2, .int (u.2.2.2.2.2.1 a0.toNatClampNeg)]) (rest := []) X ms_X7_63 (c_X7_isWithin F.2.1 D K t a1 a2 (u.2.2.2.2.2.1 a0.toNatClampNeg) _ h) hF ⟨rfl, rfl, Nat.le_of_ble_eq_true rfl, Nat.le_of_ble_eq_true rfl⟩ (stW hT hH) hH.1 [] rfl hl.1 rfl rfl (Nat.le_of_ble_eq_true rfl) dX7_against_23 (fun r1 h => ?_)
    refine v_if_eq (tgt := 33) X dX7_against_26 (by decide) (fun c4 => ?_) (fun c4 => ?_)
    · have h := h.1 c4
      refine v_aload_n X dX7_against_33 rfl (lv_at hl 0 rfl) ?_
      refine v_iconst (v := (2 : Int32)) X dX7_against_34 (by decide) ?_
      refine wrVI (As := [.int (2 : Int32)]) (rest := []) (wr := ([] : va_W)) X mv_X7_56 (c_X7_found F.2.1 D K t o u (2 : Int32) _ h) hF ⟨rfl, rfl, Nat.le_of_ble_eq_true rfl, Nat.le_of_ble_eq_true rfl⟩ hT hA hH [0, 1, 2, 3, 4, 5, 6, 7, 8, 9] [] ⟨rfl, rfl, rfl, rfl, by decide⟩ 0 rfl rfl hl.1 rfl rfl (Nat.le_of_ble_eq_true rfl) dX7_against_35 (fun r2 u3 H locs h hH => ?_)
      have hH : HH F D A (CX7 K o u3) H locs := hH
      exact v_wiret X hF u3 hH h dX7_against_38
    · have h := h.2 c4
      refine v_iconst (v := (0 : Int32)) X dX7_against_29 (by decide) ?_
      refine v_goto (tgt := 38) X dX7_against_30 (by decide) ?_
      exact v_wiret X hF u hH h dX7_against_38
  · have h := h.2 c7
    refine v_aload_n X dX7_against_9 rfl (lv_at hl 0 rfl) ?_
    refine v_iconst (v := (1 : Int32)) X dX7_against_10 (by decide) ?_
    refine wrVI (As := [.int (1 : Int32)]) (rest := []) (wr := ([] : va_W)) X mv_X7_56 (c_X7_found F.2.1 D K t o u (1 : Int32) _ h) hF ⟨rfl, rfl, Nat.le_of_ble_eq_true rfl, Nat.le_of_ble_eq_true rfl⟩ hT hA hH [0, 1, 2, 3, 4, 5, 6, 7, 8, 9] [] ⟨rfl, rfl, rfl, rfl, by decide⟩ 0 rfl rfl hl.1 rfl rfl (Nat.le_of_ble_eq_true rfl) dX7_against_11 (fun r5 u6 H locs h hH => ?_)
    have hH : HH F D A (CX7 K o u6) H locs := hH
    exact v_wiret X hF u6 hH h dX7_against_14
def w_X7_feed (u : BX7) (a0 : Int32) (post : Int32 → BX7 → Prop) : Prop := w_X7_in a0.toInt64 (0 : Int64) (255 : Int64) (fun r1 => (r1 = 0 → post (-1000001 : Int32) u) ∧ (¬ r1 = 0 → (u.2.2.2.2.2.2.2.2.2.1 = (100 : Int32) → post (-1000003 : Int32) u) ∧ (¬ u.2.2.2.2.2.2.2.2.2.1 = (100 : Int32) → vp_in u.2.2.2.2.2.2.2.2.2.1 100 ∧ (post (u.2.2.2.2.2.2.2.2.2.1 + (1 : Int32)) (u.1, u.2.1, u.2.2.1, u.2.2.2.1, u.2.2.2.2.1, u.2.2.2.2.2.1, u.2.2.2.2.2.2.1, u.2.2.2.2.2.2.2.1, (upd u.2.2.2.2.2.2.2.2.1 u.2.2.2.2.2.2.2.2.2.1.toNatClampNeg a0), (u.2.2.2.2.2.2.2.2.2.1 + (1 : Int32)), u.2.2.2.2.2.2.2.2.2.2.1, u.2.2.2.2.2.2.2.2.2.2.2.1, u.2.2.2.2.2.2.2.2.2.2.2.2.1, u.2.2.2.2.2.2.2.2.2.2.2.2.2.1, u.2.2.2.2.2.2.2.2.2.2.2.2.2.2.1, u.2.2.2.2.2.2.2.2.2.2.2.2.2.2.2.1, u.2.2.2.2.2.2.2.2.2.2.2.2.2.2.2.2)))))
set_option maxHeartbeats 4000000 in
set_option maxRecDepth 100000 in
theorem c_X7_feed (l : Launch) (D : va_G) (K : Nat → ClassId) (t : Nat → Nat) (o : Nat → Nat) (u : BX7) (a0 : Int32) (post : Int32 → BX7 → Prop) (h : w_X7_feed u a0 post) : WrI l yX7_feed cX7_feed 2 (some .int) ({ frames := 1, cells := 0, slots := 0, locals := 25 } : Room) D (TY K) t (CX7 K o u) [.ref (o 0), .int a0] (fun z : BX7 => CX7 K o z) (fun (r : Int32) (z : BX7) => post r z) := by
  refine WrI.mk rfl (Nat.le_of_ble_eq_true rfl) ?_
  intro F ls A _ hF X hH hA hl hT
  obtain ⟨H, hH0⟩ : ∃ z : Heap, z = (fxS F).heap := ⟨_, rfl⟩
  obtain ⟨locs, hL0⟩ : ∃ z : List Loc, z = [] := ⟨_, rfl⟩
  have hH : HH F D A (CX7 K o u) H locs := by rw [hH0, hL0]; exact hH
  suffices goal : V F (WQI F D (TY K) A (fun z : BX7 => CX7 K o z) (fun (r : Int32) (z : BX7) => post r z)) H locs 0 ls [] by rw [hH0, hL0] at goal; exact goal
  clear hH0 hL0
  have X : Cx F cX7_feed 2 RX7 D (TY K) := X
  have hl : lv_has ls 2 [(0, .ref (o 0)), (1, .int a0)] := hl
  unfold w_X7_feed at h
  refine v_iload_n X dX7_feed_0 rfl (lv_at hl 1 rfl) ?_
  refine v_i2l X dX7_feed_1 rfl ?_
  refine v_lconst (v := (0 : Int64)) X dX7_feed_2 (by decide) ?_
  refine v_ldc2 X kc_X7_67 dX7_feed_3 ?_
  refine rdS (As := [.long a0.toInt64, .long (0 : Int64), .long (255 : Int64)]) (rest := []) X ms_X7_45 (c_X7_in F.2.1 D K t a0.toInt64 (0 : Int64) (255 : Int64) _ h) hF ⟨rfl, rfl, Nat.le_of_ble_eq_true rfl, Nat.le_of_ble_eq_true rfl⟩ (stW hT hH) hH.1 [] rfl hl.1 rfl rfl (Nat.le_of_ble_eq_true rfl) dX7_feed_6 (fun r1 h => ?_)
  refine v_if_ne (tgt := 15) X dX7_feed_9 (by decide) (fun c3 => ?_) (fun c3 => ?_)
  · have h := h.2 c3
    refine v_aload_n X dX7_feed_15 rfl (lv_at hl 0 rfl) ?_
    refine v_get (v := .int u.2.2.2.2.2.2.2.2.2.1) X hH.1 0 rfl fk_X7_69 rfl dX7_feed_16 ?_
    refine v_bipush (v := (100 : Int32)) X dX7_feed_19 (by decide) ?_
    refine v_icmp_ne (tgt := 27) X dX7_feed_21 (by decide) (fun c2 => ?_) (fun c2 => ?_)
    · have h := h.2 c2
      refine v_aload_n X dX7_feed_27 rfl (lv_at hl 0 rfl) ?_
      refine v_get (v := .ref (o 7)) X hH.1 0 rfl fk_X7_29 rfl dX7_feed_28 ?_
      refine v_aload_n X dX7_feed_31 rfl (lv_at hl 0 rfl) ?_
      refine v_get (v := .int u.2.2.2.2.2.2.2.2.2.1) X hH.1 0 rfl fk_X7_69 rfl dX7_feed_32 ?_
      refine v_iload_n X dX7_feed_35 rfl (lv_at hl 1 rfl) ?_
      have hin := h.1
      have h := h.2
      refine v_iast (f := u.2.2.2.2.2.2.2.2.1) X hH 7 0 rfl rfl hin dX7_feed_36 (fun H locs hH => ?_)
      have hH : HH F D A (CX7 K o (u.1, u.2.1, u.2.2.1, u.2.2.2.1, u.2.2.2.2.1, u.2.2.2.2.2.1, u.2.2.2.2.2.2.1, u.2.2.2.2.2.2.2.1, (upd u.2.2.2.2.2.2.2.2.1 u.2.2.2.2.2.2.2.2.2.1.toNatClampNeg a0), u.2.2.2.2.2.2.2.2.2.1, u.2.2.2.2.2.2.2.2.2.2.1, u.2.2.2.2.2.2.2.2.2.2.2.1, u.2.2.2.2.2.2.2.2.2.2.2.2.1, u.2.2.2.2.2.2.2.2.2.2.2.2.2.1, u.2.2.2.2.2.2.2.2.2.2.2.2.2.2.1, u.2.2.2.2.2.2.2.2.2.2.2.2.2.2.2.1, u.2.2.2.2.2.2.2.2.2.2.2.2.2.2.2.2)) H locs := hH
      refine v_aload_n X dX7_feed_37 rfl (lv_at hl 0 rfl) ?_
      refine v_dup X dX7_feed_38 rfl ?_
      refine v_get (v := .int u.2.2.2.2.2.2.2.2.2.1) X hH.1 0 rfl fk_X7_69 rfl dX7_feed_39 ?_
      refine v_iconst (v := (1 : Int32)) X dX7_feed_42 (by decide) ?_
      refine v_iadd X dX7_feed_43 ?_
      refine v_put X hH 0 rfl fi_X7_69 (Nat.le_of_ble_eq_true rfl) dX7_feed_44 (fun H locs hH => ?_)
      have hH : HH F D A (CX7 K o (u.1, u.2.1, u.2.2.1, u.2.2.2.1, u.2.2.2.2.1, u.2.2.2.2.2.1, u.2.2.2.2.2.2.1, u.2.2.2.2.2.2.2.1, (upd u.2.2.2.2.2.2.2.2.1 u.2.2.2.2.2.2.2.2.2.1.toNatClampNeg a0), (u.2.2.2.2.2.2.2.2.2.1 + (1 : Int32)), u.2.2.2.2.2.2.2.2.2.2.1, u.2.2.2.2.2.2.2.2.2.2.2.1, u.2.2.2.2.2.2.2.2.2.2.2.2.1, u.2.2.2.2.2.2.2.2.2.2.2.2.2.1, u.2.2.2.2.2.2.2.2.2.2.2.2.2.2.1, u.2.2.2.2.2.2.2.2.2.2.2.2.2.2.2.1, u.2.2.2.2.2.2.2.2.2.2.2.2.2.2.2.2)) H locs := hH
      refine v_aload_n X dX7_feed_47 rfl (lv_at hl 0 rfl) ?_
      refine v_get (v := .int (u.2.2.2.2.2.2.2.2.2.1 + (1 : Int32))) X hH.1 0 rfl fk_X7_69 rfl dX7_feed_48 ?_
      exact v_wiret X hF (u.1, u.2.1, u.2.2.1, u.2.2.2.1, u.2.2.2.2.1, u.2.2.2.2.2.1, u.2.2.2.2.2.2.1, u.2.2.2.2.2.2.2.1, (upd u.2.2.2.2.2.2.2.2.1 u.2.2.2.2.2.2.2.2.2.1.toNatClampNeg a0), (u.2.2.2.2.2.2.2.2.2.1 + (1 : Int32)), u.2.2.2.2.2.2.2.2.2.2.1, u.2.2.2.2.2.2.2.2.2.2.2.1, u.2.2.2.2.2.2.2.2.2.2.2.2.1, u.2.2.2.2.2.2.2.2.2.2.2.2.2.1, u.2.2.2.2.2.2.2.2.2.2.2.2.2.2.1, u.2.2.2.2.2.2.2.2.2.2.2.2.2.2.2.1, u.2.2.2.2.2.2.2.2.2.2.2.2.2.2.2.2) hH h dX7_feed_51
    · have h := h.1 c2
      refine v_ldc X kc_X7_72 dX7_feed_24 ?_
      exact v_wiret X hF u hH h dX7_feed_26
  · have h := h.1 c3
    refine v_ldc X kc_X7_55 dX7_feed_12 ?_
    exact v_wiret X hF u hH h dX7_feed_14
def w_X7_byteAt (u : BX7) (a0 : Int32) (post : Int32 → Prop) : Prop := (u.2.2.2.2.2.2.2.2.2.1 ≤ a0 → post (-1 : Int32)) ∧ (¬ u.2.2.2.2.2.2.2.2.2.1 ≤ a0 → vp_in a0 100 ∧ (post (u.2.2.2.2.2.2.2.2.1 a0.toNatClampNeg)))
set_option maxHeartbeats 4000000 in
set_option maxRecDepth 100000 in
theorem c_X7_byteAt (l : Launch) (D : va_G) (K : Nat → ClassId) (t : Nat → Nat) (o : Nat → Nat) (u : BX7) (a0 : Int32) (post : Int32 → Prop) (h : w_X7_byteAt u a0 post) : RdM l yX7_byteAt cX7_byteAt 2 (some .int) ({ frames := 0, cells := 0, slots := 0, locals := 0 } : Room) D (TY K) t (CX7 K o u) [.ref (o 0), .int a0] post := by
  refine RdM.mk rfl (Nat.le_of_ble_eq_true rfl) ?_
  intro F ls _ hF X hP hl hT
  have X : Cx F cX7_byteAt 2 RX7 D (TY K) := X
  have hl : lv_has ls 2 [(0, .ref (o 0)), (1, .int a0)] := hl
  unfold w_X7_byteAt at h
  refine v_iload_n X dX7_byteAt_0 rfl (lv_at hl 1 rfl) ?_
  refine v_aload_n X dX7_byteAt_1 rfl (lv_at hl 0 rfl) ?_
  refine v_get (v := .int u.2.2.2.2.2.2.2.2.2.1) X hP 0 rfl fk_X7_69 rfl dX7_byteAt_2 ?_
  refine v_icmp_ge (tgt := 17) X dX7_byteAt_5 (by decide) (fun c1 => ?_) (fun c1 => ?_)
  · have h := h.1 c1
    refine v_iconst (v := (-1 : Int32)) X dX7_byteAt_17 (by decide) ?_
    exact v_riret X hF h dX7_byteAt_18
  · have h := h.2 c1
    refine v_aload_n X dX7_byteAt_8 rfl (lv_at hl 0 rfl) ?_
    refine v_get (v := .ref (o 7)) X hP 0 rfl fk_X7_29 rfl dX7_byteAt_9 ?_
    refine v_iload_n X dX7_byteAt_12 rfl (lv_at hl 1 rfl) ?_
    have hin := h.1
    have h := h.2
    refine v_iald (f := u.2.2.2.2.2.2.2.2.1) X hP 7 0 rfl rfl hin dX7_byteAt_13 ?_
    refine v_goto (tgt := 18) X dX7_byteAt_14 (by decide) ?_
    exact v_riret X hF h dX7_byteAt_18
def w_X7_fails (u : BX7) (a0 : Int32) (a1 : Int32) (post : Int32 → BX7 → Prop) : Prop := post (0 : Int32) (u.1, u.2.1, u.2.2.1, u.2.2.2.1, u.2.2.2.2.1, u.2.2.2.2.2.1, u.2.2.2.2.2.2.1, u.2.2.2.2.2.2.2.1, u.2.2.2.2.2.2.2.2.1, u.2.2.2.2.2.2.2.2.2.1, a0, u.2.2.2.2.2.2.2.2.2.2.2.1, u.2.2.2.2.2.2.2.2.2.2.2.2.1, u.2.2.2.2.2.2.2.2.2.2.2.2.2.1, u.2.2.2.2.2.2.2.2.2.2.2.2.2.2.1, u.2.2.2.2.2.2.2.2.2.2.2.2.2.2.2.1, a1)
set_option maxHeartbeats 4000000 in
set_option maxRecDepth 100000 in
theorem c_X7_fails (l : Launch) (D : va_G) (K : Nat → ClassId) (t : Nat → Nat) (o : Nat → Nat) (u : BX7) (a0 : Int32) (a1 : Int32) (post : Int32 → BX7 → Prop) (h : w_X7_fails u a0 a1 post) : WrI l yX7_fails cX7_fails 3 (some .boolean) ({ frames := 0, cells := 0, slots := 0, locals := 0 } : Room) D (TY K) t (CX7 K o u) [.ref (o 0), .int a0, .int a1] (fun z : BX7 => CX7 K o z) (fun (r : Int32) (z : BX7) => post r z) := by
  refine WrI.mk rfl (Nat.le_of_ble_eq_true rfl) ?_
  intro F ls A _ hF X hH hA hl hT
  obtain ⟨H, hH0⟩ : ∃ z : Heap, z = (fxS F).heap := ⟨_, rfl⟩
  obtain ⟨locs, hL0⟩ : ∃ z : List Loc, z = [] := ⟨_, rfl⟩
  have hH : HH F D A (CX7 K o u) H locs := by rw [hH0, hL0]; exact hH
  suffices goal : V F (WQI F D (TY K) A (fun z : BX7 => CX7 K o z) (fun (r : Int32) (z : BX7) => post r z)) H locs 0 ls [] by rw [hH0, hL0] at goal; exact goal
  clear hH0 hL0
  have X : Cx F cX7_fails 3 RX7 D (TY K) := X
  have hl : lv_has ls 3 [(0, .ref (o 0)), (1, .int a0), (2, .int a1)] := hl
  unfold w_X7_fails at h
  refine v_aload_n X dX7_fails_0 rfl (lv_at hl 0 rfl) ?_
  refine v_iload_n X dX7_fails_1 rfl (lv_at hl 1 rfl) ?_
  refine v_put X hH 0 rfl fi_X7_73 (Nat.le_of_ble_eq_true rfl) dX7_fails_2 (fun H locs hH => ?_)
  have hH : HH F D A (CX7 K o (u.1, u.2.1, u.2.2.1, u.2.2.2.1, u.2.2.2.2.1, u.2.2.2.2.2.1, u.2.2.2.2.2.2.1, u.2.2.2.2.2.2.2.1, u.2.2.2.2.2.2.2.2.1, u.2.2.2.2.2.2.2.2.2.1, a0, u.2.2.2.2.2.2.2.2.2.2.2.1, u.2.2.2.2.2.2.2.2.2.2.2.2.1, u.2.2.2.2.2.2.2.2.2.2.2.2.2.1, u.2.2.2.2.2.2.2.2.2.2.2.2.2.2.1, u.2.2.2.2.2.2.2.2.2.2.2.2.2.2.2.1, u.2.2.2.2.2.2.2.2.2.2.2.2.2.2.2.2)) H locs := hH
  refine v_aload_n X dX7_fails_5 rfl (lv_at hl 0 rfl) ?_
  refine v_iload_n X dX7_fails_6 rfl (lv_at hl 2 rfl) ?_
  refine v_put X hH 0 rfl fi_X7_76 (Nat.le_of_ble_eq_true rfl) dX7_fails_7 (fun H locs hH => ?_)
  have hH : HH F D A (CX7 K o (u.1, u.2.1, u.2.2.1, u.2.2.2.1, u.2.2.2.2.1, u.2.2.2.2.2.1, u.2.2.2.2.2.2.1, u.2.2.2.2.2.2.2.1, u.2.2.2.2.2.2.2.2.1, u.2.2.2.2.2.2.2.2.2.1, a0, u.2.2.2.2.2.2.2.2.2.2.2.1, u.2.2.2.2.2.2.2.2.2.2.2.2.1, u.2.2.2.2.2.2.2.2.2.2.2.2.2.1, u.2.2.2.2.2.2.2.2.2.2.2.2.2.2.1, u.2.2.2.2.2.2.2.2.2.2.2.2.2.2.2.1, a1)) H locs := hH
  refine v_iconst (v := (0 : Int32)) X dX7_fails_10 (by decide) ?_
  exact v_wzret X hF (u.1, u.2.1, u.2.2.1, u.2.2.2.1, u.2.2.2.2.1, u.2.2.2.2.2.1, u.2.2.2.2.2.2.1, u.2.2.2.2.2.2.2.1, u.2.2.2.2.2.2.2.2.1, u.2.2.2.2.2.2.2.2.2.1, a0, u.2.2.2.2.2.2.2.2.2.2.2.1, u.2.2.2.2.2.2.2.2.2.2.2.2.1, u.2.2.2.2.2.2.2.2.2.2.2.2.2.1, u.2.2.2.2.2.2.2.2.2.2.2.2.2.2.1, u.2.2.2.2.2.2.2.2.2.2.2.2.2.2.2.1, a1) hH rfl h dX7_fails_11
def w_X7_takes (u : BX7) (a0 : Int32) (post : Int32 → BX7 → Prop) : Prop := w_X7_byteAt u u.2.2.2.2.2.2.2.2.2.2.2.2.2.2.1 (fun r1 => (r1 = a0 → post (1 : Int32) (u.1, u.2.1, u.2.2.1, u.2.2.2.1, u.2.2.2.2.1, u.2.2.2.2.2.1, u.2.2.2.2.2.2.1, u.2.2.2.2.2.2.2.1, u.2.2.2.2.2.2.2.2.1, u.2.2.2.2.2.2.2.2.2.1, u.2.2.2.2.2.2.2.2.2.2.1, u.2.2.2.2.2.2.2.2.2.2.2.1, u.2.2.2.2.2.2.2.2.2.2.2.2.1, u.2.2.2.2.2.2.2.2.2.2.2.2.2.1, (u.2.2.2.2.2.2.2.2.2.2.2.2.2.2.1 + (1 : Int32)), u.2.2.2.2.2.2.2.2.2.2.2.2.2.2.2.1, u.2.2.2.2.2.2.2.2.2.2.2.2.2.2.2.2)) ∧ (¬ r1 = a0 → w_X7_fails u (1 : Int32) u.2.2.2.2.2.2.2.2.2.2.2.2.2.2.1 (fun r2 u3 => bz r2 ∧ post r2 u3)))
set_option maxHeartbeats 4000000 in
set_option maxRecDepth 100000 in
theorem c_X7_takes (l : Launch) (D : va_G) (K : Nat → ClassId) (t : Nat → Nat) (o : Nat → Nat) (u : BX7) (a0 : Int32) (post : Int32 → BX7 → Prop) (h : w_X7_takes u a0 post) : WrI l yX7_takes cX7_takes 2 (some .boolean) ({ frames := 1, cells := 0, slots := 0, locals := 22 } : Room) D (TY K) t (CX7 K o u) [.ref (o 0), .int a0] (fun z : BX7 => CX7 K o z) (fun (r : Int32) (z : BX7) => post r z) := by
  refine WrI.mk rfl (Nat.le_of_ble_eq_true rfl) ?_
  intro F ls A _ hF X hH hA hl hT
  obtain ⟨H, hH0⟩ : ∃ z : Heap, z = (fxS F).heap := ⟨_, rfl⟩
  obtain ⟨locs, hL0⟩ : ∃ z : List Loc, z = [] := ⟨_, rfl⟩
  have hH : HH F D A (CX7 K o u) H locs := by rw [hH0, hL0]; exact hH
  suffices goal : V F (WQI F D (TY K) A (fun z : BX7 => CX7 K o z) (fun (r : Int32) (z : BX7) => post r z)) H locs 0 ls [] by rw [hH0, hL0] at goal; exact goal
  clear hH0 hL0
  have X : Cx F cX7_takes 2 RX7 D (TY K) := X
  have hl : lv_has ls 2 [(0, .ref (o 0)), (1, .int a0)] := hl
  unfold w_X7_takes at h
  refine v_aload_n X dX7_takes_0 rfl (lv_at hl 0 rfl) ?_
  refine v_aload_n X dX7_takes_1 rfl (lv_at hl 0 rfl) ?_
  refine v_get (v := .int u.2.2.2.2.2.2.2.2.2.2.2.2.2.2.1) X hH.1 0 rfl fk_X7_79 rfl dX7_takes_2 ?_
  refine rdV (As := [.int u.2.2.2.2.2.2.2.2.2.2.2.2.2.2.1]) (rest := []) X mv_X7_82 (c_X7_byteAt F.2.1 D K t o u u.2.2.2.2.2.2.2.2.2.2.2.2.2.2.1 _ h) hF ⟨rfl, rfl, Nat.le_of_ble_eq_true rfl, Nat.le_of_ble_eq_true rfl⟩ (stW hT hH) hH.1 [0, 1, 2, 3, 4, 5, 6, 7, 8, 9] rfl 0 rfl rfl hl.1 rfl rfl (Nat.le_of_ble_eq_true rfl) dX7_takes_5 (fun r1 h => ?_)
  refine v_iload_n X dX7_takes_8 rfl (lv_at hl 1 rfl) ?_
  refine v_icmp_eq (tgt := 22) X dX7_takes_9 (by decide) (fun c4 => ?_) (fun c4 => ?_)
  · have h := h.1 c4
    refine v_aload_n X dX7_takes_22 rfl (lv_at hl 0 rfl) ?_
    refine v_dup X dX7_takes_23 rfl ?_
    refine v_get (v := .int u.2.2.2.2.2.2.2.2.2.2.2.2.2.2.1) X hH.1 0 rfl fk_X7_79 rfl dX7_takes_24 ?_
    refine v_iconst (v := (1 : Int32)) X dX7_takes_27 (by decide) ?_
    refine v_iadd X dX7_takes_28 ?_
    refine v_put X hH 0 rfl fi_X7_79 (Nat.le_of_ble_eq_true rfl) dX7_takes_29 (fun H locs hH => ?_)
    have hH : HH F D A (CX7 K o (u.1, u.2.1, u.2.2.1, u.2.2.2.1, u.2.2.2.2.1, u.2.2.2.2.2.1, u.2.2.2.2.2.2.1, u.2.2.2.2.2.2.2.1, u.2.2.2.2.2.2.2.2.1, u.2.2.2.2.2.2.2.2.2.1, u.2.2.2.2.2.2.2.2.2.2.1, u.2.2.2.2.2.2.2.2.2.2.2.1, u.2.2.2.2.2.2.2.2.2.2.2.2.1, u.2.2.2.2.2.2.2.2.2.2.2.2.2.1, (u.2.2.2.2.2.2.2.2.2.2.2.2.2.2.1 + (1 : Int32)), u.2.2.2.2.2.2.2.2.2.2.2.2.2.2.2.1, u.2.2.2.2.2.2.2.2.2.2.2.2.2.2.2.2)) H locs := hH
    refine v_iconst (v := (1 : Int32)) X dX7_takes_32 (by decide) ?_
    exact v_wzret X hF (u.1, u.2.1, u.2.2.1, u.2.2.2.1, u.2.2.2.2.1, u.2.2.2.2.2.1, u.2.2.2.2.2.2.1, u.2.2.2.2.2.2.2.1, u.2.2.2.2.2.2.2.2.1, u.2.2.2.2.2.2.2.2.2.1, u.2.2.2.2.2.2.2.2.2.2.1, u.2.2.2.2.2.2.2.2.2.2.2.1, u.2.2.2.2.2.2.2.2.2.2.2.2.1, u.2.2.2.2.2.2.2.2.2.2.2.2.2.1, (u.2.2.2.2.2.2.2.2.2.2.2.2.2.2.1 + (1 : Int32)), u.2.2.2.2.2.2.2.2.2.2.2.2.2.2.2.1, u.2.2.2.2.2.2.2.2.2.2.2.2.2.2.2.2) hH rfl h dX7_takes_33
  · have h := h.2 c4
    refine v_aload_n X dX7_takes_12 rfl (lv_at hl 0 rfl) ?_
    refine v_iconst (v := (1 : Int32)) X dX7_takes_13 (by decide) ?_
    refine v_aload_n X dX7_takes_14 rfl (lv_at hl 0 rfl) ?_
    refine v_get (v := .int u.2.2.2.2.2.2.2.2.2.2.2.2.2.2.1) X hH.1 0 rfl fk_X7_79 rfl dX7_takes_15 ?_
    refine wrVI (As := [.int (1 : Int32), .int u.2.2.2.2.2.2.2.2.2.2.2.2.2.2.1]) (rest := []) (wr := ([] : va_W)) X mv_X7_85 (c_X7_fails F.2.1 D K t o u (1 : Int32) u.2.2.2.2.2.2.2.2.2.2.2.2.2.2.1 _ h) hF ⟨rfl, rfl, Nat.le_of_ble_eq_true rfl, Nat.le_of_ble_eq_true rfl⟩ hT hA hH [0, 1, 2, 3, 4, 5, 6, 7, 8, 9] [] ⟨rfl, rfl, rfl, rfl, by decide⟩ 0 rfl rfl hl.1 rfl rfl (Nat.le_of_ble_eq_true rfl) dX7_takes_18 (fun r2 u3 H locs h hH => ?_)
    have hH : HH F D A (CX7 K o u3) H locs := hH
    exact v_wzret X hF u3 hH h.1 h.2 dX7_takes_21
def wL_X7_takesNumber_11 (y3 : Int32) (y4 : Int32) (y5 : Int32) (y6 : Int32) (post : Int32 → BX7 → Prop) (Kx11 : BX7 → Prop) : Nat → BX7 → Prop
  | 0, _ => False
  | n11 + 1, u2 => w_X7_byteAt u2 u2.2.2.2.2.2.2.2.2.2.2.2.2.2.2.1 (fun r21 => w_X7_in r21.toInt64 (48 : Int64) (57 : Int64) (fun r22 => (r22 = 0 → Kx11 u2) ∧ (¬ r22 = 0 → wpJ (T := Int32 → Prop) (fun (v24 : Int32) => wL_X7_takesNumber_11 y3 y4 y5 y6 post Kx11 n11 (u2.1, u2.2.1, u2.2.2.1, u2.2.2.2.1, u2.2.2.2.2.1, u2.2.2.2.2.2.1, u2.2.2.2.2.2.2.1, u2.2.2.2.2.2.2.2.1, u2.2.2.2.2.2.2.2.2.1, u2.2.2.2.2.2.2.2.2.2.1, u2.2.2.2.2.2.2.2.2.2.2.1, u2.2.2.2.2.2.2.2.2.2.2.2.1, u2.2.2.2.2.2.2.2.2.2.2.2.2.1, u2.2.2.2.2.2.2.2.2.2.2.2.2.2.1, (u2.2.2.2.2.2.2.2.2.2.2.2.2.2.2.1 + (1 : Int32)), v24, u2.2.2.2.2.2.2.2.2.2.2.2.2.2.2.2.2)) (fun J23 => ((2 : Int32) ≤ (u2.2.2.2.2.2.2.2.2.2.2.2.2.2.2.1 - y6) → J23 u2.2.2.2.2.2.2.2.2.2.2.2.2.2.2.2.1) ∧ (¬ (2 : Int32) ≤ (u2.2.2.2.2.2.2.2.2.2.2.2.2.2.2.1 - y6) → w_X7_byteAt u2 u2.2.2.2.2.2.2.2.2.2.2.2.2.2.2.1 (fun r25 => J23 ((((10 : Int32) * u2.2.2.2.2.2.2.2.2.2.2.2.2.2.2.2.1) + r25) - (48 : Int32))))))))
def w_X7_takesNumber (u : BX7) (a0 : Int32) (a1 : Int32) (a2 : Int32) (post : Int32 → BX7 → Prop) : Prop := ∀ x1 : Int32, x1 = u.2.2.2.2.2.2.2.2.2.2.2.2.2.2.1 → ∃ n11, wL_X7_takesNumber_11 a0 a1 a2 x1 post (fun (u7 : BX7) => (u7.2.2.2.2.2.2.2.2.2.2.2.2.2.2.1 = x1 → w_X7_fails u7 (1 : Int32) x1 (fun r8 u9 => bz r8 ∧ post r8 u9)) ∧ (¬ u7.2.2.2.2.2.2.2.2.2.2.2.2.2.2.1 = x1 → ((u7.2.2.2.2.2.2.2.2.2.2.2.2.2.2.1 - x1) ≤ (2 : Int32) → w_X7_in u7.2.2.2.2.2.2.2.2.2.2.2.2.2.2.2.1.toInt64 a0.toInt64 a1.toInt64 (fun r10 => (r10 = 0 → w_X7_fails u7 (2 : Int32) x1 (fun r11 u12 => bz r11 ∧ post r11 u12)) ∧ (¬ r10 = 0 → w_X7_takes u7 a2 (fun r13 u14 => bz r13 ∧ post r13 u14)))) ∧ (¬ (u7.2.2.2.2.2.2.2.2.2.2.2.2.2.2.1 - x1) ≤ (2 : Int32) → w_X7_fails u7 (1 : Int32) x1 (fun r16 u17 => bz r16 ∧ post r16 u17)))) n11 (u.1, u.2.1, u.2.2.1, u.2.2.2.1, u.2.2.2.2.1, u.2.2.2.2.2.1, u.2.2.2.2.2.2.1, u.2.2.2.2.2.2.2.1, u.2.2.2.2.2.2.2.2.1, u.2.2.2.2.2.2.2.2.2.1, u.2.2.2.2.2.2.2.2.2.2.1, u.2.2.2.2.2.2.2.2.2.2.2.1, u.2.2.2.2.2.2.2.2.2.2.2.2.1, u.2.2.2.2.2.2.2.2.2.2.2.2.2.1, u.2.2.2.2.2.2.2.2.2.2.2.2.2.2.1, (0 : Int32), u.2.2.2.2.2.2.2.2.2.2.2.2.2.2.2.2)
set_option maxHeartbeats 4000000 in
set_option maxRecDepth 100000 in
theorem c_X7_takesNumber (l : Launch) (D : va_G) (K : Nat → ClassId) (t : Nat → Nat) (o : Nat → Nat) (u : BX7) (a0 : Int32) (a1 : Int32) (a2 : Int32) (post : Int32 → BX7 → Prop) (h : w_X7_takesNumber u a0 a1 a2 post) : WrI l yX7_takesNumber cX7_takesNumber 5 (some .boolean) ({ frames := 2, cells := 0, slots := 0, locals := 43 } : Room) D (TY K) t (CX7 K o u) [.ref (o 0), .int a0, .int a1, .int a2] (fun z : BX7 => CX7 K o z) (fun (r : Int32) (z : BX7) => post r z) := by
  refine WrI.mk rfl (Nat.le_of_ble_eq_true rfl) ?_
  intro F ls A _ hF X hH hA hl hT
  obtain ⟨H, hH0⟩ : ∃ z : Heap, z = (fxS F).heap := ⟨_, rfl⟩
  obtain ⟨locs, hL0⟩ : ∃ z : List Loc, z = [] := ⟨_, rfl⟩
  have hH : HH F D A (CX7 K o u) H locs := by rw [hH0, hL0]; exact hH
  suffices goal : V F (WQI F D (TY K) A (fun z : BX7 => CX7 K o z) (fun (r : Int32) (z : BX7) => post r z)) H locs 0 ls [] by rw [hH0, hL0] at goal; exact goal
  clear hH0 hL0
  have X : Cx F cX7_takesNumber 5 RX7 D (TY K) := X
  have hl : lv_has ls 5 [(0, .ref (o 0)), (1, .int a0), (2, .int a1), (3, .int a2)] := hl
  unfold w_X7_takesNumber at h
  refine v_aload_n X dX7_takesNumber_0 rfl (lv_at hl 0 rfl) ?_
  refine v_get (v := .int u.2.2.2.2.2.2.2.2.2.2.2.2.2.2.1) X hH.1 0 rfl fk_X7_79 rfl dX7_takesNumber_1 ?_
  refine v_topi (fun x1 ex1 => ?_)
  have h := h x1 ex1
  refine v_istore (lv' := [(4, .int x1), (0, .ref (o 0)), (1, .int a0), (2, .int a1), (3, .int a2)]) X dX7_takesNumber_4 hl (by decide) rfl (fun ls hl => ?_)
  refine v_aload_n X dX7_takesNumber_6 rfl (lv_at hl 1 rfl) ?_
  refine v_iconst (v := (0 : Int32)) X dX7_takesNumber_7 (by decide) ?_
  refine v_put X hH 0 rfl fi_X7_89 (Nat.le_of_ble_eq_true rfl) dX7_takesNumber_8 (fun H locs hH => ?_)
  have hH : HH F D A (CX7 K o (u.1, u.2.1, u.2.2.1, u.2.2.2.1, u.2.2.2.2.1, u.2.2.2.2.2.1, u.2.2.2.2.2.2.1, u.2.2.2.2.2.2.2.1, u.2.2.2.2.2.2.2.2.1, u.2.2.2.2.2.2.2.2.2.1, u.2.2.2.2.2.2.2.2.2.2.1, u.2.2.2.2.2.2.2.2.2.2.2.1, u.2.2.2.2.2.2.2.2.2.2.2.2.1, u.2.2.2.2.2.2.2.2.2.2.2.2.2.1, u.2.2.2.2.2.2.2.2.2.2.2.2.2.2.1, (0 : Int32), u.2.2.2.2.2.2.2.2.2.2.2.2.2.2.2.2)) H locs := hH
  obtain ⟨Kx11, hK11⟩ : ∃ f : BX7 → Prop, f = (fun (u7 : BX7) => (u7.2.2.2.2.2.2.2.2.2.2.2.2.2.2.1 = x1 → w_X7_fails u7 (1 : Int32) x1 (fun r8 u9 => bz r8 ∧ post r8 u9)) ∧ (¬ u7.2.2.2.2.2.2.2.2.2.2.2.2.2.2.1 = x1 → ((u7.2.2.2.2.2.2.2.2.2.2.2.2.2.2.1 - x1) ≤ (2 : Int32) → w_X7_in u7.2.2.2.2.2.2.2.2.2.2.2.2.2.2.2.1.toInt64 a0.toInt64 a1.toInt64 (fun r10 => (r10 = 0 → w_X7_fails u7 (2 : Int32) x1 (fun r11 u12 => bz r11 ∧ post r11 u12)) ∧ (¬ r10 = 0 → w_X7_takes u7 a2 (fun r13 u14 => bz r13 ∧ post r13 u14)))) ∧ (¬ (u7.2.2.2.2.2.2.2.2.2.2.2.2.2.2.1 - x1) ≤ (2 : Int32) → w_X7_fails u7 (1 : Int32) x1 (fun r16 u17 => bz r16 ∧ post r16 u17)))) := ⟨_, rfl⟩
  have kx20 : ∀ (u7 : BX7) (ls : Array Slot) (H : Heap) (locs : List Loc), (Kx11 u7) → lv_has ls 5 [(0, .ref (o 0)), (1, .int a0), (2, .int a1), (3, .int a2), (4, .int x1)] → HH F D A (CX7 K o u7) H locs → V F (WQI F D (TY K) A (fun z : BX7 => CX7 K o z) (fun (r : Int32) (z : BX7) => post r z)) H locs 86 ls [] := by
    intro u7 ls H locs h hl hH
    have h : (u7.2.2.2.2.2.2.2.2.2.2.2.2.2.2.1 = x1 → w_X7_fails u7 (1 : Int32) x1 (fun r8 u9 => bz r8 ∧ post r8 u9)) ∧ (¬ u7.2.2.2.2.2.2.2.2.2.2.2.2.2.2.1 = x1 → ((u7.2.2.2.2.2.2.2.2.2.2.2.2.2.2.1 - x1) ≤ (2 : Int32) → w_X7_in u7.2.2.2.2.2.2.2.2.2.2.2.2.2.2.2.1.toInt64 a0.toInt64 a1.toInt64 (fun r10 => (r10 = 0 → w_X7_fails u7 (2 : Int32) x1 (fun r11 u12 => bz r11 ∧ post r11 u12)) ∧ (¬ r10 = 0 → w_X7_takes u7 a2 (fun r13 u14 => bz r13 ∧ post r13 u14)))) ∧ (¬ (u7.2.2.2.2.2.2.2.2.2.2.2.2.2.2.1 - x1) ≤ (2 : Int32) → w_X7_fails u7 (1 : Int32) x1 (fun r16 u17 => bz r16 ∧ post r16 u17))) := by rw [hK11] at h; exact h
    refine v_aload_n X dX7_takesNumber_86 rfl (lv_at hl 0 rfl) ?_
    refine v_get (v := .int u7.2.2.2.2.2.2.2.2.2.2.2.2.2.2.1) X hH.1 0 rfl fk_X7_79 rfl dX7_takesNumber_87 ?_
    refine v_iload X dX7_takesNumber_90 (lv_at hl 4 rfl) ?_
    refine v_icmp_eq (tgt := 106) X dX7_takesNumber_92 (by decide) (fun c19 => ?_) (fun c19 => ?_)
    · have h := h.1 c19
      refine v_aload_n X dX7_takesNumber_106 rfl (lv_at hl 0 rfl) ?_
      refine v_iconst (v := (1 : Int32)) X dX7_takesNumber_107 (by decide) ?_
      refine v_iload X dX7_takesNumber_108 (lv_at hl 4 rfl) ?_
      refine wrVI (As := [.int (1 : Int32), .int x1]) (rest := []) (wr := ([] : va_W)) X mv_X7_85 (c_X7_fails F.2.1 D K t o u7 (1 : Int32) x1 _ h) hF ⟨rfl, rfl, Nat.le_of_ble_eq_true rfl, Nat.le_of_ble_eq_true rfl⟩ hT hA hH [0, 1, 2, 3, 4, 5, 6, 7, 8, 9] [] ⟨rfl, rfl, rfl, rfl, by decide⟩ 0 rfl rfl hl.1 rfl rfl (Nat.le_of_ble_eq_true rfl) dX7_takesNumber_110 (fun r8 u9 H locs h hH => ?_)
      have hH : HH F D A (CX7 K o u9) H locs := hH
      exact v_wzret X hF u9 hH h.1 h.2 dX7_takesNumber_113
    · have h := h.2 c19
      refine v_aload_n X dX7_takesNumber_95 rfl (lv_at hl 0 rfl) ?_
      refine v_get (v := .int u7.2.2.2.2.2.2.2.2.2.2.2.2.2.2.1) X hH.1 0 rfl fk_X7_79 rfl dX7_takesNumber_96 ?_
      refine v_iload X dX7_takesNumber_99 (lv_at hl 4 rfl) ?_
      refine v_isub X dX7_takesNumber_101 ?_
      refine v_iconst (v := (2 : Int32)) X dX7_takesNumber_102 (by decide) ?_
      refine v_icmp_le (tgt := 114) X dX7_takesNumber_103 (by decide) (fun c18 => ?_) (fun c18 => ?_)
      · have h := h.1 c18
        refine v_aload_n X dX7_takesNumber_114 rfl (lv_at hl 0 rfl) ?_
        refine v_get (v := .int u7.2.2.2.2.2.2.2.2.2.2.2.2.2.2.2.1) X hH.1 0 rfl fk_X7_89 rfl dX7_takesNumber_115 ?_
        refine v_i2l X dX7_takesNumber_118 rfl ?_
        refine v_iload_n X dX7_takesNumber_119 rfl (lv_at hl 1 rfl) ?_
        refine v_i2l X dX7_takesNumber_120 rfl ?_
        refine v_iload_n X dX7_takesNumber_121 rfl (lv_at hl 2 rfl) ?_
        refine v_i2l X dX7_takesNumber_122 rfl ?_
        refine rdS (As := [.long u7.2.2.2.2.2.2.2.2.2.2.2.2.2.2.2.1.toInt64, .long a0.toInt64, .long a1.toInt64]) (rest := []) X ms_X7_45 (c_X7_in F.2.1 D K t u7.2.2.2.2.2.2.2.2.2.2.2.2.2.2.2.1.toInt64 a0.toInt64 a1.toInt64 _ h) hF ⟨rfl, rfl, Nat.le_of_ble_eq_true rfl, Nat.le_of_ble_eq_true rfl⟩ (stW hT hH) hH.1 [] rfl hl.1 rfl rfl (Nat.le_of_ble_eq_true rfl) dX7_takesNumber_123 (fun r10 h => ?_)
        refine v_if_eq (tgt := 137) X dX7_takesNumber_126 (by decide) (fun c15 => ?_) (fun c15 => ?_)
        · have h := h.1 c15
          refine v_aload_n X dX7_takesNumber_137 rfl (lv_at hl 0 rfl) ?_
          refine v_iconst (v := (2 : Int32)) X dX7_takesNumber_138 (by decide) ?_
          refine v_iload X dX7_takesNumber_139 (lv_at hl 4 rfl) ?_
          refine wrVI (As := [.int (2 : Int32), .int x1]) (rest := []) (wr := ([] : va_W)) X mv_X7_85 (c_X7_fails F.2.1 D K t o u7 (2 : Int32) x1 _ h) hF ⟨rfl, rfl, Nat.le_of_ble_eq_true rfl, Nat.le_of_ble_eq_true rfl⟩ hT hA hH [0, 1, 2, 3, 4, 5, 6, 7, 8, 9] [] ⟨rfl, rfl, rfl, rfl, by decide⟩ 0 rfl rfl hl.1 rfl rfl (Nat.le_of_ble_eq_true rfl) dX7_takesNumber_141 (fun r11 u12 H locs h hH => ?_)
          have hH : HH F D A (CX7 K o u12) H locs := hH
          exact v_wzret X hF u12 hH h.1 h.2 dX7_takesNumber_144
        · have h := h.2 c15
          refine v_aload_n X dX7_takesNumber_129 rfl (lv_at hl 0 rfl) ?_
          refine v_iload_n X dX7_takesNumber_130 rfl (lv_at hl 3 rfl) ?_
          refine wrVI (As := [.int a2]) (rest := []) (wr := ([] : va_W)) X mv_X7_96 (c_X7_takes F.2.1 D K t o u7 a2 _ h) hF ⟨rfl, rfl, Nat.le_of_ble_eq_true rfl, Nat.le_of_ble_eq_true rfl⟩ hT hA hH [0, 1, 2, 3, 4, 5, 6, 7, 8, 9] [] ⟨rfl, rfl, rfl, rfl, by decide⟩ 0 rfl rfl hl.1 rfl rfl (Nat.le_of_ble_eq_true rfl) dX7_takesNumber_131 (fun r13 u14 H locs h hH => ?_)
          have hH : HH F D A (CX7 K o u14) H locs := hH
          refine v_goto (tgt := 144) X dX7_takesNumber_134 (by decide) ?_
          exact v_wzret X hF u14 hH h.1 h.2 dX7_takesNumber_144
      · have h := h.2 c18
        refine v_aload_n X dX7_takesNumber_106 rfl (lv_at hl 0 rfl) ?_
        refine v_iconst (v := (1 : Int32)) X dX7_takesNumber_107 (by decide) ?_
        refine v_iload X dX7_takesNumber_108 (lv_at hl 4 rfl) ?_
        refine wrVI (As := [.int (1 : Int32), .int x1]) (rest := []) (wr := ([] : va_W)) X mv_X7_85 (c_X7_fails F.2.1 D K t o u7 (1 : Int32) x1 _ h) hF ⟨rfl, rfl, Nat.le_of_ble_eq_true rfl, Nat.le_of_ble_eq_true rfl⟩ hT hA hH [0, 1, 2, 3, 4, 5, 6, 7, 8, 9] [] ⟨rfl, rfl, rfl, rfl, by decide⟩ 0 rfl rfl hl.1 rfl rfl (Nat.le_of_ble_eq_true rfl) dX7_takesNumber_110 (fun r16 u17 H locs h hH => ?_)
        have hH : HH F D A (CX7 K o u17) H locs := hH
        exact v_wzret X hF u17 hH h.1 h.2 dX7_takesNumber_113
  have lp11 : ∀ (n11 : Nat) (u2 : BX7) (ls : Array Slot) (H : Heap) (locs : List Loc), wL_X7_takesNumber_11 a0 a1 a2 x1 post Kx11 n11 u2 → lv_has ls 5 [(0, .ref (o 0)), (1, .int a0), (2, .int a1), (3, .int a2), (4, .int x1)] → HH F D A (CX7 K o u2) H locs → V F (WQI F D (TY K) A (fun z : BX7 => CX7 K o z) (fun (r : Int32) (z : BX7) => post r z)) H locs 11 ls [] := by
    intro n11
    induction n11 with
    | zero => intro u2 ls H locs h hl hH; exact h.elim
    | succ n11 ih11 =>
      intro u2 ls H locs h hl hH
      refine v_aload_n X dX7_takesNumber_11 rfl (lv_at hl 0 rfl) ?_
      refine v_aload_n X dX7_takesNumber_12 rfl (lv_at hl 0 rfl) ?_
      refine v_get (v := .int u2.2.2.2.2.2.2.2.2.2.2.2.2.2.2.1) X hH.1 0 rfl fk_X7_79 rfl dX7_takesNumber_13 ?_
      refine rdV (As := [.int u2.2.2.2.2.2.2.2.2.2.2.2.2.2.2.1]) (rest := []) X mv_X7_82 (c_X7_byteAt F.2.1 D K t o u2 u2.2.2.2.2.2.2.2.2.2.2.2.2.2.2.1 _ h) hF ⟨rfl, rfl, Nat.le_of_ble_eq_true rfl, Nat.le_of_ble_eq_true rfl⟩ (stW hT hH) hH.1 [0, 1, 2, 3, 4, 5, 6, 7, 8, 9] rfl 0 rfl rfl hl.1 rfl rfl (Nat.le_of_ble_eq_true rfl) dX7_takesNumber_16 (fun r21 h => ?_)
      refine v_i2l X dX7_takesNumber_19 rfl ?_
      refine v_ldc2 X kc_X7_92 dX7_takesNumber_20 ?_
      refine v_ldc2 X kc_X7_94 dX7_takesNumber_23 ?_
      refine rdS (As := [.long r21.toInt64, .long (48 : Int64), .long (57 : Int64)]) (rest := []) X ms_X7_45 (c_X7_in F.2.1 D K t r21.toInt64 (48 : Int64) (57 : Int64) _ h) hF ⟨rfl, rfl, Nat.le_of_ble_eq_true rfl, Nat.le_of_ble_eq_true rfl⟩ (stW hT hH) hH.1 [] rfl hl.1 rfl rfl (Nat.le_of_ble_eq_true rfl) dX7_takesNumber_26 (fun r22 h => ?_)
      refine v_if_eq (tgt := 86) X dX7_takesNumber_29 (by decide) (fun c27 => ?_) (fun c27 => ?_)
      · have h := h.1 c27
        exact kx20 u2 ls H locs h (lv_sub hl [0, 1, 2, 3, 4] rfl) hH
      · have h := h.2 c27
        refine v_aload_n X dX7_takesNumber_32 rfl (lv_at hl 0 rfl) ?_
        refine v_aload_n X dX7_takesNumber_33 rfl (lv_at hl 0 rfl) ?_
        refine v_get (v := .int u2.2.2.2.2.2.2.2.2.2.2.2.2.2.2.1) X hH.1 0 rfl fk_X7_79 rfl dX7_takesNumber_34 ?_
        refine v_iload X dX7_takesNumber_37 (lv_at hl 4 rfl) ?_
        refine v_isub X dX7_takesNumber_39 ?_
        refine v_iconst (v := (2 : Int32)) X dX7_takesNumber_40 (by decide) ?_
        obtain ⟨J23, hJ23⟩ : ∃ f : Int32 → Prop, f = (fun (v24 : Int32) => wL_X7_takesNumber_11 a0 a1 a2 x1 post Kx11 n11 (u2.1, u2.2.1, u2.2.2.1, u2.2.2.2.1, u2.2.2.2.2.1, u2.2.2.2.2.2.1, u2.2.2.2.2.2.2.1, u2.2.2.2.2.2.2.2.1, u2.2.2.2.2.2.2.2.2.1, u2.2.2.2.2.2.2.2.2.2.1, u2.2.2.2.2.2.2.2.2.2.2.1, u2.2.2.2.2.2.2.2.2.2.2.2.1, u2.2.2.2.2.2.2.2.2.2.2.2.2.1, u2.2.2.2.2.2.2.2.2.2.2.2.2.2.1, (u2.2.2.2.2.2.2.2.2.2.2.2.2.2.2.1 + (1 : Int32)), v24, u2.2.2.2.2.2.2.2.2.2.2.2.2.2.2.2.2)) := ⟨_, rfl⟩
        have kJ23 : ∀ (v24 : Int32) (ls : Array Slot) (H : Heap) (locs : List Loc), (J23 v24) → lv_has ls 5 [(0, .ref (o 0)), (1, .int a0), (2, .int a1), (3, .int a2), (4, .int x1)] → HH F D A (CX7 K o u2) H locs → V F (WQI F D (TY K) A (fun z : BX7 => CX7 K o z) (fun (r : Int32) (z : BX7) => post r z)) H locs 70 ls [.int v24, .ref (o 0)] := by
          intro v24 ls H locs h hl hH
          have h : wL_X7_takesNumber_11 a0 a1 a2 x1 post Kx11 n11 (u2.1, u2.2.1, u2.2.2.1, u2.2.2.2.1, u2.2.2.2.2.1, u2.2.2.2.2.2.1, u2.2.2.2.2.2.2.1, u2.2.2.2.2.2.2.2.1, u2.2.2.2.2.2.2.2.2.1, u2.2.2.2.2.2.2.2.2.2.1, u2.2.2.2.2.2.2.2.2.2.2.1, u2.2.2.2.2.2.2.2.2.2.2.2.1, u2.2.2.2.2.2.2.2.2.2.2.2.2.1, u2.2.2.2.2.2.2.2.2.2.2.2.2.2.1, (u2.2.2.2.2.2.2.2.2.2.2.2.2.2.2.1 + (1 : Int32)), v24, u2.2.2.2.2.2.2.2.2.2.2.2.2.2.2.2.2) := by rw [hJ23] at h; exact h
          refine v_put X hH 0 rfl fi_X7_89 (Nat.le_of_ble_eq_true rfl) dX7_takesNumber_70 (fun H locs hH => ?_)
          have hH : HH F D A (CX7 K o (u2.1, u2.2.1, u2.2.2.1, u2.2.2.2.1, u2.2.2.2.2.1, u2.2.2.2.2.2.1, u2.2.2.2.2.2.2.1, u2.2.2.2.2.2.2.2.1, u2.2.2.2.2.2.2.2.2.1, u2.2.2.2.2.2.2.2.2.2.1, u2.2.2.2.2.2.2.2.2.2.2.1, u2.2.2.2.2.2.2.2.2.2.2.2.1, u2.2.2.2.2.2.2.2.2.2.2.2.2.1, u2.2.2.2.2.2.2.2.2.2.2.2.2.2.1, u2.2.2.2.2.2.2.2.2.2.2.2.2.2.2.1, v24, u2.2.2.2.2.2.2.2.2.2.2.2.2.2.2.2.2)) H locs := hH
          refine v_aload_n X dX7_takesNumber_73 rfl (lv_at hl 0 rfl) ?_
          refine v_dup X dX7_takesNumber_74 rfl ?_
          refine v_get (v := .int u2.2.2.2.2.2.2.2.2.2.2.2.2.2.2.1) X hH.1 0 rfl fk_X7_79 rfl dX7_takesNumber_75 ?_
          refine v_iconst (v := (1 : Int32)) X dX7_takesNumber_78 (by decide) ?_
          refine v_iadd X dX7_takesNumber_79 ?_
          refine v_put X hH 0 rfl fi_X7_79 (Nat.le_of_ble_eq_true rfl) dX7_takesNumber_80 (fun H locs hH => ?_)
          have hH : HH F D A (CX7 K o (u2.1, u2.2.1, u2.2.2.1, u2.2.2.2.1, u2.2.2.2.2.1, u2.2.2.2.2.2.1, u2.2.2.2.2.2.2.1, u2.2.2.2.2.2.2.2.1, u2.2.2.2.2.2.2.2.2.1, u2.2.2.2.2.2.2.2.2.2.1, u2.2.2.2.2.2.2.2.2.2.2.1, u2.2.2.2.2.2.2.2.2.2.2.2.1, u2.2.2.2.2.2.2.2.2.2.2.2.2.1, u2.2.2.2.2.2.2.2.2.2.2.2.2.2.1, (u2.2.2.2.2.2.2.2.2.2.2.2.2.2.2.1 + (1 : Int32)), v24, u2.2.2.2.2.2.2.2.2.2.2.2.2.2.2.2.2)) H locs := hH
          refine v_goto (tgt := 11) X dX7_takesNumber_83 (by decide) ?_
          exact ih11 (u2.1, u2.2.1, u2.2.2.1, u2.2.2.2.1, u2.2.2.2.2.1, u2.2.2.2.2.2.1, u2.2.2.2.2.2.2.1, u2.2.2.2.2.2.2.2.1, u2.2.2.2.2.2.2.2.2.1, u2.2.2.2.2.2.2.2.2.2.1, u2.2.2.2.2.2.2.2.2.2.2.1, u2.2.2.2.2.2.2.2.2.2.2.2.1, u2.2.2.2.2.2.2.2.2.2.2.2.2.1, u2.2.2.2.2.2.2.2.2.2.2.2.2.2.1, (u2.2.2.2.2.2.2.2.2.2.2.2.2.2.2.1 + (1 : Int32)), v24, u2.2.2.2.2.2.2.2.2.2.2.2.2.2.2.2.2) ls H locs h (lv_sub hl [0, 1, 2, 3, 4] rfl) hH
        have h : ((2 : Int32) ≤ (u2.2.2.2.2.2.2.2.2.2.2.2.2.2.2.1 - x1) → J23 u2.2.2.2.2.2.2.2.2.2.2.2.2.2.2.2.1) ∧ (¬ (2 : Int32) ≤ (u2.2.2.2.2.2.2.2.2.2.2.2.2.2.2.1 - x1) → w_X7_byteAt u2 u2.2.2.2.2.2.2.2.2.2.2.2.2.2.2.1 (fun r25 => J23 ((((10 : Int32) * u2.2.2.2.2.2.2.2.2.2.2.2.2.2.2.2.1) + r25) - (48 : Int32)))) := by rw [hJ23]; exact h
        refine v_icmp_ge (tgt := 66) X dX7_takesNumber_41 (by decide) (fun c26 => ?_) (fun c26 => ?_)
        · have h := h.1 c26
          refine v_aload_n X dX7_takesNumber_66 rfl (lv_at hl 0 rfl) ?_
          refine v_get (v := .int u2.2.2.2.2.2.2.2.2.2.2.2.2.2.2.2.1) X hH.1 0 rfl fk_X7_89 rfl dX7_takesNumber_67 ?_
          exact kJ23 u2.2.2.2.2.2.2.2.2.2.2.2.2.2.2.2.1 ls H locs h (lv_sub hl [0, 1, 2, 3, 4] rfl) hH
        · have h := h.2 c26
          refine v_bipush (v := (10 : Int32)) X dX7_takesNumber_44 (by decide) ?_
          refine v_aload_n X dX7_takesNumber_46 rfl (lv_at hl 0 rfl) ?_
          refine v_get (v := .int u2.2.2.2.2.2.2.2.2.2.2.2.2.2.2.2.1) X hH.1 0 rfl fk_X7_89 rfl dX7_takesNumber_47 ?_
          refine v_imul X dX7_takesNumber_50 ?_
          refine v_aload_n X dX7_takesNumber_51 rfl (lv_at hl 0 rfl) ?_
          refine v_aload_n X dX7_takesNumber_52 rfl (lv_at hl 0 rfl) ?_
          refine v_get (v := .int u2.2.2.2.2.2.2.2.2.2.2.2.2.2.2.1) X hH.1 0 rfl fk_X7_79 rfl dX7_takesNumber_53 ?_
          refine rdV (As := [.int u2.2.2.2.2.2.2.2.2.2.2.2.2.2.2.1]) (rest := [.int ((10 : Int32) * u2.2.2.2.2.2.2.2.2.2.2.2.2.2.2.2.1), .ref (o 0)]) X mv_X7_82 (c_X7_byteAt F.2.1 D K t o u2 u2.2.2.2.2.2.2.2.2.2.2.2.2.2.2.1 _ h) hF ⟨rfl, rfl, Nat.le_of_ble_eq_true rfl, Nat.le_of_ble_eq_true rfl⟩ (stW hT hH) hH.1 [0, 1, 2, 3, 4, 5, 6, 7, 8, 9] rfl 0 rfl rfl hl.1 rfl rfl (Nat.le_of_ble_eq_true rfl) dX7_takesNumber_56 (fun r25 h => ?_)
          refine v_iadd X dX7_takesNumber_59 ?_
          refine v_bipush (v := (48 : Int32)) X dX7_takesNumber_60 (by decide) ?_
          refine v_isub X dX7_takesNumber_62 ?_
          refine v_goto (tgt := 70) X dX7_takesNumber_63 (by decide) ?_
          exact kJ23 ((((10 : Int32) * u2.2.2.2.2.2.2.2.2.2.2.2.2.2.2.2.1) + r25) - (48 : Int32)) ls H locs h (lv_sub hl [0, 1, 2, 3, 4] rfl) hH
  obtain ⟨n11, h⟩ := h
  have h : wL_X7_takesNumber_11 a0 a1 a2 x1 post Kx11 n11 (u.1, u.2.1, u.2.2.1, u.2.2.2.1, u.2.2.2.2.1, u.2.2.2.2.2.1, u.2.2.2.2.2.2.1, u.2.2.2.2.2.2.2.1, u.2.2.2.2.2.2.2.2.1, u.2.2.2.2.2.2.2.2.2.1, u.2.2.2.2.2.2.2.2.2.2.1, u.2.2.2.2.2.2.2.2.2.2.2.1, u.2.2.2.2.2.2.2.2.2.2.2.2.1, u.2.2.2.2.2.2.2.2.2.2.2.2.2.1, u.2.2.2.2.2.2.2.2.2.2.2.2.2.2.1, (0 : Int32), u.2.2.2.2.2.2.2.2.2.2.2.2.2.2.2.2) := by rw [hK11]; exact h
  exact lp11 n11 (u.1, u.2.1, u.2.2.1, u.2.2.2.1, u.2.2.2.2.1, u.2.2.2.2.2.1, u.2.2.2.2.2.2.1, u.2.2.2.2.2.2.2.1, u.2.2.2.2.2.2.2.2.1, u.2.2.2.2.2.2.2.2.2.1, u.2.2.2.2.2.2.2.2.2.2.1, u.2.2.2.2.2.2.2.2.2.2.2.1, u.2.2.2.2.2.2.2.2.2.2.2.2.1, u.2.2.2.2.2.2.2.2.2.2.2.2.2.1, u.2.2.2.2.2.2.2.2.2.2.2.2.2.2.1, (0 : Int32), u.2.2.2.2.2.2.2.2.2.2.2.2.2.2.2.2) ls H locs h (lv_sub hl [1, 2, 3, 4, 0] rfl) hH
def wL_X7_takesLaw_2 (post : Int32 → BX7 → Prop) (Kx2 : BX7 → Prop) : Nat → Int32 → BX7 → Prop
  | 0, _, _ => False
  | n2 + 1, x1, u2 => ((36 : Int32) ≤ x1 → Kx2 u2) ∧ (¬ (36 : Int32) ≤ x1 → vp_in ((108 : Int32) + x1) 144 ∧ (wL_X7_takesLaw_2 post Kx2 n2 (x1 + (1 : Int32)) ((upd u2.1 ((108 : Int32) + x1).toNatClampNeg (0 : Int32)), u2.2.1, u2.2.2.1, u2.2.2.2.1, u2.2.2.2.2.1, u2.2.2.2.2.2.1, u2.2.2.2.2.2.2.1, u2.2.2.2.2.2.2.2.1, u2.2.2.2.2.2.2.2.2.1, u2.2.2.2.2.2.2.2.2.2.1, u2.2.2.2.2.2.2.2.2.2.2.1, u2.2.2.2.2.2.2.2.2.2.2.2.1, u2.2.2.2.2.2.2.2.2.2.2.2.2.1, u2.2.2.2.2.2.2.2.2.2.2.2.2.2.1, u2.2.2.2.2.2.2.2.2.2.2.2.2.2.2.1, u2.2.2.2.2.2.2.2.2.2.2.2.2.2.2.2.1, u2.2.2.2.2.2.2.2.2.2.2.2.2.2.2.2.2)))
def w_X7_takesLaw (u : BX7) (post : Int32 → BX7 → Prop) : Prop := ∃ n2, wL_X7_takesLaw_2  post (fun (u3 : BX7) => vp_in (126 : Int32) 144 ∧ (w_X7_takes ((upd u3.1 (126 : Int32).toNatClampNeg (1 : Int32)), u3.2.1, u3.2.2.1, u3.2.2.2.1, u3.2.2.2.2.1, u3.2.2.2.2.2.1, u3.2.2.2.2.2.2.1, u3.2.2.2.2.2.2.2.1, u3.2.2.2.2.2.2.2.2.1, u3.2.2.2.2.2.2.2.2.2.1, u3.2.2.2.2.2.2.2.2.2.2.1, u3.2.2.2.2.2.2.2.2.2.2.2.1, u3.2.2.2.2.2.2.2.2.2.2.2.2.1, u3.2.2.2.2.2.2.2.2.2.2.2.2.2.1, u3.2.2.2.2.2.2.2.2.2.2.2.2.2.2.1, u3.2.2.2.2.2.2.2.2.2.2.2.2.2.2.2.1, u3.2.2.2.2.2.2.2.2.2.2.2.2.2.2.2.2) (108 : Int32) (fun r4 u5 => (r4 = 0 → post (0 : Int32) u5) ∧ (¬ r4 = 0 → w_X7_takesNumber u5 (0 : Int32) (20 : Int32) (44 : Int32) (fun r6 u7 => (r6 = 0 → post (0 : Int32) u7) ∧ (¬ r6 = 0 → vp_in (127 : Int32) 144 ∧ (w_X7_takesNumber ((upd u7.1 (127 : Int32).toNatClampNeg u7.2.2.2.2.2.2.2.2.2.2.2.2.2.2.2.1), u7.2.1, u7.2.2.1, u7.2.2.2.1, u7.2.2.2.2.1, u7.2.2.2.2.2.1, u7.2.2.2.2.2.2.1, u7.2.2.2.2.2.2.2.1, u7.2.2.2.2.2.2.2.2.1, u7.2.2.2.2.2.2.2.2.2.1, u7.2.2.2.2.2.2.2.2.2.2.1, u7.2.2.2.2.2.2.2.2.2.2.2.1, u7.2.2.2.2.2.2.2.2.2.2.2.2.1, u7.2.2.2.2.2.2.2.2.2.2.2.2.2.1, u7.2.2.2.2.2.2.2.2.2.2.2.2.2.2.1, u7.2.2.2.2.2.2.2.2.2.2.2.2.2.2.2.1, u7.2.2.2.2.2.2.2.2.2.2.2.2.2.2.2.2) (0 : Int32) (6 : Int32) (59 : Int32) (fun r8 u9 => (r8 = 0 → post (0 : Int32) u9) ∧ (¬ r8 = 0 → vp_in (128 : Int32) 144 ∧ (post (1 : Int32) ((upd u9.1 (128 : Int32).toNatClampNeg u9.2.2.2.2.2.2.2.2.2.2.2.2.2.2.2.1), u9.2.1, u9.2.2.1, u9.2.2.2.1, u9.2.2.2.2.1, u9.2.2.2.2.2.1, u9.2.2.2.2.2.2.1, u9.2.2.2.2.2.2.2.1, u9.2.2.2.2.2.2.2.2.1, u9.2.2.2.2.2.2.2.2.2.1, u9.2.2.2.2.2.2.2.2.2.2.1, u9.2.2.2.2.2.2.2.2.2.2.2.1, u9.2.2.2.2.2.2.2.2.2.2.2.2.1, u9.2.2.2.2.2.2.2.2.2.2.2.2.2.1, u9.2.2.2.2.2.2.2.2.2.2.2.2.2.2.1, u9.2.2.2.2.2.2.2.2.2.2.2.2.2.2.2.1, u9.2.2.2.2.2.2.2.2.2.2.2.2.2.2.2.2))))))))))) n2 (0 : Int32) u
set_option maxHeartbeats 4000000 in
set_option maxRecDepth 100000 in
theorem c_X7_takesLaw (l : Launch) (D : va_G) (K : Nat → ClassId) (t : Nat → Nat) (o : Nat → Nat) (u : BX7) (post : Int32 → BX7 → Prop) (h : w_X7_takesLaw u post) : WrI l yX7_takesLaw cX7_takesLaw 2 (some .boolean) ({ frames := 3, cells := 0, slots := 0, locals := 67 } : Room) D (TY K) t (CX7 K o u) [.ref (o 0)] (fun z : BX7 => CX7 K o z) (fun (r : Int32) (z : BX7) => post r z) := by
  refine WrI.mk rfl (Nat.le_of_ble_eq_true rfl) ?_
  intro F ls A _ hF X hH hA hl hT
  obtain ⟨H, hH0⟩ : ∃ z : Heap, z = (fxS F).heap := ⟨_, rfl⟩
  obtain ⟨locs, hL0⟩ : ∃ z : List Loc, z = [] := ⟨_, rfl⟩
  have hH : HH F D A (CX7 K o u) H locs := by rw [hH0, hL0]; exact hH
  suffices goal : V F (WQI F D (TY K) A (fun z : BX7 => CX7 K o z) (fun (r : Int32) (z : BX7) => post r z)) H locs 0 ls [] by rw [hH0, hL0] at goal; exact goal
  clear hH0 hL0
  have X : Cx F cX7_takesLaw 2 RX7 D (TY K) := X
  have hl : lv_has ls 2 [(0, .ref (o 0))] := hl
  unfold w_X7_takesLaw at h
  refine v_iconst (v := (0 : Int32)) X dX7_takesLaw_0 (by decide) ?_
  refine v_istore_n (lv' := [(1, .int (0 : Int32)), (0, .ref (o 0))]) X dX7_takesLaw_1 rfl hl (by decide) rfl (fun ls hl => ?_)
  obtain ⟨Kx2, hK2⟩ : ∃ f : BX7 → Prop, f = (fun (u3 : BX7) => vp_in (126 : Int32) 144 ∧ (w_X7_takes ((upd u3.1 (126 : Int32).toNatClampNeg (1 : Int32)), u3.2.1, u3.2.2.1, u3.2.2.2.1, u3.2.2.2.2.1, u3.2.2.2.2.2.1, u3.2.2.2.2.2.2.1, u3.2.2.2.2.2.2.2.1, u3.2.2.2.2.2.2.2.2.1, u3.2.2.2.2.2.2.2.2.2.1, u3.2.2.2.2.2.2.2.2.2.2.1, u3.2.2.2.2.2.2.2.2.2.2.2.1, u3.2.2.2.2.2.2.2.2.2.2.2.2.1, u3.2.2.2.2.2.2.2.2.2.2.2.2.2.1, u3.2.2.2.2.2.2.2.2.2.2.2.2.2.2.1, u3.2.2.2.2.2.2.2.2.2.2.2.2.2.2.2.1, u3.2.2.2.2.2.2.2.2.2.2.2.2.2.2.2.2) (108 : Int32) (fun r4 u5 => (r4 = 0 → post (0 : Int32) u5) ∧ (¬ r4 = 0 → w_X7_takesNumber u5 (0 : Int32) (20 : Int32) (44 : Int32) (fun r6 u7 => (r6 = 0 → post (0 : Int32) u7) ∧ (¬ r6 = 0 → vp_in (127 : Int32) 144 ∧ (w_X7_takesNumber ((upd u7.1 (127 : Int32).toNatClampNeg u7.2.2.2.2.2.2.2.2.2.2.2.2.2.2.2.1), u7.2.1, u7.2.2.1, u7.2.2.2.1, u7.2.2.2.2.1, u7.2.2.2.2.2.1, u7.2.2.2.2.2.2.1, u7.2.2.2.2.2.2.2.1, u7.2.2.2.2.2.2.2.2.1, u7.2.2.2.2.2.2.2.2.2.1, u7.2.2.2.2.2.2.2.2.2.2.1, u7.2.2.2.2.2.2.2.2.2.2.2.1, u7.2.2.2.2.2.2.2.2.2.2.2.2.1, u7.2.2.2.2.2.2.2.2.2.2.2.2.2.1, u7.2.2.2.2.2.2.2.2.2.2.2.2.2.2.1, u7.2.2.2.2.2.2.2.2.2.2.2.2.2.2.2.1, u7.2.2.2.2.2.2.2.2.2.2.2.2.2.2.2.2) (0 : Int32) (6 : Int32) (59 : Int32) (fun r8 u9 => (r8 = 0 → post (0 : Int32) u9) ∧ (¬ r8 = 0 → vp_in (128 : Int32) 144 ∧ (post (1 : Int32) ((upd u9.1 (128 : Int32).toNatClampNeg u9.2.2.2.2.2.2.2.2.2.2.2.2.2.2.2.1), u9.2.1, u9.2.2.1, u9.2.2.2.1, u9.2.2.2.2.1, u9.2.2.2.2.2.1, u9.2.2.2.2.2.2.1, u9.2.2.2.2.2.2.2.1, u9.2.2.2.2.2.2.2.2.1, u9.2.2.2.2.2.2.2.2.2.1, u9.2.2.2.2.2.2.2.2.2.2.1, u9.2.2.2.2.2.2.2.2.2.2.2.1, u9.2.2.2.2.2.2.2.2.2.2.2.2.1, u9.2.2.2.2.2.2.2.2.2.2.2.2.2.1, u9.2.2.2.2.2.2.2.2.2.2.2.2.2.2.1, u9.2.2.2.2.2.2.2.2.2.2.2.2.2.2.2.1, u9.2.2.2.2.2.2.2.2.2.2.2.2.2.2.2.2))))))))))) := ⟨_, rfl⟩
  have kx13 : ∀ (u3 : BX7) (ls : Array Slot) (H : Heap) (locs : List Loc), (Kx2 u3) → lv_has ls 2 [(0, .ref (o 0))] → HH F D A (CX7 K o u3) H locs → V F (WQI F D (TY K) A (fun z : BX7 => CX7 K o z) (fun (r : Int32) (z : BX7) => post r z)) H locs 24 ls [] := by
    intro u3 ls H locs h hl hH
    have h : vp_in (126 : Int32) 144 ∧ (w_X7_takes ((upd u3.1 (126 : Int32).toNatClampNeg (1 : Int32)), u3.2.1, u3.2.2.1, u3.2.2.2.1, u3.2.2.2.2.1, u3.2.2.2.2.2.1, u3.2.2.2.2.2.2.1, u3.2.2.2.2.2.2.2.1, u3.2.2.2.2.2.2.2.2.1, u3.2.2.2.2.2.2.2.2.2.1, u3.2.2.2.2.2.2.2.2.2.2.1, u3.2.2.2.2.2.2.2.2.2.2.2.1, u3.2.2.2.2.2.2.2.2.2.2.2.2.1, u3.2.2.2.2.2.2.2.2.2.2.2.2.2.1, u3.2.2.2.2.2.2.2.2.2.2.2.2.2.2.1, u3.2.2.2.2.2.2.2.2.2.2.2.2.2.2.2.1, u3.2.2.2.2.2.2.2.2.2.2.2.2.2.2.2.2) (108 : Int32) (fun r4 u5 => (r4 = 0 → post (0 : Int32) u5) ∧ (¬ r4 = 0 → w_X7_takesNumber u5 (0 : Int32) (20 : Int32) (44 : Int32) (fun r6 u7 => (r6 = 0 → post (0 : Int32) u7) ∧ (¬ r6 = 0 → vp_in (127 : Int32) 144 ∧ (w_X7_takesNumber ((upd u7.1 (127 : Int32).toNatClampNeg u7.2.2.2.2.2.2.2.2.2.2.2.2.2.2.2.1), u7.2.1, u7.2.2.1, u7.2.2.2.1, u7.2.2.2.2.1, u7.2.2.2.2.2.1, u7.2.2.2.2.2.2.1, u7.2.2.2.2.2.2.2.1, u7.2.2.2.2.2.2.2.2.1, u7.2.2.2.2.2.2.2.2.2.1, u7.2.2.2.2.2.2.2.2.2.2.1, u7.2.2.2.2.2.2.2.2.2.2.2.1, u7.2.2.2.2.2.2.2.2.2.2.2.2.1, u7.2.2.2.2.2.2.2.2.2.2.2.2.2.1, u7.2.2.2.2.2.2.2.2.2.2.2.2.2.2.1, u7.2.2.2.2.2.2.2.2.2.2.2.2.2.2.2.1, u7.2.2.2.2.2.2.2.2.2.2.2.2.2.2.2.2) (0 : Int32) (6 : Int32) (59 : Int32) (fun r8 u9 => (r8 = 0 → post (0 : Int32) u9) ∧ (¬ r8 = 0 → vp_in (128 : Int32) 144 ∧ (post (1 : Int32) ((upd u9.1 (128 : Int32).toNatClampNeg u9.2.2.2.2.2.2.2.2.2.2.2.2.2.2.2.1), u9.2.1, u9.2.2.1, u9.2.2.2.1, u9.2.2.2.2.1, u9.2.2.2.2.2.1, u9.2.2.2.2.2.2.1, u9.2.2.2.2.2.2.2.1, u9.2.2.2.2.2.2.2.2.1, u9.2.2.2.2.2.2.2.2.2.1, u9.2.2.2.2.2.2.2.2.2.2.1, u9.2.2.2.2.2.2.2.2.2.2.2.1, u9.2.2.2.2.2.2.2.2.2.2.2.2.1, u9.2.2.2.2.2.2.2.2.2.2.2.2.2.1, u9.2.2.2.2.2.2.2.2.2.2.2.2.2.2.1, u9.2.2.2.2.2.2.2.2.2.2.2.2.2.2.2.1, u9.2.2.2.2.2.2.2.2.2.2.2.2.2.2.2.2)))))))))) := by rw [hK2] at h; exact h
    refine v_aload_n X dX7_takesLaw_24 rfl (lv_at hl 0 rfl) ?_
    refine v_get (v := .ref (o 1)) X hH.1 0 rfl fk_X7_7 rfl dX7_takesLaw_25 ?_
    refine v_bipush (v := (126 : Int32)) X dX7_takesLaw_28 (by decide) ?_
    refine v_iconst (v := (1 : Int32)) X dX7_takesLaw_30 (by decide) ?_
    have hin := h.1
    have h := h.2
    refine v_iast (f := u3.1) X hH 1 0 rfl rfl hin dX7_takesLaw_31 (fun H locs hH => ?_)
    have hH : HH F D A (CX7 K o ((upd u3.1 (126 : Int32).toNatClampNeg (1 : Int32)), u3.2.1, u3.2.2.1, u3.2.2.2.1, u3.2.2.2.2.1, u3.2.2.2.2.2.1, u3.2.2.2.2.2.2.1, u3.2.2.2.2.2.2.2.1, u3.2.2.2.2.2.2.2.2.1, u3.2.2.2.2.2.2.2.2.2.1, u3.2.2.2.2.2.2.2.2.2.2.1, u3.2.2.2.2.2.2.2.2.2.2.2.1, u3.2.2.2.2.2.2.2.2.2.2.2.2.1, u3.2.2.2.2.2.2.2.2.2.2.2.2.2.1, u3.2.2.2.2.2.2.2.2.2.2.2.2.2.2.1, u3.2.2.2.2.2.2.2.2.2.2.2.2.2.2.2.1, u3.2.2.2.2.2.2.2.2.2.2.2.2.2.2.2.2)) H locs := hH
    refine v_aload_n X dX7_takesLaw_32 rfl (lv_at hl 0 rfl) ?_
    refine v_bipush (v := (108 : Int32)) X dX7_takesLaw_33 (by decide) ?_
    refine wrVI (As := [.int (108 : Int32)]) (rest := []) (wr := ([] : va_W)) X mv_X7_96 (c_X7_takes F.2.1 D K t o ((upd u3.1 (126 : Int32).toNatClampNeg (1 : Int32)), u3.2.1, u3.2.2.1, u3.2.2.2.1, u3.2.2.2.2.1, u3.2.2.2.2.2.1, u3.2.2.2.2.2.2.1, u3.2.2.2.2.2.2.2.1, u3.2.2.2.2.2.2.2.2.1, u3.2.2.2.2.2.2.2.2.2.1, u3.2.2.2.2.2.2.2.2.2.2.1, u3.2.2.2.2.2.2.2.2.2.2.2.1, u3.2.2.2.2.2.2.2.2.2.2.2.2.1, u3.2.2.2.2.2.2.2.2.2.2.2.2.2.1, u3.2.2.2.2.2.2.2.2.2.2.2.2.2.2.1, u3.2.2.2.2.2.2.2.2.2.2.2.2.2.2.2.1, u3.2.2.2.2.2.2.2.2.2.2.2.2.2.2.2.2) (108 : Int32) _ h) hF ⟨rfl, rfl, Nat.le_of_ble_eq_true rfl, Nat.le_of_ble_eq_true rfl⟩ hT hA hH [0, 1, 2, 3, 4, 5, 6, 7, 8, 9] [] ⟨rfl, rfl, rfl, rfl, by decide⟩ 0 rfl rfl hl.1 rfl rfl (Nat.le_of_ble_eq_true rfl) dX7_takesLaw_35 (fun r4 u5 H locs h hH => ?_)
    have hH : HH F D A (CX7 K o u5) H locs := hH
    refine v_if_eq (tgt := 53) X dX7_takesLaw_38 (by decide) (fun c12 => ?_) (fun c12 => ?_)
    · have h := h.1 c12
      refine v_iconst (v := (0 : Int32)) X dX7_takesLaw_53 (by decide) ?_
      exact v_wzret X hF u5 hH rfl h dX7_takesLaw_54
    · have h := h.2 c12
      refine v_aload_n X dX7_takesLaw_41 rfl (lv_at hl 0 rfl) ?_
      refine v_iconst (v := (0 : Int32)) X dX7_takesLaw_42 (by decide) ?_
      refine v_bipush (v := (20 : Int32)) X dX7_takesLaw_43 (by decide) ?_
      refine v_bipush (v := (44 : Int32)) X dX7_takesLaw_45 (by decide) ?_
      refine wrVI (As := [.int (0 : Int32), .int (20 : Int32), .int (44 : Int32)]) (rest := []) (wr := ([] : va_W)) X mv_X7_99 (c_X7_takesNumber F.2.1 D K t o u5 (0 : Int32) (20 : Int32) (44 : Int32) _ h) hF ⟨rfl, rfl, Nat.le_of_ble_eq_true rfl, Nat.le_of_ble_eq_true rfl⟩ hT hA hH [0, 1, 2, 3, 4, 5, 6, 7, 8, 9] [] ⟨rfl, rfl, rfl, rfl, by decide⟩ 0 rfl rfl hl.1 rfl rfl (Nat.le_of_ble_eq_true rfl) dX7_takesLaw_47 (fun r6 u7 H locs h hH => ?_)
      have hH : HH F D A (CX7 K o u7) H locs := hH
      refine v_if_ne (tgt := 55) X dX7_takesLaw_50 (by decide) (fun c11 => ?_) (fun c11 => ?_)
      · have h := h.2 c11
        refine v_aload_n X dX7_takesLaw_55 rfl (lv_at hl 0 rfl) ?_
        refine v_get (v := .ref (o 1)) X hH.1 0 rfl fk_X7_7 rfl dX7_takesLaw_56 ?_
        refine v_bipush (v := (127 : Int32)) X dX7_takesLaw_59 (by decide) ?_
        refine v_aload_n X dX7_takesLaw_61 rfl (lv_at hl 0 rfl) ?_
        refine v_get (v := .int u7.2.2.2.2.2.2.2.2.2.2.2.2.2.2.2.1) X hH.1 0 rfl fk_X7_89 rfl dX7_takesLaw_62 ?_
        have hin := h.1
        have h := h.2
        refine v_iast (f := u7.1) X hH 1 0 rfl rfl hin dX7_takesLaw_65 (fun H locs hH => ?_)
        have hH : HH F D A (CX7 K o ((upd u7.1 (127 : Int32).toNatClampNeg u7.2.2.2.2.2.2.2.2.2.2.2.2.2.2.2.1), u7.2.1, u7.2.2.1, u7.2.2.2.1, u7.2.2.2.2.1, u7.2.2.2.2.2.1, u7.2.2.2.2.2.2.1, u7.2.2.2.2.2.2.2.1, u7.2.2.2.2.2.2.2.2.1, u7.2.2.2.2.2.2.2.2.2.1, u7.2.2.2.2.2.2.2.2.2.2.1, u7.2.2.2.2.2.2.2.2.2.2.2.1, u7.2.2.2.2.2.2.2.2.2.2.2.2.1, u7.2.2.2.2.2.2.2.2.2.2.2.2.2.1, u7.2.2.2.2.2.2.2.2.2.2.2.2.2.2.1, u7.2.2.2.2.2.2.2.2.2.2.2.2.2.2.2.1, u7.2.2.2.2.2.2.2.2.2.2.2.2.2.2.2.2)) H locs := hH
        refine v_aload_n X dX7_takesLaw_66 rfl (lv_at hl 0 rfl) ?_
        refine v_iconst (v := (0 : Int32)) X dX7_takesLaw_67 (by decide) ?_
        refine v_bipush (v := (6 : Int32)) X dX7_takesLaw_68 (by decide) ?_
        refine v_bipush (v := (59 : Int32)) X dX7_takesLaw_70 (by decide) ?_
        refine wrVI (As := [.int (0 : Int32), .int (6 : Int32), .int (59 : Int32)]) (rest := []) (wr := ([] : va_W)) X mv_X7_99 (c_X7_takesNumber F.2.1 D K t o ((upd u7.1 (127 : Int32).toNatClampNeg u7.2.2.2.2.2.2.2.2.2.2.2.2.2.2.2.1), u7.2.1, u7.2.2.1, u7.2.2.2.1, u7.2.2.2.2.1, u7.2.2.2.2.2.1, u7.2.2.2.2.2.2.1, u7.2.2.2.2.2.2.2.1, u7.2.2.2.2.2.2.2.2.1, u7.2.2.2.2.2.2.2.2.2.1, u7.2.2.2.2.2.2.2.2.2.2.1, u7.2.2.2.2.2.2.2.2.2.2.2.1, u7.2.2.2.2.2.2.2.2.2.2.2.2.1, u7.2.2.2.2.2.2.2.2.2.2.2.2.2.1, u7.2.2.2.2.2.2.2.2.2.2.2.2.2.2.1, u7.2.2.2.2.2.2.2.2.2.2.2.2.2.2.2.1, u7.2.2.2.2.2.2.2.2.2.2.2.2.2.2.2.2) (0 : Int32) (6 : Int32) (59 : Int32) _ h) hF ⟨rfl, rfl, Nat.le_of_ble_eq_true rfl, Nat.le_of_ble_eq_true rfl⟩ hT hA hH [0, 1, 2, 3, 4, 5, 6, 7, 8, 9] [] ⟨rfl, rfl, rfl, rfl, by decide⟩ 0 rfl rfl hl.1 rfl rfl (Nat.le_of_ble_eq_true rfl) dX7_takesLaw_72 (fun r8 u9 H locs h hH => ?_)
        have hH : HH F D A (CX7 K o u9) H locs := hH
        refine v_if_ne (tgt := 80) X dX7_takesLaw_75 (by decide) (fun c10 => ?_) (fun c10 => ?_)
        · have h := h.2 c10
          refine v_aload_n X dX7_takesLaw_80 rfl (lv_at hl 0 rfl) ?_
          refine v_get (v := .ref (o 1)) X hH.1 0 rfl fk_X7_7 rfl dX7_takesLaw_81 ?_
          refine v_sipush (v := (128 : Int32)) X dX7_takesLaw_84 (by decide) ?_
          refine v_aload_n X dX7_takesLaw_87 rfl (lv_at hl 0 rfl) ?_
          refine v_get (v := .int u9.2.2.2.2.2.2.2.2.2.2.2.2.2.2.2.1) X hH.1 0 rfl fk_X7_89 rfl dX7_takesLaw_88 ?_
          have hin := h.1
          have h := h.2
          refine v_iast (f := u9.1) X hH 1 0 rfl rfl hin dX7_takesLaw_91 (fun H locs hH => ?_)
          have hH : HH F D A (CX7 K o ((upd u9.1 (128 : Int32).toNatClampNeg u9.2.2.2.2.2.2.2.2.2.2.2.2.2.2.2.1), u9.2.1, u9.2.2.1, u9.2.2.2.1, u9.2.2.2.2.1, u9.2.2.2.2.2.1, u9.2.2.2.2.2.2.1, u9.2.2.2.2.2.2.2.1, u9.2.2.2.2.2.2.2.2.1, u9.2.2.2.2.2.2.2.2.2.1, u9.2.2.2.2.2.2.2.2.2.2.1, u9.2.2.2.2.2.2.2.2.2.2.2.1, u9.2.2.2.2.2.2.2.2.2.2.2.2.1, u9.2.2.2.2.2.2.2.2.2.2.2.2.2.1, u9.2.2.2.2.2.2.2.2.2.2.2.2.2.2.1, u9.2.2.2.2.2.2.2.2.2.2.2.2.2.2.2.1, u9.2.2.2.2.2.2.2.2.2.2.2.2.2.2.2.2)) H locs := hH
          refine v_iconst (v := (1 : Int32)) X dX7_takesLaw_92 (by decide) ?_
          exact v_wzret X hF ((upd u9.1 (128 : Int32).toNatClampNeg u9.2.2.2.2.2.2.2.2.2.2.2.2.2.2.2.1), u9.2.1, u9.2.2.1, u9.2.2.2.1, u9.2.2.2.2.1, u9.2.2.2.2.2.1, u9.2.2.2.2.2.2.1, u9.2.2.2.2.2.2.2.1, u9.2.2.2.2.2.2.2.2.1, u9.2.2.2.2.2.2.2.2.2.1, u9.2.2.2.2.2.2.2.2.2.2.1, u9.2.2.2.2.2.2.2.2.2.2.2.1, u9.2.2.2.2.2.2.2.2.2.2.2.2.1, u9.2.2.2.2.2.2.2.2.2.2.2.2.2.1, u9.2.2.2.2.2.2.2.2.2.2.2.2.2.2.1, u9.2.2.2.2.2.2.2.2.2.2.2.2.2.2.2.1, u9.2.2.2.2.2.2.2.2.2.2.2.2.2.2.2.2) hH rfl h dX7_takesLaw_93
        · have h := h.1 c10
          refine v_iconst (v := (0 : Int32)) X dX7_takesLaw_78 (by decide) ?_
          exact v_wzret X hF u9 hH rfl h dX7_takesLaw_79
      · have h := h.1 c11
        refine v_iconst (v := (0 : Int32)) X dX7_takesLaw_53 (by decide) ?_
        exact v_wzret X hF u7 hH rfl h dX7_takesLaw_54
  have lp2 : ∀ (n2 : Nat) (x1 : Int32) (u2 : BX7) (ls : Array Slot) (H : Heap) (locs : List Loc), wL_X7_takesLaw_2  post Kx2 n2 x1 u2 → lv_has ls 2 [(0, .ref (o 0)), (1, .int x1)] → HH F D A (CX7 K o u2) H locs → V F (WQI F D (TY K) A (fun z : BX7 => CX7 K o z) (fun (r : Int32) (z : BX7) => post r z)) H locs 2 ls [] := by
    intro n2
    induction n2 with
    | zero => intro x1 u2 ls H locs h hl hH; exact h.elim
    | succ n2 ih2 =>
      intro x1 u2 ls H locs h hl hH
      refine v_iload_n X dX7_takesLaw_2 rfl (lv_at hl 1 rfl) ?_
      refine v_bipush (v := (36 : Int32)) X dX7_takesLaw_3 (by decide) ?_
      refine v_icmp_ge (tgt := 24) X dX7_takesLaw_5 (by decide) (fun c14 => ?_) (fun c14 => ?_)
      · have h := h.1 c14
        exact kx13 u2 ls H locs h (lv_sub hl [0] rfl) hH
      · have h := h.2 c14
        refine v_aload_n X dX7_takesLaw_8 rfl (lv_at hl 0 rfl) ?_
        refine v_get (v := .ref (o 1)) X hH.1 0 rfl fk_X7_7 rfl dX7_takesLaw_9 ?_
        refine v_bipush (v := (108 : Int32)) X dX7_takesLaw_12 (by decide) ?_
        refine v_iload_n X dX7_takesLaw_14 rfl (lv_at hl 1 rfl) ?_
        refine v_iadd X dX7_takesLaw_15 ?_
        refine v_iconst (v := (0 : Int32)) X dX7_takesLaw_16 (by decide) ?_
        have hin := h.1
        have h := h.2
        refine v_iast (f := u2.1) X hH 1 0 rfl rfl hin dX7_takesLaw_17 (fun H locs hH => ?_)
        have hH : HH F D A (CX7 K o ((upd u2.1 ((108 : Int32) + x1).toNatClampNeg (0 : Int32)), u2.2.1, u2.2.2.1, u2.2.2.2.1, u2.2.2.2.2.1, u2.2.2.2.2.2.1, u2.2.2.2.2.2.2.1, u2.2.2.2.2.2.2.2.1, u2.2.2.2.2.2.2.2.2.1, u2.2.2.2.2.2.2.2.2.2.1, u2.2.2.2.2.2.2.2.2.2.2.1, u2.2.2.2.2.2.2.2.2.2.2.2.1, u2.2.2.2.2.2.2.2.2.2.2.2.2.1, u2.2.2.2.2.2.2.2.2.2.2.2.2.2.1, u2.2.2.2.2.2.2.2.2.2.2.2.2.2.2.1, u2.2.2.2.2.2.2.2.2.2.2.2.2.2.2.2.1, u2.2.2.2.2.2.2.2.2.2.2.2.2.2.2.2.2)) H locs := hH
        refine v_iinc (v := (x1 + (1 : Int32))) (lv' := [(1, .int (x1 + (1 : Int32))), (0, .ref (o 0))]) X dX7_takesLaw_18 hl (k := 1) rfl rfl (by decide) rfl (fun ls hl => ?_)
        refine v_goto (tgt := 2) X dX7_takesLaw_21 (by decide) ?_
        exact ih2 (x1 + (1 : Int32)) ((upd u2.1 ((108 : Int32) + x1).toNatClampNeg (0 : Int32)), u2.2.1, u2.2.2.1, u2.2.2.2.1, u2.2.2.2.2.1, u2.2.2.2.2.2.1, u2.2.2.2.2.2.2.1, u2.2.2.2.2.2.2.2.1, u2.2.2.2.2.2.2.2.2.1, u2.2.2.2.2.2.2.2.2.2.1, u2.2.2.2.2.2.2.2.2.2.2.1, u2.2.2.2.2.2.2.2.2.2.2.2.1, u2.2.2.2.2.2.2.2.2.2.2.2.2.1, u2.2.2.2.2.2.2.2.2.2.2.2.2.2.1, u2.2.2.2.2.2.2.2.2.2.2.2.2.2.2.1, u2.2.2.2.2.2.2.2.2.2.2.2.2.2.2.2.1, u2.2.2.2.2.2.2.2.2.2.2.2.2.2.2.2.2) ls H locs h (lv_sub hl [1, 0] rfl) hH
  obtain ⟨n2, h⟩ := h
  have h : wL_X7_takesLaw_2  post Kx2 n2 (0 : Int32) u := by rw [hK2]; exact h
  exact lp2 n2 (0 : Int32) u ls H locs h (lv_sub hl [1, 0] rfl) hH
def w_X7_takesClient (u : BX7) (post : Int32 → BX7 → Prop) : Prop := vp_in (129 : Int32) 144 ∧ (∀ x1 : Int32, x1 = (u.1 (129 : Int32).toNatClampNeg) → (x1 = (5 : Int32) → w_X7_fails u (3 : Int32) u.2.2.2.2.2.2.2.2.2.2.2.2.2.2.1 (fun r8 u9 => bz r8 ∧ post r8 u9)) ∧ (¬ x1 = (5 : Int32) → w_X7_takesNumber (u.1, u.2.1, u.2.2.1, u.2.2.2.1, u.2.2.2.2.1, u.2.2.2.2.2.1, u.2.2.2.2.2.2.1, u.2.2.2.2.2.2.2.1, u.2.2.2.2.2.2.2.2.1, u.2.2.2.2.2.2.2.2.2.1, u.2.2.2.2.2.2.2.2.2.2.1, u.2.2.2.2.2.2.2.2.2.2.2.1, u.2.2.2.2.2.2.2.2.2.2.2.2.1, u.2.2.2.2.2.2.2.2.2.2.2.2.2.1, (u.2.2.2.2.2.2.2.2.2.2.2.2.2.2.1 + (1 : Int32)), u.2.2.2.2.2.2.2.2.2.2.2.2.2.2.2.1, u.2.2.2.2.2.2.2.2.2.2.2.2.2.2.2.2) (0 : Int32) (40 : Int32) (44 : Int32) (fun r2 u3 => (r2 = 0 → post (0 : Int32) u3) ∧ (¬ r2 = 0 → vp_in ((109 : Int32) + x1) 144 ∧ (w_X7_takesNumber ((upd u3.1 ((109 : Int32) + x1).toNatClampNeg u3.2.2.2.2.2.2.2.2.2.2.2.2.2.2.2.1), u3.2.1, u3.2.2.1, u3.2.2.2.1, u3.2.2.2.2.1, u3.2.2.2.2.2.1, u3.2.2.2.2.2.2.1, u3.2.2.2.2.2.2.2.1, u3.2.2.2.2.2.2.2.2.1, u3.2.2.2.2.2.2.2.2.2.1, u3.2.2.2.2.2.2.2.2.2.2.1, u3.2.2.2.2.2.2.2.2.2.2.2.1, u3.2.2.2.2.2.2.2.2.2.2.2.2.1, u3.2.2.2.2.2.2.2.2.2.2.2.2.2.1, u3.2.2.2.2.2.2.2.2.2.2.2.2.2.2.1, u3.2.2.2.2.2.2.2.2.2.2.2.2.2.2.2.1, u3.2.2.2.2.2.2.2.2.2.2.2.2.2.2.2.2) (0 : Int32) (5 : Int32) (59 : Int32) (fun r4 u5 => (r4 = 0 → post (0 : Int32) u5) ∧ (¬ r4 = 0 → vp_in ((131 : Int32) + x1) 144 ∧ (vp_in (129 : Int32) 144 ∧ (vp_in (129 : Int32) 144 ∧ (post (1 : Int32) ((upd (upd u5.1 ((131 : Int32) + x1).toNatClampNeg u5.2.2.2.2.2.2.2.2.2.2.2.2.2.2.2.1) (129 : Int32).toNatClampNeg (((upd u5.1 ((131 : Int32) + x1).toNatClampNeg u5.2.2.2.2.2.2.2.2.2.2.2.2.2.2.2.1) (129 : Int32).toNatClampNeg) + (1 : Int32))), u5.2.1, u5.2.2.1, u5.2.2.2.1, u5.2.2.2.2.1, u5.2.2.2.2.2.1, u5.2.2.2.2.2.2.1, u5.2.2.2.2.2.2.2.1, u5.2.2.2.2.2.2.2.2.1, u5.2.2.2.2.2.2.2.2.2.1, u5.2.2.2.2.2.2.2.2.2.2.1, u5.2.2.2.2.2.2.2.2.2.2.2.1, u5.2.2.2.2.2.2.2.2.2.2.2.2.1, u5.2.2.2.2.2.2.2.2.2.2.2.2.2.1, u5.2.2.2.2.2.2.2.2.2.2.2.2.2.2.1, u5.2.2.2.2.2.2.2.2.2.2.2.2.2.2.2.1, u5.2.2.2.2.2.2.2.2.2.2.2.2.2.2.2.2)))))))))))
set_option maxHeartbeats 4000000 in
set_option maxRecDepth 100000 in
theorem c_X7_takesClient (l : Launch) (D : va_G) (K : Nat → ClassId) (t : Nat → Nat) (o : Nat → Nat) (u : BX7) (post : Int32 → BX7 → Prop) (h : w_X7_takesClient u post) : WrI l yX7_takesClient cX7_takesClient 2 (some .boolean) ({ frames := 3, cells := 0, slots := 0, locals := 67 } : Room) D (TY K) t (CX7 K o u) [.ref (o 0)] (fun z : BX7 => CX7 K o z) (fun (r : Int32) (z : BX7) => post r z) := by
  refine WrI.mk rfl (Nat.le_of_ble_eq_true rfl) ?_
  intro F ls A _ hF X hH hA hl hT
  obtain ⟨H, hH0⟩ : ∃ z : Heap, z = (fxS F).heap := ⟨_, rfl⟩
  obtain ⟨locs, hL0⟩ : ∃ z : List Loc, z = [] := ⟨_, rfl⟩
  have hH : HH F D A (CX7 K o u) H locs := by rw [hH0, hL0]; exact hH
  suffices goal : V F (WQI F D (TY K) A (fun z : BX7 => CX7 K o z) (fun (r : Int32) (z : BX7) => post r z)) H locs 0 ls [] by rw [hH0, hL0] at goal; exact goal
  clear hH0 hL0
  have X : Cx F cX7_takesClient 2 RX7 D (TY K) := X
  have hl : lv_has ls 2 [(0, .ref (o 0))] := hl
  unfold w_X7_takesClient at h
  refine v_aload_n X dX7_takesClient_0 rfl (lv_at hl 0 rfl) ?_
  refine v_get (v := .ref (o 1)) X hH.1 0 rfl fk_X7_7 rfl dX7_takesClient_1 ?_
  refine v_sipush (v := (129 : Int32)) X dX7_takesClient_4 (by decide) ?_
  have hin := h.1
  have h := h.2
  refine v_iald (f := u.1) X hH.1 1 0 rfl rfl hin dX7_takesClient_7 ?_
  refine v_topi (fun x1 ex1 => ?_)
  have h := h x1 ex1
  refine v_istore_n (lv' := [(1, .int x1), (0, .ref (o 0))]) X dX7_takesClient_8 rfl hl (by decide) rfl (fun ls hl => ?_)
  refine v_iload_n X dX7_takesClient_9 rfl (lv_at hl 0 rfl) ?_
  refine v_iconst (v := (5 : Int32)) X dX7_takesClient_10 (by decide) ?_
  refine v_icmp_ne (tgt := 24) X dX7_takesClient_11 (by decide) (fun c10 => ?_) (fun c10 => ?_)
  · have h := h.2 c10
    refine v_aload_n X dX7_takesClient_24 rfl (lv_at hl 1 rfl) ?_
    refine v_dup X dX7_takesClient_25 rfl ?_
    refine v_get (v := .int u.2.2.2.2.2.2.2.2.2.2.2.2.2.2.1) X hH.1 0 rfl fk_X7_79 rfl dX7_takesClient_26 ?_
    refine v_iconst (v := (1 : Int32)) X dX7_takesClient_29 (by decide) ?_
    refine v_iadd X dX7_takesClient_30 ?_
    refine v_put X hH 0 rfl fi_X7_79 (Nat.le_of_ble_eq_true rfl) dX7_takesClient_31 (fun H locs hH => ?_)
    have hH : HH F D A (CX7 K o (u.1, u.2.1, u.2.2.1, u.2.2.2.1, u.2.2.2.2.1, u.2.2.2.2.2.1, u.2.2.2.2.2.2.1, u.2.2.2.2.2.2.2.1, u.2.2.2.2.2.2.2.2.1, u.2.2.2.2.2.2.2.2.2.1, u.2.2.2.2.2.2.2.2.2.2.1, u.2.2.2.2.2.2.2.2.2.2.2.1, u.2.2.2.2.2.2.2.2.2.2.2.2.1, u.2.2.2.2.2.2.2.2.2.2.2.2.2.1, (u.2.2.2.2.2.2.2.2.2.2.2.2.2.2.1 + (1 : Int32)), u.2.2.2.2.2.2.2.2.2.2.2.2.2.2.2.1, u.2.2.2.2.2.2.2.2.2.2.2.2.2.2.2.2)) H locs := hH
    refine v_aload_n X dX7_takesClient_34 rfl (lv_at hl 1 rfl) ?_
    refine v_iconst (v := (0 : Int32)) X dX7_takesClient_35 (by decide) ?_
    refine v_bipush (v := (40 : Int32)) X dX7_takesClient_36 (by decide) ?_
    refine v_bipush (v := (44 : Int32)) X dX7_takesClient_38 (by decide) ?_
    refine wrVI (As := [.int (0 : Int32), .int (40 : Int32), .int (44 : Int32)]) (rest := []) (wr := ([] : va_W)) X mv_X7_99 (c_X7_takesNumber F.2.1 D K t o (u.1, u.2.1, u.2.2.1, u.2.2.2.1, u.2.2.2.2.1, u.2.2.2.2.2.1, u.2.2.2.2.2.2.1, u.2.2.2.2.2.2.2.1, u.2.2.2.2.2.2.2.2.1, u.2.2.2.2.2.2.2.2.2.1, u.2.2.2.2.2.2.2.2.2.2.1, u.2.2.2.2.2.2.2.2.2.2.2.1, u.2.2.2.2.2.2.2.2.2.2.2.2.1, u.2.2.2.2.2.2.2.2.2.2.2.2.2.1, (u.2.2.2.2.2.2.2.2.2.2.2.2.2.2.1 + (1 : Int32)), u.2.2.2.2.2.2.2.2.2.2.2.2.2.2.2.1, u.2.2.2.2.2.2.2.2.2.2.2.2.2.2.2.2) (0 : Int32) (40 : Int32) (44 : Int32) _ h) hF ⟨rfl, rfl, Nat.le_of_ble_eq_true rfl, Nat.le_of_ble_eq_true rfl⟩ hT hA hH [0, 1, 2, 3, 4, 5, 6, 7, 8, 9] [] ⟨rfl, rfl, rfl, rfl, by decide⟩ 0 rfl rfl hl.1 rfl rfl (Nat.le_of_ble_eq_true rfl) dX7_takesClient_40 (fun r2 u3 H locs h hH => ?_)
    have hH : HH F D A (CX7 K o u3) H locs := hH
    refine v_if_ne (tgt := 48) X dX7_takesClient_43 (by decide) (fun c7 => ?_) (fun c7 => ?_)
    · have h := h.2 c7
      refine v_aload_n X dX7_takesClient_48 rfl (lv_at hl 1 rfl) ?_
      refine v_get (v := .ref (o 1)) X hH.1 0 rfl fk_X7_7 rfl dX7_takesClient_49 ?_
      refine v_bipush (v := (109 : Int32)) X dX7_takesClient_52 (by decide) ?_
      refine v_iload_n X dX7_takesClient_54 rfl (lv_at hl 0 rfl) ?_
      refine v_iadd X dX7_takesClient_55 ?_
      refine v_aload_n X dX7_takesClient_56 rfl (lv_at hl 1 rfl) ?_
      refine v_get (v := .int u3.2.2.2.2.2.2.2.2.2.2.2.2.2.2.2.1) X hH.1 0 rfl fk_X7_89 rfl dX7_takesClient_57 ?_
      have hin := h.1
      have h := h.2
      refine v_iast (f := u3.1) X hH 1 0 rfl rfl hin dX7_takesClient_60 (fun H locs hH => ?_)
      have hH : HH F D A (CX7 K o ((upd u3.1 ((109 : Int32) + x1).toNatClampNeg u3.2.2.2.2.2.2.2.2.2.2.2.2.2.2.2.1), u3.2.1, u3.2.2.1, u3.2.2.2.1, u3.2.2.2.2.1, u3.2.2.2.2.2.1, u3.2.2.2.2.2.2.1, u3.2.2.2.2.2.2.2.1, u3.2.2.2.2.2.2.2.2.1, u3.2.2.2.2.2.2.2.2.2.1, u3.2.2.2.2.2.2.2.2.2.2.1, u3.2.2.2.2.2.2.2.2.2.2.2.1, u3.2.2.2.2.2.2.2.2.2.2.2.2.1, u3.2.2.2.2.2.2.2.2.2.2.2.2.2.1, u3.2.2.2.2.2.2.2.2.2.2.2.2.2.2.1, u3.2.2.2.2.2.2.2.2.2.2.2.2.2.2.2.1, u3.2.2.2.2.2.2.2.2.2.2.2.2.2.2.2.2)) H locs := hH
      refine v_aload_n X dX7_takesClient_61 rfl (lv_at hl 1 rfl) ?_
      refine v_iconst (v := (0 : Int32)) X dX7_takesClient_62 (by decide) ?_
      refine v_iconst (v := (5 : Int32)) X dX7_takesClient_63 (by decide) ?_
      refine v_bipush (v := (59 : Int32)) X dX7_takesClient_64 (by decide) ?_
      refine wrVI (As := [.int (0 : Int32), .int (5 : Int32), .int (59 : Int32)]) (rest := []) (wr := ([] : va_W)) X mv_X7_99 (c_X7_takesNumber F.2.1 D K t o ((upd u3.1 ((109 : Int32) + x1).toNatClampNeg u3.2.2.2.2.2.2.2.2.2.2.2.2.2.2.2.1), u3.2.1, u3.2.2.1, u3.2.2.2.1, u3.2.2.2.2.1, u3.2.2.2.2.2.1, u3.2.2.2.2.2.2.1, u3.2.2.2.2.2.2.2.1, u3.2.2.2.2.2.2.2.2.1, u3.2.2.2.2.2.2.2.2.2.1, u3.2.2.2.2.2.2.2.2.2.2.1, u3.2.2.2.2.2.2.2.2.2.2.2.1, u3.2.2.2.2.2.2.2.2.2.2.2.2.1, u3.2.2.2.2.2.2.2.2.2.2.2.2.2.1, u3.2.2.2.2.2.2.2.2.2.2.2.2.2.2.1, u3.2.2.2.2.2.2.2.2.2.2.2.2.2.2.2.1, u3.2.2.2.2.2.2.2.2.2.2.2.2.2.2.2.2) (0 : Int32) (5 : Int32) (59 : Int32) _ h) hF ⟨rfl, rfl, Nat.le_of_ble_eq_true rfl, Nat.le_of_ble_eq_true rfl⟩ hT hA hH [0, 1, 2, 3, 4, 5, 6, 7, 8, 9] [] ⟨rfl, rfl, rfl, rfl, by decide⟩ 0 rfl rfl hl.1 rfl rfl (Nat.le_of_ble_eq_true rfl) dX7_takesClient_66 (fun r4 u5 H locs h hH => ?_)
      have hH : HH F D A (CX7 K o u5) H locs := hH
      refine v_if_ne (tgt := 74) X dX7_takesClient_69 (by decide) (fun c6 => ?_) (fun c6 => ?_)
      · have h := h.2 c6
        refine v_aload_n X dX7_takesClient_74 rfl (lv_at hl 1 rfl) ?_
        refine v_get (v := .ref (o 1)) X hH.1 0 rfl fk_X7_7 rfl dX7_takesClient_75 ?_
        refine v_sipush (v := (131 : Int32)) X dX7_takesClient_78 (by decide) ?_
        refine v_iload_n X dX7_takesClient_81 rfl (lv_at hl 0 rfl) ?_
        refine v_iadd X dX7_takesClient_82 ?_
        refine v_aload_n X dX7_takesClient_83 rfl (lv_at hl 1 rfl) ?_
        refine v_get (v := .int u5.2.2.2.2.2.2.2.2.2.2.2.2.2.2.2.1) X hH.1 0 rfl fk_X7_89 rfl dX7_takesClient_84 ?_
        have hin := h.1
        have h := h.2
        refine v_iast (f := u5.1) X hH 1 0 rfl rfl hin dX7_takesClient_87 (fun H locs hH => ?_)
        have hH : HH F D A (CX7 K o ((upd u5.1 ((131 : Int32) + x1).toNatClampNeg u5.2.2.2.2.2.2.2.2.2.2.2.2.2.2.2.1), u5.2.1, u5.2.2.1, u5.2.2.2.1, u5.2.2.2.2.1, u5.2.2.2.2.2.1, u5.2.2.2.2.2.2.1, u5.2.2.2.2.2.2.2.1, u5.2.2.2.2.2.2.2.2.1, u5.2.2.2.2.2.2.2.2.2.1, u5.2.2.2.2.2.2.2.2.2.2.1, u5.2.2.2.2.2.2.2.2.2.2.2.1, u5.2.2.2.2.2.2.2.2.2.2.2.2.1, u5.2.2.2.2.2.2.2.2.2.2.2.2.2.1, u5.2.2.2.2.2.2.2.2.2.2.2.2.2.2.1, u5.2.2.2.2.2.2.2.2.2.2.2.2.2.2.2.1, u5.2.2.2.2.2.2.2.2.2.2.2.2.2.2.2.2)) H locs := hH
        refine v_aload_n X dX7_takesClient_88 rfl (lv_at hl 1 rfl) ?_
        refine v_get (v := .ref (o 1)) X hH.1 0 rfl fk_X7_7 rfl dX7_takesClient_89 ?_
        refine v_sipush (v := (129 : Int32)) X dX7_takesClient_92 (by decide) ?_
        refine v_dup2_11 X dX7_takesClient_95 rfl rfl ?_
        have hin := h.1
        have h := h.2
        refine v_iald (f := (upd u5.1 ((131 : Int32) + x1).toNatClampNeg u5.2.2.2.2.2.2.2.2.2.2.2.2.2.2.2.1)) X hH.1 1 0 rfl rfl hin dX7_takesClient_96 ?_
        refine v_iconst (v := (1 : Int32)) X dX7_takesClient_97 (by decide) ?_
        refine v_iadd X dX7_takesClient_98 ?_
        have hin := h.1
        have h := h.2
        refine v_iast (f := (upd u5.1 ((131 : Int32) + x1).toNatClampNeg u5.2.2.2.2.2.2.2.2.2.2.2.2.2.2.2.1)) X hH 1 0 rfl rfl hin dX7_takesClient_99 (fun H locs hH => ?_)
        have hH : HH F D A (CX7 K o ((upd (upd u5.1 ((131 : Int32) + x1).toNatClampNeg u5.2.2.2.2.2.2.2.2.2.2.2.2.2.2.2.1) (129 : Int32).toNatClampNeg (((upd u5.1 ((131 : Int32) + x1).toNatClampNeg u5.2.2.2.2.2.2.2.2.2.2.2.2.2.2.2.1) (129 : Int32).toNatClampNeg) + (1 : Int32))), u5.2.1, u5.2.2.1, u5.2.2.2.1, u5.2.2.2.2.1, u5.2.2.2.2.2.1, u5.2.2.2.2.2.2.1, u5.2.2.2.2.2.2.2.1, u5.2.2.2.2.2.2.2.2.1, u5.2.2.2.2.2.2.2.2.2.1, u5.2.2.2.2.2.2.2.2.2.2.1, u5.2.2.2.2.2.2.2.2.2.2.2.1, u5.2.2.2.2.2.2.2.2.2.2.2.2.1, u5.2.2.2.2.2.2.2.2.2.2.2.2.2.1, u5.2.2.2.2.2.2.2.2.2.2.2.2.2.2.1, u5.2.2.2.2.2.2.2.2.2.2.2.2.2.2.2.1, u5.2.2.2.2.2.2.2.2.2.2.2.2.2.2.2.2)) H locs := hH
        refine v_iconst (v := (1 : Int32)) X dX7_takesClient_100 (by decide) ?_
        exact v_wzret X hF ((upd (upd u5.1 ((131 : Int32) + x1).toNatClampNeg u5.2.2.2.2.2.2.2.2.2.2.2.2.2.2.2.1) (129 : Int32).toNatClampNeg (((upd u5.1 ((131 : Int32) + x1).toNatClampNeg u5.2.2.2.2.2.2.2.2.2.2.2.2.2.2.2.1) (129 : Int32).toNatClampNeg) + (1 : Int32))), u5.2.1, u5.2.2.1, u5.2.2.2.1, u5.2.2.2.2.1, u5.2.2.2.2.2.1, u5.2.2.2.2.2.2.1, u5.2.2.2.2.2.2.2.1, u5.2.2.2.2.2.2.2.2.1, u5.2.2.2.2.2.2.2.2.2.1, u5.2.2.2.2.2.2.2.2.2.2.1, u5.2.2.2.2.2.2.2.2.2.2.2.1, u5.2.2.2.2.2.2.2.2.2.2.2.2.1, u5.2.2.2.2.2.2.2.2.2.2.2.2.2.1, u5.2.2.2.2.2.2.2.2.2.2.2.2.2.2.1, u5.2.2.2.2.2.2.2.2.2.2.2.2.2.2.2.1, u5.2.2.2.2.2.2.2.2.2.2.2.2.2.2.2.2) hH rfl h dX7_takesClient_101
      · have h := h.1 c6
        refine v_iconst (v := (0 : Int32)) X dX7_takesClient_72 (by decide) ?_
        exact v_wzret X hF u5 hH rfl h dX7_takesClient_73
    · have h := h.1 c7
      refine v_iconst (v := (0 : Int32)) X dX7_takesClient_46 (by decide) ?_
      exact v_wzret X hF u3 hH rfl h dX7_takesClient_47
  · have h := h.1 c10
    refine v_aload_n X dX7_takesClient_14 rfl (lv_at hl 1 rfl) ?_
    refine v_iconst (v := (3 : Int32)) X dX7_takesClient_15 (by decide) ?_
    refine v_aload_n X dX7_takesClient_16 rfl (lv_at hl 1 rfl) ?_
    refine v_get (v := .int u.2.2.2.2.2.2.2.2.2.2.2.2.2.2.1) X hH.1 0 rfl fk_X7_79 rfl dX7_takesClient_17 ?_
    refine wrVI (As := [.int (3 : Int32), .int u.2.2.2.2.2.2.2.2.2.2.2.2.2.2.1]) (rest := []) (wr := ([] : va_W)) X mv_X7_85 (c_X7_fails F.2.1 D K t o u (3 : Int32) u.2.2.2.2.2.2.2.2.2.2.2.2.2.2.1 _ h) hF ⟨rfl, rfl, Nat.le_of_ble_eq_true rfl, Nat.le_of_ble_eq_true rfl⟩ hT hA hH [0, 1, 2, 3, 4, 5, 6, 7, 8, 9] [] ⟨rfl, rfl, rfl, rfl, by decide⟩ 0 rfl rfl hl.1 rfl rfl (Nat.le_of_ble_eq_true rfl) dX7_takesClient_20 (fun r8 u9 H locs h hH => ?_)
    have hH : HH F D A (CX7 K o u9) H locs := hH
    exact v_wzret X hF u9 hH h.1 h.2 dX7_takesClient_23
def w_X7_kindOf (a0 : Int32) (post : Int32 → Prop) : Prop := (a0 = (111 : Int32) → post (1 : Int32)) ∧ (¬ a0 = (111 : Int32) → (a0 = (99 : Int32) → post (2 : Int32)) ∧ (¬ a0 = (99 : Int32) → (a0 = (109 : Int32) → post (3 : Int32)) ∧ (¬ a0 = (109 : Int32) → (a0 = (103 : Int32) → post (4 : Int32)) ∧ (¬ a0 = (103 : Int32) → (a0 = (110 : Int32) → post (5 : Int32)) ∧ (¬ a0 = (110 : Int32) → post (0 : Int32))))))
set_option maxHeartbeats 4000000 in
set_option maxRecDepth 100000 in
theorem c_X7_kindOf (l : Launch) (D : va_G) (K : Nat → ClassId) (t : Nat → Nat) (a0 : Int32) (post : Int32 → Prop) (h : w_X7_kindOf a0 post) : RdM l yX7_kindOf cX7_kindOf 1 (some .int) ({ frames := 0, cells := 0, slots := 0, locals := 0 } : Room) D (TY K) t ([] : va_W) [.int a0] post := by
  refine RdM.mk rfl (Nat.le_of_ble_eq_true rfl) ?_
  intro F ls _ hF X hP hl hT
  have X : Cx F cX7_kindOf 1 RX7 D (TY K) := X
  have hl : lv_has ls 1 [(0, .int a0)] := hl
  unfold w_X7_kindOf at h
  refine v_iload_n X dX7_kindOf_0 rfl (lv_at hl 0 rfl) ?_
  refine v_bipush (v := (111 : Int32)) X dX7_kindOf_1 (by decide) ?_
  refine v_icmp_ne (tgt := 10) X dX7_kindOf_3 (by decide) (fun c5 => ?_) (fun c5 => ?_)
  · have h := h.2 c5
    refine v_iload_n X dX7_kindOf_10 rfl (lv_at hl 0 rfl) ?_
    refine v_bipush (v := (99 : Int32)) X dX7_kindOf_11 (by decide) ?_
    refine v_icmp_ne (tgt := 20) X dX7_kindOf_13 (by decide) (fun c4 => ?_) (fun c4 => ?_)
    · have h := h.2 c4
      refine v_iload_n X dX7_kindOf_20 rfl (lv_at hl 0 rfl) ?_
      refine v_bipush (v := (109 : Int32)) X dX7_kindOf_21 (by decide) ?_
      refine v_icmp_ne (tgt := 30) X dX7_kindOf_23 (by decide) (fun c3 => ?_) (fun c3 => ?_)
      · have h := h.2 c3
        refine v_iload_n X dX7_kindOf_30 rfl (lv_at hl 0 rfl) ?_
        refine v_bipush (v := (103 : Int32)) X dX7_kindOf_31 (by decide) ?_
        refine v_icmp_ne (tgt := 40) X dX7_kindOf_33 (by decide) (fun c2 => ?_) (fun c2 => ?_)
        · have h := h.2 c2
          refine v_iload_n X dX7_kindOf_40 rfl (lv_at hl 0 rfl) ?_
          refine v_bipush (v := (110 : Int32)) X dX7_kindOf_41 (by decide) ?_
          refine v_icmp_ne (tgt := 50) X dX7_kindOf_43 (by decide) (fun c1 => ?_) (fun c1 => ?_)
          · have h := h.2 c1
            refine v_iconst (v := (0 : Int32)) X dX7_kindOf_50 (by decide) ?_
            exact v_riret X hF h dX7_kindOf_51
          · have h := h.1 c1
            refine v_iconst (v := (5 : Int32)) X dX7_kindOf_46 (by decide) ?_
            refine v_goto (tgt := 51) X dX7_kindOf_47 (by decide) ?_
            exact v_riret X hF h dX7_kindOf_51
        · have h := h.1 c2
          refine v_iconst (v := (4 : Int32)) X dX7_kindOf_36 (by decide) ?_
          refine v_goto (tgt := 51) X dX7_kindOf_37 (by decide) ?_
          exact v_riret X hF h dX7_kindOf_51
      · have h := h.1 c3
        refine v_iconst (v := (3 : Int32)) X dX7_kindOf_26 (by decide) ?_
        refine v_goto (tgt := 51) X dX7_kindOf_27 (by decide) ?_
        exact v_riret X hF h dX7_kindOf_51
    · have h := h.1 c4
      refine v_iconst (v := (2 : Int32)) X dX7_kindOf_16 (by decide) ?_
      refine v_goto (tgt := 51) X dX7_kindOf_17 (by decide) ?_
      exact v_riret X hF h dX7_kindOf_51
  · have h := h.1 c5
    refine v_iconst (v := (1 : Int32)) X dX7_kindOf_6 (by decide) ?_
    refine v_goto (tgt := 51) X dX7_kindOf_7 (by decide) ?_
    exact v_riret X hF h dX7_kindOf_51
def wL_X7_takesWaker_110 (y9 : Int32) (y10 : Int32) (b11 : BX7) (post : Int32 → BX7 → Prop) (Kx110 : Int32 → Int32 → Prop) : Nat → Int32 → Int32 → Prop
  | 0, _, _ => False
  | n110 + 1, x7, x8 => w_X7_byteAt b11 (y10 + x7) (fun r25 => w_X7_in r25.toInt64 (48 : Int64) (57 : Int64) (fun r26 => (r26 = 0 → Kx110 x7 x8) ∧ (¬ r26 = 0 → ((3 : Int32) ≤ x7 → Kx110 x7 x8) ∧ (¬ (3 : Int32) ≤ x7 → w_X7_byteAt b11 (y10 + x7) (fun r27 => ∀ x28 : Int32, x28 = ((((10 : Int32) * x8) + r27) - (48 : Int32)) → wL_X7_takesWaker_110 y9 y10 b11 post Kx110 n110 (x7 + (1 : Int32)) x28)))))
def w_X7_takesWaker (u : BX7) (a0 : Int32) (post : Int32 → BX7 → Prop) : Prop := vp_in (130 : Int32) 144 ∧ (∀ x1 : Int32, x1 = (u.1 (130 : Int32).toNatClampNeg) → (x1 = (4 : Int32) → w_X7_fails u (3 : Int32) u.2.2.2.2.2.2.2.2.2.2.2.2.2.2.1 (fun r33 u34 => bz r33 ∧ post r33 u34)) ∧ (¬ x1 = (4 : Int32) → vp_in ((136 : Int32) + x1) 144 ∧ (w_X7_takesNumber ((upd u.1 ((136 : Int32) + x1).toNatClampNeg a0), u.2.1, u.2.2.1, u.2.2.2.1, u.2.2.2.2.1, u.2.2.2.2.2.1, u.2.2.2.2.2.2.1, u.2.2.2.2.2.2.2.1, u.2.2.2.2.2.2.2.2.1, u.2.2.2.2.2.2.2.2.2.1, u.2.2.2.2.2.2.2.2.2.2.1, u.2.2.2.2.2.2.2.2.2.2.2.1, u.2.2.2.2.2.2.2.2.2.2.2.2.1, u.2.2.2.2.2.2.2.2.2.2.2.2.2.1, (u.2.2.2.2.2.2.2.2.2.2.2.2.2.2.1 + (1 : Int32)), u.2.2.2.2.2.2.2.2.2.2.2.2.2.2.2.1, u.2.2.2.2.2.2.2.2.2.2.2.2.2.2.2.2) (0 : Int32) (9 : Int32) (44 : Int32) (fun r2 u3 => (r2 = 0 → post (0 : Int32) u3) ∧ (¬ r2 = 0 → vp_in ((140 : Int32) + x1) 144 ∧ (w_X7_takesNumber ((upd u3.1 ((140 : Int32) + x1).toNatClampNeg u3.2.2.2.2.2.2.2.2.2.2.2.2.2.2.2.1), u3.2.1, u3.2.2.1, u3.2.2.2.1, u3.2.2.2.2.1, u3.2.2.2.2.2.1, u3.2.2.2.2.2.2.1, u3.2.2.2.2.2.2.2.1, u3.2.2.2.2.2.2.2.2.1, u3.2.2.2.2.2.2.2.2.2.1, u3.2.2.2.2.2.2.2.2.2.2.1, u3.2.2.2.2.2.2.2.2.2.2.2.1, u3.2.2.2.2.2.2.2.2.2.2.2.2.1, u3.2.2.2.2.2.2.2.2.2.2.2.2.2.1, u3.2.2.2.2.2.2.2.2.2.2.2.2.2.2.1, u3.2.2.2.2.2.2.2.2.2.2.2.2.2.2.2.1, u3.2.2.2.2.2.2.2.2.2.2.2.2.2.2.2.2) (0 : Int32) (5 : Int32) (44 : Int32) (fun r4 u5 => (r4 = 0 → post (0 : Int32) u5) ∧ (¬ r4 = 0 → vp_in ((114 : Int32) + x1) 144 ∧ (∀ x6 : Int32, x6 = u5.2.2.2.2.2.2.2.2.2.2.2.2.2.2.1 → ∃ n110, wL_X7_takesWaker_110 x1 x6 ((upd u5.1 ((114 : Int32) + x1).toNatClampNeg u5.2.2.2.2.2.2.2.2.2.2.2.2.2.2.2.1), u5.2.1, u5.2.2.1, u5.2.2.2.1, u5.2.2.2.2.1, u5.2.2.2.2.2.1, u5.2.2.2.2.2.2.1, u5.2.2.2.2.2.2.2.1, u5.2.2.2.2.2.2.2.2.1, u5.2.2.2.2.2.2.2.2.2.1, u5.2.2.2.2.2.2.2.2.2.2.1, u5.2.2.2.2.2.2.2.2.2.2.2.1, u5.2.2.2.2.2.2.2.2.2.2.2.2.1, u5.2.2.2.2.2.2.2.2.2.2.2.2.2.1, u5.2.2.2.2.2.2.2.2.2.2.2.2.2.2.1, u5.2.2.2.2.2.2.2.2.2.2.2.2.2.2.2.1, u5.2.2.2.2.2.2.2.2.2.2.2.2.2.2.2.2) post (fun (x12 : Int32) (x13 : Int32) => wpJ (T := Unit → Prop) (fun (_ : Unit) => w_X7_takesNumber ((upd u5.1 ((114 : Int32) + x1).toNatClampNeg u5.2.2.2.2.2.2.2.2.2.2.2.2.2.2.2.1), u5.2.1, u5.2.2.1, u5.2.2.2.1, u5.2.2.2.2.1, u5.2.2.2.2.2.1, u5.2.2.2.2.2.2.1, u5.2.2.2.2.2.2.2.1, u5.2.2.2.2.2.2.2.2.1, u5.2.2.2.2.2.2.2.2.2.1, u5.2.2.2.2.2.2.2.2.2.2.1, u5.2.2.2.2.2.2.2.2.2.2.2.1, u5.2.2.2.2.2.2.2.2.2.2.2.2.1, u5.2.2.2.2.2.2.2.2.2.2.2.2.2.1, u5.2.2.2.2.2.2.2.2.2.2.2.2.2.2.1, u5.2.2.2.2.2.2.2.2.2.2.2.2.2.2.2.1, u5.2.2.2.2.2.2.2.2.2.2.2.2.2.2.2.2) (0 : Int32) (5 : Int32) (59 : Int32) (fun r15 u16 => (r15 = 0 → post (0 : Int32) u16) ∧ (¬ r15 = 0 → vp_in ((118 : Int32) + x1) 144 ∧ (vp_in (130 : Int32) 144 ∧ (vp_in (130 : Int32) 144 ∧ (post (1 : Int32) ((upd (upd u16.1 ((118 : Int32) + x1).toNatClampNeg u16.2.2.2.2.2.2.2.2.2.2.2.2.2.2.2.1) (130 : Int32).toNatClampNeg (((upd u16.1 ((118 : Int32) + x1).toNatClampNeg u16.2.2.2.2.2.2.2.2.2.2.2.2.2.2.2.1) (130 : Int32).toNatClampNeg) + (1 : Int32))), u16.2.1, u16.2.2.1, u16.2.2.2.1, u16.2.2.2.2.1, u16.2.2.2.2.2.1, u16.2.2.2.2.2.2.1, u16.2.2.2.2.2.2.2.1, u16.2.2.2.2.2.2.2.2.1, u16.2.2.2.2.2.2.2.2.2.1, u16.2.2.2.2.2.2.2.2.2.2.1, u16.2.2.2.2.2.2.2.2.2.2.2.1, u16.2.2.2.2.2.2.2.2.2.2.2.2.1, u16.2.2.2.2.2.2.2.2.2.2.2.2.2.1, u16.2.2.2.2.2.2.2.2.2.2.2.2.2.2.1, u16.2.2.2.2.2.2.2.2.2.2.2.2.2.2.2.1, u16.2.2.2.2.2.2.2.2.2.2.2.2.2.2.2.2))))))) (fun J14 => (x12 ≤ 0 → J14 ()) ∧ (¬ x12 ≤ 0 → ((3 : Int32) ≤ x12 → J14 ()) ∧ (¬ (3 : Int32) ≤ x12 → (x13 = (5 : Int32) → J14 ()) ∧ (¬ x13 = (5 : Int32) → vp_in (129 : Int32) 144 ∧ ((x13 < ((upd u5.1 ((114 : Int32) + x1).toNatClampNeg u5.2.2.2.2.2.2.2.2.2.2.2.2.2.2.2.1) (129 : Int32).toNatClampNeg) → J14 ()) ∧ (¬ x13 < ((upd u5.1 ((114 : Int32) + x1).toNatClampNeg u5.2.2.2.2.2.2.2.2.2.2.2.2.2.2.2.1) (129 : Int32).toNatClampNeg) → w_X7_fails ((upd u5.1 ((114 : Int32) + x1).toNatClampNeg u5.2.2.2.2.2.2.2.2.2.2.2.2.2.2.2.1), u5.2.1, u5.2.2.1, u5.2.2.2.1, u5.2.2.2.2.1, u5.2.2.2.2.2.1, u5.2.2.2.2.2.2.1, u5.2.2.2.2.2.2.2.1, u5.2.2.2.2.2.2.2.2.1, u5.2.2.2.2.2.2.2.2.2.1, u5.2.2.2.2.2.2.2.2.2.2.1, u5.2.2.2.2.2.2.2.2.2.2.2.1, u5.2.2.2.2.2.2.2.2.2.2.2.2.1, u5.2.2.2.2.2.2.2.2.2.2.2.2.2.1, u5.2.2.2.2.2.2.2.2.2.2.2.2.2.2.1, u5.2.2.2.2.2.2.2.2.2.2.2.2.2.2.2.1, u5.2.2.2.2.2.2.2.2.2.2.2.2.2.2.2.2) (2 : Int32) x6 (fun r18 u19 => bz r18 ∧ post r18 u19)))))))) n110 (0 : Int32) (0 : Int32))))))))))
set_option maxHeartbeats 4000000 in
set_option maxRecDepth 100000 in
theorem c_X7_takesWaker (l : Launch) (D : va_G) (K : Nat → ClassId) (t : Nat → Nat) (o : Nat → Nat) (u : BX7) (a0 : Int32) (post : Int32 → BX7 → Prop) (h : w_X7_takesWaker u a0 post) : WrI l yX7_takesWaker cX7_takesWaker 6 (some .boolean) ({ frames := 3, cells := 0, slots := 0, locals := 67 } : Room) D (TY K) t (CX7 K o u) [.ref (o 0), .int a0] (fun z : BX7 => CX7 K o z) (fun (r : Int32) (z : BX7) => post r z) := by
  refine WrI.mk rfl (Nat.le_of_ble_eq_true rfl) ?_
  intro F ls A _ hF X hH hA hl hT
  obtain ⟨H, hH0⟩ : ∃ z : Heap, z = (fxS F).heap := ⟨_, rfl⟩
  obtain ⟨locs, hL0⟩ : ∃ z : List Loc, z = [] := ⟨_, rfl⟩
  have hH : HH F D A (CX7 K o u) H locs := by rw [hH0, hL0]; exact hH
  suffices goal : V F (WQI F D (TY K) A (fun z : BX7 => CX7 K o z) (fun (r : Int32) (z : BX7) => post r z)) H locs 0 ls [] by rw [hH0, hL0] at goal; exact goal
  clear hH0 hL0
  have X : Cx F cX7_takesWaker 6 RX7 D (TY K) := X
  have hl : lv_has ls 6 [(0, .ref (o 0)), (1, .int a0)] := hl
  unfold w_X7_takesWaker at h
  refine v_aload_n X dX7_takesWaker_0 rfl (lv_at hl 0 rfl) ?_
  refine v_get (v := .ref (o 1)) X hH.1 0 rfl fk_X7_7 rfl dX7_takesWaker_1 ?_
  refine v_sipush (v := (130 : Int32)) X dX7_takesWaker_4 (by decide) ?_
  have hin := h.1
  have h := h.2
  refine v_iald (f := u.1) X hH.1 1 0 rfl rfl hin dX7_takesWaker_7 ?_
  refine v_topi (fun x1 ex1 => ?_)
  have h := h x1 ex1
  refine v_istore_n (lv' := [(2, .int x1), (0, .ref (o 0)), (1, .int a0)]) X dX7_takesWaker_8 rfl hl (by decide) rfl (fun ls hl => ?_)
  refine v_iload_n X dX7_takesWaker_9 rfl (lv_at hl 0 rfl) ?_
  refine v_iconst (v := (4 : Int32)) X dX7_takesWaker_10 (by decide) ?_
  refine v_icmp_ne (tgt := 24) X dX7_takesWaker_11 (by decide) (fun c35 => ?_) (fun c35 => ?_)
  · have h := h.2 c35
    refine v_aload_n X dX7_takesWaker_24 rfl (lv_at hl 1 rfl) ?_
    refine v_dup X dX7_takesWaker_25 rfl ?_
    refine v_get (v := .int u.2.2.2.2.2.2.2.2.2.2.2.2.2.2.1) X hH.1 0 rfl fk_X7_79 rfl dX7_takesWaker_26 ?_
    refine v_iconst (v := (1 : Int32)) X dX7_takesWaker_29 (by decide) ?_
    refine v_iadd X dX7_takesWaker_30 ?_
    refine v_put X hH 0 rfl fi_X7_79 (Nat.le_of_ble_eq_true rfl) dX7_takesWaker_31 (fun H locs hH => ?_)
    have hH : HH F D A (CX7 K o (u.1, u.2.1, u.2.2.1, u.2.2.2.1, u.2.2.2.2.1, u.2.2.2.2.2.1, u.2.2.2.2.2.2.1, u.2.2.2.2.2.2.2.1, u.2.2.2.2.2.2.2.2.1, u.2.2.2.2.2.2.2.2.2.1, u.2.2.2.2.2.2.2.2.2.2.1, u.2.2.2.2.2.2.2.2.2.2.2.1, u.2.2.2.2.2.2.2.2.2.2.2.2.1, u.2.2.2.2.2.2.2.2.2.2.2.2.2.1, (u.2.2.2.2.2.2.2.2.2.2.2.2.2.2.1 + (1 : Int32)), u.2.2.2.2.2.2.2.2.2.2.2.2.2.2.2.1, u.2.2.2.2.2.2.2.2.2.2.2.2.2.2.2.2)) H locs := hH
    refine v_aload_n X dX7_takesWaker_34 rfl (lv_at hl 1 rfl) ?_
    refine v_get (v := .ref (o 1)) X hH.1 0 rfl fk_X7_7 rfl dX7_takesWaker_35 ?_
    refine v_sipush (v := (136 : Int32)) X dX7_takesWaker_38 (by decide) ?_
    refine v_iload_n X dX7_takesWaker_41 rfl (lv_at hl 0 rfl) ?_
    refine v_iadd X dX7_takesWaker_42 ?_
    refine v_iload_n X dX7_takesWaker_43 rfl (lv_at hl 2 rfl) ?_
    have hin := h.1
    have h := h.2
    refine v_iast (f := u.1) X hH 1 0 rfl rfl hin dX7_takesWaker_44 (fun H locs hH => ?_)
    have hH : HH F D A (CX7 K o ((upd u.1 ((136 : Int32) + x1).toNatClampNeg a0), u.2.1, u.2.2.1, u.2.2.2.1, u.2.2.2.2.1, u.2.2.2.2.2.1, u.2.2.2.2.2.2.1, u.2.2.2.2.2.2.2.1, u.2.2.2.2.2.2.2.2.1, u.2.2.2.2.2.2.2.2.2.1, u.2.2.2.2.2.2.2.2.2.2.1, u.2.2.2.2.2.2.2.2.2.2.2.1, u.2.2.2.2.2.2.2.2.2.2.2.2.1, u.2.2.2.2.2.2.2.2.2.2.2.2.2.1, (u.2.2.2.2.2.2.2.2.2.2.2.2.2.2.1 + (1 : Int32)), u.2.2.2.2.2.2.2.2.2.2.2.2.2.2.2.1, u.2.2.2.2.2.2.2.2.2.2.2.2.2.2.2.2)) H locs := hH
    refine v_aload_n X dX7_takesWaker_45 rfl (lv_at hl 1 rfl) ?_
    refine v_iconst (v := (0 : Int32)) X dX7_takesWaker_46 (by decide) ?_
    refine v_bipush (v := (9 : Int32)) X dX7_takesWaker_47 (by decide) ?_
    refine v_bipush (v := (44 : Int32)) X dX7_takesWaker_49 (by decide) ?_
    refine wrVI (As := [.int (0 : Int32), .int (9 : Int32), .int (44 : Int32)]) (rest := []) (wr := ([] : va_W)) X mv_X7_99 (c_X7_takesNumber F.2.1 D K t o ((upd u.1 ((136 : Int32) + x1).toNatClampNeg a0), u.2.1, u.2.2.1, u.2.2.2.1, u.2.2.2.2.1, u.2.2.2.2.2.1, u.2.2.2.2.2.2.1, u.2.2.2.2.2.2.2.1, u.2.2.2.2.2.2.2.2.1, u.2.2.2.2.2.2.2.2.2.1, u.2.2.2.2.2.2.2.2.2.2.1, u.2.2.2.2.2.2.2.2.2.2.2.1, u.2.2.2.2.2.2.2.2.2.2.2.2.1, u.2.2.2.2.2.2.2.2.2.2.2.2.2.1, (u.2.2.2.2.2.2.2.2.2.2.2.2.2.2.1 + (1 : Int32)), u.2.2.2.2.2.2.2.2.2.2.2.2.2.2.2.1, u.2.2.2.2.2.2.2.2.2.2.2.2.2.2.2.2) (0 : Int32) (9 : Int32) (44 : Int32) _ h) hF ⟨rfl, rfl, Nat.le_of_ble_eq_true rfl, Nat.le_of_ble_eq_true rfl⟩ hT hA hH [0, 1, 2, 3, 4, 5, 6, 7, 8, 9] [] ⟨rfl, rfl, rfl, rfl, by decide⟩ 0 rfl rfl hl.1 rfl rfl (Nat.le_of_ble_eq_true rfl) dX7_takesWaker_51 (fun r2 u3 H locs h hH => ?_)
    have hH : HH F D A (CX7 K o u3) H locs := hH
    refine v_if_ne (tgt := 59) X dX7_takesWaker_54 (by decide) (fun c32 => ?_) (fun c32 => ?_)
    · have h := h.2 c32
      refine v_aload_n X dX7_takesWaker_59 rfl (lv_at hl 1 rfl) ?_
      refine v_get (v := .ref (o 1)) X hH.1 0 rfl fk_X7_7 rfl dX7_takesWaker_60 ?_
      refine v_sipush (v := (140 : Int32)) X dX7_takesWaker_63 (by decide) ?_
      refine v_iload_n X dX7_takesWaker_66 rfl (lv_at hl 0 rfl) ?_
      refine v_iadd X dX7_takesWaker_67 ?_
      refine v_aload_n X dX7_takesWaker_68 rfl (lv_at hl 1 rfl) ?_
      refine v_get (v := .int u3.2.2.2.2.2.2.2.2.2.2.2.2.2.2.2.1) X hH.1 0 rfl fk_X7_89 rfl dX7_takesWaker_69 ?_
      have hin := h.1
      have h := h.2
      refine v_iast (f := u3.1) X hH 1 0 rfl rfl hin dX7_takesWaker_72 (fun H locs hH => ?_)
      have hH : HH F D A (CX7 K o ((upd u3.1 ((140 : Int32) + x1).toNatClampNeg u3.2.2.2.2.2.2.2.2.2.2.2.2.2.2.2.1), u3.2.1, u3.2.2.1, u3.2.2.2.1, u3.2.2.2.2.1, u3.2.2.2.2.2.1, u3.2.2.2.2.2.2.1, u3.2.2.2.2.2.2.2.1, u3.2.2.2.2.2.2.2.2.1, u3.2.2.2.2.2.2.2.2.2.1, u3.2.2.2.2.2.2.2.2.2.2.1, u3.2.2.2.2.2.2.2.2.2.2.2.1, u3.2.2.2.2.2.2.2.2.2.2.2.2.1, u3.2.2.2.2.2.2.2.2.2.2.2.2.2.1, u3.2.2.2.2.2.2.2.2.2.2.2.2.2.2.1, u3.2.2.2.2.2.2.2.2.2.2.2.2.2.2.2.1, u3.2.2.2.2.2.2.2.2.2.2.2.2.2.2.2.2)) H locs := hH
      refine v_aload_n X dX7_takesWaker_73 rfl (lv_at hl 1 rfl) ?_
      refine v_iconst (v := (0 : Int32)) X dX7_takesWaker_74 (by decide) ?_
      refine v_iconst (v := (5 : Int32)) X dX7_takesWaker_75 (by decide) ?_
      refine v_bipush (v := (44 : Int32)) X dX7_takesWaker_76 (by decide) ?_
      refine wrVI (As := [.int (0 : Int32), .int (5 : Int32), .int (44 : Int32)]) (rest := []) (wr := ([] : va_W)) X mv_X7_99 (c_X7_takesNumber F.2.1 D K t o ((upd u3.1 ((140 : Int32) + x1).toNatClampNeg u3.2.2.2.2.2.2.2.2.2.2.2.2.2.2.2.1), u3.2.1, u3.2.2.1, u3.2.2.2.1, u3.2.2.2.2.1, u3.2.2.2.2.2.1, u3.2.2.2.2.2.2.1, u3.2.2.2.2.2.2.2.1, u3.2.2.2.2.2.2.2.2.1, u3.2.2.2.2.2.2.2.2.2.1, u3.2.2.2.2.2.2.2.2.2.2.1, u3.2.2.2.2.2.2.2.2.2.2.2.1, u3.2.2.2.2.2.2.2.2.2.2.2.2.1, u3.2.2.2.2.2.2.2.2.2.2.2.2.2.1, u3.2.2.2.2.2.2.2.2.2.2.2.2.2.2.1, u3.2.2.2.2.2.2.2.2.2.2.2.2.2.2.2.1, u3.2.2.2.2.2.2.2.2.2.2.2.2.2.2.2.2) (0 : Int32) (5 : Int32) (44 : Int32) _ h) hF ⟨rfl, rfl, Nat.le_of_ble_eq_true rfl, Nat.le_of_ble_eq_true rfl⟩ hT hA hH [0, 1, 2, 3, 4, 5, 6, 7, 8, 9] [] ⟨rfl, rfl, rfl, rfl, by decide⟩ 0 rfl rfl hl.1 rfl rfl (Nat.le_of_ble_eq_true rfl) dX7_takesWaker_78 (fun r4 u5 H locs h hH => ?_)
      have hH : HH F D A (CX7 K o u5) H locs := hH
      refine v_if_ne (tgt := 86) X dX7_takesWaker_81 (by decide) (fun c31 => ?_) (fun c31 => ?_)
      · have h := h.2 c31
        refine v_aload_n X dX7_takesWaker_86 rfl (lv_at hl 1 rfl) ?_
        refine v_get (v := .ref (o 1)) X hH.1 0 rfl fk_X7_7 rfl dX7_takesWaker_87 ?_
        refine v_bipush (v := (114 : Int32)) X dX7_takesWaker_90 (by decide) ?_
        refine v_iload_n X dX7_takesWaker_92 rfl (lv_at hl 0 rfl) ?_
        refine v_iadd X dX7_takesWaker_93 ?_
        refine v_aload_n X dX7_takesWaker_94 rfl (lv_at hl 1 rfl) ?_
        refine v_get (v := .int u5.2.2.2.2.2.2.2.2.2.2.2.2.2.2.2.1) X hH.1 0 rfl fk_X7_89 rfl dX7_takesWaker_95 ?_
        have hin := h.1
        have h := h.2
        refine v_iast (f := u5.1) X hH 1 0 rfl rfl hin dX7_takesWaker_98 (fun H locs hH => ?_)
        have hH : HH F D A (CX7 K o ((upd u5.1 ((114 : Int32) + x1).toNatClampNeg u5.2.2.2.2.2.2.2.2.2.2.2.2.2.2.2.1), u5.2.1, u5.2.2.1, u5.2.2.2.1, u5.2.2.2.2.1, u5.2.2.2.2.2.1, u5.2.2.2.2.2.2.1, u5.2.2.2.2.2.2.2.1, u5.2.2.2.2.2.2.2.2.1, u5.2.2.2.2.2.2.2.2.2.1, u5.2.2.2.2.2.2.2.2.2.2.1, u5.2.2.2.2.2.2.2.2.2.2.2.1, u5.2.2.2.2.2.2.2.2.2.2.2.2.1, u5.2.2.2.2.2.2.2.2.2.2.2.2.2.1, u5.2.2.2.2.2.2.2.2.2.2.2.2.2.2.1, u5.2.2.2.2.2.2.2.2.2.2.2.2.2.2.2.1, u5.2.2.2.2.2.2.2.2.2.2.2.2.2.2.2.2)) H locs := hH
        refine v_aload_n X dX7_takesWaker_99 rfl (lv_at hl 1 rfl) ?_
        refine v_get (v := .int u5.2.2.2.2.2.2.2.2.2.2.2.2.2.2.1) X hH.1 0 rfl fk_X7_79 rfl dX7_takesWaker_100 ?_
        refine v_topi (fun x6 ex6 => ?_)
        have h := h x6 ex6
        refine v_istore_n (lv' := [(3, .int x6), (2, .int x1), (0, .ref (o 0)), (1, .int a0)]) X dX7_takesWaker_103 rfl hl (by decide) rfl (fun ls hl => ?_)
        refine v_iconst (v := (0 : Int32)) X dX7_takesWaker_104 (by decide) ?_
        refine v_istore (lv' := [(4, .int (0 : Int32)), (3, .int x6), (2, .int x1), (0, .ref (o 0)), (1, .int a0)]) X dX7_takesWaker_105 hl (by decide) rfl (fun ls hl => ?_)
        refine v_iconst (v := (0 : Int32)) X dX7_takesWaker_107 (by decide) ?_
        refine v_istore (lv' := [(5, .int (0 : Int32)), (4, .int (0 : Int32)), (3, .int x6), (2, .int x1), (0, .ref (o 0)), (1, .int a0)]) X dX7_takesWaker_108 hl (by decide) rfl (fun ls hl => ?_)
        obtain ⟨Kx110, hK110⟩ : ∃ f : Int32 → Int32 → Prop, f = (fun (x12 : Int32) (x13 : Int32) => wpJ (T := Unit → Prop) (fun (_ : Unit) => w_X7_takesNumber ((upd u5.1 ((114 : Int32) + x1).toNatClampNeg u5.2.2.2.2.2.2.2.2.2.2.2.2.2.2.2.1), u5.2.1, u5.2.2.1, u5.2.2.2.1, u5.2.2.2.2.1, u5.2.2.2.2.2.1, u5.2.2.2.2.2.2.1, u5.2.2.2.2.2.2.2.1, u5.2.2.2.2.2.2.2.2.1, u5.2.2.2.2.2.2.2.2.2.1, u5.2.2.2.2.2.2.2.2.2.2.1, u5.2.2.2.2.2.2.2.2.2.2.2.1, u5.2.2.2.2.2.2.2.2.2.2.2.2.1, u5.2.2.2.2.2.2.2.2.2.2.2.2.2.1, u5.2.2.2.2.2.2.2.2.2.2.2.2.2.2.1, u5.2.2.2.2.2.2.2.2.2.2.2.2.2.2.2.1, u5.2.2.2.2.2.2.2.2.2.2.2.2.2.2.2.2) (0 : Int32) (5 : Int32) (59 : Int32) (fun r15 u16 => (r15 = 0 → post (0 : Int32) u16) ∧ (¬ r15 = 0 → vp_in ((118 : Int32) + x1) 144 ∧ (vp_in (130 : Int32) 144 ∧ (vp_in (130 : Int32) 144 ∧ (post (1 : Int32) ((upd (upd u16.1 ((118 : Int32) + x1).toNatClampNeg u16.2.2.2.2.2.2.2.2.2.2.2.2.2.2.2.1) (130 : Int32).toNatClampNeg (((upd u16.1 ((118 : Int32) + x1).toNatClampNeg u16.2.2.2.2.2.2.2.2.2.2.2.2.2.2.2.1) (130 : Int32).toNatClampNeg) + (1 : Int32))), u16.2.1, u16.2.2.1, u16.2.2.2.1, u16.2.2.2.2.1, u16.2.2.2.2.2.1, u16.2.2.2.2.2.2.1, u16.2.2.2.2.2.2.2.1, u16.2.2.2.2.2.2.2.2.1, u16.2.2.2.2.2.2.2.2.2.1, u16.2.2.2.2.2.2.2.2.2.2.1, u16.2.2.2.2.2.2.2.2.2.2.2.1, u16.2.2.2.2.2.2.2.2.2.2.2.2.1, u16.2.2.2.2.2.2.2.2.2.2.2.2.2.1, u16.2.2.2.2.2.2.2.2.2.2.2.2.2.2.1, u16.2.2.2.2.2.2.2.2.2.2.2.2.2.2.2.1, u16.2.2.2.2.2.2.2.2.2.2.2.2.2.2.2.2))))))) (fun J14 => (x12 ≤ 0 → J14 ()) ∧ (¬ x12 ≤ 0 → ((3 : Int32) ≤ x12 → J14 ()) ∧ (¬ (3 : Int32) ≤ x12 → (x13 = (5 : Int32) → J14 ()) ∧ (¬ x13 = (5 : Int32) → vp_in (129 : Int32) 144 ∧ ((x13 < ((upd u5.1 ((114 : Int32) + x1).toNatClampNeg u5.2.2.2.2.2.2.2.2.2.2.2.2.2.2.2.1) (129 : Int32).toNatClampNeg) → J14 ()) ∧ (¬ x13 < ((upd u5.1 ((114 : Int32) + x1).toNatClampNeg u5.2.2.2.2.2.2.2.2.2.2.2.2.2.2.2.1) (129 : Int32).toNatClampNeg) → w_X7_fails ((upd u5.1 ((114 : Int32) + x1).toNatClampNeg u5.2.2.2.2.2.2.2.2.2.2.2.2.2.2.2.1), u5.2.1, u5.2.2.1, u5.2.2.2.1, u5.2.2.2.2.1, u5.2.2.2.2.2.1, u5.2.2.2.2.2.2.1, u5.2.2.2.2.2.2.2.1, u5.2.2.2.2.2.2.2.2.1, u5.2.2.2.2.2.2.2.2.2.1, u5.2.2.2.2.2.2.2.2.2.2.1, u5.2.2.2.2.2.2.2.2.2.2.2.1, u5.2.2.2.2.2.2.2.2.2.2.2.2.1, u5.2.2.2.2.2.2.2.2.2.2.2.2.2.1, u5.2.2.2.2.2.2.2.2.2.2.2.2.2.2.1, u5.2.2.2.2.2.2.2.2.2.2.2.2.2.2.2.1, u5.2.2.2.2.2.2.2.2.2.2.2.2.2.2.2.2) (2 : Int32) x6 (fun r18 u19 => bz r18 ∧ post r18 u19)))))))) := ⟨_, rfl⟩
        have kx24 : ∀ (x12 : Int32) (x13 : Int32) (ls : Array Slot) (H : Heap) (locs : List Loc), (Kx110 x12 x13) → lv_has ls 6 [(0, .ref (o 0)), (2, .int x1), (3, .int x6), (4, .int x12), (5, .int x13)] → HH F D A (CX7 K o ((upd u5.1 ((114 : Int32) + x1).toNatClampNeg u5.2.2.2.2.2.2.2.2.2.2.2.2.2.2.2.1), u5.2.1, u5.2.2.1, u5.2.2.2.1, u5.2.2.2.2.1, u5.2.2.2.2.2.1, u5.2.2.2.2.2.2.1, u5.2.2.2.2.2.2.2.1, u5.2.2.2.2.2.2.2.2.1, u5.2.2.2.2.2.2.2.2.2.1, u5.2.2.2.2.2.2.2.2.2.2.1, u5.2.2.2.2.2.2.2.2.2.2.2.1, u5.2.2.2.2.2.2.2.2.2.2.2.2.1, u5.2.2.2.2.2.2.2.2.2.2.2.2.2.1, u5.2.2.2.2.2.2.2.2.2.2.2.2.2.2.1, u5.2.2.2.2.2.2.2.2.2.2.2.2.2.2.2.1, u5.2.2.2.2.2.2.2.2.2.2.2.2.2.2.2.2)) H locs → V F (WQI F D (TY K) A (fun z : BX7 => CX7 K o z) (fun (r : Int32) (z : BX7) => post r z)) H locs 162 ls [] := by
          intro x12 x13 ls H locs h hl hH
          have h : wpJ (T := Unit → Prop) (fun (_ : Unit) => w_X7_takesNumber ((upd u5.1 ((114 : Int32) + x1).toNatClampNeg u5.2.2.2.2.2.2.2.2.2.2.2.2.2.2.2.1), u5.2.1, u5.2.2.1, u5.2.2.2.1, u5.2.2.2.2.1, u5.2.2.2.2.2.1, u5.2.2.2.2.2.2.1, u5.2.2.2.2.2.2.2.1, u5.2.2.2.2.2.2.2.2.1, u5.2.2.2.2.2.2.2.2.2.1, u5.2.2.2.2.2.2.2.2.2.2.1, u5.2.2.2.2.2.2.2.2.2.2.2.1, u5.2.2.2.2.2.2.2.2.2.2.2.2.1, u5.2.2.2.2.2.2.2.2.2.2.2.2.2.1, u5.2.2.2.2.2.2.2.2.2.2.2.2.2.2.1, u5.2.2.2.2.2.2.2.2.2.2.2.2.2.2.2.1, u5.2.2.2.2.2.2.2.2.2.2.2.2.2.2.2.2) (0 : Int32) (5 : Int32) (59 : Int32) (fun r15 u16 => (r15 = 0 → post (0 : Int32) u16) ∧ (¬ r15 = 0 → vp_in ((118 : Int32) + x1) 144 ∧ (vp_in (130 : Int32) 144 ∧ (vp_in (130 : Int32) 144 ∧ (post (1 : Int32) ((upd (upd u16.1 ((118 : Int32) + x1).toNatClampNeg u16.2.2.2.2.2.2.2.2.2.2.2.2.2.2.2.1) (130 : Int32).toNatClampNeg (((upd u16.1 ((118 : Int32) + x1).toNatClampNeg u16.2.2.2.2.2.2.2.2.2.2.2.2.2.2.2.1) (130 : Int32).toNatClampNeg) + (1 : Int32))), u16.2.1, u16.2.2.1, u16.2.2.2.1, u16.2.2.2.2.1, u16.2.2.2.2.2.1, u16.2.2.2.2.2.2.1, u16.2.2.2.2.2.2.2.1, u16.2.2.2.2.2.2.2.2.1, u16.2.2.2.2.2.2.2.2.2.1, u16.2.2.2.2.2.2.2.2.2.2.1, u16.2.2.2.2.2.2.2.2.2.2.2.1, u16.2.2.2.2.2.2.2.2.2.2.2.2.1, u16.2.2.2.2.2.2.2.2.2.2.2.2.2.1, u16.2.2.2.2.2.2.2.2.2.2.2.2.2.2.1, u16.2.2.2.2.2.2.2.2.2.2.2.2.2.2.2.1, u16.2.2.2.2.2.2.2.2.2.2.2.2.2.2.2.2))))))) (fun J14 => (x12 ≤ 0 → J14 ()) ∧ (¬ x12 ≤ 0 → ((3 : Int32) ≤ x12 → J14 ()) ∧ (¬ (3 : Int32) ≤ x12 → (x13 = (5 : Int32) → J14 ()) ∧ (¬ x13 = (5 : Int32) → vp_in (129 : Int32) 144 ∧ ((x13 < ((upd u5.1 ((114 : Int32) + x1).toNatClampNeg u5.2.2.2.2.2.2.2.2.2.2.2.2.2.2.2.1) (129 : Int32).toNatClampNeg) → J14 ()) ∧ (¬ x13 < ((upd u5.1 ((114 : Int32) + x1).toNatClampNeg u5.2.2.2.2.2.2.2.2.2.2.2.2.2.2.2.1) (129 : Int32).toNatClampNeg) → w_X7_fails ((upd u5.1 ((114 : Int32) + x1).toNatClampNeg u5.2.2.2.2.2.2.2.2.2.2.2.2.2.2.2.1), u5.2.1, u5.2.2.1, u5.2.2.2.1, u5.2.2.2.2.1, u5.2.2.2.2.2.1, u5.2.2.2.2.2.2.1, u5.2.2.2.2.2.2.2.1, u5.2.2.2.2.2.2.2.2.1, u5.2.2.2.2.2.2.2.2.2.1, u5.2.2.2.2.2.2.2.2.2.2.1, u5.2.2.2.2.2.2.2.2.2.2.2.1, u5.2.2.2.2.2.2.2.2.2.2.2.2.1, u5.2.2.2.2.2.2.2.2.2.2.2.2.2.1, u5.2.2.2.2.2.2.2.2.2.2.2.2.2.2.1, u5.2.2.2.2.2.2.2.2.2.2.2.2.2.2.2.1, u5.2.2.2.2.2.2.2.2.2.2.2.2.2.2.2.2) (2 : Int32) x6 (fun r18 u19 => bz r18 ∧ post r18 u19))))))) := by rw [hK110] at h; exact h
          refine v_iload X dX7_takesWaker_162 (lv_at hl 3 rfl) ?_
          obtain ⟨J14, hJ14⟩ : ∃ f : Unit → Prop, f = (fun (_ : Unit) => w_X7_takesNumber ((upd u5.1 ((114 : Int32) + x1).toNatClampNeg u5.2.2.2.2.2.2.2.2.2.2.2.2.2.2.2.1), u5.2.1, u5.2.2.1, u5.2.2.2.1, u5.2.2.2.2.1, u5.2.2.2.2.2.1, u5.2.2.2.2.2.2.1, u5.2.2.2.2.2.2.2.1, u5.2.2.2.2.2.2.2.2.1, u5.2.2.2.2.2.2.2.2.2.1, u5.2.2.2.2.2.2.2.2.2.2.1, u5.2.2.2.2.2.2.2.2.2.2.2.1, u5.2.2.2.2.2.2.2.2.2.2.2.2.1, u5.2.2.2.2.2.2.2.2.2.2.2.2.2.1, u5.2.2.2.2.2.2.2.2.2.2.2.2.2.2.1, u5.2.2.2.2.2.2.2.2.2.2.2.2.2.2.2.1, u5.2.2.2.2.2.2.2.2.2.2.2.2.2.2.2.2) (0 : Int32) (5 : Int32) (59 : Int32) (fun r15 u16 => (r15 = 0 → post (0 : Int32) u16) ∧ (¬ r15 = 0 → vp_in ((118 : Int32) + x1) 144 ∧ (vp_in (130 : Int32) 144 ∧ (vp_in (130 : Int32) 144 ∧ (post (1 : Int32) ((upd (upd u16.1 ((118 : Int32) + x1).toNatClampNeg u16.2.2.2.2.2.2.2.2.2.2.2.2.2.2.2.1) (130 : Int32).toNatClampNeg (((upd u16.1 ((118 : Int32) + x1).toNatClampNeg u16.2.2.2.2.2.2.2.2.2.2.2.2.2.2.2.1) (130 : Int32).toNatClampNeg) + (1 : Int32))), u16.2.1, u16.2.2.1, u16.2.2.2.1, u16.2.2.2.2.1, u16.2.2.2.2.2.1, u16.2.2.2.2.2.2.1, u16.2.2.2.2.2.2.2.1, u16.2.2.2.2.2.2.2.2.1, u16.2.2.2.2.2.2.2.2.2.1, u16.2.2.2.2.2.2.2.2.2.2.1, u16.2.2.2.2.2.2.2.2.2.2.2.1, u16.2.2.2.2.2.2.2.2.2.2.2.2.1, u16.2.2.2.2.2.2.2.2.2.2.2.2.2.1, u16.2.2.2.2.2.2.2.2.2.2.2.2.2.2.1, u16.2.2.2.2.2.2.2.2.2.2.2.2.2.2.2.1, u16.2.2.2.2.2.2.2.2.2.2.2.2.2.2.2.2))))))) := ⟨_, rfl⟩
          have kJ14 : ∀ (ls : Array Slot) (H : Heap) (locs : List Loc), (J14 ()) → lv_has ls 6 [(0, .ref (o 0)), (2, .int x1)] → HH F D A (CX7 K o ((upd u5.1 ((114 : Int32) + x1).toNatClampNeg u5.2.2.2.2.2.2.2.2.2.2.2.2.2.2.2.1), u5.2.1, u5.2.2.1, u5.2.2.2.1, u5.2.2.2.2.1, u5.2.2.2.2.2.1, u5.2.2.2.2.2.2.1, u5.2.2.2.2.2.2.2.1, u5.2.2.2.2.2.2.2.2.1, u5.2.2.2.2.2.2.2.2.2.1, u5.2.2.2.2.2.2.2.2.2.2.1, u5.2.2.2.2.2.2.2.2.2.2.2.1, u5.2.2.2.2.2.2.2.2.2.2.2.2.1, u5.2.2.2.2.2.2.2.2.2.2.2.2.2.1, u5.2.2.2.2.2.2.2.2.2.2.2.2.2.2.1, u5.2.2.2.2.2.2.2.2.2.2.2.2.2.2.2.1, u5.2.2.2.2.2.2.2.2.2.2.2.2.2.2.2.2)) H locs → V F (WQI F D (TY K) A (fun z : BX7 => CX7 K o z) (fun (r : Int32) (z : BX7) => post r z)) H locs 199 ls [] := by
            intro ls H locs h hl hH
            have h : w_X7_takesNumber ((upd u5.1 ((114 : Int32) + x1).toNatClampNeg u5.2.2.2.2.2.2.2.2.2.2.2.2.2.2.2.1), u5.2.1, u5.2.2.1, u5.2.2.2.1, u5.2.2.2.2.1, u5.2.2.2.2.2.1, u5.2.2.2.2.2.2.1, u5.2.2.2.2.2.2.2.1, u5.2.2.2.2.2.2.2.2.1, u5.2.2.2.2.2.2.2.2.2.1, u5.2.2.2.2.2.2.2.2.2.2.1, u5.2.2.2.2.2.2.2.2.2.2.2.1, u5.2.2.2.2.2.2.2.2.2.2.2.2.1, u5.2.2.2.2.2.2.2.2.2.2.2.2.2.1, u5.2.2.2.2.2.2.2.2.2.2.2.2.2.2.1, u5.2.2.2.2.2.2.2.2.2.2.2.2.2.2.2.1, u5.2.2.2.2.2.2.2.2.2.2.2.2.2.2.2.2) (0 : Int32) (5 : Int32) (59 : Int32) (fun r15 u16 => (r15 = 0 → post (0 : Int32) u16) ∧ (¬ r15 = 0 → vp_in ((118 : Int32) + x1) 144 ∧ (vp_in (130 : Int32) 144 ∧ (vp_in (130 : Int32) 144 ∧ (post (1 : Int32) ((upd (upd u16.1 ((118 : Int32) + x1).toNatClampNeg u16.2.2.2.2.2.2.2.2.2.2.2.2.2.2.2.1) (130 : Int32).toNatClampNeg (((upd u16.1 ((118 : Int32) + x1).toNatClampNeg u16.2.2.2.2.2.2.2.2.2.2.2.2.2.2.2.1) (130 : Int32).toNatClampNeg) + (1 : Int32))), u16.2.1, u16.2.2.1, u16.2.2.2.1, u16.2.2.2.2.1, u16.2.2.2.2.2.1, u16.2.2.2.2.2.2.1, u16.2.2.2.2.2.2.2.1, u16.2.2.2.2.2.2.2.2.1, u16.2.2.2.2.2.2.2.2.2.1, u16.2.2.2.2.2.2.2.2.2.2.1, u16.2.2.2.2.2.2.2.2.2.2.2.1, u16.2.2.2.2.2.2.2.2.2.2.2.2.1, u16.2.2.2.2.2.2.2.2.2.2.2.2.2.1, u16.2.2.2.2.2.2.2.2.2.2.2.2.2.2.1, u16.2.2.2.2.2.2.2.2.2.2.2.2.2.2.2.1, u16.2.2.2.2.2.2.2.2.2.2.2.2.2.2.2.2)))))) := by rw [hJ14] at h; exact h
            refine v_aload_n X dX7_takesWaker_199 rfl (lv_at hl 0 rfl) ?_
            refine v_iconst (v := (0 : Int32)) X dX7_takesWaker_200 (by decide) ?_
            refine v_iconst (v := (5 : Int32)) X dX7_takesWaker_201 (by decide) ?_
            refine v_bipush (v := (59 : Int32)) X dX7_takesWaker_202 (by decide) ?_
            refine wrVI (As := [.int (0 : Int32), .int (5 : Int32), .int (59 : Int32)]) (rest := []) (wr := ([] : va_W)) X mv_X7_99 (c_X7_takesNumber F.2.1 D K t o ((upd u5.1 ((114 : Int32) + x1).toNatClampNeg u5.2.2.2.2.2.2.2.2.2.2.2.2.2.2.2.1), u5.2.1, u5.2.2.1, u5.2.2.2.1, u5.2.2.2.2.1, u5.2.2.2.2.2.1, u5.2.2.2.2.2.2.1, u5.2.2.2.2.2.2.2.1, u5.2.2.2.2.2.2.2.2.1, u5.2.2.2.2.2.2.2.2.2.1, u5.2.2.2.2.2.2.2.2.2.2.1, u5.2.2.2.2.2.2.2.2.2.2.2.1, u5.2.2.2.2.2.2.2.2.2.2.2.2.1, u5.2.2.2.2.2.2.2.2.2.2.2.2.2.1, u5.2.2.2.2.2.2.2.2.2.2.2.2.2.2.1, u5.2.2.2.2.2.2.2.2.2.2.2.2.2.2.2.1, u5.2.2.2.2.2.2.2.2.2.2.2.2.2.2.2.2) (0 : Int32) (5 : Int32) (59 : Int32) _ h) hF ⟨rfl, rfl, Nat.le_of_ble_eq_true rfl, Nat.le_of_ble_eq_true rfl⟩ hT hA hH [0, 1, 2, 3, 4, 5, 6, 7, 8, 9] [] ⟨rfl, rfl, rfl, rfl, by decide⟩ 0 rfl rfl hl.1 rfl rfl (Nat.le_of_ble_eq_true rfl) dX7_takesWaker_204 (fun r15 u16 H locs h hH => ?_)
            have hH : HH F D A (CX7 K o u16) H locs := hH
            refine v_if_ne (tgt := 212) X dX7_takesWaker_207 (by decide) (fun c17 => ?_) (fun c17 => ?_)
            · have h := h.2 c17
              refine v_aload_n X dX7_takesWaker_212 rfl (lv_at hl 0 rfl) ?_
              refine v_get (v := .ref (o 1)) X hH.1 0 rfl fk_X7_7 rfl dX7_takesWaker_213 ?_
              refine v_bipush (v := (118 : Int32)) X dX7_takesWaker_216 (by decide) ?_
              refine v_iload_n X dX7_takesWaker_218 rfl (lv_at hl 1 rfl) ?_
              refine v_iadd X dX7_takesWaker_219 ?_
              refine v_aload_n X dX7_takesWaker_220 rfl (lv_at hl 0 rfl) ?_
              refine v_get (v := .int u16.2.2.2.2.2.2.2.2.2.2.2.2.2.2.2.1) X hH.1 0 rfl fk_X7_89 rfl dX7_takesWaker_221 ?_
              have hin := h.1
              have h := h.2
              refine v_iast (f := u16.1) X hH 1 0 rfl rfl hin dX7_takesWaker_224 (fun H locs hH => ?_)
              have hH : HH F D A (CX7 K o ((upd u16.1 ((118 : Int32) + x1).toNatClampNeg u16.2.2.2.2.2.2.2.2.2.2.2.2.2.2.2.1), u16.2.1, u16.2.2.1, u16.2.2.2.1, u16.2.2.2.2.1, u16.2.2.2.2.2.1, u16.2.2.2.2.2.2.1, u16.2.2.2.2.2.2.2.1, u16.2.2.2.2.2.2.2.2.1, u16.2.2.2.2.2.2.2.2.2.1, u16.2.2.2.2.2.2.2.2.2.2.1, u16.2.2.2.2.2.2.2.2.2.2.2.1, u16.2.2.2.2.2.2.2.2.2.2.2.2.1, u16.2.2.2.2.2.2.2.2.2.2.2.2.2.1, u16.2.2.2.2.2.2.2.2.2.2.2.2.2.2.1, u16.2.2.2.2.2.2.2.2.2.2.2.2.2.2.2.1, u16.2.2.2.2.2.2.2.2.2.2.2.2.2.2.2.2)) H locs := hH
              refine v_aload_n X dX7_takesWaker_225 rfl (lv_at hl 0 rfl) ?_
              refine v_get (v := .ref (o 1)) X hH.1 0 rfl fk_X7_7 rfl dX7_takesWaker_226 ?_
              refine v_sipush (v := (130 : Int32)) X dX7_takesWaker_229 (by decide) ?_
              refine v_dup2_11 X dX7_takesWaker_232 rfl rfl ?_
              have hin := h.1
              have h := h.2
              refine v_iald (f := (upd u16.1 ((118 : Int32) + x1).toNatClampNeg u16.2.2.2.2.2.2.2.2.2.2.2.2.2.2.2.1)) X hH.1 1 0 rfl rfl hin dX7_takesWaker_233 ?_
              refine v_iconst (v := (1 : Int32)) X dX7_takesWaker_234 (by decide) ?_
              refine v_iadd X dX7_takesWaker_235 ?_
              have hin := h.1
              have h := h.2
              refine v_iast (f := (upd u16.1 ((118 : Int32) + x1).toNatClampNeg u16.2.2.2.2.2.2.2.2.2.2.2.2.2.2.2.1)) X hH 1 0 rfl rfl hin dX7_takesWaker_236 (fun H locs hH => ?_)
              have hH : HH F D A (CX7 K o ((upd (upd u16.1 ((118 : Int32) + x1).toNatClampNeg u16.2.2.2.2.2.2.2.2.2.2.2.2.2.2.2.1) (130 : Int32).toNatClampNeg (((upd u16.1 ((118 : Int32) + x1).toNatClampNeg u16.2.2.2.2.2.2.2.2.2.2.2.2.2.2.2.1) (130 : Int32).toNatClampNeg) + (1 : Int32))), u16.2.1, u16.2.2.1, u16.2.2.2.1, u16.2.2.2.2.1, u16.2.2.2.2.2.1, u16.2.2.2.2.2.2.1, u16.2.2.2.2.2.2.2.1, u16.2.2.2.2.2.2.2.2.1, u16.2.2.2.2.2.2.2.2.2.1, u16.2.2.2.2.2.2.2.2.2.2.1, u16.2.2.2.2.2.2.2.2.2.2.2.1, u16.2.2.2.2.2.2.2.2.2.2.2.2.1, u16.2.2.2.2.2.2.2.2.2.2.2.2.2.1, u16.2.2.2.2.2.2.2.2.2.2.2.2.2.2.1, u16.2.2.2.2.2.2.2.2.2.2.2.2.2.2.2.1, u16.2.2.2.2.2.2.2.2.2.2.2.2.2.2.2.2)) H locs := hH
              refine v_iconst (v := (1 : Int32)) X dX7_takesWaker_237 (by decide) ?_
              exact v_wzret X hF ((upd (upd u16.1 ((118 : Int32) + x1).toNatClampNeg u16.2.2.2.2.2.2.2.2.2.2.2.2.2.2.2.1) (130 : Int32).toNatClampNeg (((upd u16.1 ((118 : Int32) + x1).toNatClampNeg u16.2.2.2.2.2.2.2.2.2.2.2.2.2.2.2.1) (130 : Int32).toNatClampNeg) + (1 : Int32))), u16.2.1, u16.2.2.1, u16.2.2.2.1, u16.2.2.2.2.1, u16.2.2.2.2.2.1, u16.2.2.2.2.2.2.1, u16.2.2.2.2.2.2.2.1, u16.2.2.2.2.2.2.2.2.1, u16.2.2.2.2.2.2.2.2.2.1, u16.2.2.2.2.2.2.2.2.2.2.1, u16.2.2.2.2.2.2.2.2.2.2.2.1, u16.2.2.2.2.2.2.2.2.2.2.2.2.1, u16.2.2.2.2.2.2.2.2.2.2.2.2.2.1, u16.2.2.2.2.2.2.2.2.2.2.2.2.2.2.1, u16.2.2.2.2.2.2.2.2.2.2.2.2.2.2.2.1, u16.2.2.2.2.2.2.2.2.2.2.2.2.2.2.2.2) hH rfl h dX7_takesWaker_238
            · have h := h.1 c17
              refine v_iconst (v := (0 : Int32)) X dX7_takesWaker_210 (by decide) ?_
              exact v_wzret X hF u16 hH rfl h dX7_takesWaker_211
          have h : (x12 ≤ 0 → J14 ()) ∧ (¬ x12 ≤ 0 → ((3 : Int32) ≤ x12 → J14 ()) ∧ (¬ (3 : Int32) ≤ x12 → (x13 = (5 : Int32) → J14 ()) ∧ (¬ x13 = (5 : Int32) → vp_in (129 : Int32) 144 ∧ ((x13 < ((upd u5.1 ((114 : Int32) + x1).toNatClampNeg u5.2.2.2.2.2.2.2.2.2.2.2.2.2.2.2.1) (129 : Int32).toNatClampNeg) → J14 ()) ∧ (¬ x13 < ((upd u5.1 ((114 : Int32) + x1).toNatClampNeg u5.2.2.2.2.2.2.2.2.2.2.2.2.2.2.2.1) (129 : Int32).toNatClampNeg) → w_X7_fails ((upd u5.1 ((114 : Int32) + x1).toNatClampNeg u5.2.2.2.2.2.2.2.2.2.2.2.2.2.2.2.1), u5.2.1, u5.2.2.1, u5.2.2.2.1, u5.2.2.2.2.1, u5.2.2.2.2.2.1, u5.2.2.2.2.2.2.1, u5.2.2.2.2.2.2.2.1, u5.2.2.2.2.2.2.2.2.1, u5.2.2.2.2.2.2.2.2.2.1, u5.2.2.2.2.2.2.2.2.2.2.1, u5.2.2.2.2.2.2.2.2.2.2.2.1, u5.2.2.2.2.2.2.2.2.2.2.2.2.1, u5.2.2.2.2.2.2.2.2.2.2.2.2.2.1, u5.2.2.2.2.2.2.2.2.2.2.2.2.2.2.1, u5.2.2.2.2.2.2.2.2.2.2.2.2.2.2.2.1, u5.2.2.2.2.2.2.2.2.2.2.2.2.2.2.2.2) (2 : Int32) x6 (fun r18 u19 => bz r18 ∧ post r18 u19)))))) := by rw [hJ14]; exact h
          refine v_if_le (tgt := 199) X dX7_takesWaker_164 (by decide) (fun c23 => ?_) (fun c23 => ?_)
          · have h := h.1 c23
            exact kJ14  ls H locs h (lv_sub hl [0, 1] rfl) hH
          · have h := h.2 c23
            refine v_iload X dX7_takesWaker_167 (lv_at hl 3 rfl) ?_
            refine v_iconst (v := (3 : Int32)) X dX7_takesWaker_169 (by decide) ?_
            refine v_icmp_ge (tgt := 199) X dX7_takesWaker_170 (by decide) (fun c22 => ?_) (fun c22 => ?_)
            · have h := h.1 c22
              exact kJ14  ls H locs h (lv_sub hl [0, 1] rfl) hH
            · have h := h.2 c22
              refine v_iload X dX7_takesWaker_173 (lv_at hl 4 rfl) ?_
              refine v_iconst (v := (5 : Int32)) X dX7_takesWaker_175 (by decide) ?_
              refine v_icmp_eq (tgt := 199) X dX7_takesWaker_176 (by decide) (fun c21 => ?_) (fun c21 => ?_)
              · have h := h.1 c21
                exact kJ14  ls H locs h (lv_sub hl [0, 1] rfl) hH
              · have h := h.2 c21
                refine v_iload X dX7_takesWaker_179 (lv_at hl 4 rfl) ?_
                refine v_aload_n X dX7_takesWaker_181 rfl (lv_at hl 0 rfl) ?_
                refine v_get (v := .ref (o 1)) X hH.1 0 rfl fk_X7_7 rfl dX7_takesWaker_182 ?_
                refine v_sipush (v := (129 : Int32)) X dX7_takesWaker_185 (by decide) ?_
                have hin := h.1
                have h := h.2
                refine v_iald (f := (upd u5.1 ((114 : Int32) + x1).toNatClampNeg u5.2.2.2.2.2.2.2.2.2.2.2.2.2.2.2.1)) X hH.1 1 0 rfl rfl hin dX7_takesWaker_188 ?_
                refine v_icmp_lt (tgt := 199) X dX7_takesWaker_189 (by decide) (fun c20 => ?_) (fun c20 => ?_)
                · have h := h.1 c20
                  exact kJ14  ls H locs h (lv_sub hl [0, 1] rfl) hH
                · have h := h.2 c20
                  refine v_aload_n X dX7_takesWaker_192 rfl (lv_at hl 0 rfl) ?_
                  refine v_iconst (v := (2 : Int32)) X dX7_takesWaker_193 (by decide) ?_
                  refine v_iload_n X dX7_takesWaker_194 rfl (lv_at hl 2 rfl) ?_
                  refine wrVI (As := [.int (2 : Int32), .int x6]) (rest := []) (wr := ([] : va_W)) X mv_X7_85 (c_X7_fails F.2.1 D K t o ((upd u5.1 ((114 : Int32) + x1).toNatClampNeg u5.2.2.2.2.2.2.2.2.2.2.2.2.2.2.2.1), u5.2.1, u5.2.2.1, u5.2.2.2.1, u5.2.2.2.2.1, u5.2.2.2.2.2.1, u5.2.2.2.2.2.2.1, u5.2.2.2.2.2.2.2.1, u5.2.2.2.2.2.2.2.2.1, u5.2.2.2.2.2.2.2.2.2.1, u5.2.2.2.2.2.2.2.2.2.2.1, u5.2.2.2.2.2.2.2.2.2.2.2.1, u5.2.2.2.2.2.2.2.2.2.2.2.2.1, u5.2.2.2.2.2.2.2.2.2.2.2.2.2.1, u5.2.2.2.2.2.2.2.2.2.2.2.2.2.2.1, u5.2.2.2.2.2.2.2.2.2.2.2.2.2.2.2.1, u5.2.2.2.2.2.2.2.2.2.2.2.2.2.2.2.2) (2 : Int32) x6 _ h) hF ⟨rfl, rfl, Nat.le_of_ble_eq_true rfl, Nat.le_of_ble_eq_true rfl⟩ hT hA hH [0, 1, 2, 3, 4, 5, 6, 7, 8, 9] [] ⟨rfl, rfl, rfl, rfl, by decide⟩ 0 rfl rfl hl.1 rfl rfl (Nat.le_of_ble_eq_true rfl) dX7_takesWaker_195 (fun r18 u19 H locs h hH => ?_)
                  have hH : HH F D A (CX7 K o u19) H locs := hH
                  exact v_wzret X hF u19 hH h.1 h.2 dX7_takesWaker_198
        have lp110 : ∀ (n110 : Nat) (x7 : Int32) (x8 : Int32) (ls : Array Slot) (H : Heap) (locs : List Loc), wL_X7_takesWaker_110 x1 x6 ((upd u5.1 ((114 : Int32) + x1).toNatClampNeg u5.2.2.2.2.2.2.2.2.2.2.2.2.2.2.2.1), u5.2.1, u5.2.2.1, u5.2.2.2.1, u5.2.2.2.2.1, u5.2.2.2.2.2.1, u5.2.2.2.2.2.2.1, u5.2.2.2.2.2.2.2.1, u5.2.2.2.2.2.2.2.2.1, u5.2.2.2.2.2.2.2.2.2.1, u5.2.2.2.2.2.2.2.2.2.2.1, u5.2.2.2.2.2.2.2.2.2.2.2.1, u5.2.2.2.2.2.2.2.2.2.2.2.2.1, u5.2.2.2.2.2.2.2.2.2.2.2.2.2.1, u5.2.2.2.2.2.2.2.2.2.2.2.2.2.2.1, u5.2.2.2.2.2.2.2.2.2.2.2.2.2.2.2.1, u5.2.2.2.2.2.2.2.2.2.2.2.2.2.2.2.2) post Kx110 n110 x7 x8 → lv_has ls 6 [(0, .ref (o 0)), (2, .int x1), (3, .int x6), (4, .int x7), (5, .int x8)] → HH F D A (CX7 K o ((upd u5.1 ((114 : Int32) + x1).toNatClampNeg u5.2.2.2.2.2.2.2.2.2.2.2.2.2.2.2.1), u5.2.1, u5.2.2.1, u5.2.2.2.1, u5.2.2.2.2.1, u5.2.2.2.2.2.1, u5.2.2.2.2.2.2.1, u5.2.2.2.2.2.2.2.1, u5.2.2.2.2.2.2.2.2.1, u5.2.2.2.2.2.2.2.2.2.1, u5.2.2.2.2.2.2.2.2.2.2.1, u5.2.2.2.2.2.2.2.2.2.2.2.1, u5.2.2.2.2.2.2.2.2.2.2.2.2.1, u5.2.2.2.2.2.2.2.2.2.2.2.2.2.1, u5.2.2.2.2.2.2.2.2.2.2.2.2.2.2.1, u5.2.2.2.2.2.2.2.2.2.2.2.2.2.2.2.1, u5.2.2.2.2.2.2.2.2.2.2.2.2.2.2.2.2)) H locs → V F (WQI F D (TY K) A (fun z : BX7 => CX7 K o z) (fun (r : Int32) (z : BX7) => post r z)) H locs 110 ls [] := by
          intro n110
          induction n110 with
          | zero => intro x7 x8 ls H locs h hl hH; exact h.elim
          | succ n110 ih110 =>
            intro x7 x8 ls H locs h hl hH
            refine v_aload_n X dX7_takesWaker_110 rfl (lv_at hl 0 rfl) ?_
            refine v_iload_n X dX7_takesWaker_111 rfl (lv_at hl 2 rfl) ?_
            refine v_iload X dX7_takesWaker_112 (lv_at hl 3 rfl) ?_
            refine v_iadd X dX7_takesWaker_114 ?_
            refine rdV (As := [.int (x6 + x7)]) (rest := []) X mv_X7_82 (c_X7_byteAt F.2.1 D K t o ((upd u5.1 ((114 : Int32) + x1).toNatClampNeg u5.2.2.2.2.2.2.2.2.2.2.2.2.2.2.2.1), u5.2.1, u5.2.2.1, u5.2.2.2.1, u5.2.2.2.2.1, u5.2.2.2.2.2.1, u5.2.2.2.2.2.2.1, u5.2.2.2.2.2.2.2.1, u5.2.2.2.2.2.2.2.2.1, u5.2.2.2.2.2.2.2.2.2.1, u5.2.2.2.2.2.2.2.2.2.2.1, u5.2.2.2.2.2.2.2.2.2.2.2.1, u5.2.2.2.2.2.2.2.2.2.2.2.2.1, u5.2.2.2.2.2.2.2.2.2.2.2.2.2.1, u5.2.2.2.2.2.2.2.2.2.2.2.2.2.2.1, u5.2.2.2.2.2.2.2.2.2.2.2.2.2.2.2.1, u5.2.2.2.2.2.2.2.2.2.2.2.2.2.2.2.2) (x6 + x7) _ h) hF ⟨rfl, rfl, Nat.le_of_ble_eq_true rfl, Nat.le_of_ble_eq_true rfl⟩ (stW hT hH) hH.1 [0, 1, 2, 3, 4, 5, 6, 7, 8, 9] rfl 0 rfl rfl hl.1 rfl rfl (Nat.le_of_ble_eq_true rfl) dX7_takesWaker_115 (fun r25 h => ?_)
            refine v_i2l X dX7_takesWaker_118 rfl ?_
            refine v_ldc2 X kc_X7_92 dX7_takesWaker_119 ?_
            refine v_ldc2 X kc_X7_94 dX7_takesWaker_122 ?_
            refine rdS (As := [.long r25.toInt64, .long (48 : Int64), .long (57 : Int64)]) (rest := []) X ms_X7_45 (c_X7_in F.2.1 D K t r25.toInt64 (48 : Int64) (57 : Int64) _ h) hF ⟨rfl, rfl, Nat.le_of_ble_eq_true rfl, Nat.le_of_ble_eq_true rfl⟩ (stW hT hH) hH.1 [] rfl hl.1 rfl rfl (Nat.le_of_ble_eq_true rfl) dX7_takesWaker_125 (fun r26 h => ?_)
            refine v_if_eq (tgt := 162) X dX7_takesWaker_128 (by decide) (fun c30 => ?_) (fun c30 => ?_)
            · have h := h.1 c30
              exact kx24 x7 x8 ls H locs h (lv_sub hl [0, 1, 2, 3, 4] rfl) hH
            · have h := h.2 c30
              refine v_iload X dX7_takesWaker_131 (lv_at hl 3 rfl) ?_
              refine v_iconst (v := (3 : Int32)) X dX7_takesWaker_133 (by decide) ?_
              refine v_icmp_ge (tgt := 162) X dX7_takesWaker_134 (by decide) (fun c29 => ?_) (fun c29 => ?_)
              · have h := h.1 c29
                exact kx24 x7 x8 ls H locs h (lv_sub hl [0, 1, 2, 3, 4] rfl) hH
              · have h := h.2 c29
                refine v_bipush (v := (10 : Int32)) X dX7_takesWaker_137 (by decide) ?_
                refine v_iload X dX7_takesWaker_139 (lv_at hl 4 rfl) ?_
                refine v_imul X dX7_takesWaker_141 ?_
                refine v_aload_n X dX7_takesWaker_142 rfl (lv_at hl 0 rfl) ?_
                refine v_iload_n X dX7_takesWaker_143 rfl (lv_at hl 2 rfl) ?_
                refine v_iload X dX7_takesWaker_144 (lv_at hl 3 rfl) ?_
                refine v_iadd X dX7_takesWaker_146 ?_
                refine rdV (As := [.int (x6 + x7)]) (rest := [.int ((10 : Int32) * x8)]) X mv_X7_82 (c_X7_byteAt F.2.1 D K t o ((upd u5.1 ((114 : Int32) + x1).toNatClampNeg u5.2.2.2.2.2.2.2.2.2.2.2.2.2.2.2.1), u5.2.1, u5.2.2.1, u5.2.2.2.1, u5.2.2.2.2.1, u5.2.2.2.2.2.1, u5.2.2.2.2.2.2.1, u5.2.2.2.2.2.2.2.1, u5.2.2.2.2.2.2.2.2.1, u5.2.2.2.2.2.2.2.2.2.1, u5.2.2.2.2.2.2.2.2.2.2.1, u5.2.2.2.2.2.2.2.2.2.2.2.1, u5.2.2.2.2.2.2.2.2.2.2.2.2.1, u5.2.2.2.2.2.2.2.2.2.2.2.2.2.1, u5.2.2.2.2.2.2.2.2.2.2.2.2.2.2.1, u5.2.2.2.2.2.2.2.2.2.2.2.2.2.2.2.1, u5.2.2.2.2.2.2.2.2.2.2.2.2.2.2.2.2) (x6 + x7) _ h) hF ⟨rfl, rfl, Nat.le_of_ble_eq_true rfl, Nat.le_of_ble_eq_true rfl⟩ (stW hT hH) hH.1 [0, 1, 2, 3, 4, 5, 6, 7, 8, 9] rfl 0 rfl rfl hl.1 rfl rfl (Nat.le_of_ble_eq_true rfl) dX7_takesWaker_147 (fun r27 h => ?_)
                refine v_iadd X dX7_takesWaker_150 ?_
                refine v_bipush (v := (48 : Int32)) X dX7_takesWaker_151 (by decide) ?_
                refine v_isub X dX7_takesWaker_153 ?_
                refine v_topi (fun x28 ex28 => ?_)
                have h := h x28 ex28
                refine v_istore (lv' := [(5, .int x28), (0, .ref (o 0)), (2, .int x1), (3, .int x6), (4, .int x7)]) X dX7_takesWaker_154 hl (by decide) rfl (fun ls hl => ?_)
                refine v_iinc (v := (x7 + (1 : Int32))) (lv' := [(4, .int (x7 + (1 : Int32))), (5, .int x28), (0, .ref (o 0)), (2, .int x1), (3, .int x6)]) X dX7_takesWaker_156 hl (k := 4) rfl rfl (by decide) rfl (fun ls hl => ?_)
                refine v_goto (tgt := 110) X dX7_takesWaker_159 (by decide) ?_
                exact ih110 (x7 + (1 : Int32)) x28 ls H locs h (lv_sub hl [2, 3, 4, 0, 1] rfl) hH
        obtain ⟨n110, h⟩ := h
        have h : wL_X7_takesWaker_110 x1 x6 ((upd u5.1 ((114 : Int32) + x1).toNatClampNeg u5.2.2.2.2.2.2.2.2.2.2.2.2.2.2.2.1), u5.2.1, u5.2.2.1, u5.2.2.2.1, u5.2.2.2.2.1, u5.2.2.2.2.2.1, u5.2.2.2.2.2.2.1, u5.2.2.2.2.2.2.2.1, u5.2.2.2.2.2.2.2.2.1, u5.2.2.2.2.2.2.2.2.2.1, u5.2.2.2.2.2.2.2.2.2.2.1, u5.2.2.2.2.2.2.2.2.2.2.2.1, u5.2.2.2.2.2.2.2.2.2.2.2.2.1, u5.2.2.2.2.2.2.2.2.2.2.2.2.2.1, u5.2.2.2.2.2.2.2.2.2.2.2.2.2.2.1, u5.2.2.2.2.2.2.2.2.2.2.2.2.2.2.2.1, u5.2.2.2.2.2.2.2.2.2.2.2.2.2.2.2.2) post Kx110 n110 (0 : Int32) (0 : Int32) := by rw [hK110]; exact h
        exact lp110 n110 (0 : Int32) (0 : Int32) ls H locs h (lv_sub hl [4, 3, 2, 1, 0] rfl) hH
      · have h := h.1 c31
        refine v_iconst (v := (0 : Int32)) X dX7_takesWaker_84 (by decide) ?_
        exact v_wzret X hF u5 hH rfl h dX7_takesWaker_85
    · have h := h.1 c32
      refine v_iconst (v := (0 : Int32)) X dX7_takesWaker_57 (by decide) ?_
      exact v_wzret X hF u3 hH rfl h dX7_takesWaker_58
  · have h := h.1 c35
    refine v_aload_n X dX7_takesWaker_14 rfl (lv_at hl 1 rfl) ?_
    refine v_iconst (v := (3 : Int32)) X dX7_takesWaker_15 (by decide) ?_
    refine v_aload_n X dX7_takesWaker_16 rfl (lv_at hl 1 rfl) ?_
    refine v_get (v := .int u.2.2.2.2.2.2.2.2.2.2.2.2.2.2.1) X hH.1 0 rfl fk_X7_79 rfl dX7_takesWaker_17 ?_
    refine wrVI (As := [.int (3 : Int32), .int u.2.2.2.2.2.2.2.2.2.2.2.2.2.2.1]) (rest := []) (wr := ([] : va_W)) X mv_X7_85 (c_X7_fails F.2.1 D K t o u (3 : Int32) u.2.2.2.2.2.2.2.2.2.2.2.2.2.2.1 _ h) hF ⟨rfl, rfl, Nat.le_of_ble_eq_true rfl, Nat.le_of_ble_eq_true rfl⟩ hT hA hH [0, 1, 2, 3, 4, 5, 6, 7, 8, 9] [] ⟨rfl, rfl, rfl, rfl, by decide⟩ 0 rfl rfl hl.1 rfl rfl (Nat.le_of_ble_eq_true rfl) dX7_takesWaker_20 (fun r33 u34 H locs h hH => ?_)
    have hH : HH F D A (CX7 K o u34) H locs := hH
    exact v_wzret X hF u34 hH h.1 h.2 dX7_takesWaker_23
def w_X7_takesMore (u : BX7) (post : Int32 → BX7 → Prop) : Prop := w_X7_byteAt u u.2.2.2.2.2.2.2.2.2.2.2.2.2.2.1 (fun r1 => wpJ (T := Int32 → Prop) (fun (v3 : Int32) => wpJ (T := Unit → Prop) (fun (_ : Unit) => (v3 = 0 → w_X7_kindOf r1 (fun r5 => w_X7_takesWaker u r5 (fun r6 u7 => bz r6 ∧ post r6 u7))) ∧ (¬ v3 = 0 → w_X7_takesClient u (fun r8 u9 => bz r8 ∧ post r8 u9))) (fun J4 => (v3 = 0 → w_X7_kindOf r1 (fun r11 => (r11 = 0 → w_X7_fails u (1 : Int32) u.2.2.2.2.2.2.2.2.2.2.2.2.2.2.1 (fun r12 u13 => bz r12 ∧ post r12 u13)) ∧ (¬ r11 = 0 → vp_in (129 : Int32) 144 ∧ (((u.1 (129 : Int32).toNatClampNeg) = 0 → w_X7_fails u (1 : Int32) u.2.2.2.2.2.2.2.2.2.2.2.2.2.2.1 (fun r14 u15 => bz r14 ∧ post r14 u15)) ∧ (¬ (u.1 (129 : Int32).toNatClampNeg) = 0 → J4 ()))))) ∧ (¬ v3 = 0 → J4 ()))) (fun J2 => wpJ (T := Unit → Prop) (fun (_ : Unit) => J2 (0 : Int32)) (fun J19 => (r1 = (119 : Int32) → vp_in (130 : Int32) 144 ∧ (((u.1 (130 : Int32).toNatClampNeg) = 0 → J2 (1 : Int32)) ∧ (¬ (u.1 (130 : Int32).toNatClampNeg) = 0 → J19 ()))) ∧ (¬ r1 = (119 : Int32) → J19 ()))))
set_option maxHeartbeats 4000000 in
set_option maxRecDepth 100000 in
theorem c_X7_takesMore (l : Launch) (D : va_G) (K : Nat → ClassId) (t : Nat → Nat) (o : Nat → Nat) (u : BX7) (post : Int32 → BX7 → Prop) (h : w_X7_takesMore u post) : WrI l yX7_takesMore cX7_takesMore 3 (some .boolean) ({ frames := 4, cells := 0, slots := 0, locals := 92 } : Room) D (TY K) t (CX7 K o u) [.ref (o 0)] (fun z : BX7 => CX7 K o z) (fun (r : Int32) (z : BX7) => post r z) := by
  refine WrI.mk rfl (Nat.le_of_ble_eq_true rfl) ?_
  intro F ls A _ hF X hH hA hl hT
  obtain ⟨H, hH0⟩ : ∃ z : Heap, z = (fxS F).heap := ⟨_, rfl⟩
  obtain ⟨locs, hL0⟩ : ∃ z : List Loc, z = [] := ⟨_, rfl⟩
  have hH : HH F D A (CX7 K o u) H locs := by rw [hH0, hL0]; exact hH
  suffices goal : V F (WQI F D (TY K) A (fun z : BX7 => CX7 K o z) (fun (r : Int32) (z : BX7) => post r z)) H locs 0 ls [] by rw [hH0, hL0] at goal; exact goal
  clear hH0 hL0
  have X : Cx F cX7_takesMore 3 RX7 D (TY K) := X
  have hl : lv_has ls 3 [(0, .ref (o 0))] := hl
  unfold w_X7_takesMore at h
  refine v_aload_n X dX7_takesMore_0 rfl (lv_at hl 0 rfl) ?_
  refine v_aload_n X dX7_takesMore_1 rfl (lv_at hl 0 rfl) ?_
  refine v_get (v := .int u.2.2.2.2.2.2.2.2.2.2.2.2.2.2.1) X hH.1 0 rfl fk_X7_79 rfl dX7_takesMore_2 ?_
  refine rdV (As := [.int u.2.2.2.2.2.2.2.2.2.2.2.2.2.2.1]) (rest := []) X mv_X7_82 (c_X7_byteAt F.2.1 D K t o u u.2.2.2.2.2.2.2.2.2.2.2.2.2.2.1 _ h) hF ⟨rfl, rfl, Nat.le_of_ble_eq_true rfl, Nat.le_of_ble_eq_true rfl⟩ (stW hT hH) hH.1 [0, 1, 2, 3, 4, 5, 6, 7, 8, 9] rfl 0 rfl rfl hl.1 rfl rfl (Nat.le_of_ble_eq_true rfl) dX7_takesMore_5 (fun r1 h => ?_)
  refine v_istore_n (lv' := [(1, .int r1), (0, .ref (o 0))]) X dX7_takesMore_8 rfl hl (by decide) rfl (fun ls hl => ?_)
  refine v_iload_n X dX7_takesMore_9 rfl (lv_at hl 0 rfl) ?_
  refine v_bipush (v := (119 : Int32)) X dX7_takesMore_10 (by decide) ?_
  obtain ⟨J2, hJ2⟩ : ∃ f : Int32 → Prop, f = (fun (v3 : Int32) => wpJ (T := Unit → Prop) (fun (_ : Unit) => (v3 = 0 → w_X7_kindOf r1 (fun r5 => w_X7_takesWaker u r5 (fun r6 u7 => bz r6 ∧ post r6 u7))) ∧ (¬ v3 = 0 → w_X7_takesClient u (fun r8 u9 => bz r8 ∧ post r8 u9))) (fun J4 => (v3 = 0 → w_X7_kindOf r1 (fun r11 => (r11 = 0 → w_X7_fails u (1 : Int32) u.2.2.2.2.2.2.2.2.2.2.2.2.2.2.1 (fun r12 u13 => bz r12 ∧ post r12 u13)) ∧ (¬ r11 = 0 → vp_in (129 : Int32) 144 ∧ (((u.1 (129 : Int32).toNatClampNeg) = 0 → w_X7_fails u (1 : Int32) u.2.2.2.2.2.2.2.2.2.2.2.2.2.2.1 (fun r14 u15 => bz r14 ∧ post r14 u15)) ∧ (¬ (u.1 (129 : Int32).toNatClampNeg) = 0 → J4 ()))))) ∧ (¬ v3 = 0 → J4 ()))) := ⟨_, rfl⟩
  have kJ2 : ∀ (v3 : Int32) (ls : Array Slot) (H : Heap) (locs : List Loc), (J2 v3) → lv_has ls 3 [(0, .ref (o 0)), (1, .int r1)] → HH F D A (CX7 K o u) H locs → V F (WQI F D (TY K) A (fun z : BX7 => CX7 K o z) (fun (r : Int32) (z : BX7) => post r z)) H locs 31 ls [.int v3] := by
    intro v3 ls H locs h hl hH
    have h : wpJ (T := Unit → Prop) (fun (_ : Unit) => (v3 = 0 → w_X7_kindOf r1 (fun r5 => w_X7_takesWaker u r5 (fun r6 u7 => bz r6 ∧ post r6 u7))) ∧ (¬ v3 = 0 → w_X7_takesClient u (fun r8 u9 => bz r8 ∧ post r8 u9))) (fun J4 => (v3 = 0 → w_X7_kindOf r1 (fun r11 => (r11 = 0 → w_X7_fails u (1 : Int32) u.2.2.2.2.2.2.2.2.2.2.2.2.2.2.1 (fun r12 u13 => bz r12 ∧ post r12 u13)) ∧ (¬ r11 = 0 → vp_in (129 : Int32) 144 ∧ (((u.1 (129 : Int32).toNatClampNeg) = 0 → w_X7_fails u (1 : Int32) u.2.2.2.2.2.2.2.2.2.2.2.2.2.2.1 (fun r14 u15 => bz r14 ∧ post r14 u15)) ∧ (¬ (u.1 (129 : Int32).toNatClampNeg) = 0 → J4 ()))))) ∧ (¬ v3 = 0 → J4 ())) := by rw [hJ2] at h; exact h
    refine v_istore_n (lv' := [(2, .int v3), (0, .ref (o 0)), (1, .int r1)]) X dX7_takesMore_31 rfl hl (by decide) rfl (fun ls hl => ?_)
    refine v_iload_n X dX7_takesMore_32 rfl (lv_at hl 0 rfl) ?_
    obtain ⟨J4, hJ4⟩ : ∃ f : Unit → Prop, f = (fun (_ : Unit) => (v3 = 0 → w_X7_kindOf r1 (fun r5 => w_X7_takesWaker u r5 (fun r6 u7 => bz r6 ∧ post r6 u7))) ∧ (¬ v3 = 0 → w_X7_takesClient u (fun r8 u9 => bz r8 ∧ post r8 u9))) := ⟨_, rfl⟩
    have kJ4 : ∀ (ls : Array Slot) (H : Heap) (locs : List Loc), (J4 ()) → lv_has ls 3 [(0, .ref (o 0)), (1, .int r1), (2, .int v3)] → HH F D A (CX7 K o u) H locs → V F (WQI F D (TY K) A (fun z : BX7 => CX7 K o z) (fun (r : Int32) (z : BX7) => post r z)) H locs 64 ls [] := by
      intro ls H locs h hl hH
      have h : (v3 = 0 → w_X7_kindOf r1 (fun r5 => w_X7_takesWaker u r5 (fun r6 u7 => bz r6 ∧ post r6 u7))) ∧ (¬ v3 = 0 → w_X7_takesClient u (fun r8 u9 => bz r8 ∧ post r8 u9)) := by rw [hJ4] at h; exact h
      refine v_iload_n X dX7_takesMore_64 rfl (lv_at hl 2 rfl) ?_
      refine v_if_eq (tgt := 75) X dX7_takesMore_65 (by decide) (fun c10 => ?_) (fun c10 => ?_)
      · have h := h.1 c10
        refine v_aload_n X dX7_takesMore_75 rfl (lv_at hl 0 rfl) ?_
        refine v_iload_n X dX7_takesMore_76 rfl (lv_at hl 1 rfl) ?_
        refine rdS (As := [.int r1]) (rest := [.ref (o 0)]) X ms_X7_102 (c_X7_kindOf F.2.1 D K t r1 _ h) hF ⟨rfl, rfl, Nat.le_of_ble_eq_true rfl, Nat.le_of_ble_eq_true rfl⟩ (stW hT hH) hH.1 [] rfl hl.1 rfl rfl (Nat.le_of_ble_eq_true rfl) dX7_takesMore_77 (fun r5 h => ?_)
        refine wrVI (As := [.int r5]) (rest := []) (wr := ([] : va_W)) X mv_X7_109 (c_X7_takesWaker F.2.1 D K t o u r5 _ h) hF ⟨rfl, rfl, Nat.le_of_ble_eq_true rfl, Nat.le_of_ble_eq_true rfl⟩ hT hA hH [0, 1, 2, 3, 4, 5, 6, 7, 8, 9] [] ⟨rfl, rfl, rfl, rfl, by decide⟩ 0 rfl rfl hl.1 rfl rfl (Nat.le_of_ble_eq_true rfl) dX7_takesMore_80 (fun r6 u7 H locs h hH => ?_)
        have hH : HH F D A (CX7 K o u7) H locs := hH
        exact v_wzret X hF u7 hH h.1 h.2 dX7_takesMore_83
      · have h := h.2 c10
        refine v_aload_n X dX7_takesMore_68 rfl (lv_at hl 0 rfl) ?_
        refine wrVI (As := []) (rest := []) (wr := ([] : va_W)) X mv_X7_105 (c_X7_takesClient F.2.1 D K t o u _ h) hF ⟨rfl, rfl, Nat.le_of_ble_eq_true rfl, Nat.le_of_ble_eq_true rfl⟩ hT hA hH [0, 1, 2, 3, 4, 5, 6, 7, 8, 9] [] ⟨rfl, rfl, rfl, rfl, by decide⟩ 0 rfl rfl hl.1 rfl rfl (Nat.le_of_ble_eq_true rfl) dX7_takesMore_69 (fun r8 u9 H locs h hH => ?_)
        have hH : HH F D A (CX7 K o u9) H locs := hH
        refine v_goto (tgt := 83) X dX7_takesMore_72 (by decide) ?_
        exact v_wzret X hF u9 hH h.1 h.2 dX7_takesMore_83
    have h : (v3 = 0 → w_X7_kindOf r1 (fun r11 => (r11 = 0 → w_X7_fails u (1 : Int32) u.2.2.2.2.2.2.2.2.2.2.2.2.2.2.1 (fun r12 u13 => bz r12 ∧ post r12 u13)) ∧ (¬ r11 = 0 → vp_in (129 : Int32) 144 ∧ (((u.1 (129 : Int32).toNatClampNeg) = 0 → w_X7_fails u (1 : Int32) u.2.2.2.2.2.2.2.2.2.2.2.2.2.2.1 (fun r14 u15 => bz r14 ∧ post r14 u15)) ∧ (¬ (u.1 (129 : Int32).toNatClampNeg) = 0 → J4 ()))))) ∧ (¬ v3 = 0 → J4 ()) := by rw [hJ4]; exact h
    refine v_if_ne (tgt := 64) X dX7_takesMore_33 (by decide) (fun c18 => ?_) (fun c18 => ?_)
    · have h := h.2 c18
      exact kJ4  ls H locs h (lv_sub hl [1, 2, 0] rfl) hH
    · have h := h.1 c18
      refine v_iload_n X dX7_takesMore_36 rfl (lv_at hl 2 rfl) ?_
      refine rdS (As := [.int r1]) (rest := []) X ms_X7_102 (c_X7_kindOf F.2.1 D K t r1 _ h) hF ⟨rfl, rfl, Nat.le_of_ble_eq_true rfl, Nat.le_of_ble_eq_true rfl⟩ (stW hT hH) hH.1 [] rfl hl.1 rfl rfl (Nat.le_of_ble_eq_true rfl) dX7_takesMore_37 (fun r11 h => ?_)
      refine v_if_eq (tgt := 54) X dX7_takesMore_40 (by decide) (fun c17 => ?_) (fun c17 => ?_)
      · have h := h.1 c17
        refine v_aload_n X dX7_takesMore_54 rfl (lv_at hl 1 rfl) ?_
        refine v_iconst (v := (1 : Int32)) X dX7_takesMore_55 (by decide) ?_
        refine v_aload_n X dX7_takesMore_56 rfl (lv_at hl 1 rfl) ?_
        refine v_get (v := .int u.2.2.2.2.2.2.2.2.2.2.2.2.2.2.1) X hH.1 0 rfl fk_X7_79 rfl dX7_takesMore_57 ?_
        refine wrVI (As := [.int (1 : Int32), .int u.2.2.2.2.2.2.2.2.2.2.2.2.2.2.1]) (rest := []) (wr := ([] : va_W)) X mv_X7_85 (c_X7_fails F.2.1 D K t o u (1 : Int32) u.2.2.2.2.2.2.2.2.2.2.2.2.2.2.1 _ h) hF ⟨rfl, rfl, Nat.le_of_ble_eq_true rfl, Nat.le_of_ble_eq_true rfl⟩ hT hA hH [0, 1, 2, 3, 4, 5, 6, 7, 8, 9] [] ⟨rfl, rfl, rfl, rfl, by decide⟩ 0 rfl rfl hl.1 rfl rfl (Nat.le_of_ble_eq_true rfl) dX7_takesMore_60 (fun r12 u13 H locs h hH => ?_)
        have hH : HH F D A (CX7 K o u13) H locs := hH
        exact v_wzret X hF u13 hH h.1 h.2 dX7_takesMore_63
      · have h := h.2 c17
        refine v_aload_n X dX7_takesMore_43 rfl (lv_at hl 1 rfl) ?_
        refine v_get (v := .ref (o 1)) X hH.1 0 rfl fk_X7_7 rfl dX7_takesMore_44 ?_
        refine v_sipush (v := (129 : Int32)) X dX7_takesMore_47 (by decide) ?_
        have hin := h.1
        have h := h.2
        refine v_iald (f := u.1) X hH.1 1 0 rfl rfl hin dX7_takesMore_50 ?_
        refine v_if_ne (tgt := 64) X dX7_takesMore_51 (by decide) (fun c16 => ?_) (fun c16 => ?_)
        · have h := h.2 c16
          exact kJ4  ls H locs h (lv_sub hl [1, 2, 0] rfl) hH
        · have h := h.1 c16
          refine v_aload_n X dX7_takesMore_54 rfl (lv_at hl 1 rfl) ?_
          refine v_iconst (v := (1 : Int32)) X dX7_takesMore_55 (by decide) ?_
          refine v_aload_n X dX7_takesMore_56 rfl (lv_at hl 1 rfl) ?_
          refine v_get (v := .int u.2.2.2.2.2.2.2.2.2.2.2.2.2.2.1) X hH.1 0 rfl fk_X7_79 rfl dX7_takesMore_57 ?_
          refine wrVI (As := [.int (1 : Int32), .int u.2.2.2.2.2.2.2.2.2.2.2.2.2.2.1]) (rest := []) (wr := ([] : va_W)) X mv_X7_85 (c_X7_fails F.2.1 D K t o u (1 : Int32) u.2.2.2.2.2.2.2.2.2.2.2.2.2.2.1 _ h) hF ⟨rfl, rfl, Nat.le_of_ble_eq_true rfl, Nat.le_of_ble_eq_true rfl⟩ hT hA hH [0, 1, 2, 3, 4, 5, 6, 7, 8, 9] [] ⟨rfl, rfl, rfl, rfl, by decide⟩ 0 rfl rfl hl.1 rfl rfl (Nat.le_of_ble_eq_true rfl) dX7_takesMore_60 (fun r14 u15 H locs h hH => ?_)
          have hH : HH F D A (CX7 K o u15) H locs := hH
          exact v_wzret X hF u15 hH h.1 h.2 dX7_takesMore_63
  have h : wpJ (T := Unit → Prop) (fun (_ : Unit) => J2 (0 : Int32)) (fun J19 => (r1 = (119 : Int32) → vp_in (130 : Int32) 144 ∧ (((u.1 (130 : Int32).toNatClampNeg) = 0 → J2 (1 : Int32)) ∧ (¬ (u.1 (130 : Int32).toNatClampNeg) = 0 → J19 ()))) ∧ (¬ r1 = (119 : Int32) → J19 ())) := by rw [hJ2]; exact h
  obtain ⟨J19, hJ19⟩ : ∃ f : Unit → Prop, f = (fun (_ : Unit) => J2 (0 : Int32)) := ⟨_, rfl⟩
  have kJ19 : ∀ (ls : Array Slot) (H : Heap) (locs : List Loc), (J19 ()) → lv_has ls 3 [(0, .ref (o 0)), (1, .int r1)] → HH F D A (CX7 K o u) H locs → V F (WQI F D (TY K) A (fun z : BX7 => CX7 K o z) (fun (r : Int32) (z : BX7) => post r z)) H locs 30 ls [] := by
    intro ls H locs h hl hH
    have h : J2 (0 : Int32) := by rw [hJ19] at h; exact h
    refine v_iconst (v := (0 : Int32)) X dX7_takesMore_30 (by decide) ?_
    exact kJ2 (0 : Int32) ls H locs h (lv_sub hl [0, 1] rfl) hH
  have h : (r1 = (119 : Int32) → vp_in (130 : Int32) 144 ∧ (((u.1 (130 : Int32).toNatClampNeg) = 0 → J2 (1 : Int32)) ∧ (¬ (u.1 (130 : Int32).toNatClampNeg) = 0 → J19 ()))) ∧ (¬ r1 = (119 : Int32) → J19 ()) := by rw [hJ19]; exact h
  refine v_icmp_ne (tgt := 30) X dX7_takesMore_12 (by decide) (fun c21 => ?_) (fun c21 => ?_)
  · have h := h.2 c21
    exact kJ19  ls H locs h (lv_sub hl [1, 0] rfl) hH
  · have h := h.1 c21
    refine v_aload_n X dX7_takesMore_15 rfl (lv_at hl 1 rfl) ?_
    refine v_get (v := .ref (o 1)) X hH.1 0 rfl fk_X7_7 rfl dX7_takesMore_16 ?_
    refine v_sipush (v := (130 : Int32)) X dX7_takesMore_19 (by decide) ?_
    have hin := h.1
    have h := h.2
    refine v_iald (f := u.1) X hH.1 1 0 rfl rfl hin dX7_takesMore_22 ?_
    refine v_if_ne (tgt := 30) X dX7_takesMore_23 (by decide) (fun c20 => ?_) (fun c20 => ?_)
    · have h := h.2 c20
      exact kJ19  ls H locs h (lv_sub hl [1, 0] rfl) hH
    · have h := h.1 c20
      refine v_iconst (v := (1 : Int32)) X dX7_takesMore_26 (by decide) ?_
      refine v_goto (tgt := 31) X dX7_takesMore_27 (by decide) ?_
      exact kJ2 (1 : Int32) ls H locs h (lv_sub hl [1, 0] rfl) hH
def wL_X7_copyAll_2 (y3 : Int32) (y4 : Int32) (post : BX7 → Prop) (Kx2 : BX7 → Prop) : Nat → Int32 → BX7 → Prop
  | 0, _, _ => False
  | n2 + 1, x1, u2 => ((36 : Int32) ≤ x1 → Kx2 u2) ∧ (¬ (36 : Int32) ≤ x1 → vp_in (y3 + x1) 144 ∧ (vp_in (y4 + x1) 144 ∧ (wL_X7_copyAll_2 y3 y4 post Kx2 n2 (x1 + (1 : Int32)) ((upd u2.1 (y4 + x1).toNatClampNeg (u2.1 (y3 + x1).toNatClampNeg)), u2.2.1, u2.2.2.1, u2.2.2.2.1, u2.2.2.2.2.1, u2.2.2.2.2.2.1, u2.2.2.2.2.2.2.1, u2.2.2.2.2.2.2.2.1, u2.2.2.2.2.2.2.2.2.1, u2.2.2.2.2.2.2.2.2.2.1, u2.2.2.2.2.2.2.2.2.2.2.1, u2.2.2.2.2.2.2.2.2.2.2.2.1, u2.2.2.2.2.2.2.2.2.2.2.2.2.1, u2.2.2.2.2.2.2.2.2.2.2.2.2.2.1, u2.2.2.2.2.2.2.2.2.2.2.2.2.2.2.1, u2.2.2.2.2.2.2.2.2.2.2.2.2.2.2.2.1, u2.2.2.2.2.2.2.2.2.2.2.2.2.2.2.2.2))))
def w_X7_copyAll (u : BX7) (a0 : Int32) (a1 : Int32) (post : BX7 → Prop) : Prop := ∃ n2, wL_X7_copyAll_2 a0 a1 post (fun (u5 : BX7) => post u5) n2 (0 : Int32) u
set_option maxHeartbeats 4000000 in
set_option maxRecDepth 100000 in
theorem c_X7_copyAll (l : Launch) (D : va_G) (K : Nat → ClassId) (t : Nat → Nat) (o : Nat → Nat) (u : BX7) (a0 : Int32) (a1 : Int32) (post : BX7 → Prop) (h : w_X7_copyAll u a0 a1 post) : WrV l yX7_copyAll cX7_copyAll 4 ({ frames := 0, cells := 0, slots := 0, locals := 0 } : Room) D (TY K) t (CX7 K o u) [.ref (o 0), .int a0, .int a1] (fun z : BX7 => CX7 K o z) (fun z : BX7 => post z) := by
  refine WrV.mk rfl (Nat.le_of_ble_eq_true rfl) ?_
  intro F ls A _ hF X hH hA hl hT
  obtain ⟨H, hH0⟩ : ∃ z : Heap, z = (fxS F).heap := ⟨_, rfl⟩
  obtain ⟨locs, hL0⟩ : ∃ z : List Loc, z = [] := ⟨_, rfl⟩
  have hH : HH F D A (CX7 K o u) H locs := by rw [hH0, hL0]; exact hH
  suffices goal : V F (WQV F D (TY K) A (fun z : BX7 => CX7 K o z) (fun z : BX7 => post z)) H locs 0 ls [] by rw [hH0, hL0] at goal; exact goal
  clear hH0 hL0
  have X : Cx F cX7_copyAll 4 RX7 D (TY K) := X
  have hl : lv_has ls 4 [(0, .ref (o 0)), (1, .int a0), (2, .int a1)] := hl
  unfold w_X7_copyAll at h
  refine v_iconst (v := (0 : Int32)) X dX7_copyAll_0 (by decide) ?_
  refine v_istore_n (lv' := [(3, .int (0 : Int32)), (0, .ref (o 0)), (1, .int a0), (2, .int a1)]) X dX7_copyAll_1 rfl hl (by decide) rfl (fun ls hl => ?_)
  obtain ⟨Kx2, hK2⟩ : ∃ f : BX7 → Prop, f = (fun (u5 : BX7) => post u5) := ⟨_, rfl⟩
  have kx6 : ∀ (u5 : BX7) (ls : Array Slot) (H : Heap) (locs : List Loc), (Kx2 u5) → lv_has ls 4 [] → HH F D A (CX7 K o u5) H locs → V F (WQV F D (TY K) A (fun z : BX7 => CX7 K o z) (fun z : BX7 => post z)) H locs 30 ls [] := by
    intro u5 ls H locs h hl hH
    have h : post u5 := by rw [hK2] at h; exact h
    exact v_wvret X hF u5 hH h dX7_copyAll_30
  have lp2 : ∀ (n2 : Nat) (x1 : Int32) (u2 : BX7) (ls : Array Slot) (H : Heap) (locs : List Loc), wL_X7_copyAll_2 a0 a1 post Kx2 n2 x1 u2 → lv_has ls 4 [(0, .ref (o 0)), (1, .int a0), (2, .int a1), (3, .int x1)] → HH F D A (CX7 K o u2) H locs → V F (WQV F D (TY K) A (fun z : BX7 => CX7 K o z) (fun z : BX7 => post z)) H locs 2 ls [] := by
    intro n2
    induction n2 with
    | zero => intro x1 u2 ls H locs h hl hH; exact h.elim
    | succ n2 ih2 =>
      intro x1 u2 ls H locs h hl hH
      refine v_iload_n X dX7_copyAll_2 rfl (lv_at hl 3 rfl) ?_
      refine v_bipush (v := (36 : Int32)) X dX7_copyAll_3 (by decide) ?_
      refine v_icmp_ge (tgt := 30) X dX7_copyAll_5 (by decide) (fun c7 => ?_) (fun c7 => ?_)
      · have h := h.1 c7
        exact kx6 u2 ls H locs h (lv_sub hl [] rfl) hH
      · have h := h.2 c7
        refine v_aload_n X dX7_copyAll_8 rfl (lv_at hl 0 rfl) ?_
        refine v_get (v := .ref (o 1)) X hH.1 0 rfl fk_X7_7 rfl dX7_copyAll_9 ?_
        refine v_iload_n X dX7_copyAll_12 rfl (lv_at hl 2 rfl) ?_
        refine v_iload_n X dX7_copyAll_13 rfl (lv_at hl 3 rfl) ?_
        refine v_iadd X dX7_copyAll_14 ?_
        refine v_aload_n X dX7_copyAll_15 rfl (lv_at hl 0 rfl) ?_
        refine v_get (v := .ref (o 1)) X hH.1 0 rfl fk_X7_7 rfl dX7_copyAll_16 ?_
        refine v_iload_n X dX7_copyAll_19 rfl (lv_at hl 1 rfl) ?_
        refine v_iload_n X dX7_copyAll_20 rfl (lv_at hl 3 rfl) ?_
        refine v_iadd X dX7_copyAll_21 ?_
        have hin := h.1
        have h := h.2
        refine v_iald (f := u2.1) X hH.1 1 0 rfl rfl hin dX7_copyAll_22 ?_
        have hin := h.1
        have h := h.2
        refine v_iast (f := u2.1) X hH 1 0 rfl rfl hin dX7_copyAll_23 (fun H locs hH => ?_)
        have hH : HH F D A (CX7 K o ((upd u2.1 (a1 + x1).toNatClampNeg (u2.1 (a0 + x1).toNatClampNeg)), u2.2.1, u2.2.2.1, u2.2.2.2.1, u2.2.2.2.2.1, u2.2.2.2.2.2.1, u2.2.2.2.2.2.2.1, u2.2.2.2.2.2.2.2.1, u2.2.2.2.2.2.2.2.2.1, u2.2.2.2.2.2.2.2.2.2.1, u2.2.2.2.2.2.2.2.2.2.2.1, u2.2.2.2.2.2.2.2.2.2.2.2.1, u2.2.2.2.2.2.2.2.2.2.2.2.2.1, u2.2.2.2.2.2.2.2.2.2.2.2.2.2.1, u2.2.2.2.2.2.2.2.2.2.2.2.2.2.2.1, u2.2.2.2.2.2.2.2.2.2.2.2.2.2.2.2.1, u2.2.2.2.2.2.2.2.2.2.2.2.2.2.2.2.2)) H locs := hH
        refine v_iinc (v := (x1 + (1 : Int32))) (lv' := [(3, .int (x1 + (1 : Int32))), (0, .ref (o 0)), (1, .int a0), (2, .int a1)]) X dX7_copyAll_24 hl (k := 3) rfl rfl (by decide) rfl (fun ls hl => ?_)
        refine v_goto (tgt := 2) X dX7_copyAll_27 (by decide) ?_
        exact ih2 (x1 + (1 : Int32)) ((upd u2.1 (a1 + x1).toNatClampNeg (u2.1 (a0 + x1).toNatClampNeg)), u2.2.1, u2.2.2.1, u2.2.2.2.1, u2.2.2.2.2.1, u2.2.2.2.2.2.1, u2.2.2.2.2.2.2.1, u2.2.2.2.2.2.2.2.1, u2.2.2.2.2.2.2.2.2.1, u2.2.2.2.2.2.2.2.2.2.1, u2.2.2.2.2.2.2.2.2.2.2.1, u2.2.2.2.2.2.2.2.2.2.2.2.1, u2.2.2.2.2.2.2.2.2.2.2.2.2.1, u2.2.2.2.2.2.2.2.2.2.2.2.2.2.1, u2.2.2.2.2.2.2.2.2.2.2.2.2.2.2.1, u2.2.2.2.2.2.2.2.2.2.2.2.2.2.2.2.1, u2.2.2.2.2.2.2.2.2.2.2.2.2.2.2.2.2) ls H locs h (lv_sub hl [1, 2, 3, 0] rfl) hH
  obtain ⟨n2, h⟩ := h
  have h : wL_X7_copyAll_2 a0 a1 post Kx2 n2 (0 : Int32) u := by rw [hK2]; exact h
  exact lp2 n2 (0 : Int32) u ls H locs h (lv_sub hl [1, 2, 3, 0] rfl) hH
def wL_X7_agency_10 (post : Int32 → BX7 → Prop) (Kx10 : Int32 → BX7 → Prop) : Nat → Int32 → BX7 → Prop
  | 0, _, _ => False
  | n10 + 1, x3, u4 => (x3 = 0 → Kx10 x3 u4) ∧ (¬ x3 = 0 → (u4.2.2.2.2.2.2.2.2.2.2.2.2.2.2.1 < u4.2.2.2.2.2.2.2.2.2.1 → w_X7_takesMore u4 (fun r11 u12 => wL_X7_agency_10 post Kx10 n10 r11 u12)) ∧ (¬ u4.2.2.2.2.2.2.2.2.2.2.2.2.2.2.1 < u4.2.2.2.2.2.2.2.2.2.1 → vp_in (129 : Int32) 144 ∧ (((u4.1 (129 : Int32).toNatClampNeg) = 0 → w_X7_takesMore u4 (fun r13 u14 => wL_X7_agency_10 post Kx10 n10 r13 u14)) ∧ (¬ (u4.1 (129 : Int32).toNatClampNeg) = 0 → Kx10 x3 u4))))
def w_X7_agency (u : BX7) (post : Int32 → BX7 → Prop) : Prop := w_X7_takesLaw (u.1, u.2.1, u.2.2.1, u.2.2.2.1, u.2.2.2.2.1, u.2.2.2.2.2.1, u.2.2.2.2.2.2.1, u.2.2.2.2.2.2.2.1, u.2.2.2.2.2.2.2.2.1, u.2.2.2.2.2.2.2.2.2.1, u.2.2.2.2.2.2.2.2.2.2.1, u.2.2.2.2.2.2.2.2.2.2.2.1, u.2.2.2.2.2.2.2.2.2.2.2.2.1, u.2.2.2.2.2.2.2.2.2.2.2.2.2.1, (0 : Int32), u.2.2.2.2.2.2.2.2.2.2.2.2.2.2.2.1, u.2.2.2.2.2.2.2.2.2.2.2.2.2.2.2.2) (fun r1 u2 => ∃ n10, wL_X7_agency_10  post (fun (x5 : Int32) (u6 : BX7) => (x5 = 0 → post ((-1000100 : Int32) - u6.2.2.2.2.2.2.2.2.2.2.2.2.2.2.2.2) (u6.1, u6.2.1, u6.2.2.1, u6.2.2.2.1, u6.2.2.2.2.1, u6.2.2.2.2.2.1, u6.2.2.2.2.2.2.1, u6.2.2.2.2.2.2.2.1, u6.2.2.2.2.2.2.2.2.1, (0 : Int32), u6.2.2.2.2.2.2.2.2.2.2.1, u6.2.2.2.2.2.2.2.2.2.2.2.1, u6.2.2.2.2.2.2.2.2.2.2.2.2.1, u6.2.2.2.2.2.2.2.2.2.2.2.2.2.1, u6.2.2.2.2.2.2.2.2.2.2.2.2.2.2.1, u6.2.2.2.2.2.2.2.2.2.2.2.2.2.2.2.1, u6.2.2.2.2.2.2.2.2.2.2.2.2.2.2.2.2)) ∧ (¬ x5 = 0 → w_X7_copyAll (u6.1, u6.2.1, u6.2.2.1, u6.2.2.2.1, u6.2.2.2.2.1, u6.2.2.2.2.2.1, u6.2.2.2.2.2.2.1, u6.2.2.2.2.2.2.2.1, u6.2.2.2.2.2.2.2.2.1, (0 : Int32), u6.2.2.2.2.2.2.2.2.2.2.1, u6.2.2.2.2.2.2.2.2.2.2.2.1, u6.2.2.2.2.2.2.2.2.2.2.2.2.1, u6.2.2.2.2.2.2.2.2.2.2.2.2.2.1, u6.2.2.2.2.2.2.2.2.2.2.2.2.2.2.1, u6.2.2.2.2.2.2.2.2.2.2.2.2.2.2.2.1, u6.2.2.2.2.2.2.2.2.2.2.2.2.2.2.2.2) (108 : Int32) (0 : Int32) (fun u8 => vp_in (21 : Int32) 144 ∧ (post (u8.1 (21 : Int32).toNatClampNeg) (u8.1, u8.2.1, u8.2.2.1, (0 : Int32), u8.2.2.2.2.1, u8.2.2.2.2.2.1, u8.2.2.2.2.2.2.1, u8.2.2.2.2.2.2.2.1, u8.2.2.2.2.2.2.2.2.1, u8.2.2.2.2.2.2.2.2.2.1, u8.2.2.2.2.2.2.2.2.2.2.1, u8.2.2.2.2.2.2.2.2.2.2.2.1, u8.2.2.2.2.2.2.2.2.2.2.2.2.1, u8.2.2.2.2.2.2.2.2.2.2.2.2.2.1, u8.2.2.2.2.2.2.2.2.2.2.2.2.2.2.1, u8.2.2.2.2.2.2.2.2.2.2.2.2.2.2.2.1, u8.2.2.2.2.2.2.2.2.2.2.2.2.2.2.2.2))))) n10 r1 u2)
set_option maxHeartbeats 4000000 in
set_option maxRecDepth 100000 in
theorem c_X7_agency (l : Launch) (D : va_G) (K : Nat → ClassId) (t : Nat → Nat) (o : Nat → Nat) (u : BX7) (post : Int32 → BX7 → Prop) (h : w_X7_agency u post) : WrI l yX7_agency cX7_agency 2 (some .int) ({ frames := 5, cells := 0, slots := 0, locals := 114 } : Room) D (TY K) t (CX7 K o u) [.ref (o 0)] (fun z : BX7 => CX7 K o z) (fun (r : Int32) (z : BX7) => post r z) := by
  refine WrI.mk rfl (Nat.le_of_ble_eq_true rfl) ?_
  intro F ls A _ hF X hH hA hl hT
  obtain ⟨H, hH0⟩ : ∃ z : Heap, z = (fxS F).heap := ⟨_, rfl⟩
  obtain ⟨locs, hL0⟩ : ∃ z : List Loc, z = [] := ⟨_, rfl⟩
  have hH : HH F D A (CX7 K o u) H locs := by rw [hH0, hL0]; exact hH
  suffices goal : V F (WQI F D (TY K) A (fun z : BX7 => CX7 K o z) (fun (r : Int32) (z : BX7) => post r z)) H locs 0 ls [] by rw [hH0, hL0] at goal; exact goal
  clear hH0 hL0
  have X : Cx F cX7_agency 2 RX7 D (TY K) := X
  have hl : lv_has ls 2 [(0, .ref (o 0))] := hl
  unfold w_X7_agency at h
  refine v_aload_n X dX7_agency_0 rfl (lv_at hl 0 rfl) ?_
  refine v_iconst (v := (0 : Int32)) X dX7_agency_1 (by decide) ?_
  refine v_put X hH 0 rfl fi_X7_79 (Nat.le_of_ble_eq_true rfl) dX7_agency_2 (fun H locs hH => ?_)
  have hH : HH F D A (CX7 K o (u.1, u.2.1, u.2.2.1, u.2.2.2.1, u.2.2.2.2.1, u.2.2.2.2.2.1, u.2.2.2.2.2.2.1, u.2.2.2.2.2.2.2.1, u.2.2.2.2.2.2.2.2.1, u.2.2.2.2.2.2.2.2.2.1, u.2.2.2.2.2.2.2.2.2.2.1, u.2.2.2.2.2.2.2.2.2.2.2.1, u.2.2.2.2.2.2.2.2.2.2.2.2.1, u.2.2.2.2.2.2.2.2.2.2.2.2.2.1, (0 : Int32), u.2.2.2.2.2.2.2.2.2.2.2.2.2.2.2.1, u.2.2.2.2.2.2.2.2.2.2.2.2.2.2.2.2)) H locs := hH
  refine v_aload_n X dX7_agency_5 rfl (lv_at hl 0 rfl) ?_
  refine wrVI (As := []) (rest := []) (wr := ([] : va_W)) X mv_X7_112 (c_X7_takesLaw F.2.1 D K t o (u.1, u.2.1, u.2.2.1, u.2.2.2.1, u.2.2.2.2.1, u.2.2.2.2.2.1, u.2.2.2.2.2.2.1, u.2.2.2.2.2.2.2.1, u.2.2.2.2.2.2.2.2.1, u.2.2.2.2.2.2.2.2.2.1, u.2.2.2.2.2.2.2.2.2.2.1, u.2.2.2.2.2.2.2.2.2.2.2.1, u.2.2.2.2.2.2.2.2.2.2.2.2.1, u.2.2.2.2.2.2.2.2.2.2.2.2.2.1, (0 : Int32), u.2.2.2.2.2.2.2.2.2.2.2.2.2.2.2.1, u.2.2.2.2.2.2.2.2.2.2.2.2.2.2.2.2) _ h) hF ⟨rfl, rfl, Nat.le_of_ble_eq_true rfl, Nat.le_of_ble_eq_true rfl⟩ hT hA hH [0, 1, 2, 3, 4, 5, 6, 7, 8, 9] [] ⟨rfl, rfl, rfl, rfl, by decide⟩ 0 rfl rfl hl.1 rfl rfl (Nat.le_of_ble_eq_true rfl) dX7_agency_6 (fun r1 u2 H locs h hH => ?_)
  have hH : HH F D A (CX7 K o u2) H locs := hH
  refine v_istore_n (lv' := [(1, .int r1), (0, .ref (o 0))]) X dX7_agency_9 rfl hl (by decide) rfl (fun ls hl => ?_)
  obtain ⟨Kx10, hK10⟩ : ∃ f : Int32 → BX7 → Prop, f = (fun (x5 : Int32) (u6 : BX7) => (x5 = 0 → post ((-1000100 : Int32) - u6.2.2.2.2.2.2.2.2.2.2.2.2.2.2.2.2) (u6.1, u6.2.1, u6.2.2.1, u6.2.2.2.1, u6.2.2.2.2.1, u6.2.2.2.2.2.1, u6.2.2.2.2.2.2.1, u6.2.2.2.2.2.2.2.1, u6.2.2.2.2.2.2.2.2.1, (0 : Int32), u6.2.2.2.2.2.2.2.2.2.2.1, u6.2.2.2.2.2.2.2.2.2.2.2.1, u6.2.2.2.2.2.2.2.2.2.2.2.2.1, u6.2.2.2.2.2.2.2.2.2.2.2.2.2.1, u6.2.2.2.2.2.2.2.2.2.2.2.2.2.2.1, u6.2.2.2.2.2.2.2.2.2.2.2.2.2.2.2.1, u6.2.2.2.2.2.2.2.2.2.2.2.2.2.2.2.2)) ∧ (¬ x5 = 0 → w_X7_copyAll (u6.1, u6.2.1, u6.2.2.1, u6.2.2.2.1, u6.2.2.2.2.1, u6.2.2.2.2.2.1, u6.2.2.2.2.2.2.1, u6.2.2.2.2.2.2.2.1, u6.2.2.2.2.2.2.2.2.1, (0 : Int32), u6.2.2.2.2.2.2.2.2.2.2.1, u6.2.2.2.2.2.2.2.2.2.2.2.1, u6.2.2.2.2.2.2.2.2.2.2.2.2.1, u6.2.2.2.2.2.2.2.2.2.2.2.2.2.1, u6.2.2.2.2.2.2.2.2.2.2.2.2.2.2.1, u6.2.2.2.2.2.2.2.2.2.2.2.2.2.2.2.1, u6.2.2.2.2.2.2.2.2.2.2.2.2.2.2.2.2) (108 : Int32) (0 : Int32) (fun u8 => vp_in (21 : Int32) 144 ∧ (post (u8.1 (21 : Int32).toNatClampNeg) (u8.1, u8.2.1, u8.2.2.1, (0 : Int32), u8.2.2.2.2.1, u8.2.2.2.2.2.1, u8.2.2.2.2.2.2.1, u8.2.2.2.2.2.2.2.1, u8.2.2.2.2.2.2.2.2.1, u8.2.2.2.2.2.2.2.2.2.1, u8.2.2.2.2.2.2.2.2.2.2.1, u8.2.2.2.2.2.2.2.2.2.2.2.1, u8.2.2.2.2.2.2.2.2.2.2.2.2.1, u8.2.2.2.2.2.2.2.2.2.2.2.2.2.1, u8.2.2.2.2.2.2.2.2.2.2.2.2.2.2.1, u8.2.2.2.2.2.2.2.2.2.2.2.2.2.2.2.1, u8.2.2.2.2.2.2.2.2.2.2.2.2.2.2.2.2))))) := ⟨_, rfl⟩
  have kx10 : ∀ (x5 : Int32) (u6 : BX7) (ls : Array Slot) (H : Heap) (locs : List Loc), (Kx10 x5 u6) → lv_has ls 2 [(0, .ref (o 0)), (1, .int x5)] → HH F D A (CX7 K o u6) H locs → V F (WQI F D (TY K) A (fun z : BX7 => CX7 K o z) (fun (r : Int32) (z : BX7) => post r z)) H locs 44 ls [] := by
    intro x5 u6 ls H locs h hl hH
    have h : (x5 = 0 → post ((-1000100 : Int32) - u6.2.2.2.2.2.2.2.2.2.2.2.2.2.2.2.2) (u6.1, u6.2.1, u6.2.2.1, u6.2.2.2.1, u6.2.2.2.2.1, u6.2.2.2.2.2.1, u6.2.2.2.2.2.2.1, u6.2.2.2.2.2.2.2.1, u6.2.2.2.2.2.2.2.2.1, (0 : Int32), u6.2.2.2.2.2.2.2.2.2.2.1, u6.2.2.2.2.2.2.2.2.2.2.2.1, u6.2.2.2.2.2.2.2.2.2.2.2.2.1, u6.2.2.2.2.2.2.2.2.2.2.2.2.2.1, u6.2.2.2.2.2.2.2.2.2.2.2.2.2.2.1, u6.2.2.2.2.2.2.2.2.2.2.2.2.2.2.2.1, u6.2.2.2.2.2.2.2.2.2.2.2.2.2.2.2.2)) ∧ (¬ x5 = 0 → w_X7_copyAll (u6.1, u6.2.1, u6.2.2.1, u6.2.2.2.1, u6.2.2.2.2.1, u6.2.2.2.2.2.1, u6.2.2.2.2.2.2.1, u6.2.2.2.2.2.2.2.1, u6.2.2.2.2.2.2.2.2.1, (0 : Int32), u6.2.2.2.2.2.2.2.2.2.2.1, u6.2.2.2.2.2.2.2.2.2.2.2.1, u6.2.2.2.2.2.2.2.2.2.2.2.2.1, u6.2.2.2.2.2.2.2.2.2.2.2.2.2.1, u6.2.2.2.2.2.2.2.2.2.2.2.2.2.2.1, u6.2.2.2.2.2.2.2.2.2.2.2.2.2.2.2.1, u6.2.2.2.2.2.2.2.2.2.2.2.2.2.2.2.2) (108 : Int32) (0 : Int32) (fun u8 => vp_in (21 : Int32) 144 ∧ (post (u8.1 (21 : Int32).toNatClampNeg) (u8.1, u8.2.1, u8.2.2.1, (0 : Int32), u8.2.2.2.2.1, u8.2.2.2.2.2.1, u8.2.2.2.2.2.2.1, u8.2.2.2.2.2.2.2.1, u8.2.2.2.2.2.2.2.2.1, u8.2.2.2.2.2.2.2.2.2.1, u8.2.2.2.2.2.2.2.2.2.2.1, u8.2.2.2.2.2.2.2.2.2.2.2.1, u8.2.2.2.2.2.2.2.2.2.2.2.2.1, u8.2.2.2.2.2.2.2.2.2.2.2.2.2.1, u8.2.2.2.2.2.2.2.2.2.2.2.2.2.2.1, u8.2.2.2.2.2.2.2.2.2.2.2.2.2.2.2.1, u8.2.2.2.2.2.2.2.2.2.2.2.2.2.2.2.2)))) := by rw [hK10] at h; exact h
    refine v_aload_n X dX7_agency_44 rfl (lv_at hl 0 rfl) ?_
    refine v_iconst (v := (0 : Int32)) X dX7_agency_45 (by decide) ?_
    refine v_put X hH 0 rfl fi_X7_69 (Nat.le_of_ble_eq_true rfl) dX7_agency_46 (fun H locs hH => ?_)
    have hH : HH F D A (CX7 K o (u6.1, u6.2.1, u6.2.2.1, u6.2.2.2.1, u6.2.2.2.2.1, u6.2.2.2.2.2.1, u6.2.2.2.2.2.2.1, u6.2.2.2.2.2.2.2.1, u6.2.2.2.2.2.2.2.2.1, (0 : Int32), u6.2.2.2.2.2.2.2.2.2.2.1, u6.2.2.2.2.2.2.2.2.2.2.2.1, u6.2.2.2.2.2.2.2.2.2.2.2.2.1, u6.2.2.2.2.2.2.2.2.2.2.2.2.2.1, u6.2.2.2.2.2.2.2.2.2.2.2.2.2.2.1, u6.2.2.2.2.2.2.2.2.2.2.2.2.2.2.2.1, u6.2.2.2.2.2.2.2.2.2.2.2.2.2.2.2.2)) H locs := hH
    refine v_iload_n X dX7_agency_49 rfl (lv_at hl 1 rfl) ?_
    refine v_if_ne (tgt := 61) X dX7_agency_50 (by decide) (fun c9 => ?_) (fun c9 => ?_)
    · have h := h.2 c9
      refine v_aload_n X dX7_agency_61 rfl (lv_at hl 0 rfl) ?_
      refine v_bipush (v := (108 : Int32)) X dX7_agency_62 (by decide) ?_
      refine v_iconst (v := (0 : Int32)) X dX7_agency_64 (by decide) ?_
      refine wrVV (As := [.int (108 : Int32), .int (0 : Int32)]) (rest := []) (wr := ([] : va_W)) X mv_X7_119 (c_X7_copyAll F.2.1 D K t o (u6.1, u6.2.1, u6.2.2.1, u6.2.2.2.1, u6.2.2.2.2.1, u6.2.2.2.2.2.1, u6.2.2.2.2.2.2.1, u6.2.2.2.2.2.2.2.1, u6.2.2.2.2.2.2.2.2.1, (0 : Int32), u6.2.2.2.2.2.2.2.2.2.2.1, u6.2.2.2.2.2.2.2.2.2.2.2.1, u6.2.2.2.2.2.2.2.2.2.2.2.2.1, u6.2.2.2.2.2.2.2.2.2.2.2.2.2.1, u6.2.2.2.2.2.2.2.2.2.2.2.2.2.2.1, u6.2.2.2.2.2.2.2.2.2.2.2.2.2.2.2.1, u6.2.2.2.2.2.2.2.2.2.2.2.2.2.2.2.2) (108 : Int32) (0 : Int32) _ h) hF ⟨rfl, rfl, Nat.le_of_ble_eq_true rfl, Nat.le_of_ble_eq_true rfl⟩ hT hA hH [0, 1, 2, 3, 4, 5, 6, 7, 8, 9] [] ⟨rfl, rfl, rfl, rfl, by decide⟩ 0 rfl rfl hl.1 rfl rfl (Nat.le_of_ble_eq_true rfl) dX7_agency_65 (fun u8 H locs h hH => ?_)
      have hH : HH F D A (CX7 K o u8) H locs := hH
      refine v_aload_n X dX7_agency_68 rfl (lv_at hl 0 rfl) ?_
      refine v_iconst (v := (0 : Int32)) X dX7_agency_69 (by decide) ?_
      refine v_put X hH 0 rfl fi_X7_123 (Nat.le_of_ble_eq_true rfl) dX7_agency_70 (fun H locs hH => ?_)
      have hH : HH F D A (CX7 K o (u8.1, u8.2.1, u8.2.2.1, (0 : Int32), u8.2.2.2.2.1, u8.2.2.2.2.2.1, u8.2.2.2.2.2.2.1, u8.2.2.2.2.2.2.2.1, u8.2.2.2.2.2.2.2.2.1, u8.2.2.2.2.2.2.2.2.2.1, u8.2.2.2.2.2.2.2.2.2.2.1, u8.2.2.2.2.2.2.2.2.2.2.2.1, u8.2.2.2.2.2.2.2.2.2.2.2.2.1, u8.2.2.2.2.2.2.2.2.2.2.2.2.2.1, u8.2.2.2.2.2.2.2.2.2.2.2.2.2.2.1, u8.2.2.2.2.2.2.2.2.2.2.2.2.2.2.2.1, u8.2.2.2.2.2.2.2.2.2.2.2.2.2.2.2.2)) H locs := hH
      refine v_aload_n X dX7_agency_73 rfl (lv_at hl 0 rfl) ?_
      refine v_get (v := .ref (o 1)) X hH.1 0 rfl fk_X7_7 rfl dX7_agency_74 ?_
      refine v_bipush (v := (21 : Int32)) X dX7_agency_77 (by decide) ?_
      have hin := h.1
      have h := h.2
      refine v_iald (f := u8.1) X hH.1 1 0 rfl rfl hin dX7_agency_79 ?_
      exact v_wiret X hF (u8.1, u8.2.1, u8.2.2.1, (0 : Int32), u8.2.2.2.2.1, u8.2.2.2.2.2.1, u8.2.2.2.2.2.2.1, u8.2.2.2.2.2.2.2.1, u8.2.2.2.2.2.2.2.2.1, u8.2.2.2.2.2.2.2.2.2.1, u8.2.2.2.2.2.2.2.2.2.2.1, u8.2.2.2.2.2.2.2.2.2.2.2.1, u8.2.2.2.2.2.2.2.2.2.2.2.2.1, u8.2.2.2.2.2.2.2.2.2.2.2.2.2.1, u8.2.2.2.2.2.2.2.2.2.2.2.2.2.2.1, u8.2.2.2.2.2.2.2.2.2.2.2.2.2.2.2.1, u8.2.2.2.2.2.2.2.2.2.2.2.2.2.2.2.2) hH h dX7_agency_80
    · have h := h.1 c9
      refine v_ldc X kc_X7_118 dX7_agency_53 ?_
      refine v_aload_n X dX7_agency_55 rfl (lv_at hl 0 rfl) ?_
      refine v_get (v := .int u6.2.2.2.2.2.2.2.2.2.2.2.2.2.2.2.2) X hH.1 0 rfl fk_X7_76 rfl dX7_agency_56 ?_
      refine v_isub X dX7_agency_59 ?_
      exact v_wiret X hF (u6.1, u6.2.1, u6.2.2.1, u6.2.2.2.1, u6.2.2.2.2.1, u6.2.2.2.2.2.1, u6.2.2.2.2.2.2.1, u6.2.2.2.2.2.2.2.1, u6.2.2.2.2.2.2.2.2.1, (0 : Int32), u6.2.2.2.2.2.2.2.2.2.2.1, u6.2.2.2.2.2.2.2.2.2.2.2.1, u6.2.2.2.2.2.2.2.2.2.2.2.2.1, u6.2.2.2.2.2.2.2.2.2.2.2.2.2.1, u6.2.2.2.2.2.2.2.2.2.2.2.2.2.2.1, u6.2.2.2.2.2.2.2.2.2.2.2.2.2.2.2.1, u6.2.2.2.2.2.2.2.2.2.2.2.2.2.2.2.2) hH h dX7_agency_60
  have lp10 : ∀ (n10 : Nat) (x3 : Int32) (u4 : BX7) (ls : Array Slot) (H : Heap) (locs : List Loc), wL_X7_agency_10  post Kx10 n10 x3 u4 → lv_has ls 2 [(0, .ref (o 0)), (1, .int x3)] → HH F D A (CX7 K o u4) H locs → V F (WQI F D (TY K) A (fun z : BX7 => CX7 K o z) (fun (r : Int32) (z : BX7) => post r z)) H locs 10 ls [] := by
    intro n10
    induction n10 with
    | zero => intro x3 u4 ls H locs h hl hH; exact h.elim
    | succ n10 ih10 =>
      intro x3 u4 ls H locs h hl hH
      refine v_iload_n X dX7_agency_10 rfl (lv_at hl 1 rfl) ?_
      refine v_if_eq (tgt := 44) X dX7_agency_11 (by decide) (fun c17 => ?_) (fun c17 => ?_)
      · have h := h.1 c17
        exact kx10 x3 u4 ls H locs h (lv_sub hl [0, 1] rfl) hH
      · have h := h.2 c17
        refine v_aload_n X dX7_agency_14 rfl (lv_at hl 0 rfl) ?_
        refine v_get (v := .int u4.2.2.2.2.2.2.2.2.2.2.2.2.2.2.1) X hH.1 0 rfl fk_X7_79 rfl dX7_agency_15 ?_
        refine v_aload_n X dX7_agency_18 rfl (lv_at hl 0 rfl) ?_
        refine v_get (v := .int u4.2.2.2.2.2.2.2.2.2.1) X hH.1 0 rfl fk_X7_69 rfl dX7_agency_19 ?_
        refine v_icmp_lt (tgt := 36) X dX7_agency_22 (by decide) (fun c16 => ?_) (fun c16 => ?_)
        · have h := h.1 c16
          refine v_aload_n X dX7_agency_36 rfl (lv_at hl 0 rfl) ?_
          refine wrVI (As := []) (rest := []) (wr := ([] : va_W)) X mv_X7_115 (c_X7_takesMore F.2.1 D K t o u4 _ h) hF ⟨rfl, rfl, Nat.le_of_ble_eq_true rfl, Nat.le_of_ble_eq_true rfl⟩ hT hA hH [0, 1, 2, 3, 4, 5, 6, 7, 8, 9] [] ⟨rfl, rfl, rfl, rfl, by decide⟩ 0 rfl rfl hl.1 rfl rfl (Nat.le_of_ble_eq_true rfl) dX7_agency_37 (fun r11 u12 H locs h hH => ?_)
          have hH : HH F D A (CX7 K o u12) H locs := hH
          refine v_istore_n (lv' := [(1, .int r11), (0, .ref (o 0))]) X dX7_agency_40 rfl hl (by decide) rfl (fun ls hl => ?_)
          refine v_goto (tgt := 10) X dX7_agency_41 (by decide) ?_
          exact ih10 r11 u12 ls H locs h (lv_sub hl [1, 0] rfl) hH
        · have h := h.2 c16
          refine v_aload_n X dX7_agency_25 rfl (lv_at hl 0 rfl) ?_
          refine v_get (v := .ref (o 1)) X hH.1 0 rfl fk_X7_7 rfl dX7_agency_26 ?_
          refine v_sipush (v := (129 : Int32)) X dX7_agency_29 (by decide) ?_
          have hin := h.1
          have h := h.2
          refine v_iald (f := u4.1) X hH.1 1 0 rfl rfl hin dX7_agency_32 ?_
          refine v_if_ne (tgt := 44) X dX7_agency_33 (by decide) (fun c15 => ?_) (fun c15 => ?_)
          · have h := h.2 c15
            exact kx10 x3 u4 ls H locs h (lv_sub hl [0, 1] rfl) hH
          · have h := h.1 c15
            refine v_aload_n X dX7_agency_36 rfl (lv_at hl 0 rfl) ?_
            refine wrVI (As := []) (rest := []) (wr := ([] : va_W)) X mv_X7_115 (c_X7_takesMore F.2.1 D K t o u4 _ h) hF ⟨rfl, rfl, Nat.le_of_ble_eq_true rfl, Nat.le_of_ble_eq_true rfl⟩ hT hA hH [0, 1, 2, 3, 4, 5, 6, 7, 8, 9] [] ⟨rfl, rfl, rfl, rfl, by decide⟩ 0 rfl rfl hl.1 rfl rfl (Nat.le_of_ble_eq_true rfl) dX7_agency_37 (fun r13 u14 H locs h hH => ?_)
            have hH : HH F D A (CX7 K o u14) H locs := hH
            refine v_istore_n (lv' := [(1, .int r13), (0, .ref (o 0))]) X dX7_agency_40 rfl hl (by decide) rfl (fun ls hl => ?_)
            refine v_goto (tgt := 10) X dX7_agency_41 (by decide) ?_
            exact ih10 r13 u14 ls H locs h (lv_sub hl [1, 0] rfl) hH
  obtain ⟨n10, h⟩ := h
  have h : wL_X7_agency_10  post Kx10 n10 r1 u2 := by rw [hK10]; exact h
  exact lp10 n10 r1 u2 ls H locs h (lv_sub hl [1, 0] rfl) hH
def w_X7_fault (u : BX7) (post : Int32 → Prop) : Prop := post u.2.2.2.2.2.2.2.2.2.2.1
set_option maxHeartbeats 4000000 in
set_option maxRecDepth 100000 in
theorem c_X7_fault (l : Launch) (D : va_G) (K : Nat → ClassId) (t : Nat → Nat) (o : Nat → Nat) (u : BX7) (post : Int32 → Prop) (h : w_X7_fault u post) : RdM l yX7_fault cX7_fault 1 (some .int) ({ frames := 0, cells := 0, slots := 0, locals := 0 } : Room) D (TY K) t (CX7 K o u) [.ref (o 0)] post := by
  refine RdM.mk rfl (Nat.le_of_ble_eq_true rfl) ?_
  intro F ls _ hF X hP hl hT
  have X : Cx F cX7_fault 1 RX7 D (TY K) := X
  have hl : lv_has ls 1 [(0, .ref (o 0))] := hl
  unfold w_X7_fault at h
  refine v_aload_n X dX7_fault_0 rfl (lv_at hl 0 rfl) ?_
  refine v_get (v := .int u.2.2.2.2.2.2.2.2.2.2.1) X hP 0 rfl fk_X7_73 rfl dX7_fault_1 ?_
  exact v_riret X hF h dX7_fault_4
def w_X7_isAgency (u : BX7) (post : Int32 → Prop) : Prop := vp_in (18 : Int32) 144 ∧ (((u.1 (18 : Int32).toNatClampNeg) = (1 : Int32) → post (1 : Int32)) ∧ (¬ (u.1 (18 : Int32).toNatClampNeg) = (1 : Int32) → post (0 : Int32)))
set_option maxHeartbeats 4000000 in
set_option maxRecDepth 100000 in
theorem c_X7_isAgency (l : Launch) (D : va_G) (K : Nat → ClassId) (t : Nat → Nat) (o : Nat → Nat) (u : BX7) (post : Int32 → Prop) (h : w_X7_isAgency u post) : RdM l yX7_isAgency cX7_isAgency 1 (some .boolean) ({ frames := 0, cells := 0, slots := 0, locals := 0 } : Room) D (TY K) t (CX7 K o u) [.ref (o 0)] post := by
  refine RdM.mk rfl (Nat.le_of_ble_eq_true rfl) ?_
  intro F ls _ hF X hP hl hT
  have X : Cx F cX7_isAgency 1 RX7 D (TY K) := X
  have hl : lv_has ls 1 [(0, .ref (o 0))] := hl
  unfold w_X7_isAgency at h
  refine v_aload_n X dX7_isAgency_0 rfl (lv_at hl 0 rfl) ?_
  refine v_get (v := .ref (o 1)) X hP 0 rfl fk_X7_7 rfl dX7_isAgency_1 ?_
  refine v_bipush (v := (18 : Int32)) X dX7_isAgency_4 (by decide) ?_
  have hin := h.1
  have h := h.2
  refine v_iald (f := u.1) X hP 1 0 rfl rfl hin dX7_isAgency_6 ?_
  refine v_iconst (v := (1 : Int32)) X dX7_isAgency_7 (by decide) ?_
  refine v_icmp_ne (tgt := 15) X dX7_isAgency_8 (by decide) (fun c1 => ?_) (fun c1 => ?_)
  · have h := h.2 c1
    refine v_iconst (v := (0 : Int32)) X dX7_isAgency_15 (by decide) ?_
    exact v_rzret X hF rfl h dX7_isAgency_16
  · have h := h.1 c1
    refine v_iconst (v := (1 : Int32)) X dX7_isAgency_11 (by decide) ?_
    refine v_goto (tgt := 16) X dX7_isAgency_12 (by decide) ?_
    exact v_rzret X hF rfl h dX7_isAgency_16
def w_X7_isClient (u : BX7) (a0 : Int32) (post : Int32 → Prop) : Prop := vp_in (21 : Int32) 144 ∧ (w_X7_in a0.toInt64 (0 : Int64) (((u.1 (21 : Int32).toNatClampNeg) - (1 : Int32)).toInt64) (fun r1 => bz r1 ∧ post r1))
set_option maxHeartbeats 4000000 in
set_option maxRecDepth 100000 in
theorem c_X7_isClient (l : Launch) (D : va_G) (K : Nat → ClassId) (t : Nat → Nat) (o : Nat → Nat) (u : BX7) (a0 : Int32) (post : Int32 → Prop) (h : w_X7_isClient u a0 post) : RdM l yX7_isClient cX7_isClient 2 (some .boolean) ({ frames := 1, cells := 0, slots := 0, locals := 25 } : Room) D (TY K) t (CX7 K o u) [.ref (o 0), .int a0] post := by
  refine RdM.mk rfl (Nat.le_of_ble_eq_true rfl) ?_
  intro F ls _ hF X hP hl hT
  have X : Cx F cX7_isClient 2 RX7 D (TY K) := X
  have hl : lv_has ls 2 [(0, .ref (o 0)), (1, .int a0)] := hl
  unfold w_X7_isClient at h
  refine v_iload_n X dX7_isClient_0 rfl (lv_at hl 1 rfl) ?_
  refine v_i2l X dX7_isClient_1 rfl ?_
  refine v_lconst (v := (0 : Int64)) X dX7_isClient_2 (by decide) ?_
  refine v_aload_n X dX7_isClient_3 rfl (lv_at hl 0 rfl) ?_
  refine v_get (v := .ref (o 1)) X hP 0 rfl fk_X7_7 rfl dX7_isClient_4 ?_
  refine v_bipush (v := (21 : Int32)) X dX7_isClient_7 (by decide) ?_
  have hin := h.1
  have h := h.2
  refine v_iald (f := u.1) X hP 1 0 rfl rfl hin dX7_isClient_9 ?_
  refine v_iconst (v := (1 : Int32)) X dX7_isClient_10 (by decide) ?_
  refine v_isub X dX7_isClient_11 ?_
  refine v_i2l X dX7_isClient_12 rfl ?_
  refine rdS (As := [.long a0.toInt64, .long (0 : Int64), .long ((u.1 (21 : Int32).toNatClampNeg) - (1 : Int32)).toInt64]) (rest := []) X ms_X7_45 (c_X7_in F.2.1 D K t a0.toInt64 (0 : Int64) (((u.1 (21 : Int32).toNatClampNeg) - (1 : Int32)).toInt64) _ h) hF ⟨rfl, rfl, Nat.le_of_ble_eq_true rfl, Nat.le_of_ble_eq_true rfl⟩ hT hP [] rfl hl.1 rfl rfl (Nat.le_of_ble_eq_true rfl) dX7_isClient_13 (fun r1 h => ?_)
  exact v_rzret X hF h.1 h.2 dX7_isClient_16
def w_X7_isWaker (u : BX7) (a0 : Int32) (post : Int32 → Prop) : Prop := vp_in (22 : Int32) 144 ∧ (w_X7_in a0.toInt64 (0 : Int64) (((u.1 (22 : Int32).toNatClampNeg) - (1 : Int32)).toInt64) (fun r1 => bz r1 ∧ post r1))
set_option maxHeartbeats 4000000 in
set_option maxRecDepth 100000 in
theorem c_X7_isWaker (l : Launch) (D : va_G) (K : Nat → ClassId) (t : Nat → Nat) (o : Nat → Nat) (u : BX7) (a0 : Int32) (post : Int32 → Prop) (h : w_X7_isWaker u a0 post) : RdM l yX7_isWaker cX7_isWaker 2 (some .boolean) ({ frames := 1, cells := 0, slots := 0, locals := 25 } : Room) D (TY K) t (CX7 K o u) [.ref (o 0), .int a0] post := by
  refine RdM.mk rfl (Nat.le_of_ble_eq_true rfl) ?_
  intro F ls _ hF X hP hl hT
  have X : Cx F cX7_isWaker 2 RX7 D (TY K) := X
  have hl : lv_has ls 2 [(0, .ref (o 0)), (1, .int a0)] := hl
  unfold w_X7_isWaker at h
  refine v_iload_n X dX7_isWaker_0 rfl (lv_at hl 1 rfl) ?_
  refine v_i2l X dX7_isWaker_1 rfl ?_
  refine v_lconst (v := (0 : Int64)) X dX7_isWaker_2 (by decide) ?_
  refine v_aload_n X dX7_isWaker_3 rfl (lv_at hl 0 rfl) ?_
  refine v_get (v := .ref (o 1)) X hP 0 rfl fk_X7_7 rfl dX7_isWaker_4 ?_
  refine v_bipush (v := (22 : Int32)) X dX7_isWaker_7 (by decide) ?_
  have hin := h.1
  have h := h.2
  refine v_iald (f := u.1) X hP 1 0 rfl rfl hin dX7_isWaker_9 ?_
  refine v_iconst (v := (1 : Int32)) X dX7_isWaker_10 (by decide) ?_
  refine v_isub X dX7_isWaker_11 ?_
  refine v_i2l X dX7_isWaker_12 rfl ?_
  refine rdS (As := [.long a0.toInt64, .long (0 : Int64), .long ((u.1 (22 : Int32).toNatClampNeg) - (1 : Int32)).toInt64]) (rest := []) X ms_X7_45 (c_X7_in F.2.1 D K t a0.toInt64 (0 : Int64) (((u.1 (22 : Int32).toNatClampNeg) - (1 : Int32)).toInt64) _ h) hF ⟨rfl, rfl, Nat.le_of_ble_eq_true rfl, Nat.le_of_ble_eq_true rfl⟩ hT hP [] rfl hl.1 rfl rfl (Nat.le_of_ble_eq_true rfl) dX7_isWaker_13 (fun r1 h => ?_)
  exact v_rzret X hF h.1 h.2 dX7_isWaker_16
def w_X7_isFit (u : BX7) (a0 : Int32) (a1 : Int32) (post : Int32 → Prop) : Prop := vp_in ((a0 + (6 : Int32)) + a1) 144 ∧ (vp_in ((a0 + (10 : Int32)) + a1) 144 ∧ (vp_in ((a0 + (23 : Int32)) + (u.1 ((a0 + (10 : Int32)) + a1).toNatClampNeg)) 144 ∧ (((u.1 ((a0 + (6 : Int32)) + a1).toNatClampNeg) = (u.1 ((a0 + (23 : Int32)) + (u.1 ((a0 + (10 : Int32)) + a1).toNatClampNeg)).toNatClampNeg) → post (1 : Int32)) ∧ (¬ (u.1 ((a0 + (6 : Int32)) + a1).toNatClampNeg) = (u.1 ((a0 + (23 : Int32)) + (u.1 ((a0 + (10 : Int32)) + a1).toNatClampNeg)).toNatClampNeg) → post (0 : Int32)))))
set_option maxHeartbeats 4000000 in
set_option maxRecDepth 100000 in
theorem c_X7_isFit (l : Launch) (D : va_G) (K : Nat → ClassId) (t : Nat → Nat) (o : Nat → Nat) (u : BX7) (a0 : Int32) (a1 : Int32) (post : Int32 → Prop) (h : w_X7_isFit u a0 a1 post) : RdM l yX7_isFit cX7_isFit 3 (some .boolean) ({ frames := 0, cells := 0, slots := 0, locals := 0 } : Room) D (TY K) t (CX7 K o u) [.ref (o 0), .int a0, .int a1] post := by
  refine RdM.mk rfl (Nat.le_of_ble_eq_true rfl) ?_
  intro F ls _ hF X hP hl hT
  have X : Cx F cX7_isFit 3 RX7 D (TY K) := X
  have hl : lv_has ls 3 [(0, .ref (o 0)), (1, .int a0), (2, .int a1)] := hl
  unfold w_X7_isFit at h
  refine v_aload_n X dX7_isFit_0 rfl (lv_at hl 0 rfl) ?_
  refine v_get (v := .ref (o 1)) X hP 0 rfl fk_X7_7 rfl dX7_isFit_1 ?_
  refine v_iload_n X dX7_isFit_4 rfl (lv_at hl 1 rfl) ?_
  refine v_bipush (v := (6 : Int32)) X dX7_isFit_5 (by decide) ?_
  refine v_iadd X dX7_isFit_7 ?_
  refine v_iload_n X dX7_isFit_8 rfl (lv_at hl 2 rfl) ?_
  refine v_iadd X dX7_isFit_9 ?_
  have hin := h.1
  have h := h.2
  refine v_iald (f := u.1) X hP 1 0 rfl rfl hin dX7_isFit_10 ?_
  refine v_aload_n X dX7_isFit_11 rfl (lv_at hl 0 rfl) ?_
  refine v_get (v := .ref (o 1)) X hP 0 rfl fk_X7_7 rfl dX7_isFit_12 ?_
  refine v_iload_n X dX7_isFit_15 rfl (lv_at hl 1 rfl) ?_
  refine v_bipush (v := (23 : Int32)) X dX7_isFit_16 (by decide) ?_
  refine v_iadd X dX7_isFit_18 ?_
  refine v_aload_n X dX7_isFit_19 rfl (lv_at hl 0 rfl) ?_
  refine v_get (v := .ref (o 1)) X hP 0 rfl fk_X7_7 rfl dX7_isFit_20 ?_
  refine v_iload_n X dX7_isFit_23 rfl (lv_at hl 1 rfl) ?_
  refine v_bipush (v := (10 : Int32)) X dX7_isFit_24 (by decide) ?_
  refine v_iadd X dX7_isFit_26 ?_
  refine v_iload_n X dX7_isFit_27 rfl (lv_at hl 2 rfl) ?_
  refine v_iadd X dX7_isFit_28 ?_
  have hin := h.1
  have h := h.2
  refine v_iald (f := u.1) X hP 1 0 rfl rfl hin dX7_isFit_29 ?_
  refine v_iadd X dX7_isFit_30 ?_
  have hin := h.1
  have h := h.2
  refine v_iald (f := u.1) X hP 1 0 rfl rfl hin dX7_isFit_31 ?_
  refine v_icmp_ne (tgt := 39) X dX7_isFit_32 (by decide) (fun c1 => ?_) (fun c1 => ?_)
  · have h := h.2 c1
    refine v_iconst (v := (0 : Int32)) X dX7_isFit_39 (by decide) ?_
    exact v_rzret X hF rfl h dX7_isFit_40
  · have h := h.1 c1
    refine v_iconst (v := (1 : Int32)) X dX7_isFit_35 (by decide) ?_
    refine v_goto (tgt := 40) X dX7_isFit_36 (by decide) ?_
    exact v_rzret X hF rfl h dX7_isFit_40
def w_X7_guards (a0 : Int32) (a1 : Int32) (post : Int32 → Prop) : Prop := ((a1 - a1 / (3 : Int32) * (3 : Int32)) = (2 : Int32) → post (0 : Int32)) ∧ (¬ (a1 - a1 / (3 : Int32) * (3 : Int32)) = (2 : Int32) → post a0)
set_option maxHeartbeats 4000000 in
set_option maxRecDepth 100000 in
theorem c_X7_guards (l : Launch) (D : va_G) (K : Nat → ClassId) (t : Nat → Nat) (a0 : Int32) (a1 : Int32) (post : Int32 → Prop) (h : w_X7_guards a0 a1 post) : RdM l yX7_guards cX7_guards 2 (some .int) ({ frames := 0, cells := 0, slots := 0, locals := 0 } : Room) D (TY K) t ([] : va_W) [.int a0, .int a1] post := by
  refine RdM.mk rfl (Nat.le_of_ble_eq_true rfl) ?_
  intro F ls _ hF X hP hl hT
  have X : Cx F cX7_guards 2 RX7 D (TY K) := X
  have hl : lv_has ls 2 [(0, .int a0), (1, .int a1)] := hl
  unfold w_X7_guards at h
  refine v_iload_n X dX7_guards_0 rfl (lv_at hl 1 rfl) ?_
  refine v_iconst (v := (3 : Int32)) X dX7_guards_1 (by decide) ?_
  refine v_irem X dX7_guards_2 (by decide) ?_
  refine v_iconst (v := (2 : Int32)) X dX7_guards_3 (by decide) ?_
  refine v_icmp_ne (tgt := 11) X dX7_guards_4 (by decide) (fun c1 => ?_) (fun c1 => ?_)
  · have h := h.2 c1
    refine v_iload_n X dX7_guards_11 rfl (lv_at hl 0 rfl) ?_
    exact v_riret X hF h dX7_guards_12
  · have h := h.1 c1
    refine v_iconst (v := (0 : Int32)) X dX7_guards_7 (by decide) ?_
    refine v_goto (tgt := 12) X dX7_guards_8 (by decide) ?_
    exact v_riret X hF h dX7_guards_12
def w_X7_lies (u : BX7) (a0 : Int32) (a1 : Int32) (post : Int32 → Prop) : Prop := vp_in ((a0 + (32 : Int32)) + a1) 144 ∧ (∀ x1 : Int32, x1 = (u.1 ((a0 + (32 : Int32)) + a1).toNatClampNeg) → vp_in (a0 + (0 : Int32)) 144 ∧ (∀ x2 : Int32, x2 = (u.1 (a0 + (0 : Int32)).toNatClampNeg) → vp_in ((a0 + (10 : Int32)) + a1) 144 ∧ (((u.1 ((a0 + (10 : Int32)) + a1).toNatClampNeg) = (5 : Int32) → post (0 : Int32)) ∧ (¬ (u.1 ((a0 + (10 : Int32)) + a1).toNatClampNeg) = (5 : Int32) → vp_in ((a0 + (28 : Int32)) + a1) 144 ∧ (∀ x3 : Int32, x3 = (u.1 ((a0 + (28 : Int32)) + a1).toNatClampNeg) → (x3 = (2 : Int32) → vp_in (a0 + (20 : Int32)) 144 ∧ (((x2 - x2 / (7 : Int32) * (7 : Int32)) = (u.1 (a0 + (20 : Int32)).toNatClampNeg) → post (0 : Int32)) ∧ (¬ (x2 - x2 / (7 : Int32) * (7 : Int32)) = (u.1 (a0 + (20 : Int32)).toNatClampNeg) → post x1))) ∧ (¬ x3 = (2 : Int32) → (x3 = (3 : Int32) → w_X7_isFit u a0 a1 (fun r7 => (r7 = 0 → post x1) ∧ (¬ r7 = 0 → post ((2 : Int32) * x1)))) ∧ (¬ x3 = (3 : Int32) → (x3 = (4 : Int32) → w_X7_guards x1 x2 (fun r10 => post r10)) ∧ (¬ x3 = (4 : Int32) → (x3 = (5 : Int32) → w_X7_guards x1 x2 (fun r12 => ∀ x13 : Int32, x13 = (r12 + (x2 / (2 : Int32))) → (x13 ≤ (9 : Int32) → post x13) ∧ (¬ x13 ≤ (9 : Int32) → post (9 : Int32)))) ∧ (¬ x3 = (5 : Int32) → post x1)))))))))
set_option maxHeartbeats 4000000 in
set_option maxRecDepth 100000 in
theorem c_X7_lies (l : Launch) (D : va_G) (K : Nat → ClassId) (t : Nat → Nat) (o : Nat → Nat) (u : BX7) (a0 : Int32) (a1 : Int32) (post : Int32 → Prop) (h : w_X7_lies u a0 a1 post) : RdM l yX7_lies cX7_lies 6 (some .int) ({ frames := 1, cells := 0, slots := 0, locals := 22 } : Room) D (TY K) t (CX7 K o u) [.ref (o 0), .int a0, .int a1] post := by
  refine RdM.mk rfl (Nat.le_of_ble_eq_true rfl) ?_
  intro F ls _ hF X hP hl hT
  have X : Cx F cX7_lies 6 RX7 D (TY K) := X
  have hl : lv_has ls 6 [(0, .ref (o 0)), (1, .int a0), (2, .int a1)] := hl
  unfold w_X7_lies at h
  refine v_aload_n X dX7_lies_0 rfl (lv_at hl 0 rfl) ?_
  refine v_get (v := .ref (o 1)) X hP 0 rfl fk_X7_7 rfl dX7_lies_1 ?_
  refine v_iload_n X dX7_lies_4 rfl (lv_at hl 1 rfl) ?_
  refine v_bipush (v := (32 : Int32)) X dX7_lies_5 (by decide) ?_
  refine v_iadd X dX7_lies_7 ?_
  refine v_iload_n X dX7_lies_8 rfl (lv_at hl 2 rfl) ?_
  refine v_iadd X dX7_lies_9 ?_
  have hin := h.1
  have h := h.2
  refine v_iald (f := u.1) X hP 1 0 rfl rfl hin dX7_lies_10 ?_
  refine v_topi (fun x1 ex1 => ?_)
  have h := h x1 ex1
  refine v_istore_n (lv' := [(3, .int x1), (0, .ref (o 0)), (1, .int a0), (2, .int a1)]) X dX7_lies_11 rfl hl (by decide) rfl (fun ls hl => ?_)
  refine v_aload_n X dX7_lies_12 rfl (lv_at hl 1 rfl) ?_
  refine v_get (v := .ref (o 1)) X hP 0 rfl fk_X7_7 rfl dX7_lies_13 ?_
  refine v_iload_n X dX7_lies_16 rfl (lv_at hl 2 rfl) ?_
  refine v_iconst (v := (0 : Int32)) X dX7_lies_17 (by decide) ?_
  refine v_iadd X dX7_lies_18 ?_
  have hin := h.1
  have h := h.2
  refine v_iald (f := u.1) X hP 1 0 rfl rfl hin dX7_lies_19 ?_
  refine v_topi (fun x2 ex2 => ?_)
  have h := h x2 ex2
  refine v_istore (lv' := [(4, .int x2), (3, .int x1), (0, .ref (o 0)), (1, .int a0), (2, .int a1)]) X dX7_lies_20 hl (by decide) rfl (fun ls hl => ?_)
  refine v_aload_n X dX7_lies_22 rfl (lv_at hl 2 rfl) ?_
  refine v_get (v := .ref (o 1)) X hP 0 rfl fk_X7_7 rfl dX7_lies_23 ?_
  refine v_iload_n X dX7_lies_26 rfl (lv_at hl 3 rfl) ?_
  refine v_bipush (v := (10 : Int32)) X dX7_lies_27 (by decide) ?_
  refine v_iadd X dX7_lies_29 ?_
  refine v_iload_n X dX7_lies_30 rfl (lv_at hl 4 rfl) ?_
  refine v_iadd X dX7_lies_31 ?_
  have hin := h.1
  have h := h.2
  refine v_iald (f := u.1) X hP 1 0 rfl rfl hin dX7_lies_32 ?_
  refine v_iconst (v := (5 : Int32)) X dX7_lies_33 (by decide) ?_
  refine v_icmp_ne (tgt := 39) X dX7_lies_34 (by decide) (fun c15 => ?_) (fun c15 => ?_)
  · have h := h.2 c15
    refine v_aload_n X dX7_lies_39 rfl (lv_at hl 2 rfl) ?_
    refine v_get (v := .ref (o 1)) X hP 0 rfl fk_X7_7 rfl dX7_lies_40 ?_
    refine v_iload_n X dX7_lies_43 rfl (lv_at hl 3 rfl) ?_
    refine v_bipush (v := (28 : Int32)) X dX7_lies_44 (by decide) ?_
    refine v_iadd X dX7_lies_46 ?_
    refine v_iload_n X dX7_lies_47 rfl (lv_at hl 4 rfl) ?_
    refine v_iadd X dX7_lies_48 ?_
    have hin := h.1
    have h := h.2
    refine v_iald (f := u.1) X hP 1 0 rfl rfl hin dX7_lies_49 ?_
    refine v_topi (fun x3 ex3 => ?_)
    have h := h x3 ex3
    by_cases c4 : x3 = (2 : Int32)
    · have h := h.1 c4
      refine v_tableIn (tgt := 80) (off := 30) X dX7_lies_50 (by rw [c4]; decide) (by rw [c4]; decide) (by rw [c4]; rfl) (by decide) ?_
      refine v_iload X dX7_lies_80 (lv_at hl 0 rfl) ?_
      refine v_bipush (v := (7 : Int32)) X dX7_lies_82 (by decide) ?_
      refine v_irem X dX7_lies_84 (by decide) ?_
      refine v_aload_n X dX7_lies_85 rfl (lv_at hl 2 rfl) ?_
      refine v_get (v := .ref (o 1)) X hP 0 rfl fk_X7_7 rfl dX7_lies_86 ?_
      refine v_iload_n X dX7_lies_89 rfl (lv_at hl 3 rfl) ?_
      refine v_bipush (v := (20 : Int32)) X dX7_lies_90 (by decide) ?_
      refine v_iadd X dX7_lies_92 ?_
      have hin := h.1
      have h := h.2
      refine v_iald (f := u.1) X hP 1 0 rfl rfl hin dX7_lies_93 ?_
      refine v_icmp_ne (tgt := 101) X dX7_lies_94 (by decide) (fun c5 => ?_) (fun c5 => ?_)
      · have h := h.2 c5
        refine v_iload_n X dX7_lies_101 rfl (lv_at hl 1 rfl) ?_
        exact v_riret X hF h dX7_lies_102
      · have h := h.1 c5
        refine v_iconst (v := (0 : Int32)) X dX7_lies_97 (by decide) ?_
        refine v_goto (tgt := 102) X dX7_lies_98 (by decide) ?_
        exact v_riret X hF h dX7_lies_102
    · have h := h.2 c4
      by_cases c6 : x3 = (3 : Int32)
      · have h := h.1 c6
        refine v_tableIn (tgt := 103) (off := 53) X dX7_lies_50 (by rw [c6]; decide) (by rw [c6]; decide) (by rw [c6]; rfl) (by decide) ?_
        refine v_aload_n X dX7_lies_103 rfl (lv_at hl 2 rfl) ?_
        refine v_iload_n X dX7_lies_104 rfl (lv_at hl 3 rfl) ?_
        refine v_iload_n X dX7_lies_105 rfl (lv_at hl 4 rfl) ?_
        refine rdV (As := [.int a0, .int a1]) (rest := []) X mv_X7_126 (c_X7_isFit F.2.1 D K t o u a0 a1 _ h) hF ⟨rfl, rfl, Nat.le_of_ble_eq_true rfl, Nat.le_of_ble_eq_true rfl⟩ hT hP [0, 1, 2, 3, 4, 5, 6, 7, 8, 9] rfl 0 rfl rfl hl.1 rfl rfl (Nat.le_of_ble_eq_true rfl) dX7_lies_106 (fun r7 h => ?_)
        refine v_if_eq (tgt := 118) X dX7_lies_109 (by decide) (fun c8 => ?_) (fun c8 => ?_)
        · have h := h.1 c8
          refine v_iload_n X dX7_lies_118 rfl (lv_at hl 1 rfl) ?_
          exact v_riret X hF h dX7_lies_119
        · have h := h.2 c8
          refine v_iconst (v := (2 : Int32)) X dX7_lies_112 (by decide) ?_
          refine v_iload_n X dX7_lies_113 rfl (lv_at hl 1 rfl) ?_
          refine v_imul X dX7_lies_114 ?_
          refine v_goto (tgt := 119) X dX7_lies_115 (by decide) ?_
          exact v_riret X hF h dX7_lies_119
      · have h := h.2 c6
        by_cases c9 : x3 = (4 : Int32)
        · have h := h.1 c9
          refine v_tableIn (tgt := 120) (off := 70) X dX7_lies_50 (by rw [c9]; decide) (by rw [c9]; decide) (by rw [c9]; rfl) (by decide) ?_
          refine v_iload_n X dX7_lies_120 rfl (lv_at hl 1 rfl) ?_
          refine v_iload X dX7_lies_121 (lv_at hl 0 rfl) ?_
          refine rdS (As := [.int x1, .int x2]) (rest := []) X ms_X7_129 (c_X7_guards F.2.1 D K t x1 x2 _ h) hF ⟨rfl, rfl, Nat.le_of_ble_eq_true rfl, Nat.le_of_ble_eq_true rfl⟩ hT hP [] rfl hl.1 rfl rfl (Nat.le_of_ble_eq_true rfl) dX7_lies_123 (fun r10 h => ?_)
          exact v_riret X hF h dX7_lies_126
        · have h := h.2 c9
          by_cases c11 : x3 = (5 : Int32)
          · have h := h.1 c11
            refine v_tableIn (tgt := 127) (off := 77) X dX7_lies_50 (by rw [c11]; decide) (by rw [c11]; decide) (by rw [c11]; rfl) (by decide) ?_
            refine v_iload_n X dX7_lies_127 rfl (lv_at hl 1 rfl) ?_
            refine v_iload X dX7_lies_128 (lv_at hl 0 rfl) ?_
            refine rdS (As := [.int x1, .int x2]) (rest := []) X ms_X7_129 (c_X7_guards F.2.1 D K t x1 x2 _ h) hF ⟨rfl, rfl, Nat.le_of_ble_eq_true rfl, Nat.le_of_ble_eq_true rfl⟩ hT hP [] rfl hl.1 rfl rfl (Nat.le_of_ble_eq_true rfl) dX7_lies_130 (fun r12 h => ?_)
            refine v_iload X dX7_lies_133 (lv_at hl 0 rfl) ?_
            refine v_iconst (v := (2 : Int32)) X dX7_lies_135 (by decide) ?_
            refine v_idiv X dX7_lies_136 (by decide) ?_
            refine v_iadd X dX7_lies_137 ?_
            refine v_topi (fun x13 ex13 => ?_)
            have h := h x13 ex13
            refine v_istore (lv' := [(5, .int x13), (4, .int x2), (3, .int x1), (0, .ref (o 0)), (1, .int a0), (2, .int a1)]) X dX7_lies_138 hl (by decide) rfl (fun ls hl => ?_)
            refine v_iload X dX7_lies_140 (lv_at hl 0 rfl) ?_
            refine v_bipush (v := (9 : Int32)) X dX7_lies_142 (by decide) ?_
            refine v_icmp_le (tgt := 152) X dX7_lies_144 (by decide) (fun c14 => ?_) (fun c14 => ?_)
            · have h := h.1 c14
              refine v_iload X dX7_lies_152 (lv_at hl 0 rfl) ?_
              exact v_riret X hF h dX7_lies_154
            · have h := h.2 c14
              refine v_bipush (v := (9 : Int32)) X dX7_lies_147 (by decide) ?_
              refine v_goto (tgt := 154) X dX7_lies_149 (by decide) ?_
              exact v_riret X hF h dX7_lies_154
          · have h := h.2 c11
            refine v_tableOut (tgt := 155) X dX7_lies_50 (by have e0 : x3.toInt ≠ 2 := fun q => c4 (Int32.toInt_inj.mp (by rw [q]; rfl)); have e1 : x3.toInt ≠ 3 := fun q => c6 (Int32.toInt_inj.mp (by rw [q]; rfl)); have e2 : x3.toInt ≠ 4 := fun q => c9 (Int32.toInt_inj.mp (by rw [q]; rfl)); have e3 : x3.toInt ≠ 5 := fun q => c11 (Int32.toInt_inj.mp (by rw [q]; rfl)); omega) (by decide) ?_
            refine v_iload_n X dX7_lies_155 rfl (lv_at hl 1 rfl) ?_
            exact v_riret X hF h dX7_lies_156
  · have h := h.1 c15
    refine v_iconst (v := (0 : Int32)) X dX7_lies_37 (by decide) ?_
    exact v_riret X hF h dX7_lies_38
def wL_X7_lighter_6 (y3 : Int32) (y4 : Int32) (y5 : Int32) (b6 : BX7) (post : Int32 → Prop) (Kx6 : Int32 → Prop) : Nat → Int32 → Int32 → Prop
  | 0, _, _ => False
  | n6 + 1, x1, x2 => vp_in (y3 + (22 : Int32)) 144 ∧ (((b6.1 (y3 + (22 : Int32)).toNatClampNeg) ≤ x2 → Kx6 x1) ∧ (¬ (b6.1 (y3 + (22 : Int32)).toNatClampNeg) ≤ x2 → vp_in ((y3 + (10 : Int32)) + x2) 144 ∧ (((b6.1 ((y3 + (10 : Int32)) + x2).toNatClampNeg) = y4 → w_X7_has y5 x2 (fun r9 => (r9 = 0 → w_X7_isFit b6 y3 x2 (fun r10 => wpJ (T := Int32 → Prop) (fun (v12 : Int32) => (v12 ≤ x1 → wL_X7_lighter_6 y3 y4 y5 b6 post Kx6 n6 x1 (x2 + (1 : Int32))) ∧ (¬ v12 ≤ x1 → wL_X7_lighter_6 y3 y4 y5 b6 post Kx6 n6 v12 (x2 + (1 : Int32)))) (fun J11 => (r10 = 0 → w_X7_lies b6 y3 x2 (fun r14 => J11 (r14 / (2 : Int32)))) ∧ (¬ r10 = 0 → w_X7_lies b6 y3 x2 (fun r15 => J11 r15))))) ∧ (¬ r9 = 0 → wL_X7_lighter_6 y3 y4 y5 b6 post Kx6 n6 x1 (x2 + (1 : Int32))))) ∧ (¬ (b6.1 ((y3 + (10 : Int32)) + x2).toNatClampNeg) = y4 → wL_X7_lighter_6 y3 y4 y5 b6 post Kx6 n6 x1 (x2 + (1 : Int32))))))
def w_X7_lighter (u : BX7) (a0 : Int32) (a1 : Int32) (a2 : Int32) (post : Int32 → Prop) : Prop := ∃ n6, wL_X7_lighter_6 a0 a1 a2 u post (fun (x7 : Int32) => post x7) n6 (0 : Int32) (0 : Int32)
set_option maxHeartbeats 4000000 in
set_option maxRecDepth 100000 in
theorem c_X7_lighter (l : Launch) (D : va_G) (K : Nat → ClassId) (t : Nat → Nat) (o : Nat → Nat) (u : BX7) (a0 : Int32) (a1 : Int32) (a2 : Int32) (post : Int32 → Prop) (h : w_X7_lighter u a0 a1 a2 post) : RdM l yX7_lighter cX7_lighter 7 (some .int) ({ frames := 2, cells := 0, slots := 0, locals := 47 } : Room) D (TY K) t (CX7 K o u) [.ref (o 0), .int a0, .int a1, .int a2] post := by
  refine RdM.mk rfl (Nat.le_of_ble_eq_true rfl) ?_
  intro F ls _ hF X hP hl hT
  have X : Cx F cX7_lighter 7 RX7 D (TY K) := X
  have hl : lv_has ls 7 [(0, .ref (o 0)), (1, .int a0), (2, .int a1), (3, .int a2)] := hl
  unfold w_X7_lighter at h
  refine v_iconst (v := (0 : Int32)) X dX7_lighter_0 (by decide) ?_
  refine v_istore (lv' := [(4, .int (0 : Int32)), (0, .ref (o 0)), (1, .int a0), (2, .int a1), (3, .int a2)]) X dX7_lighter_1 hl (by decide) rfl (fun ls hl => ?_)
  refine v_iconst (v := (0 : Int32)) X dX7_lighter_3 (by decide) ?_
  refine v_istore (lv' := [(5, .int (0 : Int32)), (4, .int (0 : Int32)), (0, .ref (o 0)), (1, .int a0), (2, .int a1), (3, .int a2)]) X dX7_lighter_4 hl (by decide) rfl (fun ls hl => ?_)
  obtain ⟨Kx6, hK6⟩ : ∃ f : Int32 → Prop, f = (fun (x7 : Int32) => post x7) := ⟨_, rfl⟩
  have kx8 : ∀ (x7 : Int32) (ls : Array Slot), (Kx6 x7) → lv_has ls 7 [(4, .int x7)] → V F (RQ F post) (fxS F).heap [] 98 ls [] := by
    intro x7 ls h hl
    have h : post x7 := by rw [hK6] at h; exact h
    refine v_iload X dX7_lighter_98 (lv_at hl 0 rfl) ?_
    exact v_riret X hF h dX7_lighter_100
  have lp6 : ∀ (n6 : Nat) (x1 : Int32) (x2 : Int32) (ls : Array Slot), wL_X7_lighter_6 a0 a1 a2 u post Kx6 n6 x1 x2 → lv_has ls 7 [(0, .ref (o 0)), (1, .int a0), (2, .int a1), (3, .int a2), (4, .int x1), (5, .int x2)] → V F (RQ F post) (fxS F).heap [] 6 ls [] := by
    intro n6
    induction n6 with
    | zero => intro x1 x2 ls h hl; exact h.elim
    | succ n6 ih6 =>
      intro x1 x2 ls h hl
      refine v_iload X dX7_lighter_6 (lv_at hl 5 rfl) ?_
      refine v_aload_n X dX7_lighter_8 rfl (lv_at hl 0 rfl) ?_
      refine v_get (v := .ref (o 1)) X hP 0 rfl fk_X7_7 rfl dX7_lighter_9 ?_
      refine v_iload_n X dX7_lighter_12 rfl (lv_at hl 1 rfl) ?_
      refine v_bipush (v := (22 : Int32)) X dX7_lighter_13 (by decide) ?_
      refine v_iadd X dX7_lighter_15 ?_
      have hin := h.1
      have h := h.2
      refine v_iald (f := u.1) X hP 1 0 rfl rfl hin dX7_lighter_16 ?_
      refine v_icmp_ge (tgt := 98) X dX7_lighter_17 (by decide) (fun c19 => ?_) (fun c19 => ?_)
      · have h := h.1 c19
        exact kx8 x1 ls h (lv_sub hl [4] rfl)
      · have h := h.2 c19
        refine v_aload_n X dX7_lighter_20 rfl (lv_at hl 0 rfl) ?_
        refine v_get (v := .ref (o 1)) X hP 0 rfl fk_X7_7 rfl dX7_lighter_21 ?_
        refine v_iload_n X dX7_lighter_24 rfl (lv_at hl 1 rfl) ?_
        refine v_bipush (v := (10 : Int32)) X dX7_lighter_25 (by decide) ?_
        refine v_iadd X dX7_lighter_27 ?_
        refine v_iload X dX7_lighter_28 (lv_at hl 5 rfl) ?_
        refine v_iadd X dX7_lighter_30 ?_
        have hin := h.1
        have h := h.2
        refine v_iald (f := u.1) X hP 1 0 rfl rfl hin dX7_lighter_31 ?_
        refine v_iload_n X dX7_lighter_32 rfl (lv_at hl 2 rfl) ?_
        refine v_icmp_ne (tgt := 92) X dX7_lighter_33 (by decide) (fun c18 => ?_) (fun c18 => ?_)
        · have h := h.2 c18
          refine v_iinc (v := (x2 + (1 : Int32))) (lv' := [(5, .int (x2 + (1 : Int32))), (0, .ref (o 0)), (1, .int a0), (2, .int a1), (3, .int a2), (4, .int x1)]) X dX7_lighter_92 hl (k := 5) rfl rfl (by decide) rfl (fun ls hl => ?_)
          refine v_goto (tgt := 6) X dX7_lighter_95 (by decide) ?_
          exact ih6 x1 (x2 + (1 : Int32)) ls h (lv_sub hl [1, 2, 3, 4, 5, 0] rfl)
        · have h := h.1 c18
          refine v_iload_n X dX7_lighter_36 rfl (lv_at hl 3 rfl) ?_
          refine v_iload X dX7_lighter_37 (lv_at hl 5 rfl) ?_
          refine rdS (As := [.int a2, .int x2]) (rest := []) X ms_X7_133 (c_X7_has F.2.1 D K t a2 x2 _ h) hF ⟨rfl, rfl, Nat.le_of_ble_eq_true rfl, Nat.le_of_ble_eq_true rfl⟩ hT hP [] rfl hl.1 rfl rfl (Nat.le_of_ble_eq_true rfl) dX7_lighter_39 (fun r9 h => ?_)
          refine v_if_ne (tgt := 92) X dX7_lighter_42 (by decide) (fun c17 => ?_) (fun c17 => ?_)
          · have h := h.2 c17
            refine v_iinc (v := (x2 + (1 : Int32))) (lv' := [(5, .int (x2 + (1 : Int32))), (0, .ref (o 0)), (1, .int a0), (2, .int a1), (3, .int a2), (4, .int x1)]) X dX7_lighter_92 hl (k := 5) rfl rfl (by decide) rfl (fun ls hl => ?_)
            refine v_goto (tgt := 6) X dX7_lighter_95 (by decide) ?_
            exact ih6 x1 (x2 + (1 : Int32)) ls h (lv_sub hl [1, 2, 3, 4, 5, 0] rfl)
          · have h := h.1 c17
            refine v_aload_n X dX7_lighter_45 rfl (lv_at hl 0 rfl) ?_
            refine v_iload_n X dX7_lighter_46 rfl (lv_at hl 1 rfl) ?_
            refine v_iload X dX7_lighter_47 (lv_at hl 5 rfl) ?_
            refine rdV (As := [.int a0, .int x2]) (rest := []) X mv_X7_126 (c_X7_isFit F.2.1 D K t o u a0 x2 _ h) hF ⟨rfl, rfl, Nat.le_of_ble_eq_true rfl, Nat.le_of_ble_eq_true rfl⟩ hT hP [0, 1, 2, 3, 4, 5, 6, 7, 8, 9] rfl 0 rfl rfl hl.1 rfl rfl (Nat.le_of_ble_eq_true rfl) dX7_lighter_49 (fun r10 h => ?_)
            obtain ⟨J11, hJ11⟩ : ∃ f : Int32 → Prop, f = (fun (v12 : Int32) => (v12 ≤ x1 → wL_X7_lighter_6 a0 a1 a2 u post Kx6 n6 x1 (x2 + (1 : Int32))) ∧ (¬ v12 ≤ x1 → wL_X7_lighter_6 a0 a1 a2 u post Kx6 n6 v12 (x2 + (1 : Int32)))) := ⟨_, rfl⟩
            have kJ11 : ∀ (v12 : Int32) (ls : Array Slot), (J11 v12) → lv_has ls 7 [(0, .ref (o 0)), (1, .int a0), (2, .int a1), (3, .int a2), (4, .int x1), (5, .int x2)] → V F (RQ F post) (fxS F).heap [] 74 ls [.int v12] := by
              intro v12 ls h hl
              have h : (v12 ≤ x1 → wL_X7_lighter_6 a0 a1 a2 u post Kx6 n6 x1 (x2 + (1 : Int32))) ∧ (¬ v12 ≤ x1 → wL_X7_lighter_6 a0 a1 a2 u post Kx6 n6 v12 (x2 + (1 : Int32))) := by rw [hJ11] at h; exact h
              refine v_istore (lv' := [(6, .int v12), (0, .ref (o 0)), (1, .int a0), (2, .int a1), (3, .int a2), (4, .int x1), (5, .int x2)]) X dX7_lighter_74 hl (by decide) rfl (fun ls hl => ?_)
              refine v_iload X dX7_lighter_76 (lv_at hl 0 rfl) ?_
              refine v_iload X dX7_lighter_78 (lv_at hl 5 rfl) ?_
              refine v_icmp_le (tgt := 88) X dX7_lighter_80 (by decide) (fun c13 => ?_) (fun c13 => ?_)
              · have h := h.1 c13
                refine v_iload X dX7_lighter_88 (lv_at hl 5 rfl) ?_
                refine v_istore (lv' := [(4, .int x1), (6, .int v12), (0, .ref (o 0)), (1, .int a0), (2, .int a1), (3, .int a2), (5, .int x2)]) X dX7_lighter_90 hl (by decide) rfl (fun ls hl => ?_)
                refine v_iinc (v := (x2 + (1 : Int32))) (lv' := [(5, .int (x2 + (1 : Int32))), (4, .int x1), (6, .int v12), (0, .ref (o 0)), (1, .int a0), (2, .int a1), (3, .int a2)]) X dX7_lighter_92 hl (k := 6) rfl rfl (by decide) rfl (fun ls hl => ?_)
                refine v_goto (tgt := 6) X dX7_lighter_95 (by decide) ?_
                exact ih6 x1 (x2 + (1 : Int32)) ls h (lv_sub hl [3, 4, 5, 6, 1, 0] rfl)
              · have h := h.2 c13
                refine v_iload X dX7_lighter_83 (lv_at hl 0 rfl) ?_
                refine v_goto (tgt := 90) X dX7_lighter_85 (by decide) ?_
                refine v_istore (lv' := [(4, .int v12), (6, .int v12), (0, .ref (o 0)), (1, .int a0), (2, .int a1), (3, .int a2), (5, .int x2)]) X dX7_lighter_90 hl (by decide) rfl (fun ls hl => ?_)
                refine v_iinc (v := (x2 + (1 : Int32))) (lv' := [(5, .int (x2 + (1 : Int32))), (4, .int v12), (6, .int v12), (0, .ref (o 0)), (1, .int a0), (2, .int a1), (3, .int a2)]) X dX7_lighter_92 hl (k := 6) rfl rfl (by decide) rfl (fun ls hl => ?_)
                refine v_goto (tgt := 6) X dX7_lighter_95 (by decide) ?_
                exact ih6 v12 (x2 + (1 : Int32)) ls h (lv_sub hl [3, 4, 5, 6, 1, 0] rfl)
            have h : (r10 = 0 → w_X7_lies u a0 x2 (fun r14 => J11 (r14 / (2 : Int32)))) ∧ (¬ r10 = 0 → w_X7_lies u a0 x2 (fun r15 => J11 r15)) := by rw [hJ11]; exact h
            refine v_if_eq (tgt := 65) X dX7_lighter_52 (by decide) (fun c16 => ?_) (fun c16 => ?_)
            · have h := h.1 c16
              refine v_aload_n X dX7_lighter_65 rfl (lv_at hl 0 rfl) ?_
              refine v_iload_n X dX7_lighter_66 rfl (lv_at hl 1 rfl) ?_
              refine v_iload X dX7_lighter_67 (lv_at hl 5 rfl) ?_
              refine rdV (As := [.int a0, .int x2]) (rest := []) X mv_X7_136 (c_X7_lies F.2.1 D K t o u a0 x2 _ h) hF ⟨rfl, rfl, Nat.le_of_ble_eq_true rfl, Nat.le_of_ble_eq_true rfl⟩ hT hP [0, 1, 2, 3, 4, 5, 6, 7, 8, 9] rfl 0 rfl rfl hl.1 rfl rfl (Nat.le_of_ble_eq_true rfl) dX7_lighter_69 (fun r14 h => ?_)
              refine v_iconst (v := (2 : Int32)) X dX7_lighter_72 (by decide) ?_
              refine v_idiv X dX7_lighter_73 (by decide) ?_
              exact kJ11 (r14 / (2 : Int32)) ls h (lv_sub hl [0, 1, 2, 3, 4, 5] rfl)
            · have h := h.2 c16
              refine v_aload_n X dX7_lighter_55 rfl (lv_at hl 0 rfl) ?_
              refine v_iload_n X dX7_lighter_56 rfl (lv_at hl 1 rfl) ?_
              refine v_iload X dX7_lighter_57 (lv_at hl 5 rfl) ?_
              refine rdV (As := [.int a0, .int x2]) (rest := []) X mv_X7_136 (c_X7_lies F.2.1 D K t o u a0 x2 _ h) hF ⟨rfl, rfl, Nat.le_of_ble_eq_true rfl, Nat.le_of_ble_eq_true rfl⟩ hT hP [0, 1, 2, 3, 4, 5, 6, 7, 8, 9] rfl 0 rfl rfl hl.1 rfl rfl (Nat.le_of_ble_eq_true rfl) dX7_lighter_59 (fun r15 h => ?_)
              refine v_goto (tgt := 74) X dX7_lighter_62 (by decide) ?_
              exact kJ11 r15 ls h (lv_sub hl [0, 1, 2, 3, 4, 5] rfl)
  obtain ⟨n6, h⟩ := h
  have h : wL_X7_lighter_6 a0 a1 a2 u post Kx6 n6 (0 : Int32) (0 : Int32) := by rw [hK6]; exact h
  exact lp6 n6 (0 : Int32) (0 : Int32) ls h (lv_sub hl [2, 3, 4, 5, 1, 0] rfl)
def wL_X7_passes_105 (y8 : Int32) (y9 : Int32) (post : BX7 → Prop) (Kx105 : BX7 → Prop) : Nat → Int32 → BX7 → Prop
  | 0, _, _ => False
  | n105 + 1, x6, u7 => vp_in (y8 + (22 : Int32)) 144 ∧ (((u7.1 (y8 + (22 : Int32)).toNatClampNeg) ≤ x6 → Kx105 u7) ∧ (¬ (u7.1 (y8 + (22 : Int32)).toNatClampNeg) ≤ x6 → vp_in ((y8 + (14 : Int32)) + x6) 144 ∧ (w_X7_has y9 x6 (fun r12 => (r12 = 0 → w_X7_lies u7 y8 x6 (fun r13 => vp_in ((y8 + (14 : Int32)) + x6) 144 ∧ (wL_X7_passes_105 y8 y9 post Kx105 n105 (x6 + (1 : Int32)) ((upd u7.1 ((y8 + (14 : Int32)) + x6).toNatClampNeg ((u7.1 ((y8 + (14 : Int32)) + x6).toNatClampNeg) + r13)), u7.2.1, u7.2.2.1, u7.2.2.2.1, u7.2.2.2.2.1, u7.2.2.2.2.2.1, u7.2.2.2.2.2.2.1, u7.2.2.2.2.2.2.2.1, u7.2.2.2.2.2.2.2.2.1, u7.2.2.2.2.2.2.2.2.2.1, u7.2.2.2.2.2.2.2.2.2.2.1, u7.2.2.2.2.2.2.2.2.2.2.2.1, u7.2.2.2.2.2.2.2.2.2.2.2.2.1, u7.2.2.2.2.2.2.2.2.2.2.2.2.2.1, u7.2.2.2.2.2.2.2.2.2.2.2.2.2.2.1, u7.2.2.2.2.2.2.2.2.2.2.2.2.2.2.2.1, u7.2.2.2.2.2.2.2.2.2.2.2.2.2.2.2.2)))) ∧ (¬ r12 = 0 → vp_in ((y8 + (14 : Int32)) + x6) 144 ∧ (wL_X7_passes_105 y8 y9 post Kx105 n105 (x6 + (1 : Int32)) ((upd u7.1 ((y8 + (14 : Int32)) + x6).toNatClampNeg ((u7.1 ((y8 + (14 : Int32)) + x6).toNatClampNeg) + (0 : Int32))), u7.2.1, u7.2.2.1, u7.2.2.2.1, u7.2.2.2.2.1, u7.2.2.2.2.2.1, u7.2.2.2.2.2.2.1, u7.2.2.2.2.2.2.2.1, u7.2.2.2.2.2.2.2.2.1, u7.2.2.2.2.2.2.2.2.2.1, u7.2.2.2.2.2.2.2.2.2.2.1, u7.2.2.2.2.2.2.2.2.2.2.2.1, u7.2.2.2.2.2.2.2.2.2.2.2.2.1, u7.2.2.2.2.2.2.2.2.2.2.2.2.2.1, u7.2.2.2.2.2.2.2.2.2.2.2.2.2.2.1, u7.2.2.2.2.2.2.2.2.2.2.2.2.2.2.2.1, u7.2.2.2.2.2.2.2.2.2.2.2.2.2.2.2.2)))))))
def wL_X7_passes_2 (y3 : Int32) (y4 : Int32) (post : BX7 → Prop) (Kx2 : BX7 → Prop) : Nat → Int32 → BX7 → Prop
  | 0, _, _ => False
  | n2 + 1, x1, u2 => vp_in (y3 + (21 : Int32)) 144 ∧ (((u2.1 (y3 + (21 : Int32)).toNatClampNeg) ≤ x1 → Kx2 u2) ∧ (¬ (u2.1 (y3 + (21 : Int32)).toNatClampNeg) ≤ x1 → w_X7_lighter u2 y3 x1 y4 (fun r17 => vp_in ((y3 + (1 : Int32)) + x1) 144 ∧ (∀ x18 : Int32, x18 = (u2.1 ((y3 + (1 : Int32)) + x1).toNatClampNeg) → wpJ (T := Int32 → Prop) (fun (v20 : Int32) => (0 ≤ v20 → (v20 ≤ (99 : Int32) → vp_in ((y3 + (1 : Int32)) + x1) 144 ∧ (wL_X7_passes_2 y3 y4 post Kx2 n2 (x1 + (1 : Int32)) ((upd u2.1 ((y3 + (1 : Int32)) + x1).toNatClampNeg v20), u2.2.1, u2.2.2.1, u2.2.2.2.1, u2.2.2.2.2.1, u2.2.2.2.2.2.1, u2.2.2.2.2.2.2.1, u2.2.2.2.2.2.2.2.1, u2.2.2.2.2.2.2.2.2.1, u2.2.2.2.2.2.2.2.2.2.1, u2.2.2.2.2.2.2.2.2.2.2.1, u2.2.2.2.2.2.2.2.2.2.2.2.1, u2.2.2.2.2.2.2.2.2.2.2.2.2.1, u2.2.2.2.2.2.2.2.2.2.2.2.2.2.1, u2.2.2.2.2.2.2.2.2.2.2.2.2.2.2.1, u2.2.2.2.2.2.2.2.2.2.2.2.2.2.2.2.1, u2.2.2.2.2.2.2.2.2.2.2.2.2.2.2.2.2))) ∧ (¬ v20 ≤ (99 : Int32) → vp_in ((y3 + (1 : Int32)) + x1) 144 ∧ (wL_X7_passes_2 y3 y4 post Kx2 n2 (x1 + (1 : Int32)) ((upd u2.1 ((y3 + (1 : Int32)) + x1).toNatClampNeg (99 : Int32)), u2.2.1, u2.2.2.1, u2.2.2.2.1, u2.2.2.2.2.1, u2.2.2.2.2.2.1, u2.2.2.2.2.2.2.1, u2.2.2.2.2.2.2.2.1, u2.2.2.2.2.2.2.2.2.1, u2.2.2.2.2.2.2.2.2.2.1, u2.2.2.2.2.2.2.2.2.2.2.1, u2.2.2.2.2.2.2.2.2.2.2.2.1, u2.2.2.2.2.2.2.2.2.2.2.2.2.1, u2.2.2.2.2.2.2.2.2.2.2.2.2.2.1, u2.2.2.2.2.2.2.2.2.2.2.2.2.2.2.1, u2.2.2.2.2.2.2.2.2.2.2.2.2.2.2.2.1, u2.2.2.2.2.2.2.2.2.2.2.2.2.2.2.2.2)))) ∧ (¬ 0 ≤ v20 → vp_in ((y3 + (1 : Int32)) + x1) 144 ∧ (wL_X7_passes_2 y3 y4 post Kx2 n2 (x1 + (1 : Int32)) ((upd u2.1 ((y3 + (1 : Int32)) + x1).toNatClampNeg (0 : Int32)), u2.2.1, u2.2.2.1, u2.2.2.2.1, u2.2.2.2.2.1, u2.2.2.2.2.2.1, u2.2.2.2.2.2.2.1, u2.2.2.2.2.2.2.2.1, u2.2.2.2.2.2.2.2.2.1, u2.2.2.2.2.2.2.2.2.2.1, u2.2.2.2.2.2.2.2.2.2.2.1, u2.2.2.2.2.2.2.2.2.2.2.2.1, u2.2.2.2.2.2.2.2.2.2.2.2.2.1, u2.2.2.2.2.2.2.2.2.2.2.2.2.2.1, u2.2.2.2.2.2.2.2.2.2.2.2.2.2.2.1, u2.2.2.2.2.2.2.2.2.2.2.2.2.2.2.2.1, u2.2.2.2.2.2.2.2.2.2.2.2.2.2.2.2.2)))) (fun J19 => (r17 ≤ 0 → (x18 ≤ 0 → J19 (0 : Int32)) ∧ (¬ x18 ≤ 0 → J19 (x18 + (1 : Int32)))) ∧ (¬ r17 ≤ 0 → J19 (x18 - r17)))))))
def w_X7_passes (u : BX7) (a0 : Int32) (a1 : Int32) (post : BX7 → Prop) : Prop := ∃ n2, wL_X7_passes_2 a0 a1 post (fun (u5 : BX7) => ∃ n105, wL_X7_passes_105 a0 a1 post (fun (u10 : BX7) => vp_in (a0 + (0 : Int32)) 144 ∧ (vp_in (a0 + (0 : Int32)) 144 ∧ (post ((upd u10.1 (a0 + (0 : Int32)).toNatClampNeg ((u10.1 (a0 + (0 : Int32)).toNatClampNeg) + (1 : Int32))), u10.2.1, u10.2.2.1, u10.2.2.2.1, u10.2.2.2.2.1, u10.2.2.2.2.2.1, u10.2.2.2.2.2.2.1, u10.2.2.2.2.2.2.2.1, u10.2.2.2.2.2.2.2.2.1, u10.2.2.2.2.2.2.2.2.2.1, u10.2.2.2.2.2.2.2.2.2.2.1, u10.2.2.2.2.2.2.2.2.2.2.2.1, u10.2.2.2.2.2.2.2.2.2.2.2.2.1, u10.2.2.2.2.2.2.2.2.2.2.2.2.2.1, u10.2.2.2.2.2.2.2.2.2.2.2.2.2.2.1, u10.2.2.2.2.2.2.2.2.2.2.2.2.2.2.2.1, u10.2.2.2.2.2.2.2.2.2.2.2.2.2.2.2.2)))) n105 (0 : Int32) u5) n2 (0 : Int32) u
set_option maxHeartbeats 4000000 in
set_option maxRecDepth 100000 in
theorem c_X7_passes (l : Launch) (D : va_G) (K : Nat → ClassId) (t : Nat → Nat) (o : Nat → Nat) (u : BX7) (a0 : Int32) (a1 : Int32) (post : BX7 → Prop) (h : w_X7_passes u a0 a1 post) : WrV l yX7_passes cX7_passes 7 ({ frames := 3, cells := 0, slots := 0, locals := 73 } : Room) D (TY K) t (CX7 K o u) [.ref (o 0), .int a0, .int a1] (fun z : BX7 => CX7 K o z) (fun z : BX7 => post z) := by
  refine WrV.mk rfl (Nat.le_of_ble_eq_true rfl) ?_
  intro F ls A _ hF X hH hA hl hT
  obtain ⟨H, hH0⟩ : ∃ z : Heap, z = (fxS F).heap := ⟨_, rfl⟩
  obtain ⟨locs, hL0⟩ : ∃ z : List Loc, z = [] := ⟨_, rfl⟩
  have hH : HH F D A (CX7 K o u) H locs := by rw [hH0, hL0]; exact hH
  suffices goal : V F (WQV F D (TY K) A (fun z : BX7 => CX7 K o z) (fun z : BX7 => post z)) H locs 0 ls [] by rw [hH0, hL0] at goal; exact goal
  clear hH0 hL0
  have X : Cx F cX7_passes 7 RX7 D (TY K) := X
  have hl : lv_has ls 7 [(0, .ref (o 0)), (1, .int a0), (2, .int a1)] := hl
  unfold w_X7_passes at h
  refine v_iconst (v := (0 : Int32)) X dX7_passes_0 (by decide) ?_
  refine v_istore_n (lv' := [(3, .int (0 : Int32)), (0, .ref (o 0)), (1, .int a0), (2, .int a1)]) X dX7_passes_1 rfl hl (by decide) rfl (fun ls hl => ?_)
  obtain ⟨Kx2, hK2⟩ : ∃ f : BX7 → Prop, f = (fun (u5 : BX7) => ∃ n105, wL_X7_passes_105 a0 a1 post (fun (u10 : BX7) => vp_in (a0 + (0 : Int32)) 144 ∧ (vp_in (a0 + (0 : Int32)) 144 ∧ (post ((upd u10.1 (a0 + (0 : Int32)).toNatClampNeg ((u10.1 (a0 + (0 : Int32)).toNatClampNeg) + (1 : Int32))), u10.2.1, u10.2.2.1, u10.2.2.2.1, u10.2.2.2.2.1, u10.2.2.2.2.2.1, u10.2.2.2.2.2.2.1, u10.2.2.2.2.2.2.2.1, u10.2.2.2.2.2.2.2.2.1, u10.2.2.2.2.2.2.2.2.2.1, u10.2.2.2.2.2.2.2.2.2.2.1, u10.2.2.2.2.2.2.2.2.2.2.2.1, u10.2.2.2.2.2.2.2.2.2.2.2.2.1, u10.2.2.2.2.2.2.2.2.2.2.2.2.2.1, u10.2.2.2.2.2.2.2.2.2.2.2.2.2.2.1, u10.2.2.2.2.2.2.2.2.2.2.2.2.2.2.2.1, u10.2.2.2.2.2.2.2.2.2.2.2.2.2.2.2.2)))) n105 (0 : Int32) u5) := ⟨_, rfl⟩
  have kx16 : ∀ (u5 : BX7) (ls : Array Slot) (H : Heap) (locs : List Loc), (Kx2 u5) → lv_has ls 7 [(0, .ref (o 0)), (1, .int a0), (2, .int a1)] → HH F D A (CX7 K o u5) H locs → V F (WQV F D (TY K) A (fun z : BX7 => CX7 K o z) (fun z : BX7 => post z)) H locs 103 ls [] := by
    intro u5 ls H locs h hl hH
    have h : ∃ n105, wL_X7_passes_105 a0 a1 post (fun (u10 : BX7) => vp_in (a0 + (0 : Int32)) 144 ∧ (vp_in (a0 + (0 : Int32)) 144 ∧ (post ((upd u10.1 (a0 + (0 : Int32)).toNatClampNeg ((u10.1 (a0 + (0 : Int32)).toNatClampNeg) + (1 : Int32))), u10.2.1, u10.2.2.1, u10.2.2.2.1, u10.2.2.2.2.1, u10.2.2.2.2.2.1, u10.2.2.2.2.2.2.1, u10.2.2.2.2.2.2.2.1, u10.2.2.2.2.2.2.2.2.1, u10.2.2.2.2.2.2.2.2.2.1, u10.2.2.2.2.2.2.2.2.2.2.1, u10.2.2.2.2.2.2.2.2.2.2.2.1, u10.2.2.2.2.2.2.2.2.2.2.2.2.1, u10.2.2.2.2.2.2.2.2.2.2.2.2.2.1, u10.2.2.2.2.2.2.2.2.2.2.2.2.2.2.1, u10.2.2.2.2.2.2.2.2.2.2.2.2.2.2.2.1, u10.2.2.2.2.2.2.2.2.2.2.2.2.2.2.2.2)))) n105 (0 : Int32) u5 := by rw [hK2] at h; exact h
    refine v_iconst (v := (0 : Int32)) X dX7_passes_103 (by decide) ?_
    refine v_istore_n (lv' := [(3, .int (0 : Int32)), (0, .ref (o 0)), (1, .int a0), (2, .int a1)]) X dX7_passes_104 rfl hl (by decide) rfl (fun ls hl => ?_)
    obtain ⟨Kx105, hK105⟩ : ∃ f : BX7 → Prop, f = (fun (u10 : BX7) => vp_in (a0 + (0 : Int32)) 144 ∧ (vp_in (a0 + (0 : Int32)) 144 ∧ (post ((upd u10.1 (a0 + (0 : Int32)).toNatClampNeg ((u10.1 (a0 + (0 : Int32)).toNatClampNeg) + (1 : Int32))), u10.2.1, u10.2.2.1, u10.2.2.2.1, u10.2.2.2.2.1, u10.2.2.2.2.2.1, u10.2.2.2.2.2.2.1, u10.2.2.2.2.2.2.2.1, u10.2.2.2.2.2.2.2.2.1, u10.2.2.2.2.2.2.2.2.2.1, u10.2.2.2.2.2.2.2.2.2.2.1, u10.2.2.2.2.2.2.2.2.2.2.2.1, u10.2.2.2.2.2.2.2.2.2.2.2.2.1, u10.2.2.2.2.2.2.2.2.2.2.2.2.2.1, u10.2.2.2.2.2.2.2.2.2.2.2.2.2.2.1, u10.2.2.2.2.2.2.2.2.2.2.2.2.2.2.2.1, u10.2.2.2.2.2.2.2.2.2.2.2.2.2.2.2.2)))) := ⟨_, rfl⟩
    have kx11 : ∀ (u10 : BX7) (ls : Array Slot) (H : Heap) (locs : List Loc), (Kx105 u10) → lv_has ls 7 [(0, .ref (o 0)), (1, .int a0)] → HH F D A (CX7 K o u10) H locs → V F (WQV F D (TY K) A (fun z : BX7 => CX7 K o z) (fun z : BX7 => post z)) H locs 156 ls [] := by
      intro u10 ls H locs h hl hH
      have h : vp_in (a0 + (0 : Int32)) 144 ∧ (vp_in (a0 + (0 : Int32)) 144 ∧ (post ((upd u10.1 (a0 + (0 : Int32)).toNatClampNeg ((u10.1 (a0 + (0 : Int32)).toNatClampNeg) + (1 : Int32))), u10.2.1, u10.2.2.1, u10.2.2.2.1, u10.2.2.2.2.1, u10.2.2.2.2.2.1, u10.2.2.2.2.2.2.1, u10.2.2.2.2.2.2.2.1, u10.2.2.2.2.2.2.2.2.1, u10.2.2.2.2.2.2.2.2.2.1, u10.2.2.2.2.2.2.2.2.2.2.1, u10.2.2.2.2.2.2.2.2.2.2.2.1, u10.2.2.2.2.2.2.2.2.2.2.2.2.1, u10.2.2.2.2.2.2.2.2.2.2.2.2.2.1, u10.2.2.2.2.2.2.2.2.2.2.2.2.2.2.1, u10.2.2.2.2.2.2.2.2.2.2.2.2.2.2.2.1, u10.2.2.2.2.2.2.2.2.2.2.2.2.2.2.2.2))) := by rw [hK105] at h; exact h
      refine v_aload_n X dX7_passes_156 rfl (lv_at hl 0 rfl) ?_
      refine v_get (v := .ref (o 1)) X hH.1 0 rfl fk_X7_7 rfl dX7_passes_157 ?_
      refine v_iload_n X dX7_passes_160 rfl (lv_at hl 1 rfl) ?_
      refine v_iconst (v := (0 : Int32)) X dX7_passes_161 (by decide) ?_
      refine v_iadd X dX7_passes_162 ?_
      refine v_dup2_11 X dX7_passes_163 rfl rfl ?_
      have hin := h.1
      have h := h.2
      refine v_iald (f := u10.1) X hH.1 1 0 rfl rfl hin dX7_passes_164 ?_
      refine v_iconst (v := (1 : Int32)) X dX7_passes_165 (by decide) ?_
      refine v_iadd X dX7_passes_166 ?_
      have hin := h.1
      have h := h.2
      refine v_iast (f := u10.1) X hH 1 0 rfl rfl hin dX7_passes_167 (fun H locs hH => ?_)
      have hH : HH F D A (CX7 K o ((upd u10.1 (a0 + (0 : Int32)).toNatClampNeg ((u10.1 (a0 + (0 : Int32)).toNatClampNeg) + (1 : Int32))), u10.2.1, u10.2.2.1, u10.2.2.2.1, u10.2.2.2.2.1, u10.2.2.2.2.2.1, u10.2.2.2.2.2.2.1, u10.2.2.2.2.2.2.2.1, u10.2.2.2.2.2.2.2.2.1, u10.2.2.2.2.2.2.2.2.2.1, u10.2.2.2.2.2.2.2.2.2.2.1, u10.2.2.2.2.2.2.2.2.2.2.2.1, u10.2.2.2.2.2.2.2.2.2.2.2.2.1, u10.2.2.2.2.2.2.2.2.2.2.2.2.2.1, u10.2.2.2.2.2.2.2.2.2.2.2.2.2.2.1, u10.2.2.2.2.2.2.2.2.2.2.2.2.2.2.2.1, u10.2.2.2.2.2.2.2.2.2.2.2.2.2.2.2.2)) H locs := hH
      exact v_wvret X hF ((upd u10.1 (a0 + (0 : Int32)).toNatClampNeg ((u10.1 (a0 + (0 : Int32)).toNatClampNeg) + (1 : Int32))), u10.2.1, u10.2.2.1, u10.2.2.2.1, u10.2.2.2.2.1, u10.2.2.2.2.2.1, u10.2.2.2.2.2.2.1, u10.2.2.2.2.2.2.2.1, u10.2.2.2.2.2.2.2.2.1, u10.2.2.2.2.2.2.2.2.2.1, u10.2.2.2.2.2.2.2.2.2.2.1, u10.2.2.2.2.2.2.2.2.2.2.2.1, u10.2.2.2.2.2.2.2.2.2.2.2.2.1, u10.2.2.2.2.2.2.2.2.2.2.2.2.2.1, u10.2.2.2.2.2.2.2.2.2.2.2.2.2.2.1, u10.2.2.2.2.2.2.2.2.2.2.2.2.2.2.2.1, u10.2.2.2.2.2.2.2.2.2.2.2.2.2.2.2.2) hH h dX7_passes_168
    have lp105 : ∀ (n105 : Nat) (x6 : Int32) (u7 : BX7) (ls : Array Slot) (H : Heap) (locs : List Loc), wL_X7_passes_105 a0 a1 post Kx105 n105 x6 u7 → lv_has ls 7 [(0, .ref (o 0)), (1, .int a0), (2, .int a1), (3, .int x6)] → HH F D A (CX7 K o u7) H locs → V F (WQV F D (TY K) A (fun z : BX7 => CX7 K o z) (fun z : BX7 => post z)) H locs 105 ls [] := by
      intro n105
      induction n105 with
      | zero => intro x6 u7 ls H locs h hl hH; exact h.elim
      | succ n105 ih105 =>
        intro x6 u7 ls H locs h hl hH
        refine v_iload_n X dX7_passes_105 rfl (lv_at hl 3 rfl) ?_
        refine v_aload_n X dX7_passes_106 rfl (lv_at hl 0 rfl) ?_
        refine v_get (v := .ref (o 1)) X hH.1 0 rfl fk_X7_7 rfl dX7_passes_107 ?_
        refine v_iload_n X dX7_passes_110 rfl (lv_at hl 1 rfl) ?_
        refine v_bipush (v := (22 : Int32)) X dX7_passes_111 (by decide) ?_
        refine v_iadd X dX7_passes_113 ?_
        have hin := h.1
        have h := h.2
        refine v_iald (f := u7.1) X hH.1 1 0 rfl rfl hin dX7_passes_114 ?_
        refine v_icmp_ge (tgt := 156) X dX7_passes_115 (by decide) (fun c15 => ?_) (fun c15 => ?_)
        · have h := h.1 c15
          exact kx11 u7 ls H locs h (lv_sub hl [0, 1] rfl) hH
        · have h := h.2 c15
          refine v_aload_n X dX7_passes_118 rfl (lv_at hl 0 rfl) ?_
          refine v_get (v := .ref (o 1)) X hH.1 0 rfl fk_X7_7 rfl dX7_passes_119 ?_
          refine v_iload_n X dX7_passes_122 rfl (lv_at hl 1 rfl) ?_
          refine v_bipush (v := (14 : Int32)) X dX7_passes_123 (by decide) ?_
          refine v_iadd X dX7_passes_125 ?_
          refine v_iload_n X dX7_passes_126 rfl (lv_at hl 3 rfl) ?_
          refine v_iadd X dX7_passes_127 ?_
          refine v_dup2_11 X dX7_passes_128 rfl rfl ?_
          have hin := h.1
          have h := h.2
          refine v_iald (f := u7.1) X hH.1 1 0 rfl rfl hin dX7_passes_129 ?_
          refine v_iload_n X dX7_passes_130 rfl (lv_at hl 2 rfl) ?_
          refine v_iload_n X dX7_passes_131 rfl (lv_at hl 3 rfl) ?_
          refine rdS (As := [.int a1, .int x6]) (rest := [.int (u7.1 ((a0 + (14 : Int32)) + x6).toNatClampNeg), .int ((a0 + (14 : Int32)) + x6), .ref (o 1)]) X ms_X7_133 (c_X7_has F.2.1 D K t a1 x6 _ h) hF ⟨rfl, rfl, Nat.le_of_ble_eq_true rfl, Nat.le_of_ble_eq_true rfl⟩ (stW hT hH) hH.1 [] rfl hl.1 rfl rfl (Nat.le_of_ble_eq_true rfl) dX7_passes_132 (fun r12 h => ?_)
          refine v_if_eq (tgt := 142) X dX7_passes_135 (by decide) (fun c14 => ?_) (fun c14 => ?_)
          · have h := h.1 c14
            refine v_aload_n X dX7_passes_142 rfl (lv_at hl 0 rfl) ?_
            refine v_iload_n X dX7_passes_143 rfl (lv_at hl 1 rfl) ?_
            refine v_iload_n X dX7_passes_144 rfl (lv_at hl 3 rfl) ?_
            refine rdV (As := [.int a0, .int x6]) (rest := [.int (u7.1 ((a0 + (14 : Int32)) + x6).toNatClampNeg), .int ((a0 + (14 : Int32)) + x6), .ref (o 1)]) X mv_X7_136 (c_X7_lies F.2.1 D K t o u7 a0 x6 _ h) hF ⟨rfl, rfl, Nat.le_of_ble_eq_true rfl, Nat.le_of_ble_eq_true rfl⟩ (stW hT hH) hH.1 [0, 1, 2, 3, 4, 5, 6, 7, 8, 9] rfl 0 rfl rfl hl.1 rfl rfl (Nat.le_of_ble_eq_true rfl) dX7_passes_145 (fun r13 h => ?_)
            refine v_iadd X dX7_passes_148 ?_
            have hin := h.1
            have h := h.2
            refine v_iast (f := u7.1) X hH 1 0 rfl rfl hin dX7_passes_149 (fun H locs hH => ?_)
            have hH : HH F D A (CX7 K o ((upd u7.1 ((a0 + (14 : Int32)) + x6).toNatClampNeg ((u7.1 ((a0 + (14 : Int32)) + x6).toNatClampNeg) + r13)), u7.2.1, u7.2.2.1, u7.2.2.2.1, u7.2.2.2.2.1, u7.2.2.2.2.2.1, u7.2.2.2.2.2.2.1, u7.2.2.2.2.2.2.2.1, u7.2.2.2.2.2.2.2.2.1, u7.2.2.2.2.2.2.2.2.2.1, u7.2.2.2.2.2.2.2.2.2.2.1, u7.2.2.2.2.2.2.2.2.2.2.2.1, u7.2.2.2.2.2.2.2.2.2.2.2.2.1, u7.2.2.2.2.2.2.2.2.2.2.2.2.2.1, u7.2.2.2.2.2.2.2.2.2.2.2.2.2.2.1, u7.2.2.2.2.2.2.2.2.2.2.2.2.2.2.2.1, u7.2.2.2.2.2.2.2.2.2.2.2.2.2.2.2.2)) H locs := hH
            refine v_iinc (v := (x6 + (1 : Int32))) (lv' := [(3, .int (x6 + (1 : Int32))), (0, .ref (o 0)), (1, .int a0), (2, .int a1)]) X dX7_passes_150 hl (k := 3) rfl rfl (by decide) rfl (fun ls hl => ?_)
            refine v_goto (tgt := 105) X dX7_passes_153 (by decide) ?_
            exact ih105 (x6 + (1 : Int32)) ((upd u7.1 ((a0 + (14 : Int32)) + x6).toNatClampNeg ((u7.1 ((a0 + (14 : Int32)) + x6).toNatClampNeg) + r13)), u7.2.1, u7.2.2.1, u7.2.2.2.1, u7.2.2.2.2.1, u7.2.2.2.2.2.1, u7.2.2.2.2.2.2.1, u7.2.2.2.2.2.2.2.1, u7.2.2.2.2.2.2.2.2.1, u7.2.2.2.2.2.2.2.2.2.1, u7.2.2.2.2.2.2.2.2.2.2.1, u7.2.2.2.2.2.2.2.2.2.2.2.1, u7.2.2.2.2.2.2.2.2.2.2.2.2.1, u7.2.2.2.2.2.2.2.2.2.2.2.2.2.1, u7.2.2.2.2.2.2.2.2.2.2.2.2.2.2.1, u7.2.2.2.2.2.2.2.2.2.2.2.2.2.2.2.1, u7.2.2.2.2.2.2.2.2.2.2.2.2.2.2.2.2) ls H locs h (lv_sub hl [1, 2, 3, 0] rfl) hH
          · have h := h.2 c14
            refine v_iconst (v := (0 : Int32)) X dX7_passes_138 (by decide) ?_
            refine v_goto (tgt := 148) X dX7_passes_139 (by decide) ?_
            refine v_iadd X dX7_passes_148 ?_
            have hin := h.1
            have h := h.2
            refine v_iast (f := u7.1) X hH 1 0 rfl rfl hin dX7_passes_149 (fun H locs hH => ?_)
            have hH : HH F D A (CX7 K o ((upd u7.1 ((a0 + (14 : Int32)) + x6).toNatClampNeg ((u7.1 ((a0 + (14 : Int32)) + x6).toNatClampNeg) + (0 : Int32))), u7.2.1, u7.2.2.1, u7.2.2.2.1, u7.2.2.2.2.1, u7.2.2.2.2.2.1, u7.2.2.2.2.2.2.1, u7.2.2.2.2.2.2.2.1, u7.2.2.2.2.2.2.2.2.1, u7.2.2.2.2.2.2.2.2.2.1, u7.2.2.2.2.2.2.2.2.2.2.1, u7.2.2.2.2.2.2.2.2.2.2.2.1, u7.2.2.2.2.2.2.2.2.2.2.2.2.1, u7.2.2.2.2.2.2.2.2.2.2.2.2.2.1, u7.2.2.2.2.2.2.2.2.2.2.2.2.2.2.1, u7.2.2.2.2.2.2.2.2.2.2.2.2.2.2.2.1, u7.2.2.2.2.2.2.2.2.2.2.2.2.2.2.2.2)) H locs := hH
            refine v_iinc (v := (x6 + (1 : Int32))) (lv' := [(3, .int (x6 + (1 : Int32))), (0, .ref (o 0)), (1, .int a0), (2, .int a1)]) X dX7_passes_150 hl (k := 3) rfl rfl (by decide) rfl (fun ls hl => ?_)
            refine v_goto (tgt := 105) X dX7_passes_153 (by decide) ?_
            exact ih105 (x6 + (1 : Int32)) ((upd u7.1 ((a0 + (14 : Int32)) + x6).toNatClampNeg ((u7.1 ((a0 + (14 : Int32)) + x6).toNatClampNeg) + (0 : Int32))), u7.2.1, u7.2.2.1, u7.2.2.2.1, u7.2.2.2.2.1, u7.2.2.2.2.2.1, u7.2.2.2.2.2.2.1, u7.2.2.2.2.2.2.2.1, u7.2.2.2.2.2.2.2.2.1, u7.2.2.2.2.2.2.2.2.2.1, u7.2.2.2.2.2.2.2.2.2.2.1, u7.2.2.2.2.2.2.2.2.2.2.2.1, u7.2.2.2.2.2.2.2.2.2.2.2.2.1, u7.2.2.2.2.2.2.2.2.2.2.2.2.2.1, u7.2.2.2.2.2.2.2.2.2.2.2.2.2.2.1, u7.2.2.2.2.2.2.2.2.2.2.2.2.2.2.2.1, u7.2.2.2.2.2.2.2.2.2.2.2.2.2.2.2.2) ls H locs h (lv_sub hl [1, 2, 3, 0] rfl) hH
    obtain ⟨n105, h⟩ := h
    have h : wL_X7_passes_105 a0 a1 post Kx105 n105 (0 : Int32) u5 := by rw [hK105]; exact h
    exact lp105 n105 (0 : Int32) u5 ls H locs h (lv_sub hl [1, 2, 3, 0] rfl) hH
  have lp2 : ∀ (n2 : Nat) (x1 : Int32) (u2 : BX7) (ls : Array Slot) (H : Heap) (locs : List Loc), wL_X7_passes_2 a0 a1 post Kx2 n2 x1 u2 → lv_has ls 7 [(0, .ref (o 0)), (1, .int a0), (2, .int a1), (3, .int x1)] → HH F D A (CX7 K o u2) H locs → V F (WQV F D (TY K) A (fun z : BX7 => CX7 K o z) (fun z : BX7 => post z)) H locs 2 ls [] := by
    intro n2
    induction n2 with
    | zero => intro x1 u2 ls H locs h hl hH; exact h.elim
    | succ n2 ih2 =>
      intro x1 u2 ls H locs h hl hH
      refine v_iload_n X dX7_passes_2 rfl (lv_at hl 3 rfl) ?_
      refine v_aload_n X dX7_passes_3 rfl (lv_at hl 0 rfl) ?_
      refine v_get (v := .ref (o 1)) X hH.1 0 rfl fk_X7_7 rfl dX7_passes_4 ?_
      refine v_iload_n X dX7_passes_7 rfl (lv_at hl 1 rfl) ?_
      refine v_bipush (v := (21 : Int32)) X dX7_passes_8 (by decide) ?_
      refine v_iadd X dX7_passes_10 ?_
      have hin := h.1
      have h := h.2
      refine v_iald (f := u2.1) X hH.1 1 0 rfl rfl hin dX7_passes_11 ?_
      refine v_icmp_ge (tgt := 103) X dX7_passes_12 (by decide) (fun c25 => ?_) (fun c25 => ?_)
      · have h := h.1 c25
        exact kx16 u2 ls H locs h (lv_sub hl [0, 1, 2] rfl) hH
      · have h := h.2 c25
        refine v_aload_n X dX7_passes_15 rfl (lv_at hl 0 rfl) ?_
        refine v_iload_n X dX7_passes_16 rfl (lv_at hl 1 rfl) ?_
        refine v_iload_n X dX7_passes_17 rfl (lv_at hl 3 rfl) ?_
        refine v_iload_n X dX7_passes_18 rfl (lv_at hl 2 rfl) ?_
        refine rdV (As := [.int a0, .int x1, .int a1]) (rest := []) X mv_X7_139 (c_X7_lighter F.2.1 D K t o u2 a0 x1 a1 _ h) hF ⟨rfl, rfl, Nat.le_of_ble_eq_true rfl, Nat.le_of_ble_eq_true rfl⟩ (stW hT hH) hH.1 [0, 1, 2, 3, 4, 5, 6, 7, 8, 9] rfl 0 rfl rfl hl.1 rfl rfl (Nat.le_of_ble_eq_true rfl) dX7_passes_19 (fun r17 h => ?_)
        refine v_istore (lv' := [(4, .int r17), (0, .ref (o 0)), (1, .int a0), (2, .int a1), (3, .int x1)]) X dX7_passes_22 hl (by decide) rfl (fun ls hl => ?_)
        refine v_aload_n X dX7_passes_24 rfl (lv_at hl 1 rfl) ?_
        refine v_get (v := .ref (o 1)) X hH.1 0 rfl fk_X7_7 rfl dX7_passes_25 ?_
        refine v_iload_n X dX7_passes_28 rfl (lv_at hl 2 rfl) ?_
        refine v_iconst (v := (1 : Int32)) X dX7_passes_29 (by decide) ?_
        refine v_iadd X dX7_passes_30 ?_
        refine v_iload_n X dX7_passes_31 rfl (lv_at hl 4 rfl) ?_
        refine v_iadd X dX7_passes_32 ?_
        have hin := h.1
        have h := h.2
        refine v_iald (f := u2.1) X hH.1 1 0 rfl rfl hin dX7_passes_33 ?_
        refine v_topi (fun x18 ex18 => ?_)
        have h := h x18 ex18
        refine v_istore (lv' := [(5, .int x18), (4, .int r17), (0, .ref (o 0)), (1, .int a0), (2, .int a1), (3, .int x1)]) X dX7_passes_34 hl (by decide) rfl (fun ls hl => ?_)
        refine v_iload X dX7_passes_36 (lv_at hl 1 rfl) ?_
        obtain ⟨J19, hJ19⟩ : ∃ f : Int32 → Prop, f = (fun (v20 : Int32) => (0 ≤ v20 → (v20 ≤ (99 : Int32) → vp_in ((a0 + (1 : Int32)) + x1) 144 ∧ (wL_X7_passes_2 a0 a1 post Kx2 n2 (x1 + (1 : Int32)) ((upd u2.1 ((a0 + (1 : Int32)) + x1).toNatClampNeg v20), u2.2.1, u2.2.2.1, u2.2.2.2.1, u2.2.2.2.2.1, u2.2.2.2.2.2.1, u2.2.2.2.2.2.2.1, u2.2.2.2.2.2.2.2.1, u2.2.2.2.2.2.2.2.2.1, u2.2.2.2.2.2.2.2.2.2.1, u2.2.2.2.2.2.2.2.2.2.2.1, u2.2.2.2.2.2.2.2.2.2.2.2.1, u2.2.2.2.2.2.2.2.2.2.2.2.2.1, u2.2.2.2.2.2.2.2.2.2.2.2.2.2.1, u2.2.2.2.2.2.2.2.2.2.2.2.2.2.2.1, u2.2.2.2.2.2.2.2.2.2.2.2.2.2.2.2.1, u2.2.2.2.2.2.2.2.2.2.2.2.2.2.2.2.2))) ∧ (¬ v20 ≤ (99 : Int32) → vp_in ((a0 + (1 : Int32)) + x1) 144 ∧ (wL_X7_passes_2 a0 a1 post Kx2 n2 (x1 + (1 : Int32)) ((upd u2.1 ((a0 + (1 : Int32)) + x1).toNatClampNeg (99 : Int32)), u2.2.1, u2.2.2.1, u2.2.2.2.1, u2.2.2.2.2.1, u2.2.2.2.2.2.1, u2.2.2.2.2.2.2.1, u2.2.2.2.2.2.2.2.1, u2.2.2.2.2.2.2.2.2.1, u2.2.2.2.2.2.2.2.2.2.1, u2.2.2.2.2.2.2.2.2.2.2.1, u2.2.2.2.2.2.2.2.2.2.2.2.1, u2.2.2.2.2.2.2.2.2.2.2.2.2.1, u2.2.2.2.2.2.2.2.2.2.2.2.2.2.1, u2.2.2.2.2.2.2.2.2.2.2.2.2.2.2.1, u2.2.2.2.2.2.2.2.2.2.2.2.2.2.2.2.1, u2.2.2.2.2.2.2.2.2.2.2.2.2.2.2.2.2)))) ∧ (¬ 0 ≤ v20 → vp_in ((a0 + (1 : Int32)) + x1) 144 ∧ (wL_X7_passes_2 a0 a1 post Kx2 n2 (x1 + (1 : Int32)) ((upd u2.1 ((a0 + (1 : Int32)) + x1).toNatClampNeg (0 : Int32)), u2.2.1, u2.2.2.1, u2.2.2.2.1, u2.2.2.2.2.1, u2.2.2.2.2.2.1, u2.2.2.2.2.2.2.1, u2.2.2.2.2.2.2.2.1, u2.2.2.2.2.2.2.2.2.1, u2.2.2.2.2.2.2.2.2.2.1, u2.2.2.2.2.2.2.2.2.2.2.1, u2.2.2.2.2.2.2.2.2.2.2.2.1, u2.2.2.2.2.2.2.2.2.2.2.2.2.1, u2.2.2.2.2.2.2.2.2.2.2.2.2.2.1, u2.2.2.2.2.2.2.2.2.2.2.2.2.2.2.1, u2.2.2.2.2.2.2.2.2.2.2.2.2.2.2.2.1, u2.2.2.2.2.2.2.2.2.2.2.2.2.2.2.2.2)))) := ⟨_, rfl⟩
        have kJ19 : ∀ (v20 : Int32) (ls : Array Slot) (H : Heap) (locs : List Loc), (J19 v20) → lv_has ls 7 [(0, .ref (o 0)), (1, .int a0), (2, .int a1), (3, .int x1)] → HH F D A (CX7 K o u2) H locs → V F (WQV F D (TY K) A (fun z : BX7 => CX7 K o z) (fun z : BX7 => post z)) H locs 62 ls [.int v20] := by
          intro v20 ls H locs h hl hH
          have h : (0 ≤ v20 → (v20 ≤ (99 : Int32) → vp_in ((a0 + (1 : Int32)) + x1) 144 ∧ (wL_X7_passes_2 a0 a1 post Kx2 n2 (x1 + (1 : Int32)) ((upd u2.1 ((a0 + (1 : Int32)) + x1).toNatClampNeg v20), u2.2.1, u2.2.2.1, u2.2.2.2.1, u2.2.2.2.2.1, u2.2.2.2.2.2.1, u2.2.2.2.2.2.2.1, u2.2.2.2.2.2.2.2.1, u2.2.2.2.2.2.2.2.2.1, u2.2.2.2.2.2.2.2.2.2.1, u2.2.2.2.2.2.2.2.2.2.2.1, u2.2.2.2.2.2.2.2.2.2.2.2.1, u2.2.2.2.2.2.2.2.2.2.2.2.2.1, u2.2.2.2.2.2.2.2.2.2.2.2.2.2.1, u2.2.2.2.2.2.2.2.2.2.2.2.2.2.2.1, u2.2.2.2.2.2.2.2.2.2.2.2.2.2.2.2.1, u2.2.2.2.2.2.2.2.2.2.2.2.2.2.2.2.2))) ∧ (¬ v20 ≤ (99 : Int32) → vp_in ((a0 + (1 : Int32)) + x1) 144 ∧ (wL_X7_passes_2 a0 a1 post Kx2 n2 (x1 + (1 : Int32)) ((upd u2.1 ((a0 + (1 : Int32)) + x1).toNatClampNeg (99 : Int32)), u2.2.1, u2.2.2.1, u2.2.2.2.1, u2.2.2.2.2.1, u2.2.2.2.2.2.1, u2.2.2.2.2.2.2.1, u2.2.2.2.2.2.2.2.1, u2.2.2.2.2.2.2.2.2.1, u2.2.2.2.2.2.2.2.2.2.1, u2.2.2.2.2.2.2.2.2.2.2.1, u2.2.2.2.2.2.2.2.2.2.2.2.1, u2.2.2.2.2.2.2.2.2.2.2.2.2.1, u2.2.2.2.2.2.2.2.2.2.2.2.2.2.1, u2.2.2.2.2.2.2.2.2.2.2.2.2.2.2.1, u2.2.2.2.2.2.2.2.2.2.2.2.2.2.2.2.1, u2.2.2.2.2.2.2.2.2.2.2.2.2.2.2.2.2)))) ∧ (¬ 0 ≤ v20 → vp_in ((a0 + (1 : Int32)) + x1) 144 ∧ (wL_X7_passes_2 a0 a1 post Kx2 n2 (x1 + (1 : Int32)) ((upd u2.1 ((a0 + (1 : Int32)) + x1).toNatClampNeg (0 : Int32)), u2.2.1, u2.2.2.1, u2.2.2.2.1, u2.2.2.2.2.1, u2.2.2.2.2.2.1, u2.2.2.2.2.2.2.1, u2.2.2.2.2.2.2.2.1, u2.2.2.2.2.2.2.2.2.1, u2.2.2.2.2.2.2.2.2.2.1, u2.2.2.2.2.2.2.2.2.2.2.1, u2.2.2.2.2.2.2.2.2.2.2.2.1, u2.2.2.2.2.2.2.2.2.2.2.2.2.1, u2.2.2.2.2.2.2.2.2.2.2.2.2.2.1, u2.2.2.2.2.2.2.2.2.2.2.2.2.2.2.1, u2.2.2.2.2.2.2.2.2.2.2.2.2.2.2.2.1, u2.2.2.2.2.2.2.2.2.2.2.2.2.2.2.2.2))) := by rw [hJ19] at h; exact h
          refine v_istore (lv' := [(6, .int v20), (0, .ref (o 0)), (1, .int a0), (2, .int a1), (3, .int x1)]) X dX7_passes_62 hl (by decide) rfl (fun ls hl => ?_)
          refine v_aload_n X dX7_passes_64 rfl (lv_at hl 1 rfl) ?_
          refine v_get (v := .ref (o 1)) X hH.1 0 rfl fk_X7_7 rfl dX7_passes_65 ?_
          refine v_iload_n X dX7_passes_68 rfl (lv_at hl 2 rfl) ?_
          refine v_iconst (v := (1 : Int32)) X dX7_passes_69 (by decide) ?_
          refine v_iadd X dX7_passes_70 ?_
          refine v_iload_n X dX7_passes_71 rfl (lv_at hl 4 rfl) ?_
          refine v_iadd X dX7_passes_72 ?_
          refine v_iload X dX7_passes_73 (lv_at hl 0 rfl) ?_
          refine v_if_ge (tgt := 82) X dX7_passes_75 (by decide) (fun c22 => ?_) (fun c22 => ?_)
          · have h := h.1 c22
            refine v_iload X dX7_passes_82 (lv_at hl 0 rfl) ?_
            refine v_bipush (v := (99 : Int32)) X dX7_passes_84 (by decide) ?_
            refine v_icmp_le (tgt := 94) X dX7_passes_86 (by decide) (fun c21 => ?_) (fun c21 => ?_)
            · have h := h.1 c21
              refine v_iload X dX7_passes_94 (lv_at hl 0 rfl) ?_
              have hin := h.1
              have h := h.2
              refine v_iast (f := u2.1) X hH 1 0 rfl rfl hin dX7_passes_96 (fun H locs hH => ?_)
              have hH : HH F D A (CX7 K o ((upd u2.1 ((a0 + (1 : Int32)) + x1).toNatClampNeg v20), u2.2.1, u2.2.2.1, u2.2.2.2.1, u2.2.2.2.2.1, u2.2.2.2.2.2.1, u2.2.2.2.2.2.2.1, u2.2.2.2.2.2.2.2.1, u2.2.2.2.2.2.2.2.2.1, u2.2.2.2.2.2.2.2.2.2.1, u2.2.2.2.2.2.2.2.2.2.2.1, u2.2.2.2.2.2.2.2.2.2.2.2.1, u2.2.2.2.2.2.2.2.2.2.2.2.2.1, u2.2.2.2.2.2.2.2.2.2.2.2.2.2.1, u2.2.2.2.2.2.2.2.2.2.2.2.2.2.2.1, u2.2.2.2.2.2.2.2.2.2.2.2.2.2.2.2.1, u2.2.2.2.2.2.2.2.2.2.2.2.2.2.2.2.2)) H locs := hH
              refine v_iinc (v := (x1 + (1 : Int32))) (lv' := [(3, .int (x1 + (1 : Int32))), (6, .int v20), (0, .ref (o 0)), (1, .int a0), (2, .int a1)]) X dX7_passes_97 hl (k := 4) rfl rfl (by decide) rfl (fun ls hl => ?_)
              refine v_goto (tgt := 2) X dX7_passes_100 (by decide) ?_
              exact ih2 (x1 + (1 : Int32)) ((upd u2.1 ((a0 + (1 : Int32)) + x1).toNatClampNeg v20), u2.2.1, u2.2.2.1, u2.2.2.2.1, u2.2.2.2.2.1, u2.2.2.2.2.2.1, u2.2.2.2.2.2.2.1, u2.2.2.2.2.2.2.2.1, u2.2.2.2.2.2.2.2.2.1, u2.2.2.2.2.2.2.2.2.2.1, u2.2.2.2.2.2.2.2.2.2.2.1, u2.2.2.2.2.2.2.2.2.2.2.2.1, u2.2.2.2.2.2.2.2.2.2.2.2.2.1, u2.2.2.2.2.2.2.2.2.2.2.2.2.2.1, u2.2.2.2.2.2.2.2.2.2.2.2.2.2.2.1, u2.2.2.2.2.2.2.2.2.2.2.2.2.2.2.2.1, u2.2.2.2.2.2.2.2.2.2.2.2.2.2.2.2.2) ls H locs h (lv_sub hl [2, 3, 4, 0] rfl) hH
            · have h := h.2 c21
              refine v_bipush (v := (99 : Int32)) X dX7_passes_89 (by decide) ?_
              refine v_goto (tgt := 96) X dX7_passes_91 (by decide) ?_
              have hin := h.1
              have h := h.2
              refine v_iast (f := u2.1) X hH 1 0 rfl rfl hin dX7_passes_96 (fun H locs hH => ?_)
              have hH : HH F D A (CX7 K o ((upd u2.1 ((a0 + (1 : Int32)) + x1).toNatClampNeg (99 : Int32)), u2.2.1, u2.2.2.1, u2.2.2.2.1, u2.2.2.2.2.1, u2.2.2.2.2.2.1, u2.2.2.2.2.2.2.1, u2.2.2.2.2.2.2.2.1, u2.2.2.2.2.2.2.2.2.1, u2.2.2.2.2.2.2.2.2.2.1, u2.2.2.2.2.2.2.2.2.2.2.1, u2.2.2.2.2.2.2.2.2.2.2.2.1, u2.2.2.2.2.2.2.2.2.2.2.2.2.1, u2.2.2.2.2.2.2.2.2.2.2.2.2.2.1, u2.2.2.2.2.2.2.2.2.2.2.2.2.2.2.1, u2.2.2.2.2.2.2.2.2.2.2.2.2.2.2.2.1, u2.2.2.2.2.2.2.2.2.2.2.2.2.2.2.2.2)) H locs := hH
              refine v_iinc (v := (x1 + (1 : Int32))) (lv' := [(3, .int (x1 + (1 : Int32))), (6, .int v20), (0, .ref (o 0)), (1, .int a0), (2, .int a1)]) X dX7_passes_97 hl (k := 4) rfl rfl (by decide) rfl (fun ls hl => ?_)
              refine v_goto (tgt := 2) X dX7_passes_100 (by decide) ?_
              exact ih2 (x1 + (1 : Int32)) ((upd u2.1 ((a0 + (1 : Int32)) + x1).toNatClampNeg (99 : Int32)), u2.2.1, u2.2.2.1, u2.2.2.2.1, u2.2.2.2.2.1, u2.2.2.2.2.2.1, u2.2.2.2.2.2.2.1, u2.2.2.2.2.2.2.2.1, u2.2.2.2.2.2.2.2.2.1, u2.2.2.2.2.2.2.2.2.2.1, u2.2.2.2.2.2.2.2.2.2.2.1, u2.2.2.2.2.2.2.2.2.2.2.2.1, u2.2.2.2.2.2.2.2.2.2.2.2.2.1, u2.2.2.2.2.2.2.2.2.2.2.2.2.2.1, u2.2.2.2.2.2.2.2.2.2.2.2.2.2.2.1, u2.2.2.2.2.2.2.2.2.2.2.2.2.2.2.2.1, u2.2.2.2.2.2.2.2.2.2.2.2.2.2.2.2.2) ls H locs h (lv_sub hl [2, 3, 4, 0] rfl) hH
          · have h := h.2 c22
            refine v_iconst (v := (0 : Int32)) X dX7_passes_78 (by decide) ?_
            refine v_goto (tgt := 96) X dX7_passes_79 (by decide) ?_
            have hin := h.1
            have h := h.2
            refine v_iast (f := u2.1) X hH 1 0 rfl rfl hin dX7_passes_96 (fun H locs hH => ?_)
            have hH : HH F D A (CX7 K o ((upd u2.1 ((a0 + (1 : Int32)) + x1).toNatClampNeg (0 : Int32)), u2.2.1, u2.2.2.1, u2.2.2.2.1, u2.2.2.2.2.1, u2.2.2.2.2.2.1, u2.2.2.2.2.2.2.1, u2.2.2.2.2.2.2.2.1, u2.2.2.2.2.2.2.2.2.1, u2.2.2.2.2.2.2.2.2.2.1, u2.2.2.2.2.2.2.2.2.2.2.1, u2.2.2.2.2.2.2.2.2.2.2.2.1, u2.2.2.2.2.2.2.2.2.2.2.2.2.1, u2.2.2.2.2.2.2.2.2.2.2.2.2.2.1, u2.2.2.2.2.2.2.2.2.2.2.2.2.2.2.1, u2.2.2.2.2.2.2.2.2.2.2.2.2.2.2.2.1, u2.2.2.2.2.2.2.2.2.2.2.2.2.2.2.2.2)) H locs := hH
            refine v_iinc (v := (x1 + (1 : Int32))) (lv' := [(3, .int (x1 + (1 : Int32))), (6, .int v20), (0, .ref (o 0)), (1, .int a0), (2, .int a1)]) X dX7_passes_97 hl (k := 4) rfl rfl (by decide) rfl (fun ls hl => ?_)
            refine v_goto (tgt := 2) X dX7_passes_100 (by decide) ?_
            exact ih2 (x1 + (1 : Int32)) ((upd u2.1 ((a0 + (1 : Int32)) + x1).toNatClampNeg (0 : Int32)), u2.2.1, u2.2.2.1, u2.2.2.2.1, u2.2.2.2.2.1, u2.2.2.2.2.2.1, u2.2.2.2.2.2.2.1, u2.2.2.2.2.2.2.2.1, u2.2.2.2.2.2.2.2.2.1, u2.2.2.2.2.2.2.2.2.2.1, u2.2.2.2.2.2.2.2.2.2.2.1, u2.2.2.2.2.2.2.2.2.2.2.2.1, u2.2.2.2.2.2.2.2.2.2.2.2.2.1, u2.2.2.2.2.2.2.2.2.2.2.2.2.2.1, u2.2.2.2.2.2.2.2.2.2.2.2.2.2.2.1, u2.2.2.2.2.2.2.2.2.2.2.2.2.2.2.2.1, u2.2.2.2.2.2.2.2.2.2.2.2.2.2.2.2.2) ls H locs h (lv_sub hl [2, 3, 4, 0] rfl) hH
        have h : (r17 ≤ 0 → (x18 ≤ 0 → J19 (0 : Int32)) ∧ (¬ x18 ≤ 0 → J19 (x18 + (1 : Int32)))) ∧ (¬ r17 ≤ 0 → J19 (x18 - r17)) := by rw [hJ19]; exact h
        refine v_if_le (tgt := 49) X dX7_passes_38 (by decide) (fun c24 => ?_) (fun c24 => ?_)
        · have h := h.1 c24
          refine v_iload X dX7_passes_49 (lv_at hl 0 rfl) ?_
          refine v_if_le (tgt := 61) X dX7_passes_51 (by decide) (fun c23 => ?_) (fun c23 => ?_)
          · have h := h.1 c23
            refine v_iconst (v := (0 : Int32)) X dX7_passes_61 (by decide) ?_
            exact kJ19 (0 : Int32) ls H locs h (lv_sub hl [2, 3, 4, 5] rfl) hH
          · have h := h.2 c23
            refine v_iload X dX7_passes_54 (lv_at hl 0 rfl) ?_
            refine v_iconst (v := (1 : Int32)) X dX7_passes_56 (by decide) ?_
            refine v_iadd X dX7_passes_57 ?_
            refine v_goto (tgt := 62) X dX7_passes_58 (by decide) ?_
            exact kJ19 (x18 + (1 : Int32)) ls H locs h (lv_sub hl [2, 3, 4, 5] rfl) hH
        · have h := h.2 c24
          refine v_iload X dX7_passes_41 (lv_at hl 0 rfl) ?_
          refine v_iload X dX7_passes_43 (lv_at hl 1 rfl) ?_
          refine v_isub X dX7_passes_45 ?_
          refine v_goto (tgt := 62) X dX7_passes_46 (by decide) ?_
          exact kJ19 (x18 - r17) ls H locs h (lv_sub hl [2, 3, 4, 5] rfl) hH
  obtain ⟨n2, h⟩ := h
  have h : wL_X7_passes_2 a0 a1 post Kx2 n2 (0 : Int32) u := by rw [hK2]; exact h
  exact lp2 n2 (0 : Int32) u ls H locs h (lv_sub hl [1, 2, 3, 0] rfl) hH
def wL_X7_restsIn_4 (y3 : Int32) (b4 : BX7) (post : Int32 → Prop) (Kx4 : Int32 → Prop) : Nat → Int32 → Int32 → Prop
  | 0, _, _ => False
  | n4 + 1, x1, x2 => vp_in (y3 + (21 : Int32)) 144 ∧ (((b4.1 (y3 + (21 : Int32)).toNatClampNeg) ≤ x2 → Kx4 x1) ∧ (¬ (b4.1 (y3 + (21 : Int32)).toNatClampNeg) ≤ x2 → vp_in ((y3 + (1 : Int32)) + x2) 144 ∧ (vp_in (y3 + (19 : Int32)) 144 ∧ (((b4.1 (y3 + (19 : Int32)).toNatClampNeg) < (b4.1 ((y3 + (1 : Int32)) + x2).toNatClampNeg) → ∀ x7 : Int32, x7 = (x1 ||| (0 : Int32)) → wL_X7_restsIn_4 y3 b4 post Kx4 n4 x7 (x2 + (1 : Int32))) ∧ (¬ (b4.1 (y3 + (19 : Int32)).toNatClampNeg) < (b4.1 ((y3 + (1 : Int32)) + x2).toNatClampNeg) → ∀ x8 : Int32, x8 = (x1 ||| ((1 : Int32) <<< (x2 &&& 31))) → wL_X7_restsIn_4 y3 b4 post Kx4 n4 x8 (x2 + (1 : Int32)))))))
def w_X7_restsIn (u : BX7) (a0 : Int32) (post : Int32 → Prop) : Prop := ∃ n4, wL_X7_restsIn_4 a0 u post (fun (x5 : Int32) => post x5) n4 (0 : Int32) (0 : Int32)
set_option maxHeartbeats 4000000 in
set_option maxRecDepth 100000 in
theorem c_X7_restsIn (l : Launch) (D : va_G) (K : Nat → ClassId) (t : Nat → Nat) (o : Nat → Nat) (u : BX7) (a0 : Int32) (post : Int32 → Prop) (h : w_X7_restsIn u a0 post) : RdM l yX7_restsIn cX7_restsIn 4 (some .int) ({ frames := 0, cells := 0, slots := 0, locals := 0 } : Room) D (TY K) t (CX7 K o u) [.ref (o 0), .int a0] post := by
  refine RdM.mk rfl (Nat.le_of_ble_eq_true rfl) ?_
  intro F ls _ hF X hP hl hT
  have X : Cx F cX7_restsIn 4 RX7 D (TY K) := X
  have hl : lv_has ls 4 [(0, .ref (o 0)), (1, .int a0)] := hl
  unfold w_X7_restsIn at h
  refine v_iconst (v := (0 : Int32)) X dX7_restsIn_0 (by decide) ?_
  refine v_istore_n (lv' := [(2, .int (0 : Int32)), (0, .ref (o 0)), (1, .int a0)]) X dX7_restsIn_1 rfl hl (by decide) rfl (fun ls hl => ?_)
  refine v_iconst (v := (0 : Int32)) X dX7_restsIn_2 (by decide) ?_
  refine v_istore_n (lv' := [(3, .int (0 : Int32)), (2, .int (0 : Int32)), (0, .ref (o 0)), (1, .int a0)]) X dX7_restsIn_3 rfl hl (by decide) rfl (fun ls hl => ?_)
  obtain ⟨Kx4, hK4⟩ : ∃ f : Int32 → Prop, f = (fun (x5 : Int32) => post x5) := ⟨_, rfl⟩
  have kx6 : ∀ (x5 : Int32) (ls : Array Slot), (Kx4 x5) → lv_has ls 4 [(2, .int x5)] → V F (RQ F post) (fxS F).heap [] 55 ls [] := by
    intro x5 ls h hl
    have h : post x5 := by rw [hK4] at h; exact h
    refine v_iload_n X dX7_restsIn_55 rfl (lv_at hl 0 rfl) ?_
    exact v_riret X hF h dX7_restsIn_56
  have lp4 : ∀ (n4 : Nat) (x1 : Int32) (x2 : Int32) (ls : Array Slot), wL_X7_restsIn_4 a0 u post Kx4 n4 x1 x2 → lv_has ls 4 [(0, .ref (o 0)), (1, .int a0), (2, .int x1), (3, .int x2)] → V F (RQ F post) (fxS F).heap [] 4 ls [] := by
    intro n4
    induction n4 with
    | zero => intro x1 x2 ls h hl; exact h.elim
    | succ n4 ih4 =>
      intro x1 x2 ls h hl
      refine v_iload_n X dX7_restsIn_4 rfl (lv_at hl 3 rfl) ?_
      refine v_aload_n X dX7_restsIn_5 rfl (lv_at hl 0 rfl) ?_
      refine v_get (v := .ref (o 1)) X hP 0 rfl fk_X7_7 rfl dX7_restsIn_6 ?_
      refine v_iload_n X dX7_restsIn_9 rfl (lv_at hl 1 rfl) ?_
      refine v_bipush (v := (21 : Int32)) X dX7_restsIn_10 (by decide) ?_
      refine v_iadd X dX7_restsIn_12 ?_
      have hin := h.1
      have h := h.2
      refine v_iald (f := u.1) X hP 1 0 rfl rfl hin dX7_restsIn_13 ?_
      refine v_icmp_ge (tgt := 55) X dX7_restsIn_14 (by decide) (fun c10 => ?_) (fun c10 => ?_)
      · have h := h.1 c10
        exact kx6 x1 ls h (lv_sub hl [2] rfl)
      · have h := h.2 c10
        refine v_iload_n X dX7_restsIn_17 rfl (lv_at hl 2 rfl) ?_
        refine v_aload_n X dX7_restsIn_18 rfl (lv_at hl 0 rfl) ?_
        refine v_get (v := .ref (o 1)) X hP 0 rfl fk_X7_7 rfl dX7_restsIn_19 ?_
        refine v_iload_n X dX7_restsIn_22 rfl (lv_at hl 1 rfl) ?_
        refine v_iconst (v := (1 : Int32)) X dX7_restsIn_23 (by decide) ?_
        refine v_iadd X dX7_restsIn_24 ?_
        refine v_iload_n X dX7_restsIn_25 rfl (lv_at hl 3 rfl) ?_
        refine v_iadd X dX7_restsIn_26 ?_
        have hin := h.1
        have h := h.2
        refine v_iald (f := u.1) X hP 1 0 rfl rfl hin dX7_restsIn_27 ?_
        refine v_aload_n X dX7_restsIn_28 rfl (lv_at hl 0 rfl) ?_
        refine v_get (v := .ref (o 1)) X hP 0 rfl fk_X7_7 rfl dX7_restsIn_29 ?_
        refine v_iload_n X dX7_restsIn_32 rfl (lv_at hl 1 rfl) ?_
        refine v_bipush (v := (19 : Int32)) X dX7_restsIn_33 (by decide) ?_
        refine v_iadd X dX7_restsIn_35 ?_
        have hin := h.1
        have h := h.2
        refine v_iald (f := u.1) X hP 1 0 rfl rfl hin dX7_restsIn_36 ?_
        refine v_icmp_gt (tgt := 46) X dX7_restsIn_37 (by decide) (fun c9 => ?_) (fun c9 => ?_)
        · have h := h.1 c9
          refine v_iconst (v := (0 : Int32)) X dX7_restsIn_46 (by decide) ?_
          refine v_ior X dX7_restsIn_47 ?_
          refine v_topi (fun x7 ex7 => ?_)
          have h := h x7 ex7
          refine v_istore_n (lv' := [(2, .int x7), (0, .ref (o 0)), (1, .int a0), (3, .int x2)]) X dX7_restsIn_48 rfl hl (by decide) rfl (fun ls hl => ?_)
          refine v_iinc (v := (x2 + (1 : Int32))) (lv' := [(3, .int (x2 + (1 : Int32))), (2, .int x7), (0, .ref (o 0)), (1, .int a0)]) X dX7_restsIn_49 hl (k := 3) rfl rfl (by decide) rfl (fun ls hl => ?_)
          refine v_goto (tgt := 4) X dX7_restsIn_52 (by decide) ?_
          exact ih4 x7 (x2 + (1 : Int32)) ls h (lv_sub hl [2, 3, 1, 0] rfl)
        · have h := h.2 c9
          refine v_iconst (v := (1 : Int32)) X dX7_restsIn_40 (by decide) ?_
          refine v_iload_n X dX7_restsIn_41 rfl (lv_at hl 3 rfl) ?_
          refine v_ishl X dX7_restsIn_42 ?_
          refine v_goto (tgt := 47) X dX7_restsIn_43 (by decide) ?_
          refine v_ior X dX7_restsIn_47 ?_
          refine v_topi (fun x8 ex8 => ?_)
          have h := h x8 ex8
          refine v_istore_n (lv' := [(2, .int x8), (0, .ref (o 0)), (1, .int a0), (3, .int x2)]) X dX7_restsIn_48 rfl hl (by decide) rfl (fun ls hl => ?_)
          refine v_iinc (v := (x2 + (1 : Int32))) (lv' := [(3, .int (x2 + (1 : Int32))), (2, .int x8), (0, .ref (o 0)), (1, .int a0)]) X dX7_restsIn_49 hl (k := 3) rfl rfl (by decide) rfl (fun ls hl => ?_)
          refine v_goto (tgt := 4) X dX7_restsIn_52 (by decide) ?_
          exact ih4 x8 (x2 + (1 : Int32)) ls h (lv_sub hl [2, 3, 1, 0] rfl)
  obtain ⟨n4, h⟩ := h
  have h : wL_X7_restsIn_4 a0 u post Kx4 n4 (0 : Int32) (0 : Int32) := by rw [hK4]; exact h
  exact lp4 n4 (0 : Int32) (0 : Int32) ls h (lv_sub hl [2, 3, 1, 0] rfl)
def wL_X7_minds_51 (post : BX7 → Prop) (Kx51 : BX7 → Prop) : Nat → Int32 → BX7 → Prop
  | 0, _, _ => False
  | n51 + 1, x3, u4 => ((18 : Int32) ≤ x3 → Kx51 u4) ∧ (¬ (18 : Int32) ≤ x3 → vp_in x3 144 ∧ (vp_in (((18 : Int32) * u4.2.2.2.1) + x3) 432 ∧ (wL_X7_minds_51 post Kx51 n51 (x3 + (1 : Int32)) (u4.1, u4.2.1, (upd u4.2.2.1 (((18 : Int32) * u4.2.2.2.1) + x3).toNatClampNeg (u4.1 x3.toNatClampNeg)), u4.2.2.2.1, u4.2.2.2.2.1, u4.2.2.2.2.2.1, u4.2.2.2.2.2.2.1, u4.2.2.2.2.2.2.2.1, u4.2.2.2.2.2.2.2.2.1, u4.2.2.2.2.2.2.2.2.2.1, u4.2.2.2.2.2.2.2.2.2.2.1, u4.2.2.2.2.2.2.2.2.2.2.2.1, u4.2.2.2.2.2.2.2.2.2.2.2.2.1, u4.2.2.2.2.2.2.2.2.2.2.2.2.2.1, u4.2.2.2.2.2.2.2.2.2.2.2.2.2.2.1, u4.2.2.2.2.2.2.2.2.2.2.2.2.2.2.2.1, u4.2.2.2.2.2.2.2.2.2.2.2.2.2.2.2.2))))
def wL_X7_minds_11 (post : BX7 → Prop) (Kx11 : BX7 → Prop) : Nat → Int32 → BX7 → Prop
  | 0, _, _ => False
  | n11 + 1, x8, u9 => ((414 : Int32) ≤ x8 → Kx11 u9) ∧ (¬ (414 : Int32) ≤ x8 → vp_in (x8 + (18 : Int32)) 432 ∧ (vp_in x8 432 ∧ (wL_X7_minds_11 post Kx11 n11 (x8 + (1 : Int32)) (u9.1, u9.2.1, (upd u9.2.2.1 x8.toNatClampNeg (u9.2.2.1 (x8 + (18 : Int32)).toNatClampNeg)), u9.2.2.2.1, u9.2.2.2.2.1, u9.2.2.2.2.2.1, u9.2.2.2.2.2.2.1, u9.2.2.2.2.2.2.2.1, u9.2.2.2.2.2.2.2.2.1, u9.2.2.2.2.2.2.2.2.2.1, u9.2.2.2.2.2.2.2.2.2.2.1, u9.2.2.2.2.2.2.2.2.2.2.2.1, u9.2.2.2.2.2.2.2.2.2.2.2.2.1, u9.2.2.2.2.2.2.2.2.2.2.2.2.2.1, u9.2.2.2.2.2.2.2.2.2.2.2.2.2.2.1, u9.2.2.2.2.2.2.2.2.2.2.2.2.2.2.2.1, u9.2.2.2.2.2.2.2.2.2.2.2.2.2.2.2.2))))
def w_X7_minds (u : BX7) (post : BX7 → Prop) : Prop := wpJ (T := BX7 → Prop) (fun (u2 : BX7) => ∃ n51, wL_X7_minds_51  post (fun (u5 : BX7) => post (u5.1, u5.2.1, u5.2.2.1, (u5.2.2.2.1 + (1 : Int32)), u5.2.2.2.2.1, u5.2.2.2.2.2.1, u5.2.2.2.2.2.2.1, u5.2.2.2.2.2.2.2.1, u5.2.2.2.2.2.2.2.2.1, u5.2.2.2.2.2.2.2.2.2.1, u5.2.2.2.2.2.2.2.2.2.2.1, u5.2.2.2.2.2.2.2.2.2.2.2.1, u5.2.2.2.2.2.2.2.2.2.2.2.2.1, u5.2.2.2.2.2.2.2.2.2.2.2.2.2.1, u5.2.2.2.2.2.2.2.2.2.2.2.2.2.2.1, u5.2.2.2.2.2.2.2.2.2.2.2.2.2.2.2.1, u5.2.2.2.2.2.2.2.2.2.2.2.2.2.2.2.2)) n51 (0 : Int32) u2) (fun J1 => (u.2.2.2.1 = (24 : Int32) → ∃ n11, wL_X7_minds_11  post (fun (u10 : BX7) => J1 (u10.1, u10.2.1, u10.2.2.1, (u10.2.2.2.1 - (1 : Int32)), u10.2.2.2.2.1, u10.2.2.2.2.2.1, u10.2.2.2.2.2.2.1, u10.2.2.2.2.2.2.2.1, u10.2.2.2.2.2.2.2.2.1, u10.2.2.2.2.2.2.2.2.2.1, u10.2.2.2.2.2.2.2.2.2.2.1, u10.2.2.2.2.2.2.2.2.2.2.2.1, u10.2.2.2.2.2.2.2.2.2.2.2.2.1, u10.2.2.2.2.2.2.2.2.2.2.2.2.2.1, u10.2.2.2.2.2.2.2.2.2.2.2.2.2.2.1, u10.2.2.2.2.2.2.2.2.2.2.2.2.2.2.2.1, u10.2.2.2.2.2.2.2.2.2.2.2.2.2.2.2.2)) n11 (0 : Int32) u) ∧ (¬ u.2.2.2.1 = (24 : Int32) → J1 u))
set_option maxHeartbeats 4000000 in
set_option maxRecDepth 100000 in
theorem c_X7_minds (l : Launch) (D : va_G) (K : Nat → ClassId) (t : Nat → Nat) (o : Nat → Nat) (u : BX7) (post : BX7 → Prop) (h : w_X7_minds u post) : WrV l yX7_minds cX7_minds 2 ({ frames := 0, cells := 0, slots := 0, locals := 0 } : Room) D (TY K) t (CX7 K o u) [.ref (o 0)] (fun z : BX7 => CX7 K o z) (fun z : BX7 => post z) := by
  refine WrV.mk rfl (Nat.le_of_ble_eq_true rfl) ?_
  intro F ls A _ hF X hH hA hl hT
  obtain ⟨H, hH0⟩ : ∃ z : Heap, z = (fxS F).heap := ⟨_, rfl⟩
  obtain ⟨locs, hL0⟩ : ∃ z : List Loc, z = [] := ⟨_, rfl⟩
  have hH : HH F D A (CX7 K o u) H locs := by rw [hH0, hL0]; exact hH
  suffices goal : V F (WQV F D (TY K) A (fun z : BX7 => CX7 K o z) (fun z : BX7 => post z)) H locs 0 ls [] by rw [hH0, hL0] at goal; exact goal
  clear hH0 hL0
  have X : Cx F cX7_minds 2 RX7 D (TY K) := X
  have hl : lv_has ls 2 [(0, .ref (o 0))] := hl
  unfold w_X7_minds at h
  refine v_aload_n X dX7_minds_0 rfl (lv_at hl 0 rfl) ?_
  refine v_get (v := .int u.2.2.2.1) X hH.1 0 rfl fk_X7_123 rfl dX7_minds_1 ?_
  refine v_bipush (v := (24 : Int32)) X dX7_minds_4 (by decide) ?_
  obtain ⟨J1, hJ1⟩ : ∃ f : BX7 → Prop, f = (fun (u2 : BX7) => ∃ n51, wL_X7_minds_51  post (fun (u5 : BX7) => post (u5.1, u5.2.1, u5.2.2.1, (u5.2.2.2.1 + (1 : Int32)), u5.2.2.2.2.1, u5.2.2.2.2.2.1, u5.2.2.2.2.2.2.1, u5.2.2.2.2.2.2.2.1, u5.2.2.2.2.2.2.2.2.1, u5.2.2.2.2.2.2.2.2.2.1, u5.2.2.2.2.2.2.2.2.2.2.1, u5.2.2.2.2.2.2.2.2.2.2.2.1, u5.2.2.2.2.2.2.2.2.2.2.2.2.1, u5.2.2.2.2.2.2.2.2.2.2.2.2.2.1, u5.2.2.2.2.2.2.2.2.2.2.2.2.2.2.1, u5.2.2.2.2.2.2.2.2.2.2.2.2.2.2.2.1, u5.2.2.2.2.2.2.2.2.2.2.2.2.2.2.2.2)) n51 (0 : Int32) u2) := ⟨_, rfl⟩
  have kJ1 : ∀ (u2 : BX7) (ls : Array Slot) (H : Heap) (locs : List Loc), (J1 u2) → lv_has ls 2 [(0, .ref (o 0))] → HH F D A (CX7 K o u2) H locs → V F (WQV F D (TY K) A (fun z : BX7 => CX7 K o z) (fun z : BX7 => post z)) H locs 49 ls [] := by
    intro u2 ls H locs h hl hH
    have h : ∃ n51, wL_X7_minds_51  post (fun (u5 : BX7) => post (u5.1, u5.2.1, u5.2.2.1, (u5.2.2.2.1 + (1 : Int32)), u5.2.2.2.2.1, u5.2.2.2.2.2.1, u5.2.2.2.2.2.2.1, u5.2.2.2.2.2.2.2.1, u5.2.2.2.2.2.2.2.2.1, u5.2.2.2.2.2.2.2.2.2.1, u5.2.2.2.2.2.2.2.2.2.2.1, u5.2.2.2.2.2.2.2.2.2.2.2.1, u5.2.2.2.2.2.2.2.2.2.2.2.2.1, u5.2.2.2.2.2.2.2.2.2.2.2.2.2.1, u5.2.2.2.2.2.2.2.2.2.2.2.2.2.2.1, u5.2.2.2.2.2.2.2.2.2.2.2.2.2.2.2.1, u5.2.2.2.2.2.2.2.2.2.2.2.2.2.2.2.2)) n51 (0 : Int32) u2 := by rw [hJ1] at h; exact h
    refine v_iconst (v := (0 : Int32)) X dX7_minds_49 (by decide) ?_
    refine v_istore_n (lv' := [(1, .int (0 : Int32)), (0, .ref (o 0))]) X dX7_minds_50 rfl hl (by decide) rfl (fun ls hl => ?_)
    obtain ⟨Kx51, hK51⟩ : ∃ f : BX7 → Prop, f = (fun (u5 : BX7) => post (u5.1, u5.2.1, u5.2.2.1, (u5.2.2.2.1 + (1 : Int32)), u5.2.2.2.2.1, u5.2.2.2.2.2.1, u5.2.2.2.2.2.2.1, u5.2.2.2.2.2.2.2.1, u5.2.2.2.2.2.2.2.2.1, u5.2.2.2.2.2.2.2.2.2.1, u5.2.2.2.2.2.2.2.2.2.2.1, u5.2.2.2.2.2.2.2.2.2.2.2.1, u5.2.2.2.2.2.2.2.2.2.2.2.2.1, u5.2.2.2.2.2.2.2.2.2.2.2.2.2.1, u5.2.2.2.2.2.2.2.2.2.2.2.2.2.2.1, u5.2.2.2.2.2.2.2.2.2.2.2.2.2.2.2.1, u5.2.2.2.2.2.2.2.2.2.2.2.2.2.2.2.2)) := ⟨_, rfl⟩
    have kx6 : ∀ (u5 : BX7) (ls : Array Slot) (H : Heap) (locs : List Loc), (Kx51 u5) → lv_has ls 2 [(0, .ref (o 0))] → HH F D A (CX7 K o u5) H locs → V F (WQV F D (TY K) A (fun z : BX7 => CX7 K o z) (fun z : BX7 => post z)) H locs 83 ls [] := by
      intro u5 ls H locs h hl hH
      have h : post (u5.1, u5.2.1, u5.2.2.1, (u5.2.2.2.1 + (1 : Int32)), u5.2.2.2.2.1, u5.2.2.2.2.2.1, u5.2.2.2.2.2.2.1, u5.2.2.2.2.2.2.2.1, u5.2.2.2.2.2.2.2.2.1, u5.2.2.2.2.2.2.2.2.2.1, u5.2.2.2.2.2.2.2.2.2.2.1, u5.2.2.2.2.2.2.2.2.2.2.2.1, u5.2.2.2.2.2.2.2.2.2.2.2.2.1, u5.2.2.2.2.2.2.2.2.2.2.2.2.2.1, u5.2.2.2.2.2.2.2.2.2.2.2.2.2.2.1, u5.2.2.2.2.2.2.2.2.2.2.2.2.2.2.2.1, u5.2.2.2.2.2.2.2.2.2.2.2.2.2.2.2.2) := by rw [hK51] at h; exact h
      refine v_aload_n X dX7_minds_83 rfl (lv_at hl 0 rfl) ?_
      refine v_dup X dX7_minds_84 rfl ?_
      refine v_get (v := .int u5.2.2.2.1) X hH.1 0 rfl fk_X7_123 rfl dX7_minds_85 ?_
      refine v_iconst (v := (1 : Int32)) X dX7_minds_88 (by decide) ?_
      refine v_iadd X dX7_minds_89 ?_
      refine v_put X hH 0 rfl fi_X7_123 (Nat.le_of_ble_eq_true rfl) dX7_minds_90 (fun H locs hH => ?_)
      have hH : HH F D A (CX7 K o (u5.1, u5.2.1, u5.2.2.1, (u5.2.2.2.1 + (1 : Int32)), u5.2.2.2.2.1, u5.2.2.2.2.2.1, u5.2.2.2.2.2.2.1, u5.2.2.2.2.2.2.2.1, u5.2.2.2.2.2.2.2.2.1, u5.2.2.2.2.2.2.2.2.2.1, u5.2.2.2.2.2.2.2.2.2.2.1, u5.2.2.2.2.2.2.2.2.2.2.2.1, u5.2.2.2.2.2.2.2.2.2.2.2.2.1, u5.2.2.2.2.2.2.2.2.2.2.2.2.2.1, u5.2.2.2.2.2.2.2.2.2.2.2.2.2.2.1, u5.2.2.2.2.2.2.2.2.2.2.2.2.2.2.2.1, u5.2.2.2.2.2.2.2.2.2.2.2.2.2.2.2.2)) H locs := hH
      exact v_wvret X hF (u5.1, u5.2.1, u5.2.2.1, (u5.2.2.2.1 + (1 : Int32)), u5.2.2.2.2.1, u5.2.2.2.2.2.1, u5.2.2.2.2.2.2.1, u5.2.2.2.2.2.2.2.1, u5.2.2.2.2.2.2.2.2.1, u5.2.2.2.2.2.2.2.2.2.1, u5.2.2.2.2.2.2.2.2.2.2.1, u5.2.2.2.2.2.2.2.2.2.2.2.1, u5.2.2.2.2.2.2.2.2.2.2.2.2.1, u5.2.2.2.2.2.2.2.2.2.2.2.2.2.1, u5.2.2.2.2.2.2.2.2.2.2.2.2.2.2.1, u5.2.2.2.2.2.2.2.2.2.2.2.2.2.2.2.1, u5.2.2.2.2.2.2.2.2.2.2.2.2.2.2.2.2) hH h dX7_minds_93
    have lp51 : ∀ (n51 : Nat) (x3 : Int32) (u4 : BX7) (ls : Array Slot) (H : Heap) (locs : List Loc), wL_X7_minds_51  post Kx51 n51 x3 u4 → lv_has ls 2 [(0, .ref (o 0)), (1, .int x3)] → HH F D A (CX7 K o u4) H locs → V F (WQV F D (TY K) A (fun z : BX7 => CX7 K o z) (fun z : BX7 => post z)) H locs 51 ls [] := by
      intro n51
      induction n51 with
      | zero => intro x3 u4 ls H locs h hl hH; exact h.elim
      | succ n51 ih51 =>
        intro x3 u4 ls H locs h hl hH
        refine v_iload_n X dX7_minds_51 rfl (lv_at hl 1 rfl) ?_
        refine v_bipush (v := (18 : Int32)) X dX7_minds_52 (by decide) ?_
        refine v_icmp_ge (tgt := 83) X dX7_minds_54 (by decide) (fun c7 => ?_) (fun c7 => ?_)
        · have h := h.1 c7
          exact kx6 u4 ls H locs h (lv_sub hl [0] rfl) hH
        · have h := h.2 c7
          refine v_aload_n X dX7_minds_57 rfl (lv_at hl 0 rfl) ?_
          refine v_get (v := .ref (o 3)) X hH.1 0 rfl fk_X7_17 rfl dX7_minds_58 ?_
          refine v_bipush (v := (18 : Int32)) X dX7_minds_61 (by decide) ?_
          refine v_aload_n X dX7_minds_63 rfl (lv_at hl 0 rfl) ?_
          refine v_get (v := .int u4.2.2.2.1) X hH.1 0 rfl fk_X7_123 rfl dX7_minds_64 ?_
          refine v_imul X dX7_minds_67 ?_
          refine v_iload_n X dX7_minds_68 rfl (lv_at hl 1 rfl) ?_
          refine v_iadd X dX7_minds_69 ?_
          refine v_aload_n X dX7_minds_70 rfl (lv_at hl 0 rfl) ?_
          refine v_get (v := .ref (o 1)) X hH.1 0 rfl fk_X7_7 rfl dX7_minds_71 ?_
          refine v_iload_n X dX7_minds_74 rfl (lv_at hl 1 rfl) ?_
          have hin := h.1
          have h := h.2
          refine v_iald (f := u4.1) X hH.1 1 0 rfl rfl hin dX7_minds_75 ?_
          have hin := h.1
          have h := h.2
          refine v_iast (f := u4.2.2.1) X hH 3 0 rfl rfl hin dX7_minds_76 (fun H locs hH => ?_)
          have hH : HH F D A (CX7 K o (u4.1, u4.2.1, (upd u4.2.2.1 (((18 : Int32) * u4.2.2.2.1) + x3).toNatClampNeg (u4.1 x3.toNatClampNeg)), u4.2.2.2.1, u4.2.2.2.2.1, u4.2.2.2.2.2.1, u4.2.2.2.2.2.2.1, u4.2.2.2.2.2.2.2.1, u4.2.2.2.2.2.2.2.2.1, u4.2.2.2.2.2.2.2.2.2.1, u4.2.2.2.2.2.2.2.2.2.2.1, u4.2.2.2.2.2.2.2.2.2.2.2.1, u4.2.2.2.2.2.2.2.2.2.2.2.2.1, u4.2.2.2.2.2.2.2.2.2.2.2.2.2.1, u4.2.2.2.2.2.2.2.2.2.2.2.2.2.2.1, u4.2.2.2.2.2.2.2.2.2.2.2.2.2.2.2.1, u4.2.2.2.2.2.2.2.2.2.2.2.2.2.2.2.2)) H locs := hH
          refine v_iinc (v := (x3 + (1 : Int32))) (lv' := [(1, .int (x3 + (1 : Int32))), (0, .ref (o 0))]) X dX7_minds_77 hl (k := 1) rfl rfl (by decide) rfl (fun ls hl => ?_)
          refine v_goto (tgt := 51) X dX7_minds_80 (by decide) ?_
          exact ih51 (x3 + (1 : Int32)) (u4.1, u4.2.1, (upd u4.2.2.1 (((18 : Int32) * u4.2.2.2.1) + x3).toNatClampNeg (u4.1 x3.toNatClampNeg)), u4.2.2.2.1, u4.2.2.2.2.1, u4.2.2.2.2.2.1, u4.2.2.2.2.2.2.1, u4.2.2.2.2.2.2.2.1, u4.2.2.2.2.2.2.2.2.1, u4.2.2.2.2.2.2.2.2.2.1, u4.2.2.2.2.2.2.2.2.2.2.1, u4.2.2.2.2.2.2.2.2.2.2.2.1, u4.2.2.2.2.2.2.2.2.2.2.2.2.1, u4.2.2.2.2.2.2.2.2.2.2.2.2.2.1, u4.2.2.2.2.2.2.2.2.2.2.2.2.2.2.1, u4.2.2.2.2.2.2.2.2.2.2.2.2.2.2.2.1, u4.2.2.2.2.2.2.2.2.2.2.2.2.2.2.2.2) ls H locs h (lv_sub hl [1, 0] rfl) hH
    obtain ⟨n51, h⟩ := h
    have h : wL_X7_minds_51  post Kx51 n51 (0 : Int32) u2 := by rw [hK51]; exact h
    exact lp51 n51 (0 : Int32) u2 ls H locs h (lv_sub hl [1, 0] rfl) hH
  have h : (u.2.2.2.1 = (24 : Int32) → ∃ n11, wL_X7_minds_11  post (fun (u10 : BX7) => J1 (u10.1, u10.2.1, u10.2.2.1, (u10.2.2.2.1 - (1 : Int32)), u10.2.2.2.2.1, u10.2.2.2.2.2.1, u10.2.2.2.2.2.2.1, u10.2.2.2.2.2.2.2.1, u10.2.2.2.2.2.2.2.2.1, u10.2.2.2.2.2.2.2.2.2.1, u10.2.2.2.2.2.2.2.2.2.2.1, u10.2.2.2.2.2.2.2.2.2.2.2.1, u10.2.2.2.2.2.2.2.2.2.2.2.2.1, u10.2.2.2.2.2.2.2.2.2.2.2.2.2.1, u10.2.2.2.2.2.2.2.2.2.2.2.2.2.2.1, u10.2.2.2.2.2.2.2.2.2.2.2.2.2.2.2.1, u10.2.2.2.2.2.2.2.2.2.2.2.2.2.2.2.2)) n11 (0 : Int32) u) ∧ (¬ u.2.2.2.1 = (24 : Int32) → J1 u) := by rw [hJ1]; exact h
  refine v_icmp_ne (tgt := 49) X dX7_minds_6 (by decide) (fun c13 => ?_) (fun c13 => ?_)
  · have h := h.2 c13
    exact kJ1 u ls H locs h (lv_sub hl [0] rfl) hH
  · have h := h.1 c13
    refine v_iconst (v := (0 : Int32)) X dX7_minds_9 (by decide) ?_
    refine v_istore_n (lv' := [(1, .int (0 : Int32)), (0, .ref (o 0))]) X dX7_minds_10 rfl hl (by decide) rfl (fun ls hl => ?_)
    obtain ⟨Kx11, hK11⟩ : ∃ f : BX7 → Prop, f = (fun (u10 : BX7) => J1 (u10.1, u10.2.1, u10.2.2.1, (u10.2.2.2.1 - (1 : Int32)), u10.2.2.2.2.1, u10.2.2.2.2.2.1, u10.2.2.2.2.2.2.1, u10.2.2.2.2.2.2.2.1, u10.2.2.2.2.2.2.2.2.1, u10.2.2.2.2.2.2.2.2.2.1, u10.2.2.2.2.2.2.2.2.2.2.1, u10.2.2.2.2.2.2.2.2.2.2.2.1, u10.2.2.2.2.2.2.2.2.2.2.2.2.1, u10.2.2.2.2.2.2.2.2.2.2.2.2.2.1, u10.2.2.2.2.2.2.2.2.2.2.2.2.2.2.1, u10.2.2.2.2.2.2.2.2.2.2.2.2.2.2.2.1, u10.2.2.2.2.2.2.2.2.2.2.2.2.2.2.2.2)) := ⟨_, rfl⟩
    have kx11 : ∀ (u10 : BX7) (ls : Array Slot) (H : Heap) (locs : List Loc), (Kx11 u10) → lv_has ls 2 [(0, .ref (o 0))] → HH F D A (CX7 K o u10) H locs → V F (WQV F D (TY K) A (fun z : BX7 => CX7 K o z) (fun z : BX7 => post z)) H locs 39 ls [] := by
      intro u10 ls H locs h hl hH
      have h : J1 (u10.1, u10.2.1, u10.2.2.1, (u10.2.2.2.1 - (1 : Int32)), u10.2.2.2.2.1, u10.2.2.2.2.2.1, u10.2.2.2.2.2.2.1, u10.2.2.2.2.2.2.2.1, u10.2.2.2.2.2.2.2.2.1, u10.2.2.2.2.2.2.2.2.2.1, u10.2.2.2.2.2.2.2.2.2.2.1, u10.2.2.2.2.2.2.2.2.2.2.2.1, u10.2.2.2.2.2.2.2.2.2.2.2.2.1, u10.2.2.2.2.2.2.2.2.2.2.2.2.2.1, u10.2.2.2.2.2.2.2.2.2.2.2.2.2.2.1, u10.2.2.2.2.2.2.2.2.2.2.2.2.2.2.2.1, u10.2.2.2.2.2.2.2.2.2.2.2.2.2.2.2.2) := by rw [hK11] at h; exact h
      refine v_aload_n X dX7_minds_39 rfl (lv_at hl 0 rfl) ?_
      refine v_dup X dX7_minds_40 rfl ?_
      refine v_get (v := .int u10.2.2.2.1) X hH.1 0 rfl fk_X7_123 rfl dX7_minds_41 ?_
      refine v_iconst (v := (1 : Int32)) X dX7_minds_44 (by decide) ?_
      refine v_isub X dX7_minds_45 ?_
      refine v_put X hH 0 rfl fi_X7_123 (Nat.le_of_ble_eq_true rfl) dX7_minds_46 (fun H locs hH => ?_)
      have hH : HH F D A (CX7 K o (u10.1, u10.2.1, u10.2.2.1, (u10.2.2.2.1 - (1 : Int32)), u10.2.2.2.2.1, u10.2.2.2.2.2.1, u10.2.2.2.2.2.2.1, u10.2.2.2.2.2.2.2.1, u10.2.2.2.2.2.2.2.2.1, u10.2.2.2.2.2.2.2.2.2.1, u10.2.2.2.2.2.2.2.2.2.2.1, u10.2.2.2.2.2.2.2.2.2.2.2.1, u10.2.2.2.2.2.2.2.2.2.2.2.2.1, u10.2.2.2.2.2.2.2.2.2.2.2.2.2.1, u10.2.2.2.2.2.2.2.2.2.2.2.2.2.2.1, u10.2.2.2.2.2.2.2.2.2.2.2.2.2.2.2.1, u10.2.2.2.2.2.2.2.2.2.2.2.2.2.2.2.2)) H locs := hH
      exact kJ1 (u10.1, u10.2.1, u10.2.2.1, (u10.2.2.2.1 - (1 : Int32)), u10.2.2.2.2.1, u10.2.2.2.2.2.1, u10.2.2.2.2.2.2.1, u10.2.2.2.2.2.2.2.1, u10.2.2.2.2.2.2.2.2.1, u10.2.2.2.2.2.2.2.2.2.1, u10.2.2.2.2.2.2.2.2.2.2.1, u10.2.2.2.2.2.2.2.2.2.2.2.1, u10.2.2.2.2.2.2.2.2.2.2.2.2.1, u10.2.2.2.2.2.2.2.2.2.2.2.2.2.1, u10.2.2.2.2.2.2.2.2.2.2.2.2.2.2.1, u10.2.2.2.2.2.2.2.2.2.2.2.2.2.2.2.1, u10.2.2.2.2.2.2.2.2.2.2.2.2.2.2.2.2) ls H locs h (lv_sub hl [0] rfl) hH
    have lp11 : ∀ (n11 : Nat) (x8 : Int32) (u9 : BX7) (ls : Array Slot) (H : Heap) (locs : List Loc), wL_X7_minds_11  post Kx11 n11 x8 u9 → lv_has ls 2 [(0, .ref (o 0)), (1, .int x8)] → HH F D A (CX7 K o u9) H locs → V F (WQV F D (TY K) A (fun z : BX7 => CX7 K o z) (fun z : BX7 => post z)) H locs 11 ls [] := by
      intro n11
      induction n11 with
      | zero => intro x8 u9 ls H locs h hl hH; exact h.elim
      | succ n11 ih11 =>
        intro x8 u9 ls H locs h hl hH
        refine v_iload_n X dX7_minds_11 rfl (lv_at hl 1 rfl) ?_
        refine v_sipush (v := (414 : Int32)) X dX7_minds_12 (by decide) ?_
        refine v_icmp_ge (tgt := 39) X dX7_minds_15 (by decide) (fun c12 => ?_) (fun c12 => ?_)
        · have h := h.1 c12
          exact kx11 u9 ls H locs h (lv_sub hl [0] rfl) hH
        · have h := h.2 c12
          refine v_aload_n X dX7_minds_18 rfl (lv_at hl 0 rfl) ?_
          refine v_get (v := .ref (o 3)) X hH.1 0 rfl fk_X7_17 rfl dX7_minds_19 ?_
          refine v_iload_n X dX7_minds_22 rfl (lv_at hl 1 rfl) ?_
          refine v_aload_n X dX7_minds_23 rfl (lv_at hl 0 rfl) ?_
          refine v_get (v := .ref (o 3)) X hH.1 0 rfl fk_X7_17 rfl dX7_minds_24 ?_
          refine v_iload_n X dX7_minds_27 rfl (lv_at hl 1 rfl) ?_
          refine v_bipush (v := (18 : Int32)) X dX7_minds_28 (by decide) ?_
          refine v_iadd X dX7_minds_30 ?_
          have hin := h.1
          have h := h.2
          refine v_iald (f := u9.2.2.1) X hH.1 3 0 rfl rfl hin dX7_minds_31 ?_
          have hin := h.1
          have h := h.2
          refine v_iast (f := u9.2.2.1) X hH 3 0 rfl rfl hin dX7_minds_32 (fun H locs hH => ?_)
          have hH : HH F D A (CX7 K o (u9.1, u9.2.1, (upd u9.2.2.1 x8.toNatClampNeg (u9.2.2.1 (x8 + (18 : Int32)).toNatClampNeg)), u9.2.2.2.1, u9.2.2.2.2.1, u9.2.2.2.2.2.1, u9.2.2.2.2.2.2.1, u9.2.2.2.2.2.2.2.1, u9.2.2.2.2.2.2.2.2.1, u9.2.2.2.2.2.2.2.2.2.1, u9.2.2.2.2.2.2.2.2.2.2.1, u9.2.2.2.2.2.2.2.2.2.2.2.1, u9.2.2.2.2.2.2.2.2.2.2.2.2.1, u9.2.2.2.2.2.2.2.2.2.2.2.2.2.1, u9.2.2.2.2.2.2.2.2.2.2.2.2.2.2.1, u9.2.2.2.2.2.2.2.2.2.2.2.2.2.2.2.1, u9.2.2.2.2.2.2.2.2.2.2.2.2.2.2.2.2)) H locs := hH
          refine v_iinc (v := (x8 + (1 : Int32))) (lv' := [(1, .int (x8 + (1 : Int32))), (0, .ref (o 0))]) X dX7_minds_33 hl (k := 1) rfl rfl (by decide) rfl (fun ls hl => ?_)
          refine v_goto (tgt := 11) X dX7_minds_36 (by decide) ?_
          exact ih11 (x8 + (1 : Int32)) (u9.1, u9.2.1, (upd u9.2.2.1 x8.toNatClampNeg (u9.2.2.1 (x8 + (18 : Int32)).toNatClampNeg)), u9.2.2.2.1, u9.2.2.2.2.1, u9.2.2.2.2.2.1, u9.2.2.2.2.2.2.1, u9.2.2.2.2.2.2.2.1, u9.2.2.2.2.2.2.2.2.1, u9.2.2.2.2.2.2.2.2.2.1, u9.2.2.2.2.2.2.2.2.2.2.1, u9.2.2.2.2.2.2.2.2.2.2.2.1, u9.2.2.2.2.2.2.2.2.2.2.2.2.1, u9.2.2.2.2.2.2.2.2.2.2.2.2.2.1, u9.2.2.2.2.2.2.2.2.2.2.2.2.2.2.1, u9.2.2.2.2.2.2.2.2.2.2.2.2.2.2.2.1, u9.2.2.2.2.2.2.2.2.2.2.2.2.2.2.2.2) ls H locs h (lv_sub hl [1, 0] rfl) hH
    obtain ⟨n11, h⟩ := h
    have h : wL_X7_minds_11  post Kx11 n11 (0 : Int32) u := by rw [hK11]; exact h
    exact lp11 n11 (0 : Int32) u ls H locs h (lv_sub hl [1, 0] rfl) hH
def wL_X7_nights_44 (y5 : Int32) (post : Int32 → BX7 → Prop) (Kx44 : BX7 → Prop) : Nat → Int32 → BX7 → Prop
  | 0, _, _ => False
  | n44 + 1, x3, u4 => (y5 ≤ x3 → Kx44 u4) ∧ (¬ y5 ≤ x3 → w_X7_minds u4 (fun u10 => w_X7_passes u10 (0 : Int32) (0 : Int32) (fun u12 => wL_X7_nights_44 y5 post Kx44 n44 (x3 + (1 : Int32)) u12)))
def w_X7_nights (u : BX7) (a0 : Int32) (post : Int32 → BX7 → Prop) : Prop := w_X7_isAgency u (fun r1 => (r1 = 0 → post (-1000002 : Int32) u) ∧ (¬ r1 = 0 → w_X7_in a0.toInt64 (1 : Int64) (24 : Int64) (fun r2 => (r2 = 0 → post (-1000001 : Int32) u) ∧ (¬ r2 = 0 → vp_in (0 : Int32) 144 ∧ ((((u.1 (0 : Int32).toNatClampNeg) + a0) ≤ (999 : Int32) → ∃ n44, wL_X7_nights_44 a0 post (fun (u6 : BX7) => w_X7_restsIn u6 (0 : Int32) (fun r7 => post r7 u6)) n44 (0 : Int32) u) ∧ (¬ ((u.1 (0 : Int32).toNatClampNeg) + a0) ≤ (999 : Int32) → post (-1000003 : Int32) u))))))
set_option maxHeartbeats 4000000 in
set_option maxRecDepth 100000 in
theorem c_X7_nights (l : Launch) (D : va_G) (K : Nat → ClassId) (t : Nat → Nat) (o : Nat → Nat) (u : BX7) (a0 : Int32) (post : Int32 → BX7 → Prop) (h : w_X7_nights u a0 post) : WrI l yX7_nights cX7_nights 3 (some .int) ({ frames := 4, cells := 0, slots := 0, locals := 99 } : Room) D (TY K) t (CX7 K o u) [.ref (o 0), .int a0] (fun z : BX7 => CX7 K o z) (fun (r : Int32) (z : BX7) => post r z) := by
  refine WrI.mk rfl (Nat.le_of_ble_eq_true rfl) ?_
  intro F ls A _ hF X hH hA hl hT
  obtain ⟨H, hH0⟩ : ∃ z : Heap, z = (fxS F).heap := ⟨_, rfl⟩
  obtain ⟨locs, hL0⟩ : ∃ z : List Loc, z = [] := ⟨_, rfl⟩
  have hH : HH F D A (CX7 K o u) H locs := by rw [hH0, hL0]; exact hH
  suffices goal : V F (WQI F D (TY K) A (fun z : BX7 => CX7 K o z) (fun (r : Int32) (z : BX7) => post r z)) H locs 0 ls [] by rw [hH0, hL0] at goal; exact goal
  clear hH0 hL0
  have X : Cx F cX7_nights 3 RX7 D (TY K) := X
  have hl : lv_has ls 3 [(0, .ref (o 0)), (1, .int a0)] := hl
  unfold w_X7_nights at h
  refine v_aload_n X dX7_nights_0 rfl (lv_at hl 0 rfl) ?_
  refine rdV (As := []) (rest := []) X mv_X7_143 (c_X7_isAgency F.2.1 D K t o u _ h) hF ⟨rfl, rfl, Nat.le_of_ble_eq_true rfl, Nat.le_of_ble_eq_true rfl⟩ (stW hT hH) hH.1 [0, 1, 2, 3, 4, 5, 6, 7, 8, 9] rfl 0 rfl rfl hl.1 rfl rfl (Nat.le_of_ble_eq_true rfl) dX7_nights_1 (fun r1 h => ?_)
  refine v_if_ne (tgt := 10) X dX7_nights_4 (by decide) (fun c16 => ?_) (fun c16 => ?_)
  · have h := h.2 c16
    refine v_iload_n X dX7_nights_10 rfl (lv_at hl 1 rfl) ?_
    refine v_i2l X dX7_nights_11 rfl ?_
    refine v_lconst (v := (1 : Int64)) X dX7_nights_12 (by decide) ?_
    refine v_ldc2 X kc_X7_147 dX7_nights_13 ?_
    refine rdS (As := [.long a0.toInt64, .long (1 : Int64), .long (24 : Int64)]) (rest := []) X ms_X7_45 (c_X7_in F.2.1 D K t a0.toInt64 (1 : Int64) (24 : Int64) _ h) hF ⟨rfl, rfl, Nat.le_of_ble_eq_true rfl, Nat.le_of_ble_eq_true rfl⟩ (stW hT hH) hH.1 [] rfl hl.1 rfl rfl (Nat.le_of_ble_eq_true rfl) dX7_nights_16 (fun r2 h => ?_)
    refine v_if_ne (tgt := 25) X dX7_nights_19 (by decide) (fun c15 => ?_) (fun c15 => ?_)
    · have h := h.2 c15
      refine v_aload_n X dX7_nights_25 rfl (lv_at hl 0 rfl) ?_
      refine v_get (v := .ref (o 1)) X hH.1 0 rfl fk_X7_7 rfl dX7_nights_26 ?_
      refine v_iconst (v := (0 : Int32)) X dX7_nights_29 (by decide) ?_
      have hin := h.1
      have h := h.2
      refine v_iald (f := u.1) X hH.1 1 0 rfl rfl hin dX7_nights_30 ?_
      refine v_iload_n X dX7_nights_31 rfl (lv_at hl 1 rfl) ?_
      refine v_iadd X dX7_nights_32 ?_
      refine v_sipush (v := (999 : Int32)) X dX7_nights_33 (by decide) ?_
      refine v_icmp_le (tgt := 42) X dX7_nights_36 (by decide) (fun c14 => ?_) (fun c14 => ?_)
      · have h := h.1 c14
        refine v_iconst (v := (0 : Int32)) X dX7_nights_42 (by decide) ?_
        refine v_istore_n (lv' := [(2, .int (0 : Int32)), (0, .ref (o 0)), (1, .int a0)]) X dX7_nights_43 rfl hl (by decide) rfl (fun ls hl => ?_)
        obtain ⟨Kx44, hK44⟩ : ∃ f : BX7 → Prop, f = (fun (u6 : BX7) => w_X7_restsIn u6 (0 : Int32) (fun r7 => post r7 u6)) := ⟨_, rfl⟩
        have kx8 : ∀ (u6 : BX7) (ls : Array Slot) (H : Heap) (locs : List Loc), (Kx44 u6) → lv_has ls 3 [(0, .ref (o 0))] → HH F D A (CX7 K o u6) H locs → V F (WQI F D (TY K) A (fun z : BX7 => CX7 K o z) (fun (r : Int32) (z : BX7) => post r z)) H locs 65 ls [] := by
          intro u6 ls H locs h hl hH
          have h : w_X7_restsIn u6 (0 : Int32) (fun r7 => post r7 u6) := by rw [hK44] at h; exact h
          refine v_aload_n X dX7_nights_65 rfl (lv_at hl 0 rfl) ?_
          refine v_iconst (v := (0 : Int32)) X dX7_nights_66 (by decide) ?_
          refine rdV (As := [.int (0 : Int32)]) (rest := []) X mv_X7_155 (c_X7_restsIn F.2.1 D K t o u6 (0 : Int32) _ h) hF ⟨rfl, rfl, Nat.le_of_ble_eq_true rfl, Nat.le_of_ble_eq_true rfl⟩ (stW hT hH) hH.1 [0, 1, 2, 3, 4, 5, 6, 7, 8, 9] rfl 0 rfl rfl hl.1 rfl rfl (Nat.le_of_ble_eq_true rfl) dX7_nights_67 (fun r7 h => ?_)
          exact v_wiret X hF u6 hH h dX7_nights_70
        have lp44 : ∀ (n44 : Nat) (x3 : Int32) (u4 : BX7) (ls : Array Slot) (H : Heap) (locs : List Loc), wL_X7_nights_44 a0 post Kx44 n44 x3 u4 → lv_has ls 3 [(0, .ref (o 0)), (1, .int a0), (2, .int x3)] → HH F D A (CX7 K o u4) H locs → V F (WQI F D (TY K) A (fun z : BX7 => CX7 K o z) (fun (r : Int32) (z : BX7) => post r z)) H locs 44 ls [] := by
          intro n44
          induction n44 with
          | zero => intro x3 u4 ls H locs h hl hH; exact h.elim
          | succ n44 ih44 =>
            intro x3 u4 ls H locs h hl hH
            refine v_iload_n X dX7_nights_44 rfl (lv_at hl 2 rfl) ?_
            refine v_iload_n X dX7_nights_45 rfl (lv_at hl 1 rfl) ?_
            refine v_icmp_ge (tgt := 65) X dX7_nights_46 (by decide) (fun c13 => ?_) (fun c13 => ?_)
            · have h := h.1 c13
              exact kx8 u4 ls H locs h (lv_sub hl [0] rfl) hH
            · have h := h.2 c13
              refine v_aload_n X dX7_nights_49 rfl (lv_at hl 0 rfl) ?_
              refine wrVV (As := []) (rest := []) (wr := ([] : va_W)) X mv_X7_149 (c_X7_minds F.2.1 D K t o u4 _ h) hF ⟨rfl, rfl, Nat.le_of_ble_eq_true rfl, Nat.le_of_ble_eq_true rfl⟩ hT hA hH [0, 1, 2, 3, 4, 5, 6, 7, 8, 9] [] ⟨rfl, rfl, rfl, rfl, by decide⟩ 0 rfl rfl hl.1 rfl rfl (Nat.le_of_ble_eq_true rfl) dX7_nights_50 (fun u10 H locs h hH => ?_)
              have hH : HH F D A (CX7 K o u10) H locs := hH
              refine v_aload_n X dX7_nights_53 rfl (lv_at hl 0 rfl) ?_
              refine v_iconst (v := (0 : Int32)) X dX7_nights_54 (by decide) ?_
              refine v_iconst (v := (0 : Int32)) X dX7_nights_55 (by decide) ?_
              refine wrVV (As := [.int (0 : Int32), .int (0 : Int32)]) (rest := []) (wr := ([] : va_W)) X mv_X7_152 (c_X7_passes F.2.1 D K t o u10 (0 : Int32) (0 : Int32) _ h) hF ⟨rfl, rfl, Nat.le_of_ble_eq_true rfl, Nat.le_of_ble_eq_true rfl⟩ hT hA hH [0, 1, 2, 3, 4, 5, 6, 7, 8, 9] [] ⟨rfl, rfl, rfl, rfl, by decide⟩ 0 rfl rfl hl.1 rfl rfl (Nat.le_of_ble_eq_true rfl) dX7_nights_56 (fun u12 H locs h hH => ?_)
              have hH : HH F D A (CX7 K o u12) H locs := hH
              refine v_iinc (v := (x3 + (1 : Int32))) (lv' := [(2, .int (x3 + (1 : Int32))), (0, .ref (o 0)), (1, .int a0)]) X dX7_nights_59 hl (k := 2) rfl rfl (by decide) rfl (fun ls hl => ?_)
              refine v_goto (tgt := 44) X dX7_nights_62 (by decide) ?_
              exact ih44 (x3 + (1 : Int32)) u12 ls H locs h (lv_sub hl [1, 2, 0] rfl) hH
        obtain ⟨n44, h⟩ := h
        have h : wL_X7_nights_44 a0 post Kx44 n44 (0 : Int32) u := by rw [hK44]; exact h
        exact lp44 n44 (0 : Int32) u ls H locs h (lv_sub hl [1, 2, 0] rfl) hH
      · have h := h.2 c14
        refine v_ldc X kc_X7_72 dX7_nights_39 ?_
        exact v_wiret X hF u hH h dX7_nights_41
    · have h := h.1 c15
      refine v_ldc X kc_X7_55 dX7_nights_22 ?_
      exact v_wiret X hF u hH h dX7_nights_24
  · have h := h.1 c16
    refine v_ldc X kc_X7_146 dX7_nights_7 ?_
    exact v_wiret X hF u hH h dX7_nights_9
def w_X7_let (u : BX7) (a0 : Int32) (a1 : Int32) (post : Int32 → BX7 → Prop) : Prop := w_X7_isWaker u a0 (fun r1 => (r1 = 0 → post (-1000001 : Int32) u) ∧ (¬ r1 = 0 → wpJ (T := Unit → Prop) (fun (_ : Unit) => vp_in ((10 : Int32) + a0) 144 ∧ (∀ x3 : Int32, x3 = (u.1 ((10 : Int32) + a0).toNatClampNeg) → (x3 = a1 → post (-1000002 : Int32) u) ∧ (¬ x3 = a1 → w_X7_minds u (fun u5 => vp_in ((10 : Int32) + a0) 144 ∧ (post x3 ((upd u5.1 ((10 : Int32) + a0).toNatClampNeg a1), u5.2.1, u5.2.2.1, u5.2.2.2.1, u5.2.2.2.2.1, u5.2.2.2.2.2.1, u5.2.2.2.2.2.2.1, u5.2.2.2.2.2.2.2.1, u5.2.2.2.2.2.2.2.2.1, u5.2.2.2.2.2.2.2.2.2.1, u5.2.2.2.2.2.2.2.2.2.2.1, u5.2.2.2.2.2.2.2.2.2.2.2.1, u5.2.2.2.2.2.2.2.2.2.2.2.2.1, u5.2.2.2.2.2.2.2.2.2.2.2.2.2.1, u5.2.2.2.2.2.2.2.2.2.2.2.2.2.2.1, u5.2.2.2.2.2.2.2.2.2.2.2.2.2.2.2.1, u5.2.2.2.2.2.2.2.2.2.2.2.2.2.2.2.2)))))) (fun J2 => (a1 = (5 : Int32) → J2 ()) ∧ (¬ a1 = (5 : Int32) → w_X7_isClient u a1 (fun r7 => (r7 = 0 → post (-1000001 : Int32) u) ∧ (¬ r7 = 0 → J2 ()))))))
set_option maxHeartbeats 4000000 in
set_option maxRecDepth 100000 in
theorem c_X7_let (l : Launch) (D : va_G) (K : Nat → ClassId) (t : Nat → Nat) (o : Nat → Nat) (u : BX7) (a0 : Int32) (a1 : Int32) (post : Int32 → BX7 → Prop) (h : w_X7_let u a0 a1 post) : WrI l yX7_let cX7_let 4 (some .int) ({ frames := 2, cells := 0, slots := 0, locals := 46 } : Room) D (TY K) t (CX7 K o u) [.ref (o 0), .int a0, .int a1] (fun z : BX7 => CX7 K o z) (fun (r : Int32) (z : BX7) => post r z) := by
  refine WrI.mk rfl (Nat.le_of_ble_eq_true rfl) ?_
  intro F ls A _ hF X hH hA hl hT
  obtain ⟨H, hH0⟩ : ∃ z : Heap, z = (fxS F).heap := ⟨_, rfl⟩
  obtain ⟨locs, hL0⟩ : ∃ z : List Loc, z = [] := ⟨_, rfl⟩
  have hH : HH F D A (CX7 K o u) H locs := by rw [hH0, hL0]; exact hH
  suffices goal : V F (WQI F D (TY K) A (fun z : BX7 => CX7 K o z) (fun (r : Int32) (z : BX7) => post r z)) H locs 0 ls [] by rw [hH0, hL0] at goal; exact goal
  clear hH0 hL0
  have X : Cx F cX7_let 4 RX7 D (TY K) := X
  have hl : lv_has ls 4 [(0, .ref (o 0)), (1, .int a0), (2, .int a1)] := hl
  unfold w_X7_let at h
  refine v_aload_n X dX7_let_0 rfl (lv_at hl 0 rfl) ?_
  refine v_iload_n X dX7_let_1 rfl (lv_at hl 1 rfl) ?_
  refine rdV (As := [.int a0]) (rest := []) X mv_X7_158 (c_X7_isWaker F.2.1 D K t o u a0 _ h) hF ⟨rfl, rfl, Nat.le_of_ble_eq_true rfl, Nat.le_of_ble_eq_true rfl⟩ (stW hT hH) hH.1 [0, 1, 2, 3, 4, 5, 6, 7, 8, 9] rfl 0 rfl rfl hl.1 rfl rfl (Nat.le_of_ble_eq_true rfl) dX7_let_2 (fun r1 h => ?_)
  refine v_if_eq (tgt := 21) X dX7_let_5 (by decide) (fun c10 => ?_) (fun c10 => ?_)
  · have h := h.1 c10
    refine v_ldc X kc_X7_55 dX7_let_21 ?_
    exact v_wiret X hF u hH h dX7_let_23
  · have h := h.2 c10
    refine v_iload_n X dX7_let_8 rfl (lv_at hl 2 rfl) ?_
    refine v_iconst (v := (5 : Int32)) X dX7_let_9 (by decide) ?_
    obtain ⟨J2, hJ2⟩ : ∃ f : Unit → Prop, f = (fun (_ : Unit) => vp_in ((10 : Int32) + a0) 144 ∧ (∀ x3 : Int32, x3 = (u.1 ((10 : Int32) + a0).toNatClampNeg) → (x3 = a1 → post (-1000002 : Int32) u) ∧ (¬ x3 = a1 → w_X7_minds u (fun u5 => vp_in ((10 : Int32) + a0) 144 ∧ (post x3 ((upd u5.1 ((10 : Int32) + a0).toNatClampNeg a1), u5.2.1, u5.2.2.1, u5.2.2.2.1, u5.2.2.2.2.1, u5.2.2.2.2.2.1, u5.2.2.2.2.2.2.1, u5.2.2.2.2.2.2.2.1, u5.2.2.2.2.2.2.2.2.1, u5.2.2.2.2.2.2.2.2.2.1, u5.2.2.2.2.2.2.2.2.2.2.1, u5.2.2.2.2.2.2.2.2.2.2.2.1, u5.2.2.2.2.2.2.2.2.2.2.2.2.1, u5.2.2.2.2.2.2.2.2.2.2.2.2.2.1, u5.2.2.2.2.2.2.2.2.2.2.2.2.2.2.1, u5.2.2.2.2.2.2.2.2.2.2.2.2.2.2.2.1, u5.2.2.2.2.2.2.2.2.2.2.2.2.2.2.2.2)))))) := ⟨_, rfl⟩
    have kJ2 : ∀ (ls : Array Slot) (H : Heap) (locs : List Loc), (J2 ()) → lv_has ls 4 [(0, .ref (o 0)), (1, .int a0), (2, .int a1)] → HH F D A (CX7 K o u) H locs → V F (WQI F D (TY K) A (fun z : BX7 => CX7 K o z) (fun (r : Int32) (z : BX7) => post r z)) H locs 24 ls [] := by
      intro ls H locs h hl hH
      have h : vp_in ((10 : Int32) + a0) 144 ∧ (∀ x3 : Int32, x3 = (u.1 ((10 : Int32) + a0).toNatClampNeg) → (x3 = a1 → post (-1000002 : Int32) u) ∧ (¬ x3 = a1 → w_X7_minds u (fun u5 => vp_in ((10 : Int32) + a0) 144 ∧ (post x3 ((upd u5.1 ((10 : Int32) + a0).toNatClampNeg a1), u5.2.1, u5.2.2.1, u5.2.2.2.1, u5.2.2.2.2.1, u5.2.2.2.2.2.1, u5.2.2.2.2.2.2.1, u5.2.2.2.2.2.2.2.1, u5.2.2.2.2.2.2.2.2.1, u5.2.2.2.2.2.2.2.2.2.1, u5.2.2.2.2.2.2.2.2.2.2.1, u5.2.2.2.2.2.2.2.2.2.2.2.1, u5.2.2.2.2.2.2.2.2.2.2.2.2.1, u5.2.2.2.2.2.2.2.2.2.2.2.2.2.1, u5.2.2.2.2.2.2.2.2.2.2.2.2.2.2.1, u5.2.2.2.2.2.2.2.2.2.2.2.2.2.2.2.1, u5.2.2.2.2.2.2.2.2.2.2.2.2.2.2.2.2))))) := by rw [hJ2] at h; exact h
      refine v_aload_n X dX7_let_24 rfl (lv_at hl 0 rfl) ?_
      refine v_get (v := .ref (o 1)) X hH.1 0 rfl fk_X7_7 rfl dX7_let_25 ?_
      refine v_bipush (v := (10 : Int32)) X dX7_let_28 (by decide) ?_
      refine v_iload_n X dX7_let_30 rfl (lv_at hl 1 rfl) ?_
      refine v_iadd X dX7_let_31 ?_
      have hin := h.1
      have h := h.2
      refine v_iald (f := u.1) X hH.1 1 0 rfl rfl hin dX7_let_32 ?_
      refine v_topi (fun x3 ex3 => ?_)
      have h := h x3 ex3
      refine v_istore_n (lv' := [(3, .int x3), (0, .ref (o 0)), (1, .int a0), (2, .int a1)]) X dX7_let_33 rfl hl (by decide) rfl (fun ls hl => ?_)
      refine v_iload_n X dX7_let_34 rfl (lv_at hl 0 rfl) ?_
      refine v_iload_n X dX7_let_35 rfl (lv_at hl 3 rfl) ?_
      refine v_icmp_ne (tgt := 42) X dX7_let_36 (by decide) (fun c6 => ?_) (fun c6 => ?_)
      · have h := h.2 c6
        refine v_aload_n X dX7_let_42 rfl (lv_at hl 1 rfl) ?_
        refine wrVV (As := []) (rest := []) (wr := ([] : va_W)) X mv_X7_149 (c_X7_minds F.2.1 D K t o u _ h) hF ⟨rfl, rfl, Nat.le_of_ble_eq_true rfl, Nat.le_of_ble_eq_true rfl⟩ hT hA hH [0, 1, 2, 3, 4, 5, 6, 7, 8, 9] [] ⟨rfl, rfl, rfl, rfl, by decide⟩ 0 rfl rfl hl.1 rfl rfl (Nat.le_of_ble_eq_true rfl) dX7_let_43 (fun u5 H locs h hH => ?_)
        have hH : HH F D A (CX7 K o u5) H locs := hH
        refine v_aload_n X dX7_let_46 rfl (lv_at hl 1 rfl) ?_
        refine v_get (v := .ref (o 1)) X hH.1 0 rfl fk_X7_7 rfl dX7_let_47 ?_
        refine v_bipush (v := (10 : Int32)) X dX7_let_50 (by decide) ?_
        refine v_iload_n X dX7_let_52 rfl (lv_at hl 2 rfl) ?_
        refine v_iadd X dX7_let_53 ?_
        refine v_iload_n X dX7_let_54 rfl (lv_at hl 3 rfl) ?_
        have hin := h.1
        have h := h.2
        refine v_iast (f := u5.1) X hH 1 0 rfl rfl hin dX7_let_55 (fun H locs hH => ?_)
        have hH : HH F D A (CX7 K o ((upd u5.1 ((10 : Int32) + a0).toNatClampNeg a1), u5.2.1, u5.2.2.1, u5.2.2.2.1, u5.2.2.2.2.1, u5.2.2.2.2.2.1, u5.2.2.2.2.2.2.1, u5.2.2.2.2.2.2.2.1, u5.2.2.2.2.2.2.2.2.1, u5.2.2.2.2.2.2.2.2.2.1, u5.2.2.2.2.2.2.2.2.2.2.1, u5.2.2.2.2.2.2.2.2.2.2.2.1, u5.2.2.2.2.2.2.2.2.2.2.2.2.1, u5.2.2.2.2.2.2.2.2.2.2.2.2.2.1, u5.2.2.2.2.2.2.2.2.2.2.2.2.2.2.1, u5.2.2.2.2.2.2.2.2.2.2.2.2.2.2.2.1, u5.2.2.2.2.2.2.2.2.2.2.2.2.2.2.2.2)) H locs := hH
        refine v_iload_n X dX7_let_56 rfl (lv_at hl 0 rfl) ?_
        exact v_wiret X hF ((upd u5.1 ((10 : Int32) + a0).toNatClampNeg a1), u5.2.1, u5.2.2.1, u5.2.2.2.1, u5.2.2.2.2.1, u5.2.2.2.2.2.1, u5.2.2.2.2.2.2.1, u5.2.2.2.2.2.2.2.1, u5.2.2.2.2.2.2.2.2.1, u5.2.2.2.2.2.2.2.2.2.1, u5.2.2.2.2.2.2.2.2.2.2.1, u5.2.2.2.2.2.2.2.2.2.2.2.1, u5.2.2.2.2.2.2.2.2.2.2.2.2.1, u5.2.2.2.2.2.2.2.2.2.2.2.2.2.1, u5.2.2.2.2.2.2.2.2.2.2.2.2.2.2.1, u5.2.2.2.2.2.2.2.2.2.2.2.2.2.2.2.1, u5.2.2.2.2.2.2.2.2.2.2.2.2.2.2.2.2) hH h dX7_let_57
      · have h := h.1 c6
        refine v_ldc X kc_X7_146 dX7_let_39 ?_
        exact v_wiret X hF u hH h dX7_let_41
    have h : (a1 = (5 : Int32) → J2 ()) ∧ (¬ a1 = (5 : Int32) → w_X7_isClient u a1 (fun r7 => (r7 = 0 → post (-1000001 : Int32) u) ∧ (¬ r7 = 0 → J2 ()))) := by rw [hJ2]; exact h
    refine v_icmp_eq (tgt := 24) X dX7_let_10 (by decide) (fun c9 => ?_) (fun c9 => ?_)
    · have h := h.1 c9
      exact kJ2  ls H locs h (lv_sub hl [0, 1, 2] rfl) hH
    · have h := h.2 c9
      refine v_aload_n X dX7_let_13 rfl (lv_at hl 0 rfl) ?_
      refine v_iload_n X dX7_let_14 rfl (lv_at hl 2 rfl) ?_
      refine rdV (As := [.int a1]) (rest := []) X mv_X7_161 (c_X7_isClient F.2.1 D K t o u a1 _ h) hF ⟨rfl, rfl, Nat.le_of_ble_eq_true rfl, Nat.le_of_ble_eq_true rfl⟩ (stW hT hH) hH.1 [0, 1, 2, 3, 4, 5, 6, 7, 8, 9] rfl 0 rfl rfl hl.1 rfl rfl (Nat.le_of_ble_eq_true rfl) dX7_let_15 (fun r7 h => ?_)
      refine v_if_ne (tgt := 24) X dX7_let_18 (by decide) (fun c8 => ?_) (fun c8 => ?_)
      · have h := h.2 c8
        exact kJ2  ls H locs h (lv_sub hl [0, 1, 2] rfl) hH
      · have h := h.1 c8
        refine v_ldc X kc_X7_55 dX7_let_21 ?_
        exact v_wiret X hF u hH h dX7_let_23
def w_X7_grow (u : BX7) (a0 : Int32) (a1 : Int32) (post : Int32 → BX7 → Prop) : Prop := w_X7_isClient u a0 (fun r1 => (r1 = 0 → post (-1000001 : Int32) u) ∧ (¬ r1 = 0 → w_X7_in a1.toInt64 (1 : Int64) (20 : Int64) (fun r2 => (r2 = 0 → post (-1000001 : Int32) u) ∧ (¬ r2 = 0 → w_X7_minds u (fun u4 => vp_in ((1 : Int32) + a0) 144 ∧ (wpJ (T := Int32 → Prop) (fun (v6 : Int32) => vp_in ((1 : Int32) + a0) 144 ∧ (vp_in ((1 : Int32) + a0) 144 ∧ (post ((upd u4.1 ((1 : Int32) + a0).toNatClampNeg v6) ((1 : Int32) + a0).toNatClampNeg) ((upd u4.1 ((1 : Int32) + a0).toNatClampNeg v6), u4.2.1, u4.2.2.1, u4.2.2.2.1, u4.2.2.2.2.1, u4.2.2.2.2.2.1, u4.2.2.2.2.2.2.1, u4.2.2.2.2.2.2.2.1, u4.2.2.2.2.2.2.2.2.1, u4.2.2.2.2.2.2.2.2.2.1, u4.2.2.2.2.2.2.2.2.2.2.1, u4.2.2.2.2.2.2.2.2.2.2.2.1, u4.2.2.2.2.2.2.2.2.2.2.2.2.1, u4.2.2.2.2.2.2.2.2.2.2.2.2.2.1, u4.2.2.2.2.2.2.2.2.2.2.2.2.2.2.1, u4.2.2.2.2.2.2.2.2.2.2.2.2.2.2.2.1, u4.2.2.2.2.2.2.2.2.2.2.2.2.2.2.2.2)))) (fun J5 => (((u4.1 ((1 : Int32) + a0).toNatClampNeg) + a1) ≤ (99 : Int32) → vp_in ((1 : Int32) + a0) 144 ∧ (J5 ((u4.1 ((1 : Int32) + a0).toNatClampNeg) + a1))) ∧ (¬ ((u4.1 ((1 : Int32) + a0).toNatClampNeg) + a1) ≤ (99 : Int32) → J5 (99 : Int32)))))))))
set_option maxHeartbeats 4000000 in
set_option maxRecDepth 100000 in
theorem c_X7_grow (l : Launch) (D : va_G) (K : Nat → ClassId) (t : Nat → Nat) (o : Nat → Nat) (u : BX7) (a0 : Int32) (a1 : Int32) (post : Int32 → BX7 → Prop) (h : w_X7_grow u a0 a1 post) : WrI l yX7_grow cX7_grow 3 (some .int) ({ frames := 2, cells := 0, slots := 0, locals := 46 } : Room) D (TY K) t (CX7 K o u) [.ref (o 0), .int a0, .int a1] (fun z : BX7 => CX7 K o z) (fun (r : Int32) (z : BX7) => post r z) := by
  refine WrI.mk rfl (Nat.le_of_ble_eq_true rfl) ?_
  intro F ls A _ hF X hH hA hl hT
  obtain ⟨H, hH0⟩ : ∃ z : Heap, z = (fxS F).heap := ⟨_, rfl⟩
  obtain ⟨locs, hL0⟩ : ∃ z : List Loc, z = [] := ⟨_, rfl⟩
  have hH : HH F D A (CX7 K o u) H locs := by rw [hH0, hL0]; exact hH
  suffices goal : V F (WQI F D (TY K) A (fun z : BX7 => CX7 K o z) (fun (r : Int32) (z : BX7) => post r z)) H locs 0 ls [] by rw [hH0, hL0] at goal; exact goal
  clear hH0 hL0
  have X : Cx F cX7_grow 3 RX7 D (TY K) := X
  have hl : lv_has ls 3 [(0, .ref (o 0)), (1, .int a0), (2, .int a1)] := hl
  unfold w_X7_grow at h
  refine v_aload_n X dX7_grow_0 rfl (lv_at hl 0 rfl) ?_
  refine v_iload_n X dX7_grow_1 rfl (lv_at hl 1 rfl) ?_
  refine rdV (As := [.int a0]) (rest := []) X mv_X7_161 (c_X7_isClient F.2.1 D K t o u a0 _ h) hF ⟨rfl, rfl, Nat.le_of_ble_eq_true rfl, Nat.le_of_ble_eq_true rfl⟩ (stW hT hH) hH.1 [0, 1, 2, 3, 4, 5, 6, 7, 8, 9] rfl 0 rfl rfl hl.1 rfl rfl (Nat.le_of_ble_eq_true rfl) dX7_grow_2 (fun r1 h => ?_)
  refine v_if_eq (tgt := 20) X dX7_grow_5 (by decide) (fun c9 => ?_) (fun c9 => ?_)
  · have h := h.1 c9
    refine v_ldc X kc_X7_55 dX7_grow_20 ?_
    exact v_wiret X hF u hH h dX7_grow_22
  · have h := h.2 c9
    refine v_iload_n X dX7_grow_8 rfl (lv_at hl 2 rfl) ?_
    refine v_i2l X dX7_grow_9 rfl ?_
    refine v_lconst (v := (1 : Int64)) X dX7_grow_10 (by decide) ?_
    refine v_ldc2 X kc_X7_164 dX7_grow_11 ?_
    refine rdS (As := [.long a1.toInt64, .long (1 : Int64), .long (20 : Int64)]) (rest := []) X ms_X7_45 (c_X7_in F.2.1 D K t a1.toInt64 (1 : Int64) (20 : Int64) _ h) hF ⟨rfl, rfl, Nat.le_of_ble_eq_true rfl, Nat.le_of_ble_eq_true rfl⟩ (stW hT hH) hH.1 [] rfl hl.1 rfl rfl (Nat.le_of_ble_eq_true rfl) dX7_grow_14 (fun r2 h => ?_)
    refine v_if_ne (tgt := 23) X dX7_grow_17 (by decide) (fun c8 => ?_) (fun c8 => ?_)
    · have h := h.2 c8
      refine v_aload_n X dX7_grow_23 rfl (lv_at hl 0 rfl) ?_
      refine wrVV (As := []) (rest := []) (wr := ([] : va_W)) X mv_X7_149 (c_X7_minds F.2.1 D K t o u _ h) hF ⟨rfl, rfl, Nat.le_of_ble_eq_true rfl, Nat.le_of_ble_eq_true rfl⟩ hT hA hH [0, 1, 2, 3, 4, 5, 6, 7, 8, 9] [] ⟨rfl, rfl, rfl, rfl, by decide⟩ 0 rfl rfl hl.1 rfl rfl (Nat.le_of_ble_eq_true rfl) dX7_grow_24 (fun u4 H locs h hH => ?_)
      have hH : HH F D A (CX7 K o u4) H locs := hH
      refine v_aload_n X dX7_grow_27 rfl (lv_at hl 0 rfl) ?_
      refine v_get (v := .ref (o 1)) X hH.1 0 rfl fk_X7_7 rfl dX7_grow_28 ?_
      refine v_iconst (v := (1 : Int32)) X dX7_grow_31 (by decide) ?_
      refine v_iload_n X dX7_grow_32 rfl (lv_at hl 1 rfl) ?_
      refine v_iadd X dX7_grow_33 ?_
      refine v_aload_n X dX7_grow_34 rfl (lv_at hl 0 rfl) ?_
      refine v_get (v := .ref (o 1)) X hH.1 0 rfl fk_X7_7 rfl dX7_grow_35 ?_
      refine v_iconst (v := (1 : Int32)) X dX7_grow_38 (by decide) ?_
      refine v_iload_n X dX7_grow_39 rfl (lv_at hl 1 rfl) ?_
      refine v_iadd X dX7_grow_40 ?_
      have hin := h.1
      have h := h.2
      refine v_iald (f := u4.1) X hH.1 1 0 rfl rfl hin dX7_grow_41 ?_
      refine v_iload_n X dX7_grow_42 rfl (lv_at hl 2 rfl) ?_
      refine v_iadd X dX7_grow_43 ?_
      refine v_bipush (v := (99 : Int32)) X dX7_grow_44 (by decide) ?_
      obtain ⟨J5, hJ5⟩ : ∃ f : Int32 → Prop, f = (fun (v6 : Int32) => vp_in ((1 : Int32) + a0) 144 ∧ (vp_in ((1 : Int32) + a0) 144 ∧ (post ((upd u4.1 ((1 : Int32) + a0).toNatClampNeg v6) ((1 : Int32) + a0).toNatClampNeg) ((upd u4.1 ((1 : Int32) + a0).toNatClampNeg v6), u4.2.1, u4.2.2.1, u4.2.2.2.1, u4.2.2.2.2.1, u4.2.2.2.2.2.1, u4.2.2.2.2.2.2.1, u4.2.2.2.2.2.2.2.1, u4.2.2.2.2.2.2.2.2.1, u4.2.2.2.2.2.2.2.2.2.1, u4.2.2.2.2.2.2.2.2.2.2.1, u4.2.2.2.2.2.2.2.2.2.2.2.1, u4.2.2.2.2.2.2.2.2.2.2.2.2.1, u4.2.2.2.2.2.2.2.2.2.2.2.2.2.1, u4.2.2.2.2.2.2.2.2.2.2.2.2.2.2.1, u4.2.2.2.2.2.2.2.2.2.2.2.2.2.2.2.1, u4.2.2.2.2.2.2.2.2.2.2.2.2.2.2.2.2)))) := ⟨_, rfl⟩
      have kJ5 : ∀ (v6 : Int32) (ls : Array Slot) (H : Heap) (locs : List Loc), (J5 v6) → lv_has ls 3 [(0, .ref (o 0)), (1, .int a0)] → HH F D A (CX7 K o u4) H locs → V F (WQI F D (TY K) A (fun z : BX7 => CX7 K o z) (fun (r : Int32) (z : BX7) => post r z)) H locs 64 ls [.int v6, .int ((1 : Int32) + a0), .ref (o 1)] := by
        intro v6 ls H locs h hl hH
        have h : vp_in ((1 : Int32) + a0) 144 ∧ (vp_in ((1 : Int32) + a0) 144 ∧ (post ((upd u4.1 ((1 : Int32) + a0).toNatClampNeg v6) ((1 : Int32) + a0).toNatClampNeg) ((upd u4.1 ((1 : Int32) + a0).toNatClampNeg v6), u4.2.1, u4.2.2.1, u4.2.2.2.1, u4.2.2.2.2.1, u4.2.2.2.2.2.1, u4.2.2.2.2.2.2.1, u4.2.2.2.2.2.2.2.1, u4.2.2.2.2.2.2.2.2.1, u4.2.2.2.2.2.2.2.2.2.1, u4.2.2.2.2.2.2.2.2.2.2.1, u4.2.2.2.2.2.2.2.2.2.2.2.1, u4.2.2.2.2.2.2.2.2.2.2.2.2.1, u4.2.2.2.2.2.2.2.2.2.2.2.2.2.1, u4.2.2.2.2.2.2.2.2.2.2.2.2.2.2.1, u4.2.2.2.2.2.2.2.2.2.2.2.2.2.2.2.1, u4.2.2.2.2.2.2.2.2.2.2.2.2.2.2.2.2))) := by rw [hJ5] at h; exact h
        have hin := h.1
        have h := h.2
        refine v_iast (f := u4.1) X hH 1 0 rfl rfl hin dX7_grow_64 (fun H locs hH => ?_)
        have hH : HH F D A (CX7 K o ((upd u4.1 ((1 : Int32) + a0).toNatClampNeg v6), u4.2.1, u4.2.2.1, u4.2.2.2.1, u4.2.2.2.2.1, u4.2.2.2.2.2.1, u4.2.2.2.2.2.2.1, u4.2.2.2.2.2.2.2.1, u4.2.2.2.2.2.2.2.2.1, u4.2.2.2.2.2.2.2.2.2.1, u4.2.2.2.2.2.2.2.2.2.2.1, u4.2.2.2.2.2.2.2.2.2.2.2.1, u4.2.2.2.2.2.2.2.2.2.2.2.2.1, u4.2.2.2.2.2.2.2.2.2.2.2.2.2.1, u4.2.2.2.2.2.2.2.2.2.2.2.2.2.2.1, u4.2.2.2.2.2.2.2.2.2.2.2.2.2.2.2.1, u4.2.2.2.2.2.2.2.2.2.2.2.2.2.2.2.2)) H locs := hH
        refine v_aload_n X dX7_grow_65 rfl (lv_at hl 0 rfl) ?_
        refine v_get (v := .ref (o 1)) X hH.1 0 rfl fk_X7_7 rfl dX7_grow_66 ?_
        refine v_iconst (v := (1 : Int32)) X dX7_grow_69 (by decide) ?_
        refine v_iload_n X dX7_grow_70 rfl (lv_at hl 1 rfl) ?_
        refine v_iadd X dX7_grow_71 ?_
        have hin := h.1
        have h := h.2
        refine v_iald (f := (upd u4.1 ((1 : Int32) + a0).toNatClampNeg v6)) X hH.1 1 0 rfl rfl hin dX7_grow_72 ?_
        exact v_wiret X hF ((upd u4.1 ((1 : Int32) + a0).toNatClampNeg v6), u4.2.1, u4.2.2.1, u4.2.2.2.1, u4.2.2.2.2.1, u4.2.2.2.2.2.1, u4.2.2.2.2.2.2.1, u4.2.2.2.2.2.2.2.1, u4.2.2.2.2.2.2.2.2.1, u4.2.2.2.2.2.2.2.2.2.1, u4.2.2.2.2.2.2.2.2.2.2.1, u4.2.2.2.2.2.2.2.2.2.2.2.1, u4.2.2.2.2.2.2.2.2.2.2.2.2.1, u4.2.2.2.2.2.2.2.2.2.2.2.2.2.1, u4.2.2.2.2.2.2.2.2.2.2.2.2.2.2.1, u4.2.2.2.2.2.2.2.2.2.2.2.2.2.2.2.1, u4.2.2.2.2.2.2.2.2.2.2.2.2.2.2.2.2) hH h dX7_grow_73
      have h : (((u4.1 ((1 : Int32) + a0).toNatClampNeg) + a1) ≤ (99 : Int32) → vp_in ((1 : Int32) + a0) 144 ∧ (J5 ((u4.1 ((1 : Int32) + a0).toNatClampNeg) + a1))) ∧ (¬ ((u4.1 ((1 : Int32) + a0).toNatClampNeg) + a1) ≤ (99 : Int32) → J5 (99 : Int32)) := by rw [hJ5]; exact h
      refine v_icmp_le (tgt := 54) X dX7_grow_46 (by decide) (fun c7 => ?_) (fun c7 => ?_)
      · have h := h.1 c7
        refine v_aload_n X dX7_grow_54 rfl (lv_at hl 0 rfl) ?_
        refine v_get (v := .ref (o 1)) X hH.1 0 rfl fk_X7_7 rfl dX7_grow_55 ?_
        refine v_iconst (v := (1 : Int32)) X dX7_grow_58 (by decide) ?_
        refine v_iload_n X dX7_grow_59 rfl (lv_at hl 1 rfl) ?_
        refine v_iadd X dX7_grow_60 ?_
        have hin := h.1
        have h := h.2
        refine v_iald (f := u4.1) X hH.1 1 0 rfl rfl hin dX7_grow_61 ?_
        refine v_iload_n X dX7_grow_62 rfl (lv_at hl 2 rfl) ?_
        refine v_iadd X dX7_grow_63 ?_
        exact kJ5 ((u4.1 ((1 : Int32) + a0).toNatClampNeg) + a1) ls H locs h (lv_sub hl [0, 1] rfl) hH
      · have h := h.2 c7
        refine v_bipush (v := (99 : Int32)) X dX7_grow_49 (by decide) ?_
        refine v_goto (tgt := 64) X dX7_grow_51 (by decide) ?_
        exact kJ5 (99 : Int32) ls H locs h (lv_sub hl [0, 1] rfl) hH
    · have h := h.1 c8
      refine v_ldc X kc_X7_55 dX7_grow_20 ?_
      exact v_wiret X hF u hH h dX7_grow_22
def w_X7_learn (u : BX7) (a0 : Int32) (a1 : Int32) (post : Int32 → BX7 → Prop) : Prop := w_X7_isWaker u a0 (fun r1 => (r1 = 0 → post (-1000001 : Int32) u) ∧ (¬ r1 = 0 → w_X7_in a1.toInt64 (0 : Int64) (5 : Int64) (fun r2 => (r2 = 0 → post (-1000001 : Int32) u) ∧ (¬ r2 = 0 → w_X7_minds u (fun u4 => vp_in ((6 : Int32) + a0) 144 ∧ (∀ x5 : Int32, x5 = (u4.1 ((6 : Int32) + a0).toNatClampNeg) → vp_in ((6 : Int32) + a0) 144 ∧ (post x5 ((upd u4.1 ((6 : Int32) + a0).toNatClampNeg a1), u4.2.1, u4.2.2.1, u4.2.2.2.1, u4.2.2.2.2.1, u4.2.2.2.2.2.1, u4.2.2.2.2.2.2.1, u4.2.2.2.2.2.2.2.1, u4.2.2.2.2.2.2.2.2.1, u4.2.2.2.2.2.2.2.2.2.1, u4.2.2.2.2.2.2.2.2.2.2.1, u4.2.2.2.2.2.2.2.2.2.2.2.1, u4.2.2.2.2.2.2.2.2.2.2.2.2.1, u4.2.2.2.2.2.2.2.2.2.2.2.2.2.1, u4.2.2.2.2.2.2.2.2.2.2.2.2.2.2.1, u4.2.2.2.2.2.2.2.2.2.2.2.2.2.2.2.1, u4.2.2.2.2.2.2.2.2.2.2.2.2.2.2.2.2))))))))
set_option maxHeartbeats 4000000 in
set_option maxRecDepth 100000 in
theorem c_X7_learn (l : Launch) (D : va_G) (K : Nat → ClassId) (t : Nat → Nat) (o : Nat → Nat) (u : BX7) (a0 : Int32) (a1 : Int32) (post : Int32 → BX7 → Prop) (h : w_X7_learn u a0 a1 post) : WrI l yX7_learn cX7_learn 4 (some .int) ({ frames := 2, cells := 0, slots := 0, locals := 46 } : Room) D (TY K) t (CX7 K o u) [.ref (o 0), .int a0, .int a1] (fun z : BX7 => CX7 K o z) (fun (r : Int32) (z : BX7) => post r z) := by
  refine WrI.mk rfl (Nat.le_of_ble_eq_true rfl) ?_
  intro F ls A _ hF X hH hA hl hT
  obtain ⟨H, hH0⟩ : ∃ z : Heap, z = (fxS F).heap := ⟨_, rfl⟩
  obtain ⟨locs, hL0⟩ : ∃ z : List Loc, z = [] := ⟨_, rfl⟩
  have hH : HH F D A (CX7 K o u) H locs := by rw [hH0, hL0]; exact hH
  suffices goal : V F (WQI F D (TY K) A (fun z : BX7 => CX7 K o z) (fun (r : Int32) (z : BX7) => post r z)) H locs 0 ls [] by rw [hH0, hL0] at goal; exact goal
  clear hH0 hL0
  have X : Cx F cX7_learn 4 RX7 D (TY K) := X
  have hl : lv_has ls 4 [(0, .ref (o 0)), (1, .int a0), (2, .int a1)] := hl
  unfold w_X7_learn at h
  refine v_aload_n X dX7_learn_0 rfl (lv_at hl 0 rfl) ?_
  refine v_iload_n X dX7_learn_1 rfl (lv_at hl 1 rfl) ?_
  refine rdV (As := [.int a0]) (rest := []) X mv_X7_158 (c_X7_isWaker F.2.1 D K t o u a0 _ h) hF ⟨rfl, rfl, Nat.le_of_ble_eq_true rfl, Nat.le_of_ble_eq_true rfl⟩ (stW hT hH) hH.1 [0, 1, 2, 3, 4, 5, 6, 7, 8, 9] rfl 0 rfl rfl hl.1 rfl rfl (Nat.le_of_ble_eq_true rfl) dX7_learn_2 (fun r1 h => ?_)
  refine v_if_eq (tgt := 20) X dX7_learn_5 (by decide) (fun c7 => ?_) (fun c7 => ?_)
  · have h := h.1 c7
    refine v_ldc X kc_X7_55 dX7_learn_20 ?_
    exact v_wiret X hF u hH h dX7_learn_22
  · have h := h.2 c7
    refine v_iload_n X dX7_learn_8 rfl (lv_at hl 2 rfl) ?_
    refine v_i2l X dX7_learn_9 rfl ?_
    refine v_lconst (v := (0 : Int64)) X dX7_learn_10 (by decide) ?_
    refine v_ldc2 X kc_X7_166 dX7_learn_11 ?_
    refine rdS (As := [.long a1.toInt64, .long (0 : Int64), .long (5 : Int64)]) (rest := []) X ms_X7_45 (c_X7_in F.2.1 D K t a1.toInt64 (0 : Int64) (5 : Int64) _ h) hF ⟨rfl, rfl, Nat.le_of_ble_eq_true rfl, Nat.le_of_ble_eq_true rfl⟩ (stW hT hH) hH.1 [] rfl hl.1 rfl rfl (Nat.le_of_ble_eq_true rfl) dX7_learn_14 (fun r2 h => ?_)
    refine v_if_ne (tgt := 23) X dX7_learn_17 (by decide) (fun c6 => ?_) (fun c6 => ?_)
    · have h := h.2 c6
      refine v_aload_n X dX7_learn_23 rfl (lv_at hl 0 rfl) ?_
      refine wrVV (As := []) (rest := []) (wr := ([] : va_W)) X mv_X7_149 (c_X7_minds F.2.1 D K t o u _ h) hF ⟨rfl, rfl, Nat.le_of_ble_eq_true rfl, Nat.le_of_ble_eq_true rfl⟩ hT hA hH [0, 1, 2, 3, 4, 5, 6, 7, 8, 9] [] ⟨rfl, rfl, rfl, rfl, by decide⟩ 0 rfl rfl hl.1 rfl rfl (Nat.le_of_ble_eq_true rfl) dX7_learn_24 (fun u4 H locs h hH => ?_)
      have hH : HH F D A (CX7 K o u4) H locs := hH
      refine v_aload_n X dX7_learn_27 rfl (lv_at hl 0 rfl) ?_
      refine v_get (v := .ref (o 1)) X hH.1 0 rfl fk_X7_7 rfl dX7_learn_28 ?_
      refine v_bipush (v := (6 : Int32)) X dX7_learn_31 (by decide) ?_
      refine v_iload_n X dX7_learn_33 rfl (lv_at hl 1 rfl) ?_
      refine v_iadd X dX7_learn_34 ?_
      have hin := h.1
      have h := h.2
      refine v_iald (f := u4.1) X hH.1 1 0 rfl rfl hin dX7_learn_35 ?_
      refine v_topi (fun x5 ex5 => ?_)
      have h := h x5 ex5
      refine v_istore_n (lv' := [(3, .int x5), (0, .ref (o 0)), (1, .int a0), (2, .int a1)]) X dX7_learn_36 rfl hl (by decide) rfl (fun ls hl => ?_)
      refine v_aload_n X dX7_learn_37 rfl (lv_at hl 1 rfl) ?_
      refine v_get (v := .ref (o 1)) X hH.1 0 rfl fk_X7_7 rfl dX7_learn_38 ?_
      refine v_bipush (v := (6 : Int32)) X dX7_learn_41 (by decide) ?_
      refine v_iload_n X dX7_learn_43 rfl (lv_at hl 2 rfl) ?_
      refine v_iadd X dX7_learn_44 ?_
      refine v_iload_n X dX7_learn_45 rfl (lv_at hl 3 rfl) ?_
      have hin := h.1
      have h := h.2
      refine v_iast (f := u4.1) X hH 1 0 rfl rfl hin dX7_learn_46 (fun H locs hH => ?_)
      have hH : HH F D A (CX7 K o ((upd u4.1 ((6 : Int32) + a0).toNatClampNeg a1), u4.2.1, u4.2.2.1, u4.2.2.2.1, u4.2.2.2.2.1, u4.2.2.2.2.2.1, u4.2.2.2.2.2.2.1, u4.2.2.2.2.2.2.2.1, u4.2.2.2.2.2.2.2.2.1, u4.2.2.2.2.2.2.2.2.2.1, u4.2.2.2.2.2.2.2.2.2.2.1, u4.2.2.2.2.2.2.2.2.2.2.2.1, u4.2.2.2.2.2.2.2.2.2.2.2.2.1, u4.2.2.2.2.2.2.2.2.2.2.2.2.2.1, u4.2.2.2.2.2.2.2.2.2.2.2.2.2.2.1, u4.2.2.2.2.2.2.2.2.2.2.2.2.2.2.2.1, u4.2.2.2.2.2.2.2.2.2.2.2.2.2.2.2.2)) H locs := hH
      refine v_iload_n X dX7_learn_47 rfl (lv_at hl 0 rfl) ?_
      exact v_wiret X hF ((upd u4.1 ((6 : Int32) + a0).toNatClampNeg a1), u4.2.1, u4.2.2.1, u4.2.2.2.1, u4.2.2.2.2.1, u4.2.2.2.2.2.1, u4.2.2.2.2.2.2.1, u4.2.2.2.2.2.2.2.1, u4.2.2.2.2.2.2.2.2.1, u4.2.2.2.2.2.2.2.2.2.1, u4.2.2.2.2.2.2.2.2.2.2.1, u4.2.2.2.2.2.2.2.2.2.2.2.1, u4.2.2.2.2.2.2.2.2.2.2.2.2.1, u4.2.2.2.2.2.2.2.2.2.2.2.2.2.1, u4.2.2.2.2.2.2.2.2.2.2.2.2.2.2.1, u4.2.2.2.2.2.2.2.2.2.2.2.2.2.2.2.1, u4.2.2.2.2.2.2.2.2.2.2.2.2.2.2.2.2) hH h dX7_learn_48
    · have h := h.1 c6
      refine v_ldc X kc_X7_55 dX7_learn_20 ?_
      exact v_wiret X hF u hH h dX7_learn_22
def wL_X7_undo_22 (post : Int32 → BX7 → Prop) (Kx22 : BX7 → Prop) : Nat → Int32 → BX7 → Prop
  | 0, _, _ => False
  | n22 + 1, x1, u2 => ((18 : Int32) ≤ x1 → Kx22 u2) ∧ (¬ (18 : Int32) ≤ x1 → vp_in (((18 : Int32) * u2.2.2.2.1) + x1) 432 ∧ (vp_in x1 144 ∧ (wL_X7_undo_22 post Kx22 n22 (x1 + (1 : Int32)) ((upd u2.1 x1.toNatClampNeg (u2.2.2.1 (((18 : Int32) * u2.2.2.2.1) + x1).toNatClampNeg)), u2.2.1, u2.2.2.1, u2.2.2.2.1, u2.2.2.2.2.1, u2.2.2.2.2.2.1, u2.2.2.2.2.2.2.1, u2.2.2.2.2.2.2.2.1, u2.2.2.2.2.2.2.2.2.1, u2.2.2.2.2.2.2.2.2.2.1, u2.2.2.2.2.2.2.2.2.2.2.1, u2.2.2.2.2.2.2.2.2.2.2.2.1, u2.2.2.2.2.2.2.2.2.2.2.2.2.1, u2.2.2.2.2.2.2.2.2.2.2.2.2.2.1, u2.2.2.2.2.2.2.2.2.2.2.2.2.2.2.1, u2.2.2.2.2.2.2.2.2.2.2.2.2.2.2.2.1, u2.2.2.2.2.2.2.2.2.2.2.2.2.2.2.2.2))))
def w_X7_undo (u : BX7) (post : Int32 → BX7 → Prop) : Prop := (u.2.2.2.1 = 0 → post (-1000002 : Int32) u) ∧ (¬ u.2.2.2.1 = 0 → ∃ n22, wL_X7_undo_22  post (fun (u3 : BX7) => post u3.2.2.2.1 u3) n22 (0 : Int32) (u.1, u.2.1, u.2.2.1, (u.2.2.2.1 - (1 : Int32)), u.2.2.2.2.1, u.2.2.2.2.2.1, u.2.2.2.2.2.2.1, u.2.2.2.2.2.2.2.1, u.2.2.2.2.2.2.2.2.1, u.2.2.2.2.2.2.2.2.2.1, u.2.2.2.2.2.2.2.2.2.2.1, u.2.2.2.2.2.2.2.2.2.2.2.1, u.2.2.2.2.2.2.2.2.2.2.2.2.1, u.2.2.2.2.2.2.2.2.2.2.2.2.2.1, u.2.2.2.2.2.2.2.2.2.2.2.2.2.2.1, u.2.2.2.2.2.2.2.2.2.2.2.2.2.2.2.1, u.2.2.2.2.2.2.2.2.2.2.2.2.2.2.2.2))
set_option maxHeartbeats 4000000 in
set_option maxRecDepth 100000 in
theorem c_X7_undo (l : Launch) (D : va_G) (K : Nat → ClassId) (t : Nat → Nat) (o : Nat → Nat) (u : BX7) (post : Int32 → BX7 → Prop) (h : w_X7_undo u post) : WrI l yX7_undo cX7_undo 2 (some .int) ({ frames := 0, cells := 0, slots := 0, locals := 0 } : Room) D (TY K) t (CX7 K o u) [.ref (o 0)] (fun z : BX7 => CX7 K o z) (fun (r : Int32) (z : BX7) => post r z) := by
  refine WrI.mk rfl (Nat.le_of_ble_eq_true rfl) ?_
  intro F ls A _ hF X hH hA hl hT
  obtain ⟨H, hH0⟩ : ∃ z : Heap, z = (fxS F).heap := ⟨_, rfl⟩
  obtain ⟨locs, hL0⟩ : ∃ z : List Loc, z = [] := ⟨_, rfl⟩
  have hH : HH F D A (CX7 K o u) H locs := by rw [hH0, hL0]; exact hH
  suffices goal : V F (WQI F D (TY K) A (fun z : BX7 => CX7 K o z) (fun (r : Int32) (z : BX7) => post r z)) H locs 0 ls [] by rw [hH0, hL0] at goal; exact goal
  clear hH0 hL0
  have X : Cx F cX7_undo 2 RX7 D (TY K) := X
  have hl : lv_has ls 2 [(0, .ref (o 0))] := hl
  unfold w_X7_undo at h
  refine v_aload_n X dX7_undo_0 rfl (lv_at hl 0 rfl) ?_
  refine v_get (v := .int u.2.2.2.1) X hH.1 0 rfl fk_X7_123 rfl dX7_undo_1 ?_
  refine v_if_ne (tgt := 10) X dX7_undo_4 (by decide) (fun c6 => ?_) (fun c6 => ?_)
  · have h := h.2 c6
    refine v_aload_n X dX7_undo_10 rfl (lv_at hl 0 rfl) ?_
    refine v_dup X dX7_undo_11 rfl ?_
    refine v_get (v := .int u.2.2.2.1) X hH.1 0 rfl fk_X7_123 rfl dX7_undo_12 ?_
    refine v_iconst (v := (1 : Int32)) X dX7_undo_15 (by decide) ?_
    refine v_isub X dX7_undo_16 ?_
    refine v_put X hH 0 rfl fi_X7_123 (Nat.le_of_ble_eq_true rfl) dX7_undo_17 (fun H locs hH => ?_)
    have hH : HH F D A (CX7 K o (u.1, u.2.1, u.2.2.1, (u.2.2.2.1 - (1 : Int32)), u.2.2.2.2.1, u.2.2.2.2.2.1, u.2.2.2.2.2.2.1, u.2.2.2.2.2.2.2.1, u.2.2.2.2.2.2.2.2.1, u.2.2.2.2.2.2.2.2.2.1, u.2.2.2.2.2.2.2.2.2.2.1, u.2.2.2.2.2.2.2.2.2.2.2.1, u.2.2.2.2.2.2.2.2.2.2.2.2.1, u.2.2.2.2.2.2.2.2.2.2.2.2.2.1, u.2.2.2.2.2.2.2.2.2.2.2.2.2.2.1, u.2.2.2.2.2.2.2.2.2.2.2.2.2.2.2.1, u.2.2.2.2.2.2.2.2.2.2.2.2.2.2.2.2)) H locs := hH
    refine v_iconst (v := (0 : Int32)) X dX7_undo_20 (by decide) ?_
    refine v_istore_n (lv' := [(1, .int (0 : Int32)), (0, .ref (o 0))]) X dX7_undo_21 rfl hl (by decide) rfl (fun ls hl => ?_)
    obtain ⟨Kx22, hK22⟩ : ∃ f : BX7 → Prop, f = (fun (u3 : BX7) => post u3.2.2.2.1 u3) := ⟨_, rfl⟩
    have kx4 : ∀ (u3 : BX7) (ls : Array Slot) (H : Heap) (locs : List Loc), (Kx22 u3) → lv_has ls 2 [(0, .ref (o 0))] → HH F D A (CX7 K o u3) H locs → V F (WQI F D (TY K) A (fun z : BX7 => CX7 K o z) (fun (r : Int32) (z : BX7) => post r z)) H locs 54 ls [] := by
      intro u3 ls H locs h hl hH
      have h : post u3.2.2.2.1 u3 := by rw [hK22] at h; exact h
      refine v_aload_n X dX7_undo_54 rfl (lv_at hl 0 rfl) ?_
      refine v_get (v := .int u3.2.2.2.1) X hH.1 0 rfl fk_X7_123 rfl dX7_undo_55 ?_
      exact v_wiret X hF u3 hH h dX7_undo_58
    have lp22 : ∀ (n22 : Nat) (x1 : Int32) (u2 : BX7) (ls : Array Slot) (H : Heap) (locs : List Loc), wL_X7_undo_22  post Kx22 n22 x1 u2 → lv_has ls 2 [(0, .ref (o 0)), (1, .int x1)] → HH F D A (CX7 K o u2) H locs → V F (WQI F D (TY K) A (fun z : BX7 => CX7 K o z) (fun (r : Int32) (z : BX7) => post r z)) H locs 22 ls [] := by
      intro n22
      induction n22 with
      | zero => intro x1 u2 ls H locs h hl hH; exact h.elim
      | succ n22 ih22 =>
        intro x1 u2 ls H locs h hl hH
        refine v_iload_n X dX7_undo_22 rfl (lv_at hl 1 rfl) ?_
        refine v_bipush (v := (18 : Int32)) X dX7_undo_23 (by decide) ?_
        refine v_icmp_ge (tgt := 54) X dX7_undo_25 (by decide) (fun c5 => ?_) (fun c5 => ?_)
        · have h := h.1 c5
          exact kx4 u2 ls H locs h (lv_sub hl [0] rfl) hH
        · have h := h.2 c5
          refine v_aload_n X dX7_undo_28 rfl (lv_at hl 0 rfl) ?_
          refine v_get (v := .ref (o 1)) X hH.1 0 rfl fk_X7_7 rfl dX7_undo_29 ?_
          refine v_iload_n X dX7_undo_32 rfl (lv_at hl 1 rfl) ?_
          refine v_aload_n X dX7_undo_33 rfl (lv_at hl 0 rfl) ?_
          refine v_get (v := .ref (o 3)) X hH.1 0 rfl fk_X7_17 rfl dX7_undo_34 ?_
          refine v_bipush (v := (18 : Int32)) X dX7_undo_37 (by decide) ?_
          refine v_aload_n X dX7_undo_39 rfl (lv_at hl 0 rfl) ?_
          refine v_get (v := .int u2.2.2.2.1) X hH.1 0 rfl fk_X7_123 rfl dX7_undo_40 ?_
          refine v_imul X dX7_undo_43 ?_
          refine v_iload_n X dX7_undo_44 rfl (lv_at hl 1 rfl) ?_
          refine v_iadd X dX7_undo_45 ?_
          have hin := h.1
          have h := h.2
          refine v_iald (f := u2.2.2.1) X hH.1 3 0 rfl rfl hin dX7_undo_46 ?_
          have hin := h.1
          have h := h.2
          refine v_iast (f := u2.1) X hH 1 0 rfl rfl hin dX7_undo_47 (fun H locs hH => ?_)
          have hH : HH F D A (CX7 K o ((upd u2.1 x1.toNatClampNeg (u2.2.2.1 (((18 : Int32) * u2.2.2.2.1) + x1).toNatClampNeg)), u2.2.1, u2.2.2.1, u2.2.2.2.1, u2.2.2.2.2.1, u2.2.2.2.2.2.1, u2.2.2.2.2.2.2.1, u2.2.2.2.2.2.2.2.1, u2.2.2.2.2.2.2.2.2.1, u2.2.2.2.2.2.2.2.2.2.1, u2.2.2.2.2.2.2.2.2.2.2.1, u2.2.2.2.2.2.2.2.2.2.2.2.1, u2.2.2.2.2.2.2.2.2.2.2.2.2.1, u2.2.2.2.2.2.2.2.2.2.2.2.2.2.1, u2.2.2.2.2.2.2.2.2.2.2.2.2.2.2.1, u2.2.2.2.2.2.2.2.2.2.2.2.2.2.2.2.1, u2.2.2.2.2.2.2.2.2.2.2.2.2.2.2.2.2)) H locs := hH
          refine v_iinc (v := (x1 + (1 : Int32))) (lv' := [(1, .int (x1 + (1 : Int32))), (0, .ref (o 0))]) X dX7_undo_48 hl (k := 1) rfl rfl (by decide) rfl (fun ls hl => ?_)
          refine v_goto (tgt := 22) X dX7_undo_51 (by decide) ?_
          exact ih22 (x1 + (1 : Int32)) ((upd u2.1 x1.toNatClampNeg (u2.2.2.1 (((18 : Int32) * u2.2.2.2.1) + x1).toNatClampNeg)), u2.2.1, u2.2.2.1, u2.2.2.2.1, u2.2.2.2.2.1, u2.2.2.2.2.2.1, u2.2.2.2.2.2.2.1, u2.2.2.2.2.2.2.2.1, u2.2.2.2.2.2.2.2.2.1, u2.2.2.2.2.2.2.2.2.2.1, u2.2.2.2.2.2.2.2.2.2.2.1, u2.2.2.2.2.2.2.2.2.2.2.2.1, u2.2.2.2.2.2.2.2.2.2.2.2.2.1, u2.2.2.2.2.2.2.2.2.2.2.2.2.2.1, u2.2.2.2.2.2.2.2.2.2.2.2.2.2.2.1, u2.2.2.2.2.2.2.2.2.2.2.2.2.2.2.2.1, u2.2.2.2.2.2.2.2.2.2.2.2.2.2.2.2.2) ls H locs h (lv_sub hl [1, 0] rfl) hH
    obtain ⟨n22, h⟩ := h
    have h : wL_X7_undo_22  post Kx22 n22 (0 : Int32) (u.1, u.2.1, u.2.2.1, (u.2.2.2.1 - (1 : Int32)), u.2.2.2.2.1, u.2.2.2.2.2.1, u.2.2.2.2.2.2.1, u.2.2.2.2.2.2.2.1, u.2.2.2.2.2.2.2.2.1, u.2.2.2.2.2.2.2.2.2.1, u.2.2.2.2.2.2.2.2.2.2.1, u.2.2.2.2.2.2.2.2.2.2.2.1, u.2.2.2.2.2.2.2.2.2.2.2.2.1, u.2.2.2.2.2.2.2.2.2.2.2.2.2.1, u.2.2.2.2.2.2.2.2.2.2.2.2.2.2.1, u.2.2.2.2.2.2.2.2.2.2.2.2.2.2.2.1, u.2.2.2.2.2.2.2.2.2.2.2.2.2.2.2.2) := by rw [hK22]; exact h
    exact lp22 n22 (0 : Int32) (u.1, u.2.1, u.2.2.1, (u.2.2.2.1 - (1 : Int32)), u.2.2.2.2.1, u.2.2.2.2.2.1, u.2.2.2.2.2.2.1, u.2.2.2.2.2.2.2.1, u.2.2.2.2.2.2.2.2.1, u.2.2.2.2.2.2.2.2.2.1, u.2.2.2.2.2.2.2.2.2.2.1, u.2.2.2.2.2.2.2.2.2.2.2.1, u.2.2.2.2.2.2.2.2.2.2.2.2.1, u.2.2.2.2.2.2.2.2.2.2.2.2.2.1, u.2.2.2.2.2.2.2.2.2.2.2.2.2.2.1, u.2.2.2.2.2.2.2.2.2.2.2.2.2.2.2.1, u.2.2.2.2.2.2.2.2.2.2.2.2.2.2.2.2) ls H locs h (lv_sub hl [1, 0] rfl) hH
  · have h := h.1 c6
    refine v_ldc X kc_X7_146 dX7_undo_7 ?_
    exact v_wiret X hF u hH h dX7_undo_9
def wL_X7_client_90 (y11 : Int32) (b12 : BX7) (post : Int32 → Prop) (Kx90 : Int32 → Prop) : Nat → Int32 → Int32 → Prop
  | 0, _, _ => False
  | n90 + 1, x9, x10 => vp_in (22 : Int32) 144 ∧ (((b12.1 (22 : Int32).toNatClampNeg) ≤ x10 → Kx90 x9) ∧ (¬ (b12.1 (22 : Int32).toNatClampNeg) ≤ x10 → vp_in ((10 : Int32) + x10) 144 ∧ (((b12.1 ((10 : Int32) + x10).toNatClampNeg) = y11 → ∀ x16 : Int32, x16 = (x9 ||| ((1 : Int32) <<< (x10 &&& 31))) → wL_X7_client_90 y11 b12 post Kx90 n90 x16 (x10 + (1 : Int32))) ∧ (¬ (b12.1 ((10 : Int32) + x10).toNatClampNeg) = y11 → ∀ x15 : Int32, x15 = (x9 ||| (0 : Int32)) → wL_X7_client_90 y11 b12 post Kx90 n90 x15 (x10 + (1 : Int32))))))
def w_X7_client (u : BX7) (a0 : Int32) (a1 : Int32) (post : Int32 → Prop) : Prop := w_X7_isClient u a0 (fun r1 => (r1 = 0 → post (-1000001 : Int32)) ∧ (¬ r1 = 0 → (a1 = (0 : Int32) → vp_in ((1 : Int32) + a0) 144 ∧ (post (u.1 ((1 : Int32) + a0).toNatClampNeg))) ∧ (¬ a1 = (0 : Int32) → (a1 = (1 : Int32) → vp_in ((23 : Int32) + a0) 144 ∧ (post (u.1 ((23 : Int32) + a0).toNatClampNeg))) ∧ (¬ a1 = (1 : Int32) → (a1 = (2 : Int32) → w_X7_restsIn u (0 : Int32) (fun r5 => w_X7_has r5 a0 (fun r6 => (r6 = 0 → post (0 : Int32)) ∧ (¬ r6 = 0 → post (1 : Int32))))) ∧ (¬ a1 = (2 : Int32) → (a1 = (3 : Int32) → ∃ n90, wL_X7_client_90 a0 u post (fun (x13 : Int32) => post x13) n90 (0 : Int32) (0 : Int32)) ∧ (¬ a1 = (3 : Int32) → (a1 = (4 : Int32) → w_X7_lighter u (0 : Int32) a0 (0 : Int32) (fun r20 => post r20)) ∧ (¬ a1 = (4 : Int32) → post (-1000001 : Int32))))))))
set_option maxHeartbeats 4000000 in
set_option maxRecDepth 100000 in
theorem c_X7_client (l : Launch) (D : va_G) (K : Nat → ClassId) (t : Nat → Nat) (o : Nat → Nat) (u : BX7) (a0 : Int32) (a1 : Int32) (post : Int32 → Prop) (h : w_X7_client u a0 a1 post) : RdM l yX7_client cX7_client 5 (some .int) ({ frames := 3, cells := 0, slots := 0, locals := 73 } : Room) D (TY K) t (CX7 K o u) [.ref (o 0), .int a0, .int a1] post := by
  refine RdM.mk rfl (Nat.le_of_ble_eq_true rfl) ?_
  intro F ls _ hF X hP hl hT
  have X : Cx F cX7_client 5 RX7 D (TY K) := X
  have hl : lv_has ls 5 [(0, .ref (o 0)), (1, .int a0), (2, .int a1)] := hl
  unfold w_X7_client at h
  refine v_aload_n X dX7_client_0 rfl (lv_at hl 0 rfl) ?_
  refine v_iload_n X dX7_client_1 rfl (lv_at hl 1 rfl) ?_
  refine rdV (As := [.int a0]) (rest := []) X mv_X7_161 (c_X7_isClient F.2.1 D K t o u a0 _ h) hF ⟨rfl, rfl, Nat.le_of_ble_eq_true rfl, Nat.le_of_ble_eq_true rfl⟩ hT hP [0, 1, 2, 3, 4, 5, 6, 7, 8, 9] rfl 0 rfl rfl hl.1 rfl rfl (Nat.le_of_ble_eq_true rfl) dX7_client_2 (fun r1 h => ?_)
  refine v_if_ne (tgt := 11) X dX7_client_5 (by decide) (fun c21 => ?_) (fun c21 => ?_)
  · have h := h.2 c21
    refine v_iload_n X dX7_client_11 rfl (lv_at hl 2 rfl) ?_
    by_cases c2 : a1 = (0 : Int32)
    · have h := h.1 c2
      refine v_tableIn (tgt := 48) (off := 36) X dX7_client_12 (by rw [c2]; decide) (by rw [c2]; decide) (by rw [c2]; rfl) (by decide) ?_
      refine v_aload_n X dX7_client_48 rfl (lv_at hl 0 rfl) ?_
      refine v_get (v := .ref (o 1)) X hP 0 rfl fk_X7_7 rfl dX7_client_49 ?_
      refine v_iconst (v := (1 : Int32)) X dX7_client_52 (by decide) ?_
      refine v_iload_n X dX7_client_53 rfl (lv_at hl 1 rfl) ?_
      refine v_iadd X dX7_client_54 ?_
      have hin := h.1
      have h := h.2
      refine v_iald (f := u.1) X hP 1 0 rfl rfl hin dX7_client_55 ?_
      exact v_riret X hF h dX7_client_56
    · have h := h.2 c2
      by_cases c3 : a1 = (1 : Int32)
      · have h := h.1 c3
        refine v_tableIn (tgt := 57) (off := 45) X dX7_client_12 (by rw [c3]; decide) (by rw [c3]; decide) (by rw [c3]; rfl) (by decide) ?_
        refine v_aload_n X dX7_client_57 rfl (lv_at hl 0 rfl) ?_
        refine v_get (v := .ref (o 1)) X hP 0 rfl fk_X7_7 rfl dX7_client_58 ?_
        refine v_bipush (v := (23 : Int32)) X dX7_client_61 (by decide) ?_
        refine v_iload_n X dX7_client_63 rfl (lv_at hl 1 rfl) ?_
        refine v_iadd X dX7_client_64 ?_
        have hin := h.1
        have h := h.2
        refine v_iald (f := u.1) X hP 1 0 rfl rfl hin dX7_client_65 ?_
        exact v_riret X hF h dX7_client_66
      · have h := h.2 c3
        by_cases c4 : a1 = (2 : Int32)
        · have h := h.1 c4
          refine v_tableIn (tgt := 67) (off := 55) X dX7_client_12 (by rw [c4]; decide) (by rw [c4]; decide) (by rw [c4]; rfl) (by decide) ?_
          refine v_aload_n X dX7_client_67 rfl (lv_at hl 0 rfl) ?_
          refine v_iconst (v := (0 : Int32)) X dX7_client_68 (by decide) ?_
          refine rdV (As := [.int (0 : Int32)]) (rest := []) X mv_X7_155 (c_X7_restsIn F.2.1 D K t o u (0 : Int32) _ h) hF ⟨rfl, rfl, Nat.le_of_ble_eq_true rfl, Nat.le_of_ble_eq_true rfl⟩ hT hP [0, 1, 2, 3, 4, 5, 6, 7, 8, 9] rfl 0 rfl rfl hl.1 rfl rfl (Nat.le_of_ble_eq_true rfl) dX7_client_69 (fun r5 h => ?_)
          refine v_iload_n X dX7_client_72 rfl (lv_at hl 1 rfl) ?_
          refine rdS (As := [.int r5, .int a0]) (rest := []) X ms_X7_133 (c_X7_has F.2.1 D K t r5 a0 _ h) hF ⟨rfl, rfl, Nat.le_of_ble_eq_true rfl, Nat.le_of_ble_eq_true rfl⟩ hT hP [] rfl hl.1 rfl rfl (Nat.le_of_ble_eq_true rfl) dX7_client_73 (fun r6 h => ?_)
          refine v_if_eq (tgt := 83) X dX7_client_76 (by decide) (fun c7 => ?_) (fun c7 => ?_)
          · have h := h.1 c7
            refine v_iconst (v := (0 : Int32)) X dX7_client_83 (by decide) ?_
            exact v_riret X hF h dX7_client_84
          · have h := h.2 c7
            refine v_iconst (v := (1 : Int32)) X dX7_client_79 (by decide) ?_
            refine v_goto (tgt := 84) X dX7_client_80 (by decide) ?_
            exact v_riret X hF h dX7_client_84
        · have h := h.2 c4
          by_cases c8 : a1 = (3 : Int32)
          · have h := h.1 c8
            refine v_tableIn (tgt := 85) (off := 73) X dX7_client_12 (by rw [c8]; decide) (by rw [c8]; decide) (by rw [c8]; rfl) (by decide) ?_
            refine v_iconst (v := (0 : Int32)) X dX7_client_85 (by decide) ?_
            refine v_istore_n (lv' := [(3, .int (0 : Int32)), (0, .ref (o 0)), (1, .int a0), (2, .int a1)]) X dX7_client_86 rfl hl (by decide) rfl (fun ls hl => ?_)
            refine v_iconst (v := (0 : Int32)) X dX7_client_87 (by decide) ?_
            refine v_istore (lv' := [(4, .int (0 : Int32)), (3, .int (0 : Int32)), (0, .ref (o 0)), (1, .int a0), (2, .int a1)]) X dX7_client_88 hl (by decide) rfl (fun ls hl => ?_)
            obtain ⟨Kx90, hK90⟩ : ∃ f : Int32 → Prop, f = (fun (x13 : Int32) => post x13) := ⟨_, rfl⟩
            have kx14 : ∀ (x13 : Int32) (ls : Array Slot), (Kx90 x13) → lv_has ls 5 [(3, .int x13)] → V F (RQ F post) (fxS F).heap [] 133 ls [] := by
              intro x13 ls h hl
              have h : post x13 := by rw [hK90] at h; exact h
              refine v_iload_n X dX7_client_133 rfl (lv_at hl 0 rfl) ?_
              exact v_riret X hF h dX7_client_134
            have lp90 : ∀ (n90 : Nat) (x9 : Int32) (x10 : Int32) (ls : Array Slot), wL_X7_client_90 a0 u post Kx90 n90 x9 x10 → lv_has ls 5 [(0, .ref (o 0)), (1, .int a0), (3, .int x9), (4, .int x10)] → V F (RQ F post) (fxS F).heap [] 90 ls [] := by
              intro n90
              induction n90 with
              | zero => intro x9 x10 ls h hl; exact h.elim
              | succ n90 ih90 =>
                intro x9 x10 ls h hl
                refine v_iload X dX7_client_90 (lv_at hl 3 rfl) ?_
                refine v_aload_n X dX7_client_92 rfl (lv_at hl 0 rfl) ?_
                refine v_get (v := .ref (o 1)) X hP 0 rfl fk_X7_7 rfl dX7_client_93 ?_
                refine v_bipush (v := (22 : Int32)) X dX7_client_96 (by decide) ?_
                have hin := h.1
                have h := h.2
                refine v_iald (f := u.1) X hP 1 0 rfl rfl hin dX7_client_98 ?_
                refine v_icmp_ge (tgt := 133) X dX7_client_99 (by decide) (fun c18 => ?_) (fun c18 => ?_)
                · have h := h.1 c18
                  exact kx14 x9 ls h (lv_sub hl [2] rfl)
                · have h := h.2 c18
                  refine v_iload_n X dX7_client_102 rfl (lv_at hl 2 rfl) ?_
                  refine v_aload_n X dX7_client_103 rfl (lv_at hl 0 rfl) ?_
                  refine v_get (v := .ref (o 1)) X hP 0 rfl fk_X7_7 rfl dX7_client_104 ?_
                  refine v_bipush (v := (10 : Int32)) X dX7_client_107 (by decide) ?_
                  refine v_iload X dX7_client_109 (lv_at hl 3 rfl) ?_
                  refine v_iadd X dX7_client_111 ?_
                  have hin := h.1
                  have h := h.2
                  refine v_iald (f := u.1) X hP 1 0 rfl rfl hin dX7_client_112 ?_
                  refine v_iload_n X dX7_client_113 rfl (lv_at hl 1 rfl) ?_
                  refine v_icmp_ne (tgt := 124) X dX7_client_114 (by decide) (fun c17 => ?_) (fun c17 => ?_)
                  · have h := h.2 c17
                    refine v_iconst (v := (0 : Int32)) X dX7_client_124 (by decide) ?_
                    refine v_ior X dX7_client_125 ?_
                    refine v_topi (fun x15 ex15 => ?_)
                    have h := h x15 ex15
                    refine v_istore_n (lv' := [(3, .int x15), (0, .ref (o 0)), (1, .int a0), (4, .int x10)]) X dX7_client_126 rfl hl (by decide) rfl (fun ls hl => ?_)
                    refine v_iinc (v := (x10 + (1 : Int32))) (lv' := [(4, .int (x10 + (1 : Int32))), (3, .int x15), (0, .ref (o 0)), (1, .int a0)]) X dX7_client_127 hl (k := 3) rfl rfl (by decide) rfl (fun ls hl => ?_)
                    refine v_goto (tgt := 90) X dX7_client_130 (by decide) ?_
                    exact ih90 x15 (x10 + (1 : Int32)) ls h (lv_sub hl [2, 3, 1, 0] rfl)
                  · have h := h.1 c17
                    refine v_iconst (v := (1 : Int32)) X dX7_client_117 (by decide) ?_
                    refine v_iload X dX7_client_118 (lv_at hl 3 rfl) ?_
                    refine v_ishl X dX7_client_120 ?_
                    refine v_goto (tgt := 125) X dX7_client_121 (by decide) ?_
                    refine v_ior X dX7_client_125 ?_
                    refine v_topi (fun x16 ex16 => ?_)
                    have h := h x16 ex16
                    refine v_istore_n (lv' := [(3, .int x16), (0, .ref (o 0)), (1, .int a0), (4, .int x10)]) X dX7_client_126 rfl hl (by decide) rfl (fun ls hl => ?_)
                    refine v_iinc (v := (x10 + (1 : Int32))) (lv' := [(4, .int (x10 + (1 : Int32))), (3, .int x16), (0, .ref (o 0)), (1, .int a0)]) X dX7_client_127 hl (k := 3) rfl rfl (by decide) rfl (fun ls hl => ?_)
                    refine v_goto (tgt := 90) X dX7_client_130 (by decide) ?_
                    exact ih90 x16 (x10 + (1 : Int32)) ls h (lv_sub hl [2, 3, 1, 0] rfl)
            obtain ⟨n90, h⟩ := h
            have h : wL_X7_client_90 a0 u post Kx90 n90 (0 : Int32) (0 : Int32) := by rw [hK90]; exact h
            exact lp90 n90 (0 : Int32) (0 : Int32) ls h (lv_sub hl [2, 3, 1, 0] rfl)
          · have h := h.2 c8
            by_cases c19 : a1 = (4 : Int32)
            · have h := h.1 c19
              refine v_tableIn (tgt := 135) (off := 123) X dX7_client_12 (by rw [c19]; decide) (by rw [c19]; decide) (by rw [c19]; rfl) (by decide) ?_
              refine v_aload_n X dX7_client_135 rfl (lv_at hl 0 rfl) ?_
              refine v_iconst (v := (0 : Int32)) X dX7_client_136 (by decide) ?_
              refine v_iload_n X dX7_client_137 rfl (lv_at hl 1 rfl) ?_
              refine v_iconst (v := (0 : Int32)) X dX7_client_138 (by decide) ?_
              refine rdV (As := [.int (0 : Int32), .int a0, .int (0 : Int32)]) (rest := []) X mv_X7_139 (c_X7_lighter F.2.1 D K t o u (0 : Int32) a0 (0 : Int32) _ h) hF ⟨rfl, rfl, Nat.le_of_ble_eq_true rfl, Nat.le_of_ble_eq_true rfl⟩ hT hP [0, 1, 2, 3, 4, 5, 6, 7, 8, 9] rfl 0 rfl rfl hl.1 rfl rfl (Nat.le_of_ble_eq_true rfl) dX7_client_139 (fun r20 h => ?_)
              exact v_riret X hF h dX7_client_142
            · have h := h.2 c19
              refine v_tableOut (tgt := 143) X dX7_client_12 (by have e0 : a1.toInt ≠ 0 := fun q => c2 (Int32.toInt_inj.mp (by rw [q]; rfl)); have e1 : a1.toInt ≠ 1 := fun q => c3 (Int32.toInt_inj.mp (by rw [q]; rfl)); have e2 : a1.toInt ≠ 2 := fun q => c4 (Int32.toInt_inj.mp (by rw [q]; rfl)); have e3 : a1.toInt ≠ 3 := fun q => c8 (Int32.toInt_inj.mp (by rw [q]; rfl)); have e4 : a1.toInt ≠ 4 := fun q => c19 (Int32.toInt_inj.mp (by rw [q]; rfl)); omega) (by decide) ?_
              refine v_ldc X kc_X7_55 dX7_client_143 ?_
              exact v_riret X hF h dX7_client_145
  · have h := h.1 c21
    refine v_ldc X kc_X7_55 dX7_client_8 ?_
    exact v_riret X hF h dX7_client_10
def w_X7_waker (u : BX7) (a0 : Int32) (a1 : Int32) (post : Int32 → Prop) : Prop := w_X7_isWaker u a0 (fun r1 => (r1 = 0 → post (-1000001 : Int32)) ∧ (¬ r1 = 0 → (a1 = (0 : Int32) → vp_in ((32 : Int32) + a0) 144 ∧ (post (u.1 ((32 : Int32) + a0).toNatClampNeg))) ∧ (¬ a1 = (0 : Int32) → (a1 = (1 : Int32) → vp_in ((6 : Int32) + a0) 144 ∧ (post (u.1 ((6 : Int32) + a0).toNatClampNeg))) ∧ (¬ a1 = (1 : Int32) → (a1 = (2 : Int32) → vp_in ((10 : Int32) + a0) 144 ∧ (post (u.1 ((10 : Int32) + a0).toNatClampNeg))) ∧ (¬ a1 = (2 : Int32) → (a1 = (3 : Int32) → w_X7_lies u (0 : Int32) a0 (fun r6 => post r6)) ∧ (¬ a1 = (3 : Int32) → (a1 = (4 : Int32) → vp_in ((14 : Int32) + a0) 144 ∧ (post (u.1 ((14 : Int32) + a0).toNatClampNeg))) ∧ (¬ a1 = (4 : Int32) → post (-1000001 : Int32))))))))
set_option maxHeartbeats 4000000 in
set_option maxRecDepth 100000 in
theorem c_X7_waker (l : Launch) (D : va_G) (K : Nat → ClassId) (t : Nat → Nat) (o : Nat → Nat) (u : BX7) (a0 : Int32) (a1 : Int32) (post : Int32 → Prop) (h : w_X7_waker u a0 a1 post) : RdM l yX7_waker cX7_waker 3 (some .int) ({ frames := 2, cells := 0, slots := 0, locals := 47 } : Room) D (TY K) t (CX7 K o u) [.ref (o 0), .int a0, .int a1] post := by
  refine RdM.mk rfl (Nat.le_of_ble_eq_true rfl) ?_
  intro F ls _ hF X hP hl hT
  have X : Cx F cX7_waker 3 RX7 D (TY K) := X
  have hl : lv_has ls 3 [(0, .ref (o 0)), (1, .int a0), (2, .int a1)] := hl
  unfold w_X7_waker at h
  refine v_aload_n X dX7_waker_0 rfl (lv_at hl 0 rfl) ?_
  refine v_iload_n X dX7_waker_1 rfl (lv_at hl 1 rfl) ?_
  refine rdV (As := [.int a0]) (rest := []) X mv_X7_158 (c_X7_isWaker F.2.1 D K t o u a0 _ h) hF ⟨rfl, rfl, Nat.le_of_ble_eq_true rfl, Nat.le_of_ble_eq_true rfl⟩ hT hP [0, 1, 2, 3, 4, 5, 6, 7, 8, 9] rfl 0 rfl rfl hl.1 rfl rfl (Nat.le_of_ble_eq_true rfl) dX7_waker_2 (fun r1 h => ?_)
  refine v_if_ne (tgt := 11) X dX7_waker_5 (by decide) (fun c8 => ?_) (fun c8 => ?_)
  · have h := h.2 c8
    refine v_iload_n X dX7_waker_11 rfl (lv_at hl 2 rfl) ?_
    by_cases c2 : a1 = (0 : Int32)
    · have h := h.1 c2
      refine v_tableIn (tgt := 48) (off := 36) X dX7_waker_12 (by rw [c2]; decide) (by rw [c2]; decide) (by rw [c2]; rfl) (by decide) ?_
      refine v_aload_n X dX7_waker_48 rfl (lv_at hl 0 rfl) ?_
      refine v_get (v := .ref (o 1)) X hP 0 rfl fk_X7_7 rfl dX7_waker_49 ?_
      refine v_bipush (v := (32 : Int32)) X dX7_waker_52 (by decide) ?_
      refine v_iload_n X dX7_waker_54 rfl (lv_at hl 1 rfl) ?_
      refine v_iadd X dX7_waker_55 ?_
      have hin := h.1
      have h := h.2
      refine v_iald (f := u.1) X hP 1 0 rfl rfl hin dX7_waker_56 ?_
      exact v_riret X hF h dX7_waker_57
    · have h := h.2 c2
      by_cases c3 : a1 = (1 : Int32)
      · have h := h.1 c3
        refine v_tableIn (tgt := 58) (off := 46) X dX7_waker_12 (by rw [c3]; decide) (by rw [c3]; decide) (by rw [c3]; rfl) (by decide) ?_
        refine v_aload_n X dX7_waker_58 rfl (lv_at hl 0 rfl) ?_
        refine v_get (v := .ref (o 1)) X hP 0 rfl fk_X7_7 rfl dX7_waker_59 ?_
        refine v_bipush (v := (6 : Int32)) X dX7_waker_62 (by decide) ?_
        refine v_iload_n X dX7_waker_64 rfl (lv_at hl 1 rfl) ?_
        refine v_iadd X dX7_waker_65 ?_
        have hin := h.1
        have h := h.2
        refine v_iald (f := u.1) X hP 1 0 rfl rfl hin dX7_waker_66 ?_
        exact v_riret X hF h dX7_waker_67
      · have h := h.2 c3
        by_cases c4 : a1 = (2 : Int32)
        · have h := h.1 c4
          refine v_tableIn (tgt := 68) (off := 56) X dX7_waker_12 (by rw [c4]; decide) (by rw [c4]; decide) (by rw [c4]; rfl) (by decide) ?_
          refine v_aload_n X dX7_waker_68 rfl (lv_at hl 0 rfl) ?_
          refine v_get (v := .ref (o 1)) X hP 0 rfl fk_X7_7 rfl dX7_waker_69 ?_
          refine v_bipush (v := (10 : Int32)) X dX7_waker_72 (by decide) ?_
          refine v_iload_n X dX7_waker_74 rfl (lv_at hl 1 rfl) ?_
          refine v_iadd X dX7_waker_75 ?_
          have hin := h.1
          have h := h.2
          refine v_iald (f := u.1) X hP 1 0 rfl rfl hin dX7_waker_76 ?_
          exact v_riret X hF h dX7_waker_77
        · have h := h.2 c4
          by_cases c5 : a1 = (3 : Int32)
          · have h := h.1 c5
            refine v_tableIn (tgt := 78) (off := 66) X dX7_waker_12 (by rw [c5]; decide) (by rw [c5]; decide) (by rw [c5]; rfl) (by decide) ?_
            refine v_aload_n X dX7_waker_78 rfl (lv_at hl 0 rfl) ?_
            refine v_iconst (v := (0 : Int32)) X dX7_waker_79 (by decide) ?_
            refine v_iload_n X dX7_waker_80 rfl (lv_at hl 1 rfl) ?_
            refine rdV (As := [.int (0 : Int32), .int a0]) (rest := []) X mv_X7_136 (c_X7_lies F.2.1 D K t o u (0 : Int32) a0 _ h) hF ⟨rfl, rfl, Nat.le_of_ble_eq_true rfl, Nat.le_of_ble_eq_true rfl⟩ hT hP [0, 1, 2, 3, 4, 5, 6, 7, 8, 9] rfl 0 rfl rfl hl.1 rfl rfl (Nat.le_of_ble_eq_true rfl) dX7_waker_81 (fun r6 h => ?_)
            exact v_riret X hF h dX7_waker_84
          · have h := h.2 c5
            by_cases c7 : a1 = (4 : Int32)
            · have h := h.1 c7
              refine v_tableIn (tgt := 85) (off := 73) X dX7_waker_12 (by rw [c7]; decide) (by rw [c7]; decide) (by rw [c7]; rfl) (by decide) ?_
              refine v_aload_n X dX7_waker_85 rfl (lv_at hl 0 rfl) ?_
              refine v_get (v := .ref (o 1)) X hP 0 rfl fk_X7_7 rfl dX7_waker_86 ?_
              refine v_bipush (v := (14 : Int32)) X dX7_waker_89 (by decide) ?_
              refine v_iload_n X dX7_waker_91 rfl (lv_at hl 1 rfl) ?_
              refine v_iadd X dX7_waker_92 ?_
              have hin := h.1
              have h := h.2
              refine v_iald (f := u.1) X hP 1 0 rfl rfl hin dX7_waker_93 ?_
              exact v_riret X hF h dX7_waker_94
            · have h := h.2 c7
              refine v_tableOut (tgt := 95) X dX7_waker_12 (by have e0 : a1.toInt ≠ 0 := fun q => c2 (Int32.toInt_inj.mp (by rw [q]; rfl)); have e1 : a1.toInt ≠ 1 := fun q => c3 (Int32.toInt_inj.mp (by rw [q]; rfl)); have e2 : a1.toInt ≠ 2 := fun q => c4 (Int32.toInt_inj.mp (by rw [q]; rfl)); have e3 : a1.toInt ≠ 3 := fun q => c5 (Int32.toInt_inj.mp (by rw [q]; rfl)); have e4 : a1.toInt ≠ 4 := fun q => c7 (Int32.toInt_inj.mp (by rw [q]; rfl)); omega) (by decide) ?_
              refine v_ldc X kc_X7_55 dX7_waker_95 ?_
              exact v_riret X hF h dX7_waker_97
  · have h := h.1 c8
    refine v_ldc X kc_X7_55 dX7_waker_8 ?_
    exact v_riret X hF h dX7_waker_10
def w_X7_isSpan (a0 : Int32) (post : Int32 → Prop) : Prop := w_X7_in a0.toInt64 (0 : Int64) (60 : Int64) (fun r1 => bz r1 ∧ post r1)
set_option maxHeartbeats 4000000 in
set_option maxRecDepth 100000 in
theorem c_X7_isSpan (l : Launch) (D : va_G) (K : Nat → ClassId) (t : Nat → Nat) (a0 : Int32) (post : Int32 → Prop) (h : w_X7_isSpan a0 post) : RdM l yX7_isSpan cX7_isSpan 1 (some .boolean) ({ frames := 1, cells := 0, slots := 0, locals := 25 } : Room) D (TY K) t ([] : va_W) [.int a0] post := by
  refine RdM.mk rfl (Nat.le_of_ble_eq_true rfl) ?_
  intro F ls _ hF X hP hl hT
  have X : Cx F cX7_isSpan 1 RX7 D (TY K) := X
  have hl : lv_has ls 1 [(0, .int a0)] := hl
  unfold w_X7_isSpan at h
  refine v_iload_n X dX7_isSpan_0 rfl (lv_at hl 0 rfl) ?_
  refine v_i2l X dX7_isSpan_1 rfl ?_
  refine v_lconst (v := (0 : Int64)) X dX7_isSpan_2 (by decide) ?_
  refine v_ldc2 X kc_X7_168 dX7_isSpan_3 ?_
  refine rdS (As := [.long a0.toInt64, .long (0 : Int64), .long (60 : Int64)]) (rest := []) X ms_X7_45 (c_X7_in F.2.1 D K t a0.toInt64 (0 : Int64) (60 : Int64) _ h) hF ⟨rfl, rfl, Nat.le_of_ble_eq_true rfl, Nat.le_of_ble_eq_true rfl⟩ hT hP [] rfl hl.1 rfl rfl (Nat.le_of_ble_eq_true rfl) dX7_isSpan_6 (fun r1 h => ?_)
  exact v_rzret X hF h.1 h.2 dX7_isSpan_9
def wL_X7_tries_2 (y3 : Int32) (post : BX7 → Prop) (Kx2 : BX7 → Prop) : Nat → Int32 → BX7 → Prop
  | 0, _, _ => False
  | n2 + 1, x1, u2 => (y3 ≤ x1 → Kx2 u2) ∧ (¬ y3 ≤ x1 → w_X7_passes u2 (108 : Int32) (0 : Int32) (fun u7 => wL_X7_tries_2 y3 post Kx2 n2 (x1 + (1 : Int32)) u7))
def w_X7_tries (u : BX7) (a0 : Int32) (post : BX7 → Prop) : Prop := ∃ n2, wL_X7_tries_2 a0 post (fun (u4 : BX7) => post u4) n2 (0 : Int32) u
set_option maxHeartbeats 4000000 in
set_option maxRecDepth 100000 in
theorem c_X7_tries (l : Launch) (D : va_G) (K : Nat → ClassId) (t : Nat → Nat) (o : Nat → Nat) (u : BX7) (a0 : Int32) (post : BX7 → Prop) (h : w_X7_tries u a0 post) : WrV l yX7_tries cX7_tries 3 ({ frames := 4, cells := 0, slots := 0, locals := 99 } : Room) D (TY K) t (CX7 K o u) [.ref (o 0), .int a0] (fun z : BX7 => CX7 K o z) (fun z : BX7 => post z) := by
  refine WrV.mk rfl (Nat.le_of_ble_eq_true rfl) ?_
  intro F ls A _ hF X hH hA hl hT
  obtain ⟨H, hH0⟩ : ∃ z : Heap, z = (fxS F).heap := ⟨_, rfl⟩
  obtain ⟨locs, hL0⟩ : ∃ z : List Loc, z = [] := ⟨_, rfl⟩
  have hH : HH F D A (CX7 K o u) H locs := by rw [hH0, hL0]; exact hH
  suffices goal : V F (WQV F D (TY K) A (fun z : BX7 => CX7 K o z) (fun z : BX7 => post z)) H locs 0 ls [] by rw [hH0, hL0] at goal; exact goal
  clear hH0 hL0
  have X : Cx F cX7_tries 3 RX7 D (TY K) := X
  have hl : lv_has ls 3 [(0, .ref (o 0)), (1, .int a0)] := hl
  unfold w_X7_tries at h
  refine v_iconst (v := (0 : Int32)) X dX7_tries_0 (by decide) ?_
  refine v_istore_n (lv' := [(2, .int (0 : Int32)), (0, .ref (o 0)), (1, .int a0)]) X dX7_tries_1 rfl hl (by decide) rfl (fun ls hl => ?_)
  obtain ⟨Kx2, hK2⟩ : ∃ f : BX7 → Prop, f = (fun (u4 : BX7) => post u4) := ⟨_, rfl⟩
  have kx5 : ∀ (u4 : BX7) (ls : Array Slot) (H : Heap) (locs : List Loc), (Kx2 u4) → lv_has ls 3 [] → HH F D A (CX7 K o u4) H locs → V F (WQV F D (TY K) A (fun z : BX7 => CX7 K o z) (fun z : BX7 => post z)) H locs 20 ls [] := by
    intro u4 ls H locs h hl hH
    have h : post u4 := by rw [hK2] at h; exact h
    exact v_wvret X hF u4 hH h dX7_tries_20
  have lp2 : ∀ (n2 : Nat) (x1 : Int32) (u2 : BX7) (ls : Array Slot) (H : Heap) (locs : List Loc), wL_X7_tries_2 a0 post Kx2 n2 x1 u2 → lv_has ls 3 [(0, .ref (o 0)), (1, .int a0), (2, .int x1)] → HH F D A (CX7 K o u2) H locs → V F (WQV F D (TY K) A (fun z : BX7 => CX7 K o z) (fun z : BX7 => post z)) H locs 2 ls [] := by
    intro n2
    induction n2 with
    | zero => intro x1 u2 ls H locs h hl hH; exact h.elim
    | succ n2 ih2 =>
      intro x1 u2 ls H locs h hl hH
      refine v_iload_n X dX7_tries_2 rfl (lv_at hl 2 rfl) ?_
      refine v_iload_n X dX7_tries_3 rfl (lv_at hl 1 rfl) ?_
      refine v_icmp_ge (tgt := 20) X dX7_tries_4 (by decide) (fun c8 => ?_) (fun c8 => ?_)
      · have h := h.1 c8
        exact kx5 u2 ls H locs h (lv_sub hl [] rfl) hH
      · have h := h.2 c8
        refine v_aload_n X dX7_tries_7 rfl (lv_at hl 0 rfl) ?_
        refine v_bipush (v := (108 : Int32)) X dX7_tries_8 (by decide) ?_
        refine v_iconst (v := (0 : Int32)) X dX7_tries_10 (by decide) ?_
        refine wrVV (As := [.int (108 : Int32), .int (0 : Int32)]) (rest := []) (wr := ([] : va_W)) X mv_X7_152 (c_X7_passes F.2.1 D K t o u2 (108 : Int32) (0 : Int32) _ h) hF ⟨rfl, rfl, Nat.le_of_ble_eq_true rfl, Nat.le_of_ble_eq_true rfl⟩ hT hA hH [0, 1, 2, 3, 4, 5, 6, 7, 8, 9] [] ⟨rfl, rfl, rfl, rfl, by decide⟩ 0 rfl rfl hl.1 rfl rfl (Nat.le_of_ble_eq_true rfl) dX7_tries_11 (fun u7 H locs h hH => ?_)
        have hH : HH F D A (CX7 K o u7) H locs := hH
        refine v_iinc (v := (x1 + (1 : Int32))) (lv' := [(2, .int (x1 + (1 : Int32))), (0, .ref (o 0)), (1, .int a0)]) X dX7_tries_14 hl (k := 2) rfl rfl (by decide) rfl (fun ls hl => ?_)
        refine v_goto (tgt := 2) X dX7_tries_17 (by decide) ?_
        exact ih2 (x1 + (1 : Int32)) u7 ls H locs h (lv_sub hl [1, 2, 0] rfl) hH
  obtain ⟨n2, h⟩ := h
  have h : wL_X7_tries_2 a0 post Kx2 n2 (0 : Int32) u := by rw [hK2]; exact h
  exact lp2 n2 (0 : Int32) u ls H locs h (lv_sub hl [1, 2, 0] rfl) hH
def w_X7_triesFrom (u : BX7) (a0 : Int32) (post : BX7 → Prop) : Prop := w_X7_copyAll u (0 : Int32) (108 : Int32) (fun u2 => w_X7_tries u2 a0 (fun u4 => post u4))
set_option maxHeartbeats 4000000 in
set_option maxRecDepth 100000 in
theorem c_X7_triesFrom (l : Launch) (D : va_G) (K : Nat → ClassId) (t : Nat → Nat) (o : Nat → Nat) (u : BX7) (a0 : Int32) (post : BX7 → Prop) (h : w_X7_triesFrom u a0 post) : WrV l yX7_triesFrom cX7_triesFrom 2 ({ frames := 5, cells := 0, slots := 0, locals := 121 } : Room) D (TY K) t (CX7 K o u) [.ref (o 0), .int a0] (fun z : BX7 => CX7 K o z) (fun z : BX7 => post z) := by
  refine WrV.mk rfl (Nat.le_of_ble_eq_true rfl) ?_
  intro F ls A _ hF X hH hA hl hT
  obtain ⟨H, hH0⟩ : ∃ z : Heap, z = (fxS F).heap := ⟨_, rfl⟩
  obtain ⟨locs, hL0⟩ : ∃ z : List Loc, z = [] := ⟨_, rfl⟩
  have hH : HH F D A (CX7 K o u) H locs := by rw [hH0, hL0]; exact hH
  suffices goal : V F (WQV F D (TY K) A (fun z : BX7 => CX7 K o z) (fun z : BX7 => post z)) H locs 0 ls [] by rw [hH0, hL0] at goal; exact goal
  clear hH0 hL0
  have X : Cx F cX7_triesFrom 2 RX7 D (TY K) := X
  have hl : lv_has ls 2 [(0, .ref (o 0)), (1, .int a0)] := hl
  unfold w_X7_triesFrom at h
  refine v_aload_n X dX7_triesFrom_0 rfl (lv_at hl 0 rfl) ?_
  refine v_iconst (v := (0 : Int32)) X dX7_triesFrom_1 (by decide) ?_
  refine v_bipush (v := (108 : Int32)) X dX7_triesFrom_2 (by decide) ?_
  refine wrVV (As := [.int (0 : Int32), .int (108 : Int32)]) (rest := []) (wr := ([] : va_W)) X mv_X7_119 (c_X7_copyAll F.2.1 D K t o u (0 : Int32) (108 : Int32) _ h) hF ⟨rfl, rfl, Nat.le_of_ble_eq_true rfl, Nat.le_of_ble_eq_true rfl⟩ hT hA hH [0, 1, 2, 3, 4, 5, 6, 7, 8, 9] [] ⟨rfl, rfl, rfl, rfl, by decide⟩ 0 rfl rfl hl.1 rfl rfl (Nat.le_of_ble_eq_true rfl) dX7_triesFrom_4 (fun u2 H locs h hH => ?_)
  have hH : HH F D A (CX7 K o u2) H locs := hH
  refine v_aload_n X dX7_triesFrom_7 rfl (lv_at hl 0 rfl) ?_
  refine v_iload_n X dX7_triesFrom_8 rfl (lv_at hl 1 rfl) ?_
  refine wrVV (As := [.int a0]) (rest := []) (wr := ([] : va_W)) X mv_X7_170 (c_X7_tries F.2.1 D K t o u2 a0 _ h) hF ⟨rfl, rfl, Nat.le_of_ble_eq_true rfl, Nat.le_of_ble_eq_true rfl⟩ hT hA hH [0, 1, 2, 3, 4, 5, 6, 7, 8, 9] [] ⟨rfl, rfl, rfl, rfl, by decide⟩ 0 rfl rfl hl.1 rfl rfl (Nat.le_of_ble_eq_true rfl) dX7_triesFrom_9 (fun u4 H locs h hH => ?_)
  have hH : HH F D A (CX7 K o u4) H locs := hH
  exact v_wvret X hF u4 hH h dX7_triesFrom_12
def w_X7_weight (u : BX7) (a0 : Int32) (a1 : Int32) (post : Int32 → BX7 → Prop) : Prop := w_X7_isClient u a0 (fun r1 => (r1 = 0 → post (-1000001 : Int32) u) ∧ (¬ r1 = 0 → w_X7_isSpan a1 (fun r2 => (r2 = 0 → post (-1000001 : Int32) u) ∧ (¬ r2 = 0 → w_X7_triesFrom u a1 (fun u4 => vp_in ((109 : Int32) + a0) 144 ∧ (post (u4.1 ((109 : Int32) + a0).toNatClampNeg) u4))))))
set_option maxHeartbeats 4000000 in
set_option maxRecDepth 100000 in
theorem c_X7_weight (l : Launch) (D : va_G) (K : Nat → ClassId) (t : Nat → Nat) (o : Nat → Nat) (u : BX7) (a0 : Int32) (a1 : Int32) (post : Int32 → BX7 → Prop) (h : w_X7_weight u a0 a1 post) : WrI l yX7_weight cX7_weight 3 (some .int) ({ frames := 6, cells := 0, slots := 0, locals := 142 } : Room) D (TY K) t (CX7 K o u) [.ref (o 0), .int a0, .int a1] (fun z : BX7 => CX7 K o z) (fun (r : Int32) (z : BX7) => post r z) := by
  refine WrI.mk rfl (Nat.le_of_ble_eq_true rfl) ?_
  intro F ls A _ hF X hH hA hl hT
  obtain ⟨H, hH0⟩ : ∃ z : Heap, z = (fxS F).heap := ⟨_, rfl⟩
  obtain ⟨locs, hL0⟩ : ∃ z : List Loc, z = [] := ⟨_, rfl⟩
  have hH : HH F D A (CX7 K o u) H locs := by rw [hH0, hL0]; exact hH
  suffices goal : V F (WQI F D (TY K) A (fun z : BX7 => CX7 K o z) (fun (r : Int32) (z : BX7) => post r z)) H locs 0 ls [] by rw [hH0, hL0] at goal; exact goal
  clear hH0 hL0
  have X : Cx F cX7_weight 3 RX7 D (TY K) := X
  have hl : lv_has ls 3 [(0, .ref (o 0)), (1, .int a0), (2, .int a1)] := hl
  unfold w_X7_weight at h
  refine v_aload_n X dX7_weight_0 rfl (lv_at hl 0 rfl) ?_
  refine v_iload_n X dX7_weight_1 rfl (lv_at hl 1 rfl) ?_
  refine rdV (As := [.int a0]) (rest := []) X mv_X7_161 (c_X7_isClient F.2.1 D K t o u a0 _ h) hF ⟨rfl, rfl, Nat.le_of_ble_eq_true rfl, Nat.le_of_ble_eq_true rfl⟩ (stW hT hH) hH.1 [0, 1, 2, 3, 4, 5, 6, 7, 8, 9] rfl 0 rfl rfl hl.1 rfl rfl (Nat.le_of_ble_eq_true rfl) dX7_weight_2 (fun r1 h => ?_)
  refine v_if_eq (tgt := 15) X dX7_weight_5 (by decide) (fun c6 => ?_) (fun c6 => ?_)
  · have h := h.1 c6
    refine v_ldc X kc_X7_55 dX7_weight_15 ?_
    exact v_wiret X hF u hH h dX7_weight_17
  · have h := h.2 c6
    refine v_iload_n X dX7_weight_8 rfl (lv_at hl 2 rfl) ?_
    refine rdS (As := [.int a1]) (rest := []) X ms_X7_174 (c_X7_isSpan F.2.1 D K t a1 _ h) hF ⟨rfl, rfl, Nat.le_of_ble_eq_true rfl, Nat.le_of_ble_eq_true rfl⟩ (stW hT hH) hH.1 [] rfl hl.1 rfl rfl (Nat.le_of_ble_eq_true rfl) dX7_weight_9 (fun r2 h => ?_)
    refine v_if_ne (tgt := 18) X dX7_weight_12 (by decide) (fun c5 => ?_) (fun c5 => ?_)
    · have h := h.2 c5
      refine v_aload_n X dX7_weight_18 rfl (lv_at hl 0 rfl) ?_
      refine v_iload_n X dX7_weight_19 rfl (lv_at hl 2 rfl) ?_
      refine wrVV (As := [.int a1]) (rest := []) (wr := ([] : va_W)) X mv_X7_177 (c_X7_triesFrom F.2.1 D K t o u a1 _ h) hF ⟨rfl, rfl, Nat.le_of_ble_eq_true rfl, Nat.le_of_ble_eq_true rfl⟩ hT hA hH [0, 1, 2, 3, 4, 5, 6, 7, 8, 9] [] ⟨rfl, rfl, rfl, rfl, by decide⟩ 0 rfl rfl hl.1 rfl rfl (Nat.le_of_ble_eq_true rfl) dX7_weight_20 (fun u4 H locs h hH => ?_)
      have hH : HH F D A (CX7 K o u4) H locs := hH
      refine v_aload_n X dX7_weight_23 rfl (lv_at hl 0 rfl) ?_
      refine v_get (v := .ref (o 1)) X hH.1 0 rfl fk_X7_7 rfl dX7_weight_24 ?_
      refine v_bipush (v := (109 : Int32)) X dX7_weight_27 (by decide) ?_
      refine v_iload_n X dX7_weight_29 rfl (lv_at hl 1 rfl) ?_
      refine v_iadd X dX7_weight_30 ?_
      have hin := h.1
      have h := h.2
      refine v_iald (f := u4.1) X hH.1 1 0 rfl rfl hin dX7_weight_31 ?_
      exact v_wiret X hF u4 hH h dX7_weight_32
    · have h := h.1 c5
      refine v_ldc X kc_X7_55 dX7_weight_15 ?_
      exact v_wiret X hF u hH h dX7_weight_17
def w_X7_earned (u : BX7) (a0 : Int32) (a1 : Int32) (post : Int32 → BX7 → Prop) : Prop := w_X7_isWaker u a0 (fun r1 => (r1 = 0 → post (-1000001 : Int32) u) ∧ (¬ r1 = 0 → w_X7_isSpan a1 (fun r2 => (r2 = 0 → post (-1000001 : Int32) u) ∧ (¬ r2 = 0 → w_X7_triesFrom u a1 (fun u4 => vp_in ((122 : Int32) + a0) 144 ∧ (post (u4.1 ((122 : Int32) + a0).toNatClampNeg) u4))))))
set_option maxHeartbeats 4000000 in
set_option maxRecDepth 100000 in
theorem c_X7_earned (l : Launch) (D : va_G) (K : Nat → ClassId) (t : Nat → Nat) (o : Nat → Nat) (u : BX7) (a0 : Int32) (a1 : Int32) (post : Int32 → BX7 → Prop) (h : w_X7_earned u a0 a1 post) : WrI l yX7_earned cX7_earned 3 (some .int) ({ frames := 6, cells := 0, slots := 0, locals := 142 } : Room) D (TY K) t (CX7 K o u) [.ref (o 0), .int a0, .int a1] (fun z : BX7 => CX7 K o z) (fun (r : Int32) (z : BX7) => post r z) := by
  refine WrI.mk rfl (Nat.le_of_ble_eq_true rfl) ?_
  intro F ls A _ hF X hH hA hl hT
  obtain ⟨H, hH0⟩ : ∃ z : Heap, z = (fxS F).heap := ⟨_, rfl⟩
  obtain ⟨locs, hL0⟩ : ∃ z : List Loc, z = [] := ⟨_, rfl⟩
  have hH : HH F D A (CX7 K o u) H locs := by rw [hH0, hL0]; exact hH
  suffices goal : V F (WQI F D (TY K) A (fun z : BX7 => CX7 K o z) (fun (r : Int32) (z : BX7) => post r z)) H locs 0 ls [] by rw [hH0, hL0] at goal; exact goal
  clear hH0 hL0
  have X : Cx F cX7_earned 3 RX7 D (TY K) := X
  have hl : lv_has ls 3 [(0, .ref (o 0)), (1, .int a0), (2, .int a1)] := hl
  unfold w_X7_earned at h
  refine v_aload_n X dX7_earned_0 rfl (lv_at hl 0 rfl) ?_
  refine v_iload_n X dX7_earned_1 rfl (lv_at hl 1 rfl) ?_
  refine rdV (As := [.int a0]) (rest := []) X mv_X7_158 (c_X7_isWaker F.2.1 D K t o u a0 _ h) hF ⟨rfl, rfl, Nat.le_of_ble_eq_true rfl, Nat.le_of_ble_eq_true rfl⟩ (stW hT hH) hH.1 [0, 1, 2, 3, 4, 5, 6, 7, 8, 9] rfl 0 rfl rfl hl.1 rfl rfl (Nat.le_of_ble_eq_true rfl) dX7_earned_2 (fun r1 h => ?_)
  refine v_if_eq (tgt := 15) X dX7_earned_5 (by decide) (fun c6 => ?_) (fun c6 => ?_)
  · have h := h.1 c6
    refine v_ldc X kc_X7_55 dX7_earned_15 ?_
    exact v_wiret X hF u hH h dX7_earned_17
  · have h := h.2 c6
    refine v_iload_n X dX7_earned_8 rfl (lv_at hl 2 rfl) ?_
    refine rdS (As := [.int a1]) (rest := []) X ms_X7_174 (c_X7_isSpan F.2.1 D K t a1 _ h) hF ⟨rfl, rfl, Nat.le_of_ble_eq_true rfl, Nat.le_of_ble_eq_true rfl⟩ (stW hT hH) hH.1 [] rfl hl.1 rfl rfl (Nat.le_of_ble_eq_true rfl) dX7_earned_9 (fun r2 h => ?_)
    refine v_if_ne (tgt := 18) X dX7_earned_12 (by decide) (fun c5 => ?_) (fun c5 => ?_)
    · have h := h.2 c5
      refine v_aload_n X dX7_earned_18 rfl (lv_at hl 0 rfl) ?_
      refine v_iload_n X dX7_earned_19 rfl (lv_at hl 2 rfl) ?_
      refine wrVV (As := [.int a1]) (rest := []) (wr := ([] : va_W)) X mv_X7_177 (c_X7_triesFrom F.2.1 D K t o u a1 _ h) hF ⟨rfl, rfl, Nat.le_of_ble_eq_true rfl, Nat.le_of_ble_eq_true rfl⟩ hT hA hH [0, 1, 2, 3, 4, 5, 6, 7, 8, 9] [] ⟨rfl, rfl, rfl, rfl, by decide⟩ 0 rfl rfl hl.1 rfl rfl (Nat.le_of_ble_eq_true rfl) dX7_earned_20 (fun u4 H locs h hH => ?_)
      have hH : HH F D A (CX7 K o u4) H locs := hH
      refine v_aload_n X dX7_earned_23 rfl (lv_at hl 0 rfl) ?_
      refine v_get (v := .ref (o 1)) X hH.1 0 rfl fk_X7_7 rfl dX7_earned_24 ?_
      refine v_bipush (v := (122 : Int32)) X dX7_earned_27 (by decide) ?_
      refine v_iload_n X dX7_earned_29 rfl (lv_at hl 1 rfl) ?_
      refine v_iadd X dX7_earned_30 ?_
      have hin := h.1
      have h := h.2
      refine v_iald (f := u4.1) X hH.1 1 0 rfl rfl hin dX7_earned_31 ?_
      exact v_wiret X hF u4 hH h dX7_earned_32
    · have h := h.1 c5
      refine v_ldc X kc_X7_55 dX7_earned_15 ?_
      exact v_wiret X hF u hH h dX7_earned_17
def w_X7_rests (u : BX7) (a0 : Int32) (post : Int32 → BX7 → Prop) : Prop := w_X7_isAgency u (fun r1 => (r1 = 0 → post (-1000002 : Int32) u) ∧ (¬ r1 = 0 → w_X7_isSpan a0 (fun r2 => (r2 = 0 → post (-1000001 : Int32) u) ∧ (¬ r2 = 0 → w_X7_triesFrom u a0 (fun u4 => w_X7_restsIn u4 (108 : Int32) (fun r5 => post r5 u4))))))
set_option maxHeartbeats 4000000 in
set_option maxRecDepth 100000 in
theorem c_X7_rests (l : Launch) (D : va_G) (K : Nat → ClassId) (t : Nat → Nat) (o : Nat → Nat) (u : BX7) (a0 : Int32) (post : Int32 → BX7 → Prop) (h : w_X7_rests u a0 post) : WrI l yX7_rests cX7_rests 2 (some .int) ({ frames := 6, cells := 0, slots := 0, locals := 142 } : Room) D (TY K) t (CX7 K o u) [.ref (o 0), .int a0] (fun z : BX7 => CX7 K o z) (fun (r : Int32) (z : BX7) => post r z) := by
  refine WrI.mk rfl (Nat.le_of_ble_eq_true rfl) ?_
  intro F ls A _ hF X hH hA hl hT
  obtain ⟨H, hH0⟩ : ∃ z : Heap, z = (fxS F).heap := ⟨_, rfl⟩
  obtain ⟨locs, hL0⟩ : ∃ z : List Loc, z = [] := ⟨_, rfl⟩
  have hH : HH F D A (CX7 K o u) H locs := by rw [hH0, hL0]; exact hH
  suffices goal : V F (WQI F D (TY K) A (fun z : BX7 => CX7 K o z) (fun (r : Int32) (z : BX7) => post r z)) H locs 0 ls [] by rw [hH0, hL0] at goal; exact goal
  clear hH0 hL0
  have X : Cx F cX7_rests 2 RX7 D (TY K) := X
  have hl : lv_has ls 2 [(0, .ref (o 0)), (1, .int a0)] := hl
  unfold w_X7_rests at h
  refine v_aload_n X dX7_rests_0 rfl (lv_at hl 0 rfl) ?_
  refine rdV (As := []) (rest := []) X mv_X7_143 (c_X7_isAgency F.2.1 D K t o u _ h) hF ⟨rfl, rfl, Nat.le_of_ble_eq_true rfl, Nat.le_of_ble_eq_true rfl⟩ (stW hT hH) hH.1 [0, 1, 2, 3, 4, 5, 6, 7, 8, 9] rfl 0 rfl rfl hl.1 rfl rfl (Nat.le_of_ble_eq_true rfl) dX7_rests_1 (fun r1 h => ?_)
  refine v_if_ne (tgt := 10) X dX7_rests_4 (by decide) (fun c7 => ?_) (fun c7 => ?_)
  · have h := h.2 c7
    refine v_iload_n X dX7_rests_10 rfl (lv_at hl 1 rfl) ?_
    refine rdS (As := [.int a0]) (rest := []) X ms_X7_174 (c_X7_isSpan F.2.1 D K t a0 _ h) hF ⟨rfl, rfl, Nat.le_of_ble_eq_true rfl, Nat.le_of_ble_eq_true rfl⟩ (stW hT hH) hH.1 [] rfl hl.1 rfl rfl (Nat.le_of_ble_eq_true rfl) dX7_rests_11 (fun r2 h => ?_)
    refine v_if_ne (tgt := 20) X dX7_rests_14 (by decide) (fun c6 => ?_) (fun c6 => ?_)
    · have h := h.2 c6
      refine v_aload_n X dX7_rests_20 rfl (lv_at hl 0 rfl) ?_
      refine v_iload_n X dX7_rests_21 rfl (lv_at hl 1 rfl) ?_
      refine wrVV (As := [.int a0]) (rest := []) (wr := ([] : va_W)) X mv_X7_177 (c_X7_triesFrom F.2.1 D K t o u a0 _ h) hF ⟨rfl, rfl, Nat.le_of_ble_eq_true rfl, Nat.le_of_ble_eq_true rfl⟩ hT hA hH [0, 1, 2, 3, 4, 5, 6, 7, 8, 9] [] ⟨rfl, rfl, rfl, rfl, by decide⟩ 0 rfl rfl hl.1 rfl rfl (Nat.le_of_ble_eq_true rfl) dX7_rests_22 (fun u4 H locs h hH => ?_)
      have hH : HH F D A (CX7 K o u4) H locs := hH
      refine v_aload_n X dX7_rests_25 rfl (lv_at hl 0 rfl) ?_
      refine v_bipush (v := (108 : Int32)) X dX7_rests_26 (by decide) ?_
      refine rdV (As := [.int (108 : Int32)]) (rest := []) X mv_X7_155 (c_X7_restsIn F.2.1 D K t o u4 (108 : Int32) _ h) hF ⟨rfl, rfl, Nat.le_of_ble_eq_true rfl, Nat.le_of_ble_eq_true rfl⟩ (stW hT hH) hH.1 [0, 1, 2, 3, 4, 5, 6, 7, 8, 9] rfl 0 rfl rfl hl.1 rfl rfl (Nat.le_of_ble_eq_true rfl) dX7_rests_28 (fun r5 h => ?_)
      exact v_wiret X hF u4 hH h dX7_rests_31
    · have h := h.1 c6
      refine v_ldc X kc_X7_55 dX7_rests_17 ?_
      exact v_wiret X hF u hH h dX7_rests_19
  · have h := h.1 c7
    refine v_ldc X kc_X7_146 dX7_rests_7 ?_
    exact v_wiret X hF u hH h dX7_rests_9
def wL_X7_firstOf_9 (y5 : Int32) (post : Int32 → BX7 → Prop) (Kx9 : Int32 → BX7 → Prop) : Nat → Int32 → BX7 → Prop
  | 0, _, _ => False
  | n9 + 1, x3, u4 => ((60 : Int32) < x3 → post (-1000000 : Int32) u4) ∧ (¬ (60 : Int32) < x3 → w_X7_restsIn u4 (108 : Int32) (fun r9 => ((y5 &&& (r9 ^^^ (-1 : Int32))) = 0 → Kx9 x3 u4) ∧ (¬ (y5 &&& (r9 ^^^ (-1 : Int32))) = 0 → w_X7_passes u4 (108 : Int32) (0 : Int32) (fun u11 => wL_X7_firstOf_9 y5 post Kx9 n9 (x3 + (1 : Int32)) u11))))
def w_X7_firstOf (u : BX7) (a0 : Int32) (post : Int32 → BX7 → Prop) : Prop := w_X7_copyAll u (0 : Int32) (108 : Int32) (fun u2 => ∃ n9, wL_X7_firstOf_9 a0 post (fun (x6 : Int32) (u7 : BX7) => post x6 u7) n9 (0 : Int32) u2)
set_option maxHeartbeats 4000000 in
set_option maxRecDepth 100000 in
theorem c_X7_firstOf (l : Launch) (D : va_G) (K : Nat → ClassId) (t : Nat → Nat) (o : Nat → Nat) (u : BX7) (a0 : Int32) (post : Int32 → BX7 → Prop) (h : w_X7_firstOf u a0 post) : WrI l yX7_firstOf cX7_firstOf 3 (some .int) ({ frames := 4, cells := 0, slots := 0, locals := 99 } : Room) D (TY K) t (CX7 K o u) [.ref (o 0), .int a0] (fun z : BX7 => CX7 K o z) (fun (r : Int32) (z : BX7) => post r z) := by
  refine WrI.mk rfl (Nat.le_of_ble_eq_true rfl) ?_
  intro F ls A _ hF X hH hA hl hT
  obtain ⟨H, hH0⟩ : ∃ z : Heap, z = (fxS F).heap := ⟨_, rfl⟩
  obtain ⟨locs, hL0⟩ : ∃ z : List Loc, z = [] := ⟨_, rfl⟩
  have hH : HH F D A (CX7 K o u) H locs := by rw [hH0, hL0]; exact hH
  suffices goal : V F (WQI F D (TY K) A (fun z : BX7 => CX7 K o z) (fun (r : Int32) (z : BX7) => post r z)) H locs 0 ls [] by rw [hH0, hL0] at goal; exact goal
  clear hH0 hL0
  have X : Cx F cX7_firstOf 3 RX7 D (TY K) := X
  have hl : lv_has ls 3 [(0, .ref (o 0)), (1, .int a0)] := hl
  unfold w_X7_firstOf at h
  refine v_aload_n X dX7_firstOf_0 rfl (lv_at hl 0 rfl) ?_
  refine v_iconst (v := (0 : Int32)) X dX7_firstOf_1 (by decide) ?_
  refine v_bipush (v := (108 : Int32)) X dX7_firstOf_2 (by decide) ?_
  refine wrVV (As := [.int (0 : Int32), .int (108 : Int32)]) (rest := []) (wr := ([] : va_W)) X mv_X7_119 (c_X7_copyAll F.2.1 D K t o u (0 : Int32) (108 : Int32) _ h) hF ⟨rfl, rfl, Nat.le_of_ble_eq_true rfl, Nat.le_of_ble_eq_true rfl⟩ hT hA hH [0, 1, 2, 3, 4, 5, 6, 7, 8, 9] [] ⟨rfl, rfl, rfl, rfl, by decide⟩ 0 rfl rfl hl.1 rfl rfl (Nat.le_of_ble_eq_true rfl) dX7_firstOf_4 (fun u2 H locs h hH => ?_)
  have hH : HH F D A (CX7 K o u2) H locs := hH
  refine v_iconst (v := (0 : Int32)) X dX7_firstOf_7 (by decide) ?_
  refine v_istore_n (lv' := [(2, .int (0 : Int32)), (0, .ref (o 0)), (1, .int a0)]) X dX7_firstOf_8 rfl hl (by decide) rfl (fun ls hl => ?_)
  obtain ⟨Kx9, hK9⟩ : ∃ f : Int32 → BX7 → Prop, f = (fun (x6 : Int32) (u7 : BX7) => post x6 u7) := ⟨_, rfl⟩
  have kx8 : ∀ (x6 : Int32) (u7 : BX7) (ls : Array Slot) (H : Heap) (locs : List Loc), (Kx9 x6 u7) → lv_has ls 3 [(2, .int x6)] → HH F D A (CX7 K o u7) H locs → V F (WQI F D (TY K) A (fun z : BX7 => CX7 K o z) (fun (r : Int32) (z : BX7) => post r z)) H locs 28 ls [] := by
    intro x6 u7 ls H locs h hl hH
    have h : post x6 u7 := by rw [hK9] at h; exact h
    refine v_iload_n X dX7_firstOf_28 rfl (lv_at hl 0 rfl) ?_
    exact v_wiret X hF u7 hH h dX7_firstOf_29
  have lp9 : ∀ (n9 : Nat) (x3 : Int32) (u4 : BX7) (ls : Array Slot) (H : Heap) (locs : List Loc), wL_X7_firstOf_9 a0 post Kx9 n9 x3 u4 → lv_has ls 3 [(0, .ref (o 0)), (1, .int a0), (2, .int x3)] → HH F D A (CX7 K o u4) H locs → V F (WQI F D (TY K) A (fun z : BX7 => CX7 K o z) (fun (r : Int32) (z : BX7) => post r z)) H locs 9 ls [] := by
    intro n9
    induction n9 with
    | zero => intro x3 u4 ls H locs h hl hH; exact h.elim
    | succ n9 ih9 =>
      intro x3 u4 ls H locs h hl hH
      refine v_iload_n X dX7_firstOf_9 rfl (lv_at hl 2 rfl) ?_
      refine v_bipush (v := (60 : Int32)) X dX7_firstOf_10 (by decide) ?_
      refine v_icmp_gt (tgt := 43) X dX7_firstOf_12 (by decide) (fun c13 => ?_) (fun c13 => ?_)
      · have h := h.1 c13
        refine v_ldc X kc_X7_180 dX7_firstOf_43 ?_
        exact v_wiret X hF u4 hH h dX7_firstOf_45
      · have h := h.2 c13
        refine v_iload_n X dX7_firstOf_15 rfl (lv_at hl 1 rfl) ?_
        refine v_aload_n X dX7_firstOf_16 rfl (lv_at hl 0 rfl) ?_
        refine v_bipush (v := (108 : Int32)) X dX7_firstOf_17 (by decide) ?_
        refine rdV (As := [.int (108 : Int32)]) (rest := [.int a0]) X mv_X7_155 (c_X7_restsIn F.2.1 D K t o u4 (108 : Int32) _ h) hF ⟨rfl, rfl, Nat.le_of_ble_eq_true rfl, Nat.le_of_ble_eq_true rfl⟩ (stW hT hH) hH.1 [0, 1, 2, 3, 4, 5, 6, 7, 8, 9] rfl 0 rfl rfl hl.1 rfl rfl (Nat.le_of_ble_eq_true rfl) dX7_firstOf_19 (fun r9 h => ?_)
        refine v_iconst (v := (-1 : Int32)) X dX7_firstOf_22 (by decide) ?_
        refine v_ixor X dX7_firstOf_23 ?_
        refine v_iand X dX7_firstOf_24 ?_
        refine v_if_ne (tgt := 30) X dX7_firstOf_25 (by decide) (fun c12 => ?_) (fun c12 => ?_)
        · have h := h.2 c12
          refine v_aload_n X dX7_firstOf_30 rfl (lv_at hl 0 rfl) ?_
          refine v_bipush (v := (108 : Int32)) X dX7_firstOf_31 (by decide) ?_
          refine v_iconst (v := (0 : Int32)) X dX7_firstOf_33 (by decide) ?_
          refine wrVV (As := [.int (108 : Int32), .int (0 : Int32)]) (rest := []) (wr := ([] : va_W)) X mv_X7_152 (c_X7_passes F.2.1 D K t o u4 (108 : Int32) (0 : Int32) _ h) hF ⟨rfl, rfl, Nat.le_of_ble_eq_true rfl, Nat.le_of_ble_eq_true rfl⟩ hT hA hH [0, 1, 2, 3, 4, 5, 6, 7, 8, 9] [] ⟨rfl, rfl, rfl, rfl, by decide⟩ 0 rfl rfl hl.1 rfl rfl (Nat.le_of_ble_eq_true rfl) dX7_firstOf_34 (fun u11 H locs h hH => ?_)
          have hH : HH F D A (CX7 K o u11) H locs := hH
          refine v_iinc (v := (x3 + (1 : Int32))) (lv' := [(2, .int (x3 + (1 : Int32))), (0, .ref (o 0)), (1, .int a0)]) X dX7_firstOf_37 hl (k := 2) rfl rfl (by decide) rfl (fun ls hl => ?_)
          refine v_goto (tgt := 9) X dX7_firstOf_40 (by decide) ?_
          exact ih9 (x3 + (1 : Int32)) u11 ls H locs h (lv_sub hl [1, 2, 0] rfl) hH
        · have h := h.1 c12
          exact kx8 x3 u4 ls H locs h (lv_sub hl [2] rfl) hH
  obtain ⟨n9, h⟩ := h
  have h : wL_X7_firstOf_9 a0 post Kx9 n9 (0 : Int32) u2 := by rw [hK9]; exact h
  exact lp9 n9 (0 : Int32) u2 ls H locs h (lv_sub hl [1, 2, 0] rfl) hH
def w_X7_when (u : BX7) (a0 : Int32) (post : Int32 → BX7 → Prop) : Prop := w_X7_isClient u a0 (fun r1 => (r1 = 0 → post (-1000001 : Int32) u) ∧ (¬ r1 = 0 → w_X7_firstOf u ((1 : Int32) <<< (a0 &&& 31)) (fun r2 u3 => post r2 u3)))
set_option maxHeartbeats 4000000 in
set_option maxRecDepth 100000 in
theorem c_X7_when (l : Launch) (D : va_G) (K : Nat → ClassId) (t : Nat → Nat) (o : Nat → Nat) (u : BX7) (a0 : Int32) (post : Int32 → BX7 → Prop) (h : w_X7_when u a0 post) : WrI l yX7_when cX7_when 2 (some .int) ({ frames := 5, cells := 0, slots := 0, locals := 121 } : Room) D (TY K) t (CX7 K o u) [.ref (o 0), .int a0] (fun z : BX7 => CX7 K o z) (fun (r : Int32) (z : BX7) => post r z) := by
  refine WrI.mk rfl (Nat.le_of_ble_eq_true rfl) ?_
  intro F ls A _ hF X hH hA hl hT
  obtain ⟨H, hH0⟩ : ∃ z : Heap, z = (fxS F).heap := ⟨_, rfl⟩
  obtain ⟨locs, hL0⟩ : ∃ z : List Loc, z = [] := ⟨_, rfl⟩
  have hH : HH F D A (CX7 K o u) H locs := by rw [hH0, hL0]; exact hH
  suffices goal : V F (WQI F D (TY K) A (fun z : BX7 => CX7 K o z) (fun (r : Int32) (z : BX7) => post r z)) H locs 0 ls [] by rw [hH0, hL0] at goal; exact goal
  clear hH0 hL0
  have X : Cx F cX7_when 2 RX7 D (TY K) := X
  have hl : lv_has ls 2 [(0, .ref (o 0)), (1, .int a0)] := hl
  unfold w_X7_when at h
  refine v_aload_n X dX7_when_0 rfl (lv_at hl 0 rfl) ?_
  refine v_iload_n X dX7_when_1 rfl (lv_at hl 1 rfl) ?_
  refine rdV (As := [.int a0]) (rest := []) X mv_X7_161 (c_X7_isClient F.2.1 D K t o u a0 _ h) hF ⟨rfl, rfl, Nat.le_of_ble_eq_true rfl, Nat.le_of_ble_eq_true rfl⟩ (stW hT hH) hH.1 [0, 1, 2, 3, 4, 5, 6, 7, 8, 9] rfl 0 rfl rfl hl.1 rfl rfl (Nat.le_of_ble_eq_true rfl) dX7_when_2 (fun r1 h => ?_)
  refine v_if_eq (tgt := 18) X dX7_when_5 (by decide) (fun c4 => ?_) (fun c4 => ?_)
  · have h := h.1 c4
    refine v_ldc X kc_X7_55 dX7_when_18 ?_
    exact v_wiret X hF u hH h dX7_when_20
  · have h := h.2 c4
    refine v_aload_n X dX7_when_8 rfl (lv_at hl 0 rfl) ?_
    refine v_iconst (v := (1 : Int32)) X dX7_when_9 (by decide) ?_
    refine v_iload_n X dX7_when_10 rfl (lv_at hl 1 rfl) ?_
    refine v_ishl X dX7_when_11 ?_
    refine wrVI (As := [.int ((1 : Int32) <<< (a0 &&& 31))]) (rest := []) (wr := ([] : va_W)) X mv_X7_181 (c_X7_firstOf F.2.1 D K t o u ((1 : Int32) <<< (a0 &&& 31)) _ h) hF ⟨rfl, rfl, Nat.le_of_ble_eq_true rfl, Nat.le_of_ble_eq_true rfl⟩ hT hA hH [0, 1, 2, 3, 4, 5, 6, 7, 8, 9] [] ⟨rfl, rfl, rfl, rfl, by decide⟩ 0 rfl rfl hl.1 rfl rfl (Nat.le_of_ble_eq_true rfl) dX7_when_12 (fun r2 u3 H locs h hH => ?_)
    have hH : HH F D A (CX7 K o u3) H locs := hH
    refine v_goto (tgt := 20) X dX7_when_15 (by decide) ?_
    exact v_wiret X hF u3 hH h dX7_when_20
def w_X7_isSet (u : BX7) (a0 : Int32) (post : Int32 → Prop) : Prop := vp_in (21 : Int32) 144 ∧ (w_X7_in a0.toInt64 (0 : Int64) ((((1 : Int32) <<< ((u.1 (21 : Int32).toNatClampNeg) &&& 31)) - (1 : Int32)).toInt64) (fun r1 => bz r1 ∧ post r1))
set_option maxHeartbeats 4000000 in
set_option maxRecDepth 100000 in
theorem c_X7_isSet (l : Launch) (D : va_G) (K : Nat → ClassId) (t : Nat → Nat) (o : Nat → Nat) (u : BX7) (a0 : Int32) (post : Int32 → Prop) (h : w_X7_isSet u a0 post) : RdM l yX7_isSet cX7_isSet 2 (some .boolean) ({ frames := 1, cells := 0, slots := 0, locals := 25 } : Room) D (TY K) t (CX7 K o u) [.ref (o 0), .int a0] post := by
  refine RdM.mk rfl (Nat.le_of_ble_eq_true rfl) ?_
  intro F ls _ hF X hP hl hT
  have X : Cx F cX7_isSet 2 RX7 D (TY K) := X
  have hl : lv_has ls 2 [(0, .ref (o 0)), (1, .int a0)] := hl
  unfold w_X7_isSet at h
  refine v_iload_n X dX7_isSet_0 rfl (lv_at hl 1 rfl) ?_
  refine v_i2l X dX7_isSet_1 rfl ?_
  refine v_lconst (v := (0 : Int64)) X dX7_isSet_2 (by decide) ?_
  refine v_iconst (v := (1 : Int32)) X dX7_isSet_3 (by decide) ?_
  refine v_aload_n X dX7_isSet_4 rfl (lv_at hl 0 rfl) ?_
  refine v_get (v := .ref (o 1)) X hP 0 rfl fk_X7_7 rfl dX7_isSet_5 ?_
  refine v_bipush (v := (21 : Int32)) X dX7_isSet_8 (by decide) ?_
  have hin := h.1
  have h := h.2
  refine v_iald (f := u.1) X hP 1 0 rfl rfl hin dX7_isSet_10 ?_
  refine v_ishl X dX7_isSet_11 ?_
  refine v_iconst (v := (1 : Int32)) X dX7_isSet_12 (by decide) ?_
  refine v_isub X dX7_isSet_13 ?_
  refine v_i2l X dX7_isSet_14 rfl ?_
  refine rdS (As := [.long a0.toInt64, .long (0 : Int64), .long (((1 : Int32) <<< ((u.1 (21 : Int32).toNatClampNeg) &&& 31)) - (1 : Int32)).toInt64]) (rest := []) X ms_X7_45 (c_X7_in F.2.1 D K t a0.toInt64 (0 : Int64) ((((1 : Int32) <<< ((u.1 (21 : Int32).toNatClampNeg) &&& 31)) - (1 : Int32)).toInt64) _ h) hF ⟨rfl, rfl, Nat.le_of_ble_eq_true rfl, Nat.le_of_ble_eq_true rfl⟩ hT hP [] rfl hl.1 rfl rfl (Nat.le_of_ble_eq_true rfl) dX7_isSet_15 (fun r1 h => ?_)
  exact v_rzret X hF h.1 h.2 dX7_isSet_18
def w_X7_all (u : BX7) (a0 : Int32) (post : Int32 → BX7 → Prop) : Prop := w_X7_isAgency u (fun r1 => (r1 = 0 → post (-1000002 : Int32) u) ∧ (¬ r1 = 0 → w_X7_isSet u a0 (fun r2 => (r2 = 0 → post (-1000001 : Int32) u) ∧ (¬ r2 = 0 → w_X7_firstOf u a0 (fun r3 u4 => post r3 u4)))))
set_option maxHeartbeats 4000000 in
set_option maxRecDepth 100000 in
theorem c_X7_all (l : Launch) (D : va_G) (K : Nat → ClassId) (t : Nat → Nat) (o : Nat → Nat) (u : BX7) (a0 : Int32) (post : Int32 → BX7 → Prop) (h : w_X7_all u a0 post) : WrI l yX7_all cX7_all 2 (some .int) ({ frames := 5, cells := 0, slots := 0, locals := 121 } : Room) D (TY K) t (CX7 K o u) [.ref (o 0), .int a0] (fun z : BX7 => CX7 K o z) (fun (r : Int32) (z : BX7) => post r z) := by
  refine WrI.mk rfl (Nat.le_of_ble_eq_true rfl) ?_
  intro F ls A _ hF X hH hA hl hT
  obtain ⟨H, hH0⟩ : ∃ z : Heap, z = (fxS F).heap := ⟨_, rfl⟩
  obtain ⟨locs, hL0⟩ : ∃ z : List Loc, z = [] := ⟨_, rfl⟩
  have hH : HH F D A (CX7 K o u) H locs := by rw [hH0, hL0]; exact hH
  suffices goal : V F (WQI F D (TY K) A (fun z : BX7 => CX7 K o z) (fun (r : Int32) (z : BX7) => post r z)) H locs 0 ls [] by rw [hH0, hL0] at goal; exact goal
  clear hH0 hL0
  have X : Cx F cX7_all 2 RX7 D (TY K) := X
  have hl : lv_has ls 2 [(0, .ref (o 0)), (1, .int a0)] := hl
  unfold w_X7_all at h
  refine v_aload_n X dX7_all_0 rfl (lv_at hl 0 rfl) ?_
  refine rdV (As := []) (rest := []) X mv_X7_143 (c_X7_isAgency F.2.1 D K t o u _ h) hF ⟨rfl, rfl, Nat.le_of_ble_eq_true rfl, Nat.le_of_ble_eq_true rfl⟩ (stW hT hH) hH.1 [0, 1, 2, 3, 4, 5, 6, 7, 8, 9] rfl 0 rfl rfl hl.1 rfl rfl (Nat.le_of_ble_eq_true rfl) dX7_all_1 (fun r1 h => ?_)
  refine v_if_ne (tgt := 10) X dX7_all_4 (by decide) (fun c6 => ?_) (fun c6 => ?_)
  · have h := h.2 c6
    refine v_aload_n X dX7_all_10 rfl (lv_at hl 0 rfl) ?_
    refine v_iload_n X dX7_all_11 rfl (lv_at hl 1 rfl) ?_
    refine rdV (As := [.int a0]) (rest := []) X mv_X7_184 (c_X7_isSet F.2.1 D K t o u a0 _ h) hF ⟨rfl, rfl, Nat.le_of_ble_eq_true rfl, Nat.le_of_ble_eq_true rfl⟩ (stW hT hH) hH.1 [0, 1, 2, 3, 4, 5, 6, 7, 8, 9] rfl 0 rfl rfl hl.1 rfl rfl (Nat.le_of_ble_eq_true rfl) dX7_all_12 (fun r2 h => ?_)
    refine v_if_eq (tgt := 26) X dX7_all_15 (by decide) (fun c5 => ?_) (fun c5 => ?_)
    · have h := h.1 c5
      refine v_ldc X kc_X7_55 dX7_all_26 ?_
      exact v_wiret X hF u hH h dX7_all_28
    · have h := h.2 c5
      refine v_aload_n X dX7_all_18 rfl (lv_at hl 0 rfl) ?_
      refine v_iload_n X dX7_all_19 rfl (lv_at hl 1 rfl) ?_
      refine wrVI (As := [.int a0]) (rest := []) (wr := ([] : va_W)) X mv_X7_181 (c_X7_firstOf F.2.1 D K t o u a0 _ h) hF ⟨rfl, rfl, Nat.le_of_ble_eq_true rfl, Nat.le_of_ble_eq_true rfl⟩ hT hA hH [0, 1, 2, 3, 4, 5, 6, 7, 8, 9] [] ⟨rfl, rfl, rfl, rfl, by decide⟩ 0 rfl rfl hl.1 rfl rfl (Nat.le_of_ble_eq_true rfl) dX7_all_20 (fun r3 u4 H locs h hH => ?_)
      have hH : HH F D A (CX7 K o u4) H locs := hH
      refine v_goto (tgt := 28) X dX7_all_23 (by decide) ?_
      exact v_wiret X hF u4 hH h dX7_all_28
  · have h := h.1 c6
    refine v_ldc X kc_X7_146 dX7_all_7 ?_
    exact v_wiret X hF u hH h dX7_all_9
def wL_X7_never_14 (post : Int32 → BX7 → Prop) (Kx14 : Int32 → BX7 → Prop) : Nat → Int32 → Int32 → BX7 → Prop
  | 0, _, _, _ => False
  | n14 + 1, x2, x3, u4 => vp_in (21 : Int32) 144 ∧ (((u4.1 (21 : Int32).toNatClampNeg) ≤ x3 → Kx14 x2 u4) ∧ (¬ (u4.1 (21 : Int32).toNatClampNeg) ≤ x3 → w_X7_firstOf u4 ((1 : Int32) <<< (x3 &&& 31)) (fun r8 u9 => (r8 = (-1000000 : Int32) → ∀ x11 : Int32, x11 = (x2 ||| ((1 : Int32) <<< (x3 &&& 31))) → wL_X7_never_14 post Kx14 n14 x11 (x3 + (1 : Int32)) u9) ∧ (¬ r8 = (-1000000 : Int32) → ∀ x10 : Int32, x10 = (x2 ||| (0 : Int32)) → wL_X7_never_14 post Kx14 n14 x10 (x3 + (1 : Int32)) u9))))
def w_X7_never (u : BX7) (post : Int32 → BX7 → Prop) : Prop := w_X7_isAgency u (fun r1 => (r1 = 0 → post (-1000002 : Int32) u) ∧ (¬ r1 = 0 → ∃ n14, wL_X7_never_14  post (fun (x5 : Int32) (u6 : BX7) => post x5 u6) n14 (0 : Int32) (0 : Int32) u))
set_option maxHeartbeats 4000000 in
set_option maxRecDepth 100000 in
theorem c_X7_never (l : Launch) (D : va_G) (K : Nat → ClassId) (t : Nat → Nat) (o : Nat → Nat) (u : BX7) (post : Int32 → BX7 → Prop) (h : w_X7_never u post) : WrI l yX7_never cX7_never 3 (some .int) ({ frames := 5, cells := 0, slots := 0, locals := 121 } : Room) D (TY K) t (CX7 K o u) [.ref (o 0)] (fun z : BX7 => CX7 K o z) (fun (r : Int32) (z : BX7) => post r z) := by
  refine WrI.mk rfl (Nat.le_of_ble_eq_true rfl) ?_
  intro F ls A _ hF X hH hA hl hT
  obtain ⟨H, hH0⟩ : ∃ z : Heap, z = (fxS F).heap := ⟨_, rfl⟩
  obtain ⟨locs, hL0⟩ : ∃ z : List Loc, z = [] := ⟨_, rfl⟩
  have hH : HH F D A (CX7 K o u) H locs := by rw [hH0, hL0]; exact hH
  suffices goal : V F (WQI F D (TY K) A (fun z : BX7 => CX7 K o z) (fun (r : Int32) (z : BX7) => post r z)) H locs 0 ls [] by rw [hH0, hL0] at goal; exact goal
  clear hH0 hL0
  have X : Cx F cX7_never 3 RX7 D (TY K) := X
  have hl : lv_has ls 3 [(0, .ref (o 0))] := hl
  unfold w_X7_never at h
  refine v_aload_n X dX7_never_0 rfl (lv_at hl 0 rfl) ?_
  refine rdV (As := []) (rest := []) X mv_X7_143 (c_X7_isAgency F.2.1 D K t o u _ h) hF ⟨rfl, rfl, Nat.le_of_ble_eq_true rfl, Nat.le_of_ble_eq_true rfl⟩ (stW hT hH) hH.1 [0, 1, 2, 3, 4, 5, 6, 7, 8, 9] rfl 0 rfl rfl hl.1 rfl rfl (Nat.le_of_ble_eq_true rfl) dX7_never_1 (fun r1 h => ?_)
  refine v_if_ne (tgt := 10) X dX7_never_4 (by decide) (fun c14 => ?_) (fun c14 => ?_)
  · have h := h.2 c14
    refine v_iconst (v := (0 : Int32)) X dX7_never_10 (by decide) ?_
    refine v_istore_n (lv' := [(1, .int (0 : Int32)), (0, .ref (o 0))]) X dX7_never_11 rfl hl (by decide) rfl (fun ls hl => ?_)
    refine v_iconst (v := (0 : Int32)) X dX7_never_12 (by decide) ?_
    refine v_istore_n (lv' := [(2, .int (0 : Int32)), (1, .int (0 : Int32)), (0, .ref (o 0))]) X dX7_never_13 rfl hl (by decide) rfl (fun ls hl => ?_)
    obtain ⟨Kx14, hK14⟩ : ∃ f : Int32 → BX7 → Prop, f = (fun (x5 : Int32) (u6 : BX7) => post x5 u6) := ⟨_, rfl⟩
    have kx7 : ∀ (x5 : Int32) (u6 : BX7) (ls : Array Slot) (H : Heap) (locs : List Loc), (Kx14 x5 u6) → lv_has ls 3 [(1, .int x5)] → HH F D A (CX7 K o u6) H locs → V F (WQI F D (TY K) A (fun z : BX7 => CX7 K o z) (fun (r : Int32) (z : BX7) => post r z)) H locs 53 ls [] := by
      intro x5 u6 ls H locs h hl hH
      have h : post x5 u6 := by rw [hK14] at h; exact h
      refine v_iload_n X dX7_never_53 rfl (lv_at hl 0 rfl) ?_
      exact v_wiret X hF u6 hH h dX7_never_54
    have lp14 : ∀ (n14 : Nat) (x2 : Int32) (x3 : Int32) (u4 : BX7) (ls : Array Slot) (H : Heap) (locs : List Loc), wL_X7_never_14  post Kx14 n14 x2 x3 u4 → lv_has ls 3 [(0, .ref (o 0)), (1, .int x2), (2, .int x3)] → HH F D A (CX7 K o u4) H locs → V F (WQI F D (TY K) A (fun z : BX7 => CX7 K o z) (fun (r : Int32) (z : BX7) => post r z)) H locs 14 ls [] := by
      intro n14
      induction n14 with
      | zero => intro x2 x3 u4 ls H locs h hl hH; exact h.elim
      | succ n14 ih14 =>
        intro x2 x3 u4 ls H locs h hl hH
        refine v_iload_n X dX7_never_14 rfl (lv_at hl 2 rfl) ?_
        refine v_aload_n X dX7_never_15 rfl (lv_at hl 0 rfl) ?_
        refine v_get (v := .ref (o 1)) X hH.1 0 rfl fk_X7_7 rfl dX7_never_16 ?_
        refine v_bipush (v := (21 : Int32)) X dX7_never_19 (by decide) ?_
        have hin := h.1
        have h := h.2
        refine v_iald (f := u4.1) X hH.1 1 0 rfl rfl hin dX7_never_21 ?_
        refine v_icmp_ge (tgt := 53) X dX7_never_22 (by decide) (fun c13 => ?_) (fun c13 => ?_)
        · have h := h.1 c13
          exact kx7 x2 u4 ls H locs h (lv_sub hl [1] rfl) hH
        · have h := h.2 c13
          refine v_iload_n X dX7_never_25 rfl (lv_at hl 1 rfl) ?_
          refine v_aload_n X dX7_never_26 rfl (lv_at hl 0 rfl) ?_
          refine v_iconst (v := (1 : Int32)) X dX7_never_27 (by decide) ?_
          refine v_iload_n X dX7_never_28 rfl (lv_at hl 2 rfl) ?_
          refine v_ishl X dX7_never_29 ?_
          refine wrVI (As := [.int ((1 : Int32) <<< (x3 &&& 31))]) (rest := [.int x2]) (wr := ([] : va_W)) X mv_X7_181 (c_X7_firstOf F.2.1 D K t o u4 ((1 : Int32) <<< (x3 &&& 31)) _ h) hF ⟨rfl, rfl, Nat.le_of_ble_eq_true rfl, Nat.le_of_ble_eq_true rfl⟩ hT hA hH [0, 1, 2, 3, 4, 5, 6, 7, 8, 9] [] ⟨rfl, rfl, rfl, rfl, by decide⟩ 0 rfl rfl hl.1 rfl rfl (Nat.le_of_ble_eq_true rfl) dX7_never_30 (fun r8 u9 H locs h hH => ?_)
          have hH : HH F D A (CX7 K o u9) H locs := hH
          refine v_ldc X kc_X7_180 dX7_never_33 ?_
          refine v_icmp_ne (tgt := 44) X dX7_never_35 (by decide) (fun c12 => ?_) (fun c12 => ?_)
          · have h := h.2 c12
            refine v_iconst (v := (0 : Int32)) X dX7_never_44 (by decide) ?_
            refine v_ior X dX7_never_45 ?_
            refine v_topi (fun x10 ex10 => ?_)
            have h := h x10 ex10
            refine v_istore_n (lv' := [(1, .int x10), (0, .ref (o 0)), (2, .int x3)]) X dX7_never_46 rfl hl (by decide) rfl (fun ls hl => ?_)
            refine v_iinc (v := (x3 + (1 : Int32))) (lv' := [(2, .int (x3 + (1 : Int32))), (1, .int x10), (0, .ref (o 0))]) X dX7_never_47 hl (k := 2) rfl rfl (by decide) rfl (fun ls hl => ?_)
            refine v_goto (tgt := 14) X dX7_never_50 (by decide) ?_
            exact ih14 x10 (x3 + (1 : Int32)) u9 ls H locs h (lv_sub hl [2, 1, 0] rfl) hH
          · have h := h.1 c12
            refine v_iconst (v := (1 : Int32)) X dX7_never_38 (by decide) ?_
            refine v_iload_n X dX7_never_39 rfl (lv_at hl 2 rfl) ?_
            refine v_ishl X dX7_never_40 ?_
            refine v_goto (tgt := 45) X dX7_never_41 (by decide) ?_
            refine v_ior X dX7_never_45 ?_
            refine v_topi (fun x11 ex11 => ?_)
            have h := h x11 ex11
            refine v_istore_n (lv' := [(1, .int x11), (0, .ref (o 0)), (2, .int x3)]) X dX7_never_46 rfl hl (by decide) rfl (fun ls hl => ?_)
            refine v_iinc (v := (x3 + (1 : Int32))) (lv' := [(2, .int (x3 + (1 : Int32))), (1, .int x11), (0, .ref (o 0))]) X dX7_never_47 hl (k := 2) rfl rfl (by decide) rfl (fun ls hl => ?_)
            refine v_goto (tgt := 14) X dX7_never_50 (by decide) ?_
            exact ih14 x11 (x3 + (1 : Int32)) u9 ls H locs h (lv_sub hl [2, 1, 0] rfl) hH
    obtain ⟨n14, h⟩ := h
    have h : wL_X7_never_14  post Kx14 n14 (0 : Int32) (0 : Int32) u := by rw [hK14]; exact h
    exact lp14 n14 (0 : Int32) (0 : Int32) u ls H locs h (lv_sub hl [2, 1, 0] rfl) hH
  · have h := h.1 c14
    refine v_ldc X kc_X7_146 dX7_never_7 ?_
    exact v_wiret X hF u hH h dX7_never_9
def wL_X7_allLets_4 (b3 : BX7) (post : Int32 → Prop) (Kx4 : Int32 → Prop) : Nat → Int32 → Int32 → Prop
  | 0, _, _ => False
  | n4 + 1, x1, x2 => vp_in (22 : Int32) 144 ∧ (((b3.1 (22 : Int32).toNatClampNeg) ≤ x2 → Kx4 x1) ∧ (¬ (b3.1 (22 : Int32).toNatClampNeg) ≤ x2 → vp_in (21 : Int32) 144 ∧ (∀ x6 : Int32, x6 = (x1 * ((b3.1 (21 : Int32).toNatClampNeg) + (1 : Int32))) → wL_X7_allLets_4 b3 post Kx4 n4 x6 (x2 + (1 : Int32)))))
def w_X7_allLets (u : BX7) (post : Int32 → Prop) : Prop := ∃ n4, wL_X7_allLets_4 u post (fun (x4 : Int32) => post x4) n4 (1 : Int32) (0 : Int32)
set_option maxHeartbeats 4000000 in
set_option maxRecDepth 100000 in
theorem c_X7_allLets (l : Launch) (D : va_G) (K : Nat → ClassId) (t : Nat → Nat) (o : Nat → Nat) (u : BX7) (post : Int32 → Prop) (h : w_X7_allLets u post) : RdM l yX7_allLets cX7_allLets 3 (some .int) ({ frames := 0, cells := 0, slots := 0, locals := 0 } : Room) D (TY K) t (CX7 K o u) [.ref (o 0)] post := by
  refine RdM.mk rfl (Nat.le_of_ble_eq_true rfl) ?_
  intro F ls _ hF X hP hl hT
  have X : Cx F cX7_allLets 3 RX7 D (TY K) := X
  have hl : lv_has ls 3 [(0, .ref (o 0))] := hl
  unfold w_X7_allLets at h
  refine v_iconst (v := (1 : Int32)) X dX7_allLets_0 (by decide) ?_
  refine v_istore_n (lv' := [(1, .int (1 : Int32)), (0, .ref (o 0))]) X dX7_allLets_1 rfl hl (by decide) rfl (fun ls hl => ?_)
  refine v_iconst (v := (0 : Int32)) X dX7_allLets_2 (by decide) ?_
  refine v_istore_n (lv' := [(2, .int (0 : Int32)), (1, .int (1 : Int32)), (0, .ref (o 0))]) X dX7_allLets_3 rfl hl (by decide) rfl (fun ls hl => ?_)
  obtain ⟨Kx4, hK4⟩ : ∃ f : Int32 → Prop, f = (fun (x4 : Int32) => post x4) := ⟨_, rfl⟩
  have kx5 : ∀ (x4 : Int32) (ls : Array Slot), (Kx4 x4) → lv_has ls 3 [(1, .int x4)] → V F (RQ F post) (fxS F).heap [] 33 ls [] := by
    intro x4 ls h hl
    have h : post x4 := by rw [hK4] at h; exact h
    refine v_iload_n X dX7_allLets_33 rfl (lv_at hl 0 rfl) ?_
    exact v_riret X hF h dX7_allLets_34
  have lp4 : ∀ (n4 : Nat) (x1 : Int32) (x2 : Int32) (ls : Array Slot), wL_X7_allLets_4 u post Kx4 n4 x1 x2 → lv_has ls 3 [(0, .ref (o 0)), (1, .int x1), (2, .int x2)] → V F (RQ F post) (fxS F).heap [] 4 ls [] := by
    intro n4
    induction n4 with
    | zero => intro x1 x2 ls h hl; exact h.elim
    | succ n4 ih4 =>
      intro x1 x2 ls h hl
      refine v_iload_n X dX7_allLets_4 rfl (lv_at hl 2 rfl) ?_
      refine v_aload_n X dX7_allLets_5 rfl (lv_at hl 0 rfl) ?_
      refine v_get (v := .ref (o 1)) X hP 0 rfl fk_X7_7 rfl dX7_allLets_6 ?_
      refine v_bipush (v := (22 : Int32)) X dX7_allLets_9 (by decide) ?_
      have hin := h.1
      have h := h.2
      refine v_iald (f := u.1) X hP 1 0 rfl rfl hin dX7_allLets_11 ?_
      refine v_icmp_ge (tgt := 33) X dX7_allLets_12 (by decide) (fun c7 => ?_) (fun c7 => ?_)
      · have h := h.1 c7
        exact kx5 x1 ls h (lv_sub hl [1] rfl)
      · have h := h.2 c7
        refine v_iload_n X dX7_allLets_15 rfl (lv_at hl 1 rfl) ?_
        refine v_aload_n X dX7_allLets_16 rfl (lv_at hl 0 rfl) ?_
        refine v_get (v := .ref (o 1)) X hP 0 rfl fk_X7_7 rfl dX7_allLets_17 ?_
        refine v_bipush (v := (21 : Int32)) X dX7_allLets_20 (by decide) ?_
        have hin := h.1
        have h := h.2
        refine v_iald (f := u.1) X hP 1 0 rfl rfl hin dX7_allLets_22 ?_
        refine v_iconst (v := (1 : Int32)) X dX7_allLets_23 (by decide) ?_
        refine v_iadd X dX7_allLets_24 ?_
        refine v_imul X dX7_allLets_25 ?_
        refine v_topi (fun x6 ex6 => ?_)
        have h := h x6 ex6
        refine v_istore_n (lv' := [(1, .int x6), (0, .ref (o 0)), (2, .int x2)]) X dX7_allLets_26 rfl hl (by decide) rfl (fun ls hl => ?_)
        refine v_iinc (v := (x2 + (1 : Int32))) (lv' := [(2, .int (x2 + (1 : Int32))), (1, .int x6), (0, .ref (o 0))]) X dX7_allLets_27 hl (k := 2) rfl rfl (by decide) rfl (fun ls hl => ?_)
        refine v_goto (tgt := 4) X dX7_allLets_30 (by decide) ?_
        exact ih4 x6 (x2 + (1 : Int32)) ls h (lv_sub hl [2, 1, 0] rfl)
  obtain ⟨n4, h⟩ := h
  have h : wL_X7_allLets_4 u post Kx4 n4 (1 : Int32) (0 : Int32) := by rw [hK4]; exact h
  exact lp4 n4 (1 : Int32) (0 : Int32) ls h (lv_sub hl [2, 1, 0] rfl)
def wL_X7_letBy_13 (y4 : Int32) (b5 : BX7) (post : Int32 → Prop) (Kx13 : Int32 → Prop) : Nat → Int32 → Int32 → Prop
  | 0, _, _ => False
  | n13 + 1, x2, x3 => (x3 ≤ y4 → Kx13 x2) ∧ (¬ x3 ≤ y4 → vp_in (21 : Int32) 144 ∧ (¬ ((b5.1 (21 : Int32).toNatClampNeg) + (1 : Int32)) = 0 ∧ (∀ x10 : Int32, x10 = (x2 / ((b5.1 (21 : Int32).toNatClampNeg) + (1 : Int32))) → wL_X7_letBy_13 y4 b5 post Kx13 n13 x10 (x3 + (-1 : Int32)))))
def w_X7_letBy (u : BX7) (a0 : Int32) (a1 : Int32) (post : Int32 → Prop) : Prop := vp_in (22 : Int32) 144 ∧ (∀ x1 : Int32, x1 = ((u.1 (22 : Int32).toNatClampNeg) - (1 : Int32)) → ∃ n13, wL_X7_letBy_13 a1 u post (fun (x6 : Int32) => vp_in (21 : Int32) 144 ∧ (¬ ((u.1 (21 : Int32).toNatClampNeg) + (1 : Int32)) = 0 ∧ (∀ x7 : Int32, x7 = (x6 - x6 / ((u.1 (21 : Int32).toNatClampNeg) + (1 : Int32)) * ((u.1 (21 : Int32).toNatClampNeg) + (1 : Int32))) → vp_in (21 : Int32) 144 ∧ ((x7 = (u.1 (21 : Int32).toNatClampNeg) → post (5 : Int32)) ∧ (¬ x7 = (u.1 (21 : Int32).toNatClampNeg) → post x7))))) n13 a0 x1)
set_option maxHeartbeats 4000000 in
set_option maxRecDepth 100000 in
theorem c_X7_letBy (l : Launch) (D : va_G) (K : Nat → ClassId) (t : Nat → Nat) (o : Nat → Nat) (u : BX7) (a0 : Int32) (a1 : Int32) (post : Int32 → Prop) (h : w_X7_letBy u a0 a1 post) : RdM l yX7_letBy cX7_letBy 5 (some .int) ({ frames := 0, cells := 0, slots := 0, locals := 0 } : Room) D (TY K) t (CX7 K o u) [.ref (o 0), .int a0, .int a1] post := by
  refine RdM.mk rfl (Nat.le_of_ble_eq_true rfl) ?_
  intro F ls _ hF X hP hl hT
  have X : Cx F cX7_letBy 5 RX7 D (TY K) := X
  have hl : lv_has ls 5 [(0, .ref (o 0)), (1, .int a0), (2, .int a1)] := hl
  unfold w_X7_letBy at h
  refine v_iload_n X dX7_letBy_0 rfl (lv_at hl 1 rfl) ?_
  refine v_istore_n (lv' := [(3, .int a0), (0, .ref (o 0)), (1, .int a0), (2, .int a1)]) X dX7_letBy_1 rfl hl (by decide) rfl (fun ls hl => ?_)
  refine v_aload_n X dX7_letBy_2 rfl (lv_at hl 1 rfl) ?_
  refine v_get (v := .ref (o 1)) X hP 0 rfl fk_X7_7 rfl dX7_letBy_3 ?_
  refine v_bipush (v := (22 : Int32)) X dX7_letBy_6 (by decide) ?_
  have hin := h.1
  have h := h.2
  refine v_iald (f := u.1) X hP 1 0 rfl rfl hin dX7_letBy_8 ?_
  refine v_iconst (v := (1 : Int32)) X dX7_letBy_9 (by decide) ?_
  refine v_isub X dX7_letBy_10 ?_
  refine v_topi (fun x1 ex1 => ?_)
  have h := h x1 ex1
  refine v_istore (lv' := [(4, .int x1), (3, .int a0), (0, .ref (o 0)), (1, .int a0), (2, .int a1)]) X dX7_letBy_11 hl (by decide) rfl (fun ls hl => ?_)
  obtain ⟨Kx13, hK13⟩ : ∃ f : Int32 → Prop, f = (fun (x6 : Int32) => vp_in (21 : Int32) 144 ∧ (¬ ((u.1 (21 : Int32).toNatClampNeg) + (1 : Int32)) = 0 ∧ (∀ x7 : Int32, x7 = (x6 - x6 / ((u.1 (21 : Int32).toNatClampNeg) + (1 : Int32)) * ((u.1 (21 : Int32).toNatClampNeg) + (1 : Int32))) → vp_in (21 : Int32) 144 ∧ ((x7 = (u.1 (21 : Int32).toNatClampNeg) → post (5 : Int32)) ∧ (¬ x7 = (u.1 (21 : Int32).toNatClampNeg) → post x7))))) := ⟨_, rfl⟩
  have kx9 : ∀ (x6 : Int32) (ls : Array Slot), (Kx13 x6) → lv_has ls 5 [(0, .ref (o 0)), (3, .int x6)] → V F (RQ F post) (fxS F).heap [] 37 ls [] := by
    intro x6 ls h hl
    have h : vp_in (21 : Int32) 144 ∧ (¬ ((u.1 (21 : Int32).toNatClampNeg) + (1 : Int32)) = 0 ∧ (∀ x7 : Int32, x7 = (x6 - x6 / ((u.1 (21 : Int32).toNatClampNeg) + (1 : Int32)) * ((u.1 (21 : Int32).toNatClampNeg) + (1 : Int32))) → vp_in (21 : Int32) 144 ∧ ((x7 = (u.1 (21 : Int32).toNatClampNeg) → post (5 : Int32)) ∧ (¬ x7 = (u.1 (21 : Int32).toNatClampNeg) → post x7)))) := by rw [hK13] at h; exact h
    refine v_iload_n X dX7_letBy_37 rfl (lv_at hl 1 rfl) ?_
    refine v_aload_n X dX7_letBy_38 rfl (lv_at hl 0 rfl) ?_
    refine v_get (v := .ref (o 1)) X hP 0 rfl fk_X7_7 rfl dX7_letBy_39 ?_
    refine v_bipush (v := (21 : Int32)) X dX7_letBy_42 (by decide) ?_
    have hin := h.1
    have h := h.2
    refine v_iald (f := u.1) X hP 1 0 rfl rfl hin dX7_letBy_44 ?_
    refine v_iconst (v := (1 : Int32)) X dX7_letBy_45 (by decide) ?_
    refine v_iadd X dX7_letBy_46 ?_
    have hne := h.1
    have h := h.2
    refine v_irem X dX7_letBy_47 hne ?_
    refine v_topi (fun x7 ex7 => ?_)
    have h := h x7 ex7
    refine v_istore (lv' := [(4, .int x7), (0, .ref (o 0)), (3, .int x6)]) X dX7_letBy_48 hl (by decide) rfl (fun ls hl => ?_)
    refine v_iload X dX7_letBy_50 (lv_at hl 0 rfl) ?_
    refine v_aload_n X dX7_letBy_52 rfl (lv_at hl 1 rfl) ?_
    refine v_get (v := .ref (o 1)) X hP 0 rfl fk_X7_7 rfl dX7_letBy_53 ?_
    refine v_bipush (v := (21 : Int32)) X dX7_letBy_56 (by decide) ?_
    have hin := h.1
    have h := h.2
    refine v_iald (f := u.1) X hP 1 0 rfl rfl hin dX7_letBy_58 ?_
    refine v_icmp_ne (tgt := 66) X dX7_letBy_59 (by decide) (fun c8 => ?_) (fun c8 => ?_)
    · have h := h.2 c8
      refine v_iload X dX7_letBy_66 (lv_at hl 0 rfl) ?_
      exact v_riret X hF h dX7_letBy_68
    · have h := h.1 c8
      refine v_iconst (v := (5 : Int32)) X dX7_letBy_62 (by decide) ?_
      refine v_goto (tgt := 68) X dX7_letBy_63 (by decide) ?_
      exact v_riret X hF h dX7_letBy_68
  have lp13 : ∀ (n13 : Nat) (x2 : Int32) (x3 : Int32) (ls : Array Slot), wL_X7_letBy_13 a1 u post Kx13 n13 x2 x3 → lv_has ls 5 [(0, .ref (o 0)), (2, .int a1), (3, .int x2), (4, .int x3)] → V F (RQ F post) (fxS F).heap [] 13 ls [] := by
    intro n13
    induction n13 with
    | zero => intro x2 x3 ls h hl; exact h.elim
    | succ n13 ih13 =>
      intro x2 x3 ls h hl
      refine v_iload X dX7_letBy_13 (lv_at hl 3 rfl) ?_
      refine v_iload_n X dX7_letBy_15 rfl (lv_at hl 1 rfl) ?_
      refine v_icmp_le (tgt := 37) X dX7_letBy_16 (by decide) (fun c11 => ?_) (fun c11 => ?_)
      · have h := h.1 c11
        exact kx9 x2 ls h (lv_sub hl [0, 2] rfl)
      · have h := h.2 c11
        refine v_iload_n X dX7_letBy_19 rfl (lv_at hl 2 rfl) ?_
        refine v_aload_n X dX7_letBy_20 rfl (lv_at hl 0 rfl) ?_
        refine v_get (v := .ref (o 1)) X hP 0 rfl fk_X7_7 rfl dX7_letBy_21 ?_
        refine v_bipush (v := (21 : Int32)) X dX7_letBy_24 (by decide) ?_
        have hin := h.1
        have h := h.2
        refine v_iald (f := u.1) X hP 1 0 rfl rfl hin dX7_letBy_26 ?_
        refine v_iconst (v := (1 : Int32)) X dX7_letBy_27 (by decide) ?_
        refine v_iadd X dX7_letBy_28 ?_
        have hne := h.1
        have h := h.2
        refine v_idiv X dX7_letBy_29 hne ?_
        refine v_topi (fun x10 ex10 => ?_)
        have h := h x10 ex10
        refine v_istore_n (lv' := [(3, .int x10), (0, .ref (o 0)), (2, .int a1), (4, .int x3)]) X dX7_letBy_30 rfl hl (by decide) rfl (fun ls hl => ?_)
        refine v_iinc (v := (x3 + (-1 : Int32))) (lv' := [(4, .int (x3 + (-1 : Int32))), (3, .int x10), (0, .ref (o 0)), (2, .int a1)]) X dX7_letBy_31 hl (k := 3) rfl rfl (by decide) rfl (fun ls hl => ?_)
        refine v_goto (tgt := 13) X dX7_letBy_34 (by decide) ?_
        exact ih13 x10 (x3 + (-1 : Int32)) ls h (lv_sub hl [2, 3, 1, 0] rfl)
  obtain ⟨n13, h⟩ := h
  have h : wL_X7_letBy_13 a1 u post Kx13 n13 a0 x1 := by rw [hK13]; exact h
  exact lp13 n13 a0 x1 ls h (lv_sub hl [2, 4, 1, 0] rfl)
def wL_X7_triesLets_12 (y6 : Int32) (y7 : Int32) (post : Int32 → BX7 → Prop) (Kx12 : Int32 → BX7 → Prop) : Nat → Int32 → Int32 → BX7 → Prop
  | 0, _, _, _ => False
  | n12 + 1, x3, x4, u5 => vp_in (22 : Int32) 144 ∧ (((u5.1 (22 : Int32).toNatClampNeg) ≤ x4 → Kx12 x3 u5) ∧ (¬ (u5.1 (22 : Int32).toNatClampNeg) ≤ x4 → w_X7_letBy u5 y6 x4 (fun r13 => vp_in ((118 : Int32) + x4) 144 ∧ (w_X7_letBy ((upd u5.1 ((118 : Int32) + x4).toNatClampNeg r13), u5.2.1, u5.2.2.1, u5.2.2.2.1, u5.2.2.2.2.1, u5.2.2.2.2.2.1, u5.2.2.2.2.2.2.1, u5.2.2.2.2.2.2.2.1, u5.2.2.2.2.2.2.2.2.1, u5.2.2.2.2.2.2.2.2.2.1, u5.2.2.2.2.2.2.2.2.2.2.1, u5.2.2.2.2.2.2.2.2.2.2.2.1, u5.2.2.2.2.2.2.2.2.2.2.2.2.1, u5.2.2.2.2.2.2.2.2.2.2.2.2.2.1, u5.2.2.2.2.2.2.2.2.2.2.2.2.2.2.1, u5.2.2.2.2.2.2.2.2.2.2.2.2.2.2.2.1, u5.2.2.2.2.2.2.2.2.2.2.2.2.2.2.2.2) y6 x4 (fun r14 => (r14 = (5 : Int32) → wL_X7_triesLets_12 y6 y7 post Kx12 n12 (x3 + (0 : Int32)) (x4 + (1 : Int32)) ((upd u5.1 ((118 : Int32) + x4).toNatClampNeg r13), u5.2.1, u5.2.2.1, u5.2.2.2.1, u5.2.2.2.2.1, u5.2.2.2.2.2.1, u5.2.2.2.2.2.2.1, u5.2.2.2.2.2.2.2.1, u5.2.2.2.2.2.2.2.2.1, u5.2.2.2.2.2.2.2.2.2.1, u5.2.2.2.2.2.2.2.2.2.2.1, u5.2.2.2.2.2.2.2.2.2.2.2.1, u5.2.2.2.2.2.2.2.2.2.2.2.2.1, u5.2.2.2.2.2.2.2.2.2.2.2.2.2.1, u5.2.2.2.2.2.2.2.2.2.2.2.2.2.2.1, u5.2.2.2.2.2.2.2.2.2.2.2.2.2.2.2.1, u5.2.2.2.2.2.2.2.2.2.2.2.2.2.2.2.2)) ∧ (¬ r14 = (5 : Int32) → wL_X7_triesLets_12 y6 y7 post Kx12 n12 (x3 + (1 : Int32)) (x4 + (1 : Int32)) ((upd u5.1 ((118 : Int32) + x4).toNatClampNeg r13), u5.2.1, u5.2.2.1, u5.2.2.2.1, u5.2.2.2.2.1, u5.2.2.2.2.2.1, u5.2.2.2.2.2.2.1, u5.2.2.2.2.2.2.2.1, u5.2.2.2.2.2.2.2.2.1, u5.2.2.2.2.2.2.2.2.2.1, u5.2.2.2.2.2.2.2.2.2.2.1, u5.2.2.2.2.2.2.2.2.2.2.2.1, u5.2.2.2.2.2.2.2.2.2.2.2.2.1, u5.2.2.2.2.2.2.2.2.2.2.2.2.2.1, u5.2.2.2.2.2.2.2.2.2.2.2.2.2.2.1, u5.2.2.2.2.2.2.2.2.2.2.2.2.2.2.2.1, u5.2.2.2.2.2.2.2.2.2.2.2.2.2.2.2.2)))))))
def w_X7_triesLets (u : BX7) (a0 : Int32) (a1 : Int32) (post : Int32 → BX7 → Prop) : Prop := w_X7_copyAll u (0 : Int32) (108 : Int32) (fun u2 => ∃ n12, wL_X7_triesLets_12 a0 a1 post (fun (x8 : Int32) (u9 : BX7) => w_X7_tries u9 a1 (fun u11 => post x8 u11)) n12 (0 : Int32) (0 : Int32) u2)
set_option maxHeartbeats 4000000 in
set_option maxRecDepth 100000 in
theorem c_X7_triesLets (l : Launch) (D : va_G) (K : Nat → ClassId) (t : Nat → Nat) (o : Nat → Nat) (u : BX7) (a0 : Int32) (a1 : Int32) (post : Int32 → BX7 → Prop) (h : w_X7_triesLets u a0 a1 post) : WrI l yX7_triesLets cX7_triesLets 5 (some .int) ({ frames := 5, cells := 0, slots := 0, locals := 121 } : Room) D (TY K) t (CX7 K o u) [.ref (o 0), .int a0, .int a1] (fun z : BX7 => CX7 K o z) (fun (r : Int32) (z : BX7) => post r z) := by
  refine WrI.mk rfl (Nat.le_of_ble_eq_true rfl) ?_
  intro F ls A _ hF X hH hA hl hT
  obtain ⟨H, hH0⟩ : ∃ z : Heap, z = (fxS F).heap := ⟨_, rfl⟩
  obtain ⟨locs, hL0⟩ : ∃ z : List Loc, z = [] := ⟨_, rfl⟩
  have hH : HH F D A (CX7 K o u) H locs := by rw [hH0, hL0]; exact hH
  suffices goal : V F (WQI F D (TY K) A (fun z : BX7 => CX7 K o z) (fun (r : Int32) (z : BX7) => post r z)) H locs 0 ls [] by rw [hH0, hL0] at goal; exact goal
  clear hH0 hL0
  have X : Cx F cX7_triesLets 5 RX7 D (TY K) := X
  have hl : lv_has ls 5 [(0, .ref (o 0)), (1, .int a0), (2, .int a1)] := hl
  unfold w_X7_triesLets at h
  refine v_aload_n X dX7_triesLets_0 rfl (lv_at hl 0 rfl) ?_
  refine v_iconst (v := (0 : Int32)) X dX7_triesLets_1 (by decide) ?_
  refine v_bipush (v := (108 : Int32)) X dX7_triesLets_2 (by decide) ?_
  refine wrVV (As := [.int (0 : Int32), .int (108 : Int32)]) (rest := []) (wr := ([] : va_W)) X mv_X7_119 (c_X7_copyAll F.2.1 D K t o u (0 : Int32) (108 : Int32) _ h) hF ⟨rfl, rfl, Nat.le_of_ble_eq_true rfl, Nat.le_of_ble_eq_true rfl⟩ hT hA hH [0, 1, 2, 3, 4, 5, 6, 7, 8, 9] [] ⟨rfl, rfl, rfl, rfl, by decide⟩ 0 rfl rfl hl.1 rfl rfl (Nat.le_of_ble_eq_true rfl) dX7_triesLets_4 (fun u2 H locs h hH => ?_)
  have hH : HH F D A (CX7 K o u2) H locs := hH
  refine v_iconst (v := (0 : Int32)) X dX7_triesLets_7 (by decide) ?_
  refine v_istore_n (lv' := [(3, .int (0 : Int32)), (0, .ref (o 0)), (1, .int a0), (2, .int a1)]) X dX7_triesLets_8 rfl hl (by decide) rfl (fun ls hl => ?_)
  refine v_iconst (v := (0 : Int32)) X dX7_triesLets_9 (by decide) ?_
  refine v_istore (lv' := [(4, .int (0 : Int32)), (3, .int (0 : Int32)), (0, .ref (o 0)), (1, .int a0), (2, .int a1)]) X dX7_triesLets_10 hl (by decide) rfl (fun ls hl => ?_)
  obtain ⟨Kx12, hK12⟩ : ∃ f : Int32 → BX7 → Prop, f = (fun (x8 : Int32) (u9 : BX7) => w_X7_tries u9 a1 (fun u11 => post x8 u11)) := ⟨_, rfl⟩
  have kx12 : ∀ (x8 : Int32) (u9 : BX7) (ls : Array Slot) (H : Heap) (locs : List Loc), (Kx12 x8 u9) → lv_has ls 5 [(0, .ref (o 0)), (2, .int a1), (3, .int x8)] → HH F D A (CX7 K o u9) H locs → V F (WQI F D (TY K) A (fun z : BX7 => CX7 K o z) (fun (r : Int32) (z : BX7) => post r z)) H locs 66 ls [] := by
    intro x8 u9 ls H locs h hl hH
    have h : w_X7_tries u9 a1 (fun u11 => post x8 u11) := by rw [hK12] at h; exact h
    refine v_aload_n X dX7_triesLets_66 rfl (lv_at hl 0 rfl) ?_
    refine v_iload_n X dX7_triesLets_67 rfl (lv_at hl 1 rfl) ?_
    refine wrVV (As := [.int a1]) (rest := []) (wr := ([] : va_W)) X mv_X7_170 (c_X7_tries F.2.1 D K t o u9 a1 _ h) hF ⟨rfl, rfl, Nat.le_of_ble_eq_true rfl, Nat.le_of_ble_eq_true rfl⟩ hT hA hH [0, 1, 2, 3, 4, 5, 6, 7, 8, 9] [] ⟨rfl, rfl, rfl, rfl, by decide⟩ 0 rfl rfl hl.1 rfl rfl (Nat.le_of_ble_eq_true rfl) dX7_triesLets_68 (fun u11 H locs h hH => ?_)
    have hH : HH F D A (CX7 K o u11) H locs := hH
    refine v_iload_n X dX7_triesLets_71 rfl (lv_at hl 2 rfl) ?_
    exact v_wiret X hF u11 hH h dX7_triesLets_72
  have lp12 : ∀ (n12 : Nat) (x3 : Int32) (x4 : Int32) (u5 : BX7) (ls : Array Slot) (H : Heap) (locs : List Loc), wL_X7_triesLets_12 a0 a1 post Kx12 n12 x3 x4 u5 → lv_has ls 5 [(0, .ref (o 0)), (1, .int a0), (2, .int a1), (3, .int x3), (4, .int x4)] → HH F D A (CX7 K o u5) H locs → V F (WQI F D (TY K) A (fun z : BX7 => CX7 K o z) (fun (r : Int32) (z : BX7) => post r z)) H locs 12 ls [] := by
    intro n12
    induction n12 with
    | zero => intro x3 x4 u5 ls H locs h hl hH; exact h.elim
    | succ n12 ih12 =>
      intro x3 x4 u5 ls H locs h hl hH
      refine v_iload X dX7_triesLets_12 (lv_at hl 4 rfl) ?_
      refine v_aload_n X dX7_triesLets_14 rfl (lv_at hl 0 rfl) ?_
      refine v_get (v := .ref (o 1)) X hH.1 0 rfl fk_X7_7 rfl dX7_triesLets_15 ?_
      refine v_bipush (v := (22 : Int32)) X dX7_triesLets_18 (by decide) ?_
      have hin := h.1
      have h := h.2
      refine v_iald (f := u5.1) X hH.1 1 0 rfl rfl hin dX7_triesLets_20 ?_
      refine v_icmp_ge (tgt := 66) X dX7_triesLets_21 (by decide) (fun c16 => ?_) (fun c16 => ?_)
      · have h := h.1 c16
        exact kx12 x3 u5 ls H locs h (lv_sub hl [0, 2, 3] rfl) hH
      · have h := h.2 c16
        refine v_aload_n X dX7_triesLets_24 rfl (lv_at hl 0 rfl) ?_
        refine v_get (v := .ref (o 1)) X hH.1 0 rfl fk_X7_7 rfl dX7_triesLets_25 ?_
        refine v_bipush (v := (118 : Int32)) X dX7_triesLets_28 (by decide) ?_
        refine v_iload X dX7_triesLets_30 (lv_at hl 4 rfl) ?_
        refine v_iadd X dX7_triesLets_32 ?_
        refine v_aload_n X dX7_triesLets_33 rfl (lv_at hl 0 rfl) ?_
        refine v_iload_n X dX7_triesLets_34 rfl (lv_at hl 1 rfl) ?_
        refine v_iload X dX7_triesLets_35 (lv_at hl 4 rfl) ?_
        refine rdV (As := [.int a0, .int x4]) (rest := [.int ((118 : Int32) + x4), .ref (o 1)]) X mv_X7_187 (c_X7_letBy F.2.1 D K t o u5 a0 x4 _ h) hF ⟨rfl, rfl, Nat.le_of_ble_eq_true rfl, Nat.le_of_ble_eq_true rfl⟩ (stW hT hH) hH.1 [0, 1, 2, 3, 4, 5, 6, 7, 8, 9] rfl 0 rfl rfl hl.1 rfl rfl (Nat.le_of_ble_eq_true rfl) dX7_triesLets_37 (fun r13 h => ?_)
        have hin := h.1
        have h := h.2
        refine v_iast (f := u5.1) X hH 1 0 rfl rfl hin dX7_triesLets_40 (fun H locs hH => ?_)
        have hH : HH F D A (CX7 K o ((upd u5.1 ((118 : Int32) + x4).toNatClampNeg r13), u5.2.1, u5.2.2.1, u5.2.2.2.1, u5.2.2.2.2.1, u5.2.2.2.2.2.1, u5.2.2.2.2.2.2.1, u5.2.2.2.2.2.2.2.1, u5.2.2.2.2.2.2.2.2.1, u5.2.2.2.2.2.2.2.2.2.1, u5.2.2.2.2.2.2.2.2.2.2.1, u5.2.2.2.2.2.2.2.2.2.2.2.1, u5.2.2.2.2.2.2.2.2.2.2.2.2.1, u5.2.2.2.2.2.2.2.2.2.2.2.2.2.1, u5.2.2.2.2.2.2.2.2.2.2.2.2.2.2.1, u5.2.2.2.2.2.2.2.2.2.2.2.2.2.2.2.1, u5.2.2.2.2.2.2.2.2.2.2.2.2.2.2.2.2)) H locs := hH
        refine v_iload_n X dX7_triesLets_41 rfl (lv_at hl 3 rfl) ?_
        refine v_aload_n X dX7_triesLets_42 rfl (lv_at hl 0 rfl) ?_
        refine v_iload_n X dX7_triesLets_43 rfl (lv_at hl 1 rfl) ?_
        refine v_iload X dX7_triesLets_44 (lv_at hl 4 rfl) ?_
        refine rdV (As := [.int a0, .int x4]) (rest := [.int x3]) X mv_X7_187 (c_X7_letBy F.2.1 D K t o ((upd u5.1 ((118 : Int32) + x4).toNatClampNeg r13), u5.2.1, u5.2.2.1, u5.2.2.2.1, u5.2.2.2.2.1, u5.2.2.2.2.2.1, u5.2.2.2.2.2.2.1, u5.2.2.2.2.2.2.2.1, u5.2.2.2.2.2.2.2.2.1, u5.2.2.2.2.2.2.2.2.2.1, u5.2.2.2.2.2.2.2.2.2.2.1, u5.2.2.2.2.2.2.2.2.2.2.2.1, u5.2.2.2.2.2.2.2.2.2.2.2.2.1, u5.2.2.2.2.2.2.2.2.2.2.2.2.2.1, u5.2.2.2.2.2.2.2.2.2.2.2.2.2.2.1, u5.2.2.2.2.2.2.2.2.2.2.2.2.2.2.2.1, u5.2.2.2.2.2.2.2.2.2.2.2.2.2.2.2.2) a0 x4 _ h) hF ⟨rfl, rfl, Nat.le_of_ble_eq_true rfl, Nat.le_of_ble_eq_true rfl⟩ (stW hT hH) hH.1 [0, 1, 2, 3, 4, 5, 6, 7, 8, 9] rfl 0 rfl rfl hl.1 rfl rfl (Nat.le_of_ble_eq_true rfl) dX7_triesLets_46 (fun r14 h => ?_)
        refine v_iconst (v := (5 : Int32)) X dX7_triesLets_49 (by decide) ?_
        refine v_icmp_ne (tgt := 57) X dX7_triesLets_50 (by decide) (fun c15 => ?_) (fun c15 => ?_)
        · have h := h.2 c15
          refine v_iconst (v := (1 : Int32)) X dX7_triesLets_57 (by decide) ?_
          refine v_iadd X dX7_triesLets_58 ?_
          refine v_istore_n (lv' := [(3, .int (x3 + (1 : Int32))), (0, .ref (o 0)), (1, .int a0), (2, .int a1), (4, .int x4)]) X dX7_triesLets_59 rfl hl (by decide) rfl (fun ls hl => ?_)
          refine v_iinc (v := (x4 + (1 : Int32))) (lv' := [(4, .int (x4 + (1 : Int32))), (3, .int (x3 + (1 : Int32))), (0, .ref (o 0)), (1, .int a0), (2, .int a1)]) X dX7_triesLets_60 hl (k := 4) rfl rfl (by decide) rfl (fun ls hl => ?_)
          refine v_goto (tgt := 12) X dX7_triesLets_63 (by decide) ?_
          exact ih12 (x3 + (1 : Int32)) (x4 + (1 : Int32)) ((upd u5.1 ((118 : Int32) + x4).toNatClampNeg r13), u5.2.1, u5.2.2.1, u5.2.2.2.1, u5.2.2.2.2.1, u5.2.2.2.2.2.1, u5.2.2.2.2.2.2.1, u5.2.2.2.2.2.2.2.1, u5.2.2.2.2.2.2.2.2.1, u5.2.2.2.2.2.2.2.2.2.1, u5.2.2.2.2.2.2.2.2.2.2.1, u5.2.2.2.2.2.2.2.2.2.2.2.1, u5.2.2.2.2.2.2.2.2.2.2.2.2.1, u5.2.2.2.2.2.2.2.2.2.2.2.2.2.1, u5.2.2.2.2.2.2.2.2.2.2.2.2.2.2.1, u5.2.2.2.2.2.2.2.2.2.2.2.2.2.2.2.1, u5.2.2.2.2.2.2.2.2.2.2.2.2.2.2.2.2) ls H locs h (lv_sub hl [2, 3, 4, 1, 0] rfl) hH
        · have h := h.1 c15
          refine v_iconst (v := (0 : Int32)) X dX7_triesLets_53 (by decide) ?_
          refine v_goto (tgt := 58) X dX7_triesLets_54 (by decide) ?_
          refine v_iadd X dX7_triesLets_58 ?_
          refine v_istore_n (lv' := [(3, .int (x3 + (0 : Int32))), (0, .ref (o 0)), (1, .int a0), (2, .int a1), (4, .int x4)]) X dX7_triesLets_59 rfl hl (by decide) rfl (fun ls hl => ?_)
          refine v_iinc (v := (x4 + (1 : Int32))) (lv' := [(4, .int (x4 + (1 : Int32))), (3, .int (x3 + (0 : Int32))), (0, .ref (o 0)), (1, .int a0), (2, .int a1)]) X dX7_triesLets_60 hl (k := 4) rfl rfl (by decide) rfl (fun ls hl => ?_)
          refine v_goto (tgt := 12) X dX7_triesLets_63 (by decide) ?_
          exact ih12 (x3 + (0 : Int32)) (x4 + (1 : Int32)) ((upd u5.1 ((118 : Int32) + x4).toNatClampNeg r13), u5.2.1, u5.2.2.1, u5.2.2.2.1, u5.2.2.2.2.1, u5.2.2.2.2.2.1, u5.2.2.2.2.2.2.1, u5.2.2.2.2.2.2.2.1, u5.2.2.2.2.2.2.2.2.1, u5.2.2.2.2.2.2.2.2.2.1, u5.2.2.2.2.2.2.2.2.2.2.1, u5.2.2.2.2.2.2.2.2.2.2.2.1, u5.2.2.2.2.2.2.2.2.2.2.2.2.1, u5.2.2.2.2.2.2.2.2.2.2.2.2.2.1, u5.2.2.2.2.2.2.2.2.2.2.2.2.2.2.1, u5.2.2.2.2.2.2.2.2.2.2.2.2.2.2.2.1, u5.2.2.2.2.2.2.2.2.2.2.2.2.2.2.2.2) ls H locs h (lv_sub hl [2, 3, 4, 1, 0] rfl) hH
  obtain ⟨n12, h⟩ := h
  have h : wL_X7_triesLets_12 a0 a1 post Kx12 n12 (0 : Int32) (0 : Int32) u2 := by rw [hK12]; exact h
  exact lp12 n12 (0 : Int32) (0 : Int32) u2 ls H locs h (lv_sub hl [2, 3, 4, 1, 0] rfl) hH
def wL_X7_weightsIn_4 (y3 : Int32) (b4 : BX7) (post : Int32 → Prop) (Kx4 : Int32 → Prop) : Nat → Int32 → Int32 → Prop
  | 0, _, _ => False
  | n4 + 1, x1, x2 => vp_in (y3 + (21 : Int32)) 144 ∧ (((b4.1 (y3 + (21 : Int32)).toNatClampNeg) ≤ x2 → Kx4 x1) ∧ (¬ (b4.1 (y3 + (21 : Int32)).toNatClampNeg) ≤ x2 → vp_in ((y3 + (1 : Int32)) + x2) 144 ∧ (∀ x7 : Int32, x7 = (x1 + (b4.1 ((y3 + (1 : Int32)) + x2).toNatClampNeg)) → wL_X7_weightsIn_4 y3 b4 post Kx4 n4 x7 (x2 + (1 : Int32)))))
def w_X7_weightsIn (u : BX7) (a0 : Int32) (post : Int32 → Prop) : Prop := ∃ n4, wL_X7_weightsIn_4 a0 u post (fun (x5 : Int32) => post x5) n4 (0 : Int32) (0 : Int32)
set_option maxHeartbeats 4000000 in
set_option maxRecDepth 100000 in
theorem c_X7_weightsIn (l : Launch) (D : va_G) (K : Nat → ClassId) (t : Nat → Nat) (o : Nat → Nat) (u : BX7) (a0 : Int32) (post : Int32 → Prop) (h : w_X7_weightsIn u a0 post) : RdM l yX7_weightsIn cX7_weightsIn 4 (some .int) ({ frames := 0, cells := 0, slots := 0, locals := 0 } : Room) D (TY K) t (CX7 K o u) [.ref (o 0), .int a0] post := by
  refine RdM.mk rfl (Nat.le_of_ble_eq_true rfl) ?_
  intro F ls _ hF X hP hl hT
  have X : Cx F cX7_weightsIn 4 RX7 D (TY K) := X
  have hl : lv_has ls 4 [(0, .ref (o 0)), (1, .int a0)] := hl
  unfold w_X7_weightsIn at h
  refine v_iconst (v := (0 : Int32)) X dX7_weightsIn_0 (by decide) ?_
  refine v_istore_n (lv' := [(2, .int (0 : Int32)), (0, .ref (o 0)), (1, .int a0)]) X dX7_weightsIn_1 rfl hl (by decide) rfl (fun ls hl => ?_)
  refine v_iconst (v := (0 : Int32)) X dX7_weightsIn_2 (by decide) ?_
  refine v_istore_n (lv' := [(3, .int (0 : Int32)), (2, .int (0 : Int32)), (0, .ref (o 0)), (1, .int a0)]) X dX7_weightsIn_3 rfl hl (by decide) rfl (fun ls hl => ?_)
  obtain ⟨Kx4, hK4⟩ : ∃ f : Int32 → Prop, f = (fun (x5 : Int32) => post x5) := ⟨_, rfl⟩
  have kx6 : ∀ (x5 : Int32) (ls : Array Slot), (Kx4 x5) → lv_has ls 4 [(2, .int x5)] → V F (RQ F post) (fxS F).heap [] 36 ls [] := by
    intro x5 ls h hl
    have h : post x5 := by rw [hK4] at h; exact h
    refine v_iload_n X dX7_weightsIn_36 rfl (lv_at hl 0 rfl) ?_
    exact v_riret X hF h dX7_weightsIn_37
  have lp4 : ∀ (n4 : Nat) (x1 : Int32) (x2 : Int32) (ls : Array Slot), wL_X7_weightsIn_4 a0 u post Kx4 n4 x1 x2 → lv_has ls 4 [(0, .ref (o 0)), (1, .int a0), (2, .int x1), (3, .int x2)] → V F (RQ F post) (fxS F).heap [] 4 ls [] := by
    intro n4
    induction n4 with
    | zero => intro x1 x2 ls h hl; exact h.elim
    | succ n4 ih4 =>
      intro x1 x2 ls h hl
      refine v_iload_n X dX7_weightsIn_4 rfl (lv_at hl 3 rfl) ?_
      refine v_aload_n X dX7_weightsIn_5 rfl (lv_at hl 0 rfl) ?_
      refine v_get (v := .ref (o 1)) X hP 0 rfl fk_X7_7 rfl dX7_weightsIn_6 ?_
      refine v_iload_n X dX7_weightsIn_9 rfl (lv_at hl 1 rfl) ?_
      refine v_bipush (v := (21 : Int32)) X dX7_weightsIn_10 (by decide) ?_
      refine v_iadd X dX7_weightsIn_12 ?_
      have hin := h.1
      have h := h.2
      refine v_iald (f := u.1) X hP 1 0 rfl rfl hin dX7_weightsIn_13 ?_
      refine v_icmp_ge (tgt := 36) X dX7_weightsIn_14 (by decide) (fun c8 => ?_) (fun c8 => ?_)
      · have h := h.1 c8
        exact kx6 x1 ls h (lv_sub hl [2] rfl)
      · have h := h.2 c8
        refine v_iload_n X dX7_weightsIn_17 rfl (lv_at hl 2 rfl) ?_
        refine v_aload_n X dX7_weightsIn_18 rfl (lv_at hl 0 rfl) ?_
        refine v_get (v := .ref (o 1)) X hP 0 rfl fk_X7_7 rfl dX7_weightsIn_19 ?_
        refine v_iload_n X dX7_weightsIn_22 rfl (lv_at hl 1 rfl) ?_
        refine v_iconst (v := (1 : Int32)) X dX7_weightsIn_23 (by decide) ?_
        refine v_iadd X dX7_weightsIn_24 ?_
        refine v_iload_n X dX7_weightsIn_25 rfl (lv_at hl 3 rfl) ?_
        refine v_iadd X dX7_weightsIn_26 ?_
        have hin := h.1
        have h := h.2
        refine v_iald (f := u.1) X hP 1 0 rfl rfl hin dX7_weightsIn_27 ?_
        refine v_iadd X dX7_weightsIn_28 ?_
        refine v_topi (fun x7 ex7 => ?_)
        have h := h x7 ex7
        refine v_istore_n (lv' := [(2, .int x7), (0, .ref (o 0)), (1, .int a0), (3, .int x2)]) X dX7_weightsIn_29 rfl hl (by decide) rfl (fun ls hl => ?_)
        refine v_iinc (v := (x2 + (1 : Int32))) (lv' := [(3, .int (x2 + (1 : Int32))), (2, .int x7), (0, .ref (o 0)), (1, .int a0)]) X dX7_weightsIn_30 hl (k := 3) rfl rfl (by decide) rfl (fun ls hl => ?_)
        refine v_goto (tgt := 4) X dX7_weightsIn_33 (by decide) ?_
        exact ih4 x7 (x2 + (1 : Int32)) ls h (lv_sub hl [2, 3, 1, 0] rfl)
  obtain ⟨n4, h⟩ := h
  have h : wL_X7_weightsIn_4 a0 u post Kx4 n4 (0 : Int32) (0 : Int32) := by rw [hK4]; exact h
  exact lp4 n4 (0 : Int32) (0 : Int32) ls h (lv_sub hl [2, 3, 1, 0] rfl)
def wL_X7_best_45 (y9 : Int32) (y10 : Int32) (post : Int32 → BX7 → Prop) (Kx45 : Int32 → Int32 → Int32 → BX7 → Prop) : Nat → Int32 → Int32 → Int32 → Int32 → BX7 → Prop
  | 0, _, _, _, _, _ => False
  | n45 + 1, x4, x5, x6, x7, u8 => w_X7_allLets u8 (fun r20 => (r20 ≤ x7 → Kx45 x4 x5 x6 u8) ∧ (¬ r20 ≤ x7 → w_X7_triesLets u8 x7 y9 (fun r21 u22 => w_X7_restsIn u22 (108 : Int32) (fun r23 => w_X7_ones r23 (fun r24 => wpJ (T := Int32 → Prop) (fun (v26 : Int32) => wpJ (T := Int32 → Prop) (fun (v28 : Int32) => wpJ (T := Int32 → Prop) (fun (v30 : Int32) => (v26 = 0 → wL_X7_best_45 y9 y10 post Kx45 n45 v28 v30 x6 (x7 + (1 : Int32)) u22) ∧ (¬ v26 = 0 → w_X7_weightsIn u22 (108 : Int32) (fun r31 => wL_X7_best_45 y9 y10 post Kx45 n45 v28 v30 r31 (x7 + (1 : Int32)) u22))) (fun J29 => (v26 = 0 → J29 x5) ∧ (¬ v26 = 0 → J29 r24))) (fun J27 => (v26 = 0 → J27 x4) ∧ (¬ v26 = 0 → J27 x7))) (fun J25 => wpJ (T := Unit → Prop) (fun (_ : Unit) => J25 (1 : Int32)) (fun J35 => (x5 < r24 → J35 ()) ∧ (¬ x5 < r24 → (r24 = x5 → w_X7_weightsIn u22 (108 : Int32) (fun r36 => (x6 ≤ r36 → J25 (0 : Int32)) ∧ (¬ x6 ≤ r36 → J35 ()))) ∧ (¬ r24 = x5 → J25 (0 : Int32))))))))))
def w_X7_best (u : BX7) (a0 : Int32) (a1 : Int32) (post : Int32 → BX7 → Prop) : Prop := w_X7_isAgency u (fun r1 => (r1 = 0 → post (-1000002 : Int32) u) ∧ (¬ r1 = 0 → w_X7_isSpan a0 (fun r2 => (r2 = 0 → post (-1000001 : Int32) u) ∧ (¬ r2 = 0 → w_X7_in a1.toInt64 (-2 : Int64) (3 : Int64) (fun r3 => (r3 = 0 → post (-1000001 : Int32) u) ∧ (¬ r3 = 0 → ∃ n45, wL_X7_best_45 a0 a1 post (fun (x11 : Int32) (x12 : Int32) (x13 : Int32) (u14 : BX7) => (a1 = (-1 : Int32) → post x12 u14) ∧ (¬ a1 = (-1 : Int32) → (a1 = (-2 : Int32) → post x13 u14) ∧ (¬ a1 = (-2 : Int32) → vp_in (22 : Int32) 144 ∧ (((u14.1 (22 : Int32).toNatClampNeg) ≤ a1 → post (-1000000 : Int32) u14) ∧ (¬ (u14.1 (22 : Int32).toNatClampNeg) ≤ a1 → w_X7_letBy u14 x11 a1 (fun r15 => post r15 u14)))))) n45 (0 : Int32) (-1 : Int32) (0 : Int32) (0 : Int32) u))))))
set_option maxHeartbeats 4000000 in
set_option maxRecDepth 100000 in
theorem c_X7_best (l : Launch) (D : va_G) (K : Nat → ClassId) (t : Nat → Nat) (o : Nat → Nat) (u : BX7) (a0 : Int32) (a1 : Int32) (post : Int32 → BX7 → Prop) (h : w_X7_best u a0 a1 post) : WrI l yX7_best cX7_best 9 (some .int) ({ frames := 6, cells := 0, slots := 0, locals := 145 } : Room) D (TY K) t (CX7 K o u) [.ref (o 0), .int a0, .int a1] (fun z : BX7 => CX7 K o z) (fun (r : Int32) (z : BX7) => post r z) := by
  refine WrI.mk rfl (Nat.le_of_ble_eq_true rfl) ?_
  intro F ls A _ hF X hH hA hl hT
  obtain ⟨H, hH0⟩ : ∃ z : Heap, z = (fxS F).heap := ⟨_, rfl⟩
  obtain ⟨locs, hL0⟩ : ∃ z : List Loc, z = [] := ⟨_, rfl⟩
  have hH : HH F D A (CX7 K o u) H locs := by rw [hH0, hL0]; exact hH
  suffices goal : V F (WQI F D (TY K) A (fun z : BX7 => CX7 K o z) (fun (r : Int32) (z : BX7) => post r z)) H locs 0 ls [] by rw [hH0, hL0] at goal; exact goal
  clear hH0 hL0
  have X : Cx F cX7_best 9 RX7 D (TY K) := X
  have hl : lv_has ls 9 [(0, .ref (o 0)), (1, .int a0), (2, .int a1)] := hl
  unfold w_X7_best at h
  refine v_aload_n X dX7_best_0 rfl (lv_at hl 0 rfl) ?_
  refine rdV (As := []) (rest := []) X mv_X7_143 (c_X7_isAgency F.2.1 D K t o u _ h) hF ⟨rfl, rfl, Nat.le_of_ble_eq_true rfl, Nat.le_of_ble_eq_true rfl⟩ (stW hT hH) hH.1 [0, 1, 2, 3, 4, 5, 6, 7, 8, 9] rfl 0 rfl rfl hl.1 rfl rfl (Nat.le_of_ble_eq_true rfl) dX7_best_1 (fun r1 h => ?_)
  refine v_if_ne (tgt := 10) X dX7_best_4 (by decide) (fun c43 => ?_) (fun c43 => ?_)
  · have h := h.2 c43
    refine v_iload_n X dX7_best_10 rfl (lv_at hl 1 rfl) ?_
    refine rdS (As := [.int a0]) (rest := []) X ms_X7_174 (c_X7_isSpan F.2.1 D K t a0 _ h) hF ⟨rfl, rfl, Nat.le_of_ble_eq_true rfl, Nat.le_of_ble_eq_true rfl⟩ (stW hT hH) hH.1 [] rfl hl.1 rfl rfl (Nat.le_of_ble_eq_true rfl) dX7_best_11 (fun r2 h => ?_)
    refine v_if_eq (tgt := 31) X dX7_best_14 (by decide) (fun c42 => ?_) (fun c42 => ?_)
    · have h := h.1 c42
      refine v_ldc X kc_X7_55 dX7_best_31 ?_
      exact v_wiret X hF u hH h dX7_best_33
    · have h := h.2 c42
      refine v_iload_n X dX7_best_17 rfl (lv_at hl 2 rfl) ?_
      refine v_i2l X dX7_best_18 rfl ?_
      refine v_ldc2 X kc_X7_190 dX7_best_19 ?_
      refine v_ldc2 X kc_X7_192 dX7_best_22 ?_
      refine rdS (As := [.long a1.toInt64, .long (-2 : Int64), .long (3 : Int64)]) (rest := []) X ms_X7_45 (c_X7_in F.2.1 D K t a1.toInt64 (-2 : Int64) (3 : Int64) _ h) hF ⟨rfl, rfl, Nat.le_of_ble_eq_true rfl, Nat.le_of_ble_eq_true rfl⟩ (stW hT hH) hH.1 [] rfl hl.1 rfl rfl (Nat.le_of_ble_eq_true rfl) dX7_best_25 (fun r3 h => ?_)
      refine v_if_ne (tgt := 34) X dX7_best_28 (by decide) (fun c41 => ?_) (fun c41 => ?_)
      · have h := h.2 c41
        refine v_iconst (v := (0 : Int32)) X dX7_best_34 (by decide) ?_
        refine v_istore_n (lv' := [(3, .int (0 : Int32)), (0, .ref (o 0)), (1, .int a0), (2, .int a1)]) X dX7_best_35 rfl hl (by decide) rfl (fun ls hl => ?_)
        refine v_iconst (v := (-1 : Int32)) X dX7_best_36 (by decide) ?_
        refine v_istore (lv' := [(4, .int (-1 : Int32)), (3, .int (0 : Int32)), (0, .ref (o 0)), (1, .int a0), (2, .int a1)]) X dX7_best_37 hl (by decide) rfl (fun ls hl => ?_)
        refine v_iconst (v := (0 : Int32)) X dX7_best_39 (by decide) ?_
        refine v_istore (lv' := [(5, .int (0 : Int32)), (4, .int (-1 : Int32)), (3, .int (0 : Int32)), (0, .ref (o 0)), (1, .int a0), (2, .int a1)]) X dX7_best_40 hl (by decide) rfl (fun ls hl => ?_)
        refine v_iconst (v := (0 : Int32)) X dX7_best_42 (by decide) ?_
        refine v_istore (lv' := [(6, .int (0 : Int32)), (5, .int (0 : Int32)), (4, .int (-1 : Int32)), (3, .int (0 : Int32)), (0, .ref (o 0)), (1, .int a0), (2, .int a1)]) X dX7_best_43 hl (by decide) rfl (fun ls hl => ?_)
        obtain ⟨Kx45, hK45⟩ : ∃ f : Int32 → Int32 → Int32 → BX7 → Prop, f = (fun (x11 : Int32) (x12 : Int32) (x13 : Int32) (u14 : BX7) => (a1 = (-1 : Int32) → post x12 u14) ∧ (¬ a1 = (-1 : Int32) → (a1 = (-2 : Int32) → post x13 u14) ∧ (¬ a1 = (-2 : Int32) → vp_in (22 : Int32) 144 ∧ (((u14.1 (22 : Int32).toNatClampNeg) ≤ a1 → post (-1000000 : Int32) u14) ∧ (¬ (u14.1 (22 : Int32).toNatClampNeg) ≤ a1 → w_X7_letBy u14 x11 a1 (fun r15 => post r15 u14)))))) := ⟨_, rfl⟩
        have kx19 : ∀ (x11 : Int32) (x12 : Int32) (x13 : Int32) (u14 : BX7) (ls : Array Slot) (H : Heap) (locs : List Loc), (Kx45 x11 x12 x13 u14) → lv_has ls 9 [(0, .ref (o 0)), (2, .int a1), (3, .int x11), (4, .int x12), (5, .int x13)] → HH F D A (CX7 K o u14) H locs → V F (WQI F D (TY K) A (fun z : BX7 => CX7 K o z) (fun (r : Int32) (z : BX7) => post r z)) H locs 155 ls [] := by
          intro x11 x12 x13 u14 ls H locs h hl hH
          have h : (a1 = (-1 : Int32) → post x12 u14) ∧ (¬ a1 = (-1 : Int32) → (a1 = (-2 : Int32) → post x13 u14) ∧ (¬ a1 = (-2 : Int32) → vp_in (22 : Int32) 144 ∧ (((u14.1 (22 : Int32).toNatClampNeg) ≤ a1 → post (-1000000 : Int32) u14) ∧ (¬ (u14.1 (22 : Int32).toNatClampNeg) ≤ a1 → w_X7_letBy u14 x11 a1 (fun r15 => post r15 u14))))) := by rw [hK45] at h; exact h
          refine v_iload_n X dX7_best_155 rfl (lv_at hl 1 rfl) ?_
          refine v_iconst (v := (-1 : Int32)) X dX7_best_156 (by decide) ?_
          refine v_icmp_ne (tgt := 165) X dX7_best_157 (by decide) (fun c18 => ?_) (fun c18 => ?_)
          · have h := h.2 c18
            refine v_iload_n X dX7_best_165 rfl (lv_at hl 1 rfl) ?_
            refine v_bipush (v := (-2 : Int32)) X dX7_best_166 (by decide) ?_
            refine v_icmp_ne (tgt := 176) X dX7_best_168 (by decide) (fun c17 => ?_) (fun c17 => ?_)
            · have h := h.2 c17
              refine v_iload_n X dX7_best_176 rfl (lv_at hl 1 rfl) ?_
              refine v_aload_n X dX7_best_177 rfl (lv_at hl 0 rfl) ?_
              refine v_get (v := .ref (o 1)) X hH.1 0 rfl fk_X7_7 rfl dX7_best_178 ?_
              refine v_bipush (v := (22 : Int32)) X dX7_best_181 (by decide) ?_
              have hin := h.1
              have h := h.2
              refine v_iald (f := u14.1) X hH.1 1 0 rfl rfl hin dX7_best_183 ?_
              refine v_icmp_ge (tgt := 196) X dX7_best_184 (by decide) (fun c16 => ?_) (fun c16 => ?_)
              · have h := h.1 c16
                refine v_ldc X kc_X7_180 dX7_best_196 ?_
                exact v_wiret X hF u14 hH h dX7_best_198
              · have h := h.2 c16
                refine v_aload_n X dX7_best_187 rfl (lv_at hl 0 rfl) ?_
                refine v_iload_n X dX7_best_188 rfl (lv_at hl 2 rfl) ?_
                refine v_iload_n X dX7_best_189 rfl (lv_at hl 1 rfl) ?_
                refine rdV (As := [.int x11, .int a1]) (rest := []) X mv_X7_187 (c_X7_letBy F.2.1 D K t o u14 x11 a1 _ h) hF ⟨rfl, rfl, Nat.le_of_ble_eq_true rfl, Nat.le_of_ble_eq_true rfl⟩ (stW hT hH) hH.1 [0, 1, 2, 3, 4, 5, 6, 7, 8, 9] rfl 0 rfl rfl hl.1 rfl rfl (Nat.le_of_ble_eq_true rfl) dX7_best_190 (fun r15 h => ?_)
                refine v_goto (tgt := 198) X dX7_best_193 (by decide) ?_
                exact v_wiret X hF u14 hH h dX7_best_198
            · have h := h.1 c17
              refine v_iload X dX7_best_171 (lv_at hl 4 rfl) ?_
              refine v_goto (tgt := 198) X dX7_best_173 (by decide) ?_
              exact v_wiret X hF u14 hH h dX7_best_198
          · have h := h.1 c18
            refine v_iload X dX7_best_160 (lv_at hl 3 rfl) ?_
            refine v_goto (tgt := 198) X dX7_best_162 (by decide) ?_
            exact v_wiret X hF u14 hH h dX7_best_198
        have lp45 : ∀ (n45 : Nat) (x4 : Int32) (x5 : Int32) (x6 : Int32) (x7 : Int32) (u8 : BX7) (ls : Array Slot) (H : Heap) (locs : List Loc), wL_X7_best_45 a0 a1 post Kx45 n45 x4 x5 x6 x7 u8 → lv_has ls 9 [(0, .ref (o 0)), (1, .int a0), (2, .int a1), (3, .int x4), (4, .int x5), (5, .int x6), (6, .int x7)] → HH F D A (CX7 K o u8) H locs → V F (WQI F D (TY K) A (fun z : BX7 => CX7 K o z) (fun (r : Int32) (z : BX7) => post r z)) H locs 45 ls [] := by
          intro n45
          induction n45 with
          | zero => intro x4 x5 x6 x7 u8 ls H locs h hl hH; exact h.elim
          | succ n45 ih45 =>
            intro x4 x5 x6 x7 u8 ls H locs h hl hH
            refine v_iload X dX7_best_45 (lv_at hl 6 rfl) ?_
            refine v_aload_n X dX7_best_47 rfl (lv_at hl 0 rfl) ?_
            refine rdV (As := []) (rest := [.int x7]) X mv_X7_194 (c_X7_allLets F.2.1 D K t o u8 _ h) hF ⟨rfl, rfl, Nat.le_of_ble_eq_true rfl, Nat.le_of_ble_eq_true rfl⟩ (stW hT hH) hH.1 [0, 1, 2, 3, 4, 5, 6, 7, 8, 9] rfl 0 rfl rfl hl.1 rfl rfl (Nat.le_of_ble_eq_true rfl) dX7_best_48 (fun r20 h => ?_)
            refine v_icmp_ge (tgt := 155) X dX7_best_51 (by decide) (fun c40 => ?_) (fun c40 => ?_)
            · have h := h.1 c40
              exact kx19 x4 x5 x6 u8 ls H locs h (lv_sub hl [0, 2, 3, 4, 5] rfl) hH
            · have h := h.2 c40
              refine v_aload_n X dX7_best_54 rfl (lv_at hl 0 rfl) ?_
              refine v_iload X dX7_best_55 (lv_at hl 6 rfl) ?_
              refine v_iload_n X dX7_best_57 rfl (lv_at hl 1 rfl) ?_
              refine wrVI (As := [.int x7, .int a0]) (rest := []) (wr := ([] : va_W)) X mv_X7_198 (c_X7_triesLets F.2.1 D K t o u8 x7 a0 _ h) hF ⟨rfl, rfl, Nat.le_of_ble_eq_true rfl, Nat.le_of_ble_eq_true rfl⟩ hT hA hH [0, 1, 2, 3, 4, 5, 6, 7, 8, 9] [] ⟨rfl, rfl, rfl, rfl, by decide⟩ 0 rfl rfl hl.1 rfl rfl (Nat.le_of_ble_eq_true rfl) dX7_best_58 (fun r21 u22 H locs h hH => ?_)
              have hH : HH F D A (CX7 K o u22) H locs := hH
              refine v_pop X dX7_best_61 rfl ?_
              refine v_aload_n X dX7_best_62 rfl (lv_at hl 0 rfl) ?_
              refine v_bipush (v := (108 : Int32)) X dX7_best_63 (by decide) ?_
              refine rdV (As := [.int (108 : Int32)]) (rest := []) X mv_X7_155 (c_X7_restsIn F.2.1 D K t o u22 (108 : Int32) _ h) hF ⟨rfl, rfl, Nat.le_of_ble_eq_true rfl, Nat.le_of_ble_eq_true rfl⟩ (stW hT hH) hH.1 [0, 1, 2, 3, 4, 5, 6, 7, 8, 9] rfl 0 rfl rfl hl.1 rfl rfl (Nat.le_of_ble_eq_true rfl) dX7_best_65 (fun r23 h => ?_)
              refine rdS (As := [.int r23]) (rest := []) X ms_X7_201 (c_X7_ones F.2.1 D K t r23 _ h) hF ⟨rfl, rfl, Nat.le_of_ble_eq_true rfl, Nat.le_of_ble_eq_true rfl⟩ (stW hT hH) hH.1 [] rfl hl.1 rfl rfl (Nat.le_of_ble_eq_true rfl) dX7_best_68 (fun r24 h => ?_)
              refine v_istore (lv' := [(7, .int r24), (0, .ref (o 0)), (1, .int a0), (2, .int a1), (3, .int x4), (4, .int x5), (5, .int x6), (6, .int x7)]) X dX7_best_71 hl (by decide) rfl (fun ls hl => ?_)
              refine v_iload X dX7_best_73 (lv_at hl 0 rfl) ?_
              refine v_iload X dX7_best_75 (lv_at hl 5 rfl) ?_
              obtain ⟨J25, hJ25⟩ : ∃ f : Int32 → Prop, f = (fun (v26 : Int32) => wpJ (T := Int32 → Prop) (fun (v28 : Int32) => wpJ (T := Int32 → Prop) (fun (v30 : Int32) => (v26 = 0 → wL_X7_best_45 a0 a1 post Kx45 n45 v28 v30 x6 (x7 + (1 : Int32)) u22) ∧ (¬ v26 = 0 → w_X7_weightsIn u22 (108 : Int32) (fun r31 => wL_X7_best_45 a0 a1 post Kx45 n45 v28 v30 r31 (x7 + (1 : Int32)) u22))) (fun J29 => (v26 = 0 → J29 x5) ∧ (¬ v26 = 0 → J29 r24))) (fun J27 => (v26 = 0 → J27 x4) ∧ (¬ v26 = 0 → J27 x7))) := ⟨_, rfl⟩
              have kJ25 : ∀ (v26 : Int32) (ls : Array Slot) (H : Heap) (locs : List Loc), (J25 v26) → lv_has ls 9 [(0, .ref (o 0)), (1, .int a0), (2, .int a1), (3, .int x4), (4, .int x5), (5, .int x6), (6, .int x7), (7, .int r24)] → HH F D A (CX7 K o u22) H locs → V F (WQI F D (TY K) A (fun z : BX7 => CX7 K o z) (fun (r : Int32) (z : BX7) => post r z)) H locs 103 ls [.int v26] := by
                intro v26 ls H locs h hl hH
                have h : wpJ (T := Int32 → Prop) (fun (v28 : Int32) => wpJ (T := Int32 → Prop) (fun (v30 : Int32) => (v26 = 0 → wL_X7_best_45 a0 a1 post Kx45 n45 v28 v30 x6 (x7 + (1 : Int32)) u22) ∧ (¬ v26 = 0 → w_X7_weightsIn u22 (108 : Int32) (fun r31 => wL_X7_best_45 a0 a1 post Kx45 n45 v28 v30 r31 (x7 + (1 : Int32)) u22))) (fun J29 => (v26 = 0 → J29 x5) ∧ (¬ v26 = 0 → J29 r24))) (fun J27 => (v26 = 0 → J27 x4) ∧ (¬ v26 = 0 → J27 x7)) := by rw [hJ25] at h; exact h
                refine v_istore (lv' := [(8, .int v26), (0, .ref (o 0)), (1, .int a0), (2, .int a1), (3, .int x4), (4, .int x5), (5, .int x6), (6, .int x7), (7, .int r24)]) X dX7_best_103 hl (by decide) rfl (fun ls hl => ?_)
                refine v_iload X dX7_best_105 (lv_at hl 0 rfl) ?_
                obtain ⟨J27, hJ27⟩ : ∃ f : Int32 → Prop, f = (fun (v28 : Int32) => wpJ (T := Int32 → Prop) (fun (v30 : Int32) => (v26 = 0 → wL_X7_best_45 a0 a1 post Kx45 n45 v28 v30 x6 (x7 + (1 : Int32)) u22) ∧ (¬ v26 = 0 → w_X7_weightsIn u22 (108 : Int32) (fun r31 => wL_X7_best_45 a0 a1 post Kx45 n45 v28 v30 r31 (x7 + (1 : Int32)) u22))) (fun J29 => (v26 = 0 → J29 x5) ∧ (¬ v26 = 0 → J29 r24))) := ⟨_, rfl⟩
                have kJ27 : ∀ (v28 : Int32) (ls : Array Slot) (H : Heap) (locs : List Loc), (J27 v28) → lv_has ls 9 [(0, .ref (o 0)), (1, .int a0), (2, .int a1), (4, .int x5), (5, .int x6), (6, .int x7), (7, .int r24), (8, .int v26)] → HH F D A (CX7 K o u22) H locs → V F (WQI F D (TY K) A (fun z : BX7 => CX7 K o z) (fun (r : Int32) (z : BX7) => post r z)) H locs 116 ls [.int v28] := by
                  intro v28 ls H locs h hl hH
                  have h : wpJ (T := Int32 → Prop) (fun (v30 : Int32) => (v26 = 0 → wL_X7_best_45 a0 a1 post Kx45 n45 v28 v30 x6 (x7 + (1 : Int32)) u22) ∧ (¬ v26 = 0 → w_X7_weightsIn u22 (108 : Int32) (fun r31 => wL_X7_best_45 a0 a1 post Kx45 n45 v28 v30 r31 (x7 + (1 : Int32)) u22))) (fun J29 => (v26 = 0 → J29 x5) ∧ (¬ v26 = 0 → J29 r24)) := by rw [hJ27] at h; exact h
                  refine v_istore_n (lv' := [(3, .int v28), (0, .ref (o 0)), (1, .int a0), (2, .int a1), (4, .int x5), (5, .int x6), (6, .int x7), (7, .int r24), (8, .int v26)]) X dX7_best_116 rfl hl (by decide) rfl (fun ls hl => ?_)
                  refine v_iload X dX7_best_117 (lv_at hl 8 rfl) ?_
                  obtain ⟨J29, hJ29⟩ : ∃ f : Int32 → Prop, f = (fun (v30 : Int32) => (v26 = 0 → wL_X7_best_45 a0 a1 post Kx45 n45 v28 v30 x6 (x7 + (1 : Int32)) u22) ∧ (¬ v26 = 0 → w_X7_weightsIn u22 (108 : Int32) (fun r31 => wL_X7_best_45 a0 a1 post Kx45 n45 v28 v30 r31 (x7 + (1 : Int32)) u22))) := ⟨_, rfl⟩
                  have kJ29 : ∀ (v30 : Int32) (ls : Array Slot) (H : Heap) (locs : List Loc), (J29 v30) → lv_has ls 9 [(0, .ref (o 0)), (1, .int a0), (2, .int a1), (3, .int v28), (5, .int x6), (6, .int x7), (8, .int v26)] → HH F D A (CX7 K o u22) H locs → V F (WQI F D (TY K) A (fun z : BX7 => CX7 K o z) (fun (r : Int32) (z : BX7) => post r z)) H locs 129 ls [.int v30] := by
                    intro v30 ls H locs h hl hH
                    have h : (v26 = 0 → wL_X7_best_45 a0 a1 post Kx45 n45 v28 v30 x6 (x7 + (1 : Int32)) u22) ∧ (¬ v26 = 0 → w_X7_weightsIn u22 (108 : Int32) (fun r31 => wL_X7_best_45 a0 a1 post Kx45 n45 v28 v30 r31 (x7 + (1 : Int32)) u22)) := by rw [hJ29] at h; exact h
                    refine v_istore (lv' := [(4, .int v30), (0, .ref (o 0)), (1, .int a0), (2, .int a1), (3, .int v28), (5, .int x6), (6, .int x7), (8, .int v26)]) X dX7_best_129 hl (by decide) rfl (fun ls hl => ?_)
                    refine v_iload X dX7_best_131 (lv_at hl 7 rfl) ?_
                    refine v_if_eq (tgt := 145) X dX7_best_133 (by decide) (fun c32 => ?_) (fun c32 => ?_)
                    · have h := h.1 c32
                      refine v_iload X dX7_best_145 (lv_at hl 5 rfl) ?_
                      refine v_istore (lv' := [(5, .int x6), (4, .int v30), (0, .ref (o 0)), (1, .int a0), (2, .int a1), (3, .int v28), (6, .int x7), (8, .int v26)]) X dX7_best_147 hl (by decide) rfl (fun ls hl => ?_)
                      refine v_iinc (v := (x7 + (1 : Int32))) (lv' := [(6, .int (x7 + (1 : Int32))), (5, .int x6), (4, .int v30), (0, .ref (o 0)), (1, .int a0), (2, .int a1), (3, .int v28), (8, .int v26)]) X dX7_best_149 hl (k := 6) rfl rfl (by decide) rfl (fun ls hl => ?_)
                      refine v_goto (tgt := 45) X dX7_best_152 (by decide) ?_
                      exact ih45 v28 v30 x6 (x7 + (1 : Int32)) u22 ls H locs h (lv_sub hl [3, 4, 5, 6, 2, 1, 0] rfl) hH
                    · have h := h.2 c32
                      refine v_aload_n X dX7_best_136 rfl (lv_at hl 1 rfl) ?_
                      refine v_bipush (v := (108 : Int32)) X dX7_best_137 (by decide) ?_
                      refine rdV (As := [.int (108 : Int32)]) (rest := []) X mv_X7_204 (c_X7_weightsIn F.2.1 D K t o u22 (108 : Int32) _ h) hF ⟨rfl, rfl, Nat.le_of_ble_eq_true rfl, Nat.le_of_ble_eq_true rfl⟩ (stW hT hH) hH.1 [0, 1, 2, 3, 4, 5, 6, 7, 8, 9] rfl 0 rfl rfl hl.1 rfl rfl (Nat.le_of_ble_eq_true rfl) dX7_best_139 (fun r31 h => ?_)
                      refine v_goto (tgt := 147) X dX7_best_142 (by decide) ?_
                      refine v_istore (lv' := [(5, .int r31), (4, .int v30), (0, .ref (o 0)), (1, .int a0), (2, .int a1), (3, .int v28), (6, .int x7), (8, .int v26)]) X dX7_best_147 hl (by decide) rfl (fun ls hl => ?_)
                      refine v_iinc (v := (x7 + (1 : Int32))) (lv' := [(6, .int (x7 + (1 : Int32))), (5, .int r31), (4, .int v30), (0, .ref (o 0)), (1, .int a0), (2, .int a1), (3, .int v28), (8, .int v26)]) X dX7_best_149 hl (k := 6) rfl rfl (by decide) rfl (fun ls hl => ?_)
                      refine v_goto (tgt := 45) X dX7_best_152 (by decide) ?_
                      exact ih45 v28 v30 r31 (x7 + (1 : Int32)) u22 ls H locs h (lv_sub hl [3, 4, 5, 6, 2, 1, 0] rfl) hH
                  have h : (v26 = 0 → J29 x5) ∧ (¬ v26 = 0 → J29 r24) := by rw [hJ29]; exact h
                  refine v_if_eq (tgt := 127) X dX7_best_119 (by decide) (fun c33 => ?_) (fun c33 => ?_)
                  · have h := h.1 c33
                    refine v_iload X dX7_best_127 (lv_at hl 4 rfl) ?_
                    exact kJ29 x5 ls H locs h (lv_sub hl [1, 2, 3, 0, 5, 6, 8] rfl) hH
                  · have h := h.2 c33
                    refine v_iload X dX7_best_122 (lv_at hl 7 rfl) ?_
                    refine v_goto (tgt := 129) X dX7_best_124 (by decide) ?_
                    exact kJ29 r24 ls H locs h (lv_sub hl [1, 2, 3, 0, 5, 6, 8] rfl) hH
                have h : (v26 = 0 → J27 x4) ∧ (¬ v26 = 0 → J27 x7) := by rw [hJ27]; exact h
                refine v_if_eq (tgt := 115) X dX7_best_107 (by decide) (fun c34 => ?_) (fun c34 => ?_)
                · have h := h.1 c34
                  refine v_iload_n X dX7_best_115 rfl (lv_at hl 4 rfl) ?_
                  exact kJ27 x4 ls H locs h (lv_sub hl [1, 2, 3, 5, 6, 7, 8, 0] rfl) hH
                · have h := h.2 c34
                  refine v_iload X dX7_best_110 (lv_at hl 7 rfl) ?_
                  refine v_goto (tgt := 116) X dX7_best_112 (by decide) ?_
                  exact kJ27 x7 ls H locs h (lv_sub hl [1, 2, 3, 5, 6, 7, 8, 0] rfl) hH
              have h : wpJ (T := Unit → Prop) (fun (_ : Unit) => J25 (1 : Int32)) (fun J35 => (x5 < r24 → J35 ()) ∧ (¬ x5 < r24 → (r24 = x5 → w_X7_weightsIn u22 (108 : Int32) (fun r36 => (x6 ≤ r36 → J25 (0 : Int32)) ∧ (¬ x6 ≤ r36 → J35 ()))) ∧ (¬ r24 = x5 → J25 (0 : Int32)))) := by rw [hJ25]; exact h
              obtain ⟨J35, hJ35⟩ : ∃ f : Unit → Prop, f = (fun (_ : Unit) => J25 (1 : Int32)) := ⟨_, rfl⟩
              have kJ35 : ∀ (ls : Array Slot) (H : Heap) (locs : List Loc), (J35 ()) → lv_has ls 9 [(0, .ref (o 0)), (1, .int a0), (2, .int a1), (3, .int x4), (4, .int x5), (5, .int x6), (6, .int x7), (7, .int r24)] → HH F D A (CX7 K o u22) H locs → V F (WQI F D (TY K) A (fun z : BX7 => CX7 K o z) (fun (r : Int32) (z : BX7) => post r z)) H locs 98 ls [] := by
                intro ls H locs h hl hH
                have h : J25 (1 : Int32) := by rw [hJ35] at h; exact h
                refine v_iconst (v := (1 : Int32)) X dX7_best_98 (by decide) ?_
                refine v_goto (tgt := 103) X dX7_best_99 (by decide) ?_
                exact kJ25 (1 : Int32) ls H locs h (lv_sub hl [0, 1, 2, 3, 4, 5, 6, 7] rfl) hH
              have h : (x5 < r24 → J35 ()) ∧ (¬ x5 < r24 → (r24 = x5 → w_X7_weightsIn u22 (108 : Int32) (fun r36 => (x6 ≤ r36 → J25 (0 : Int32)) ∧ (¬ x6 ≤ r36 → J35 ()))) ∧ (¬ r24 = x5 → J25 (0 : Int32))) := by rw [hJ35]; exact h
              refine v_icmp_gt (tgt := 98) X dX7_best_77 (by decide) (fun c39 => ?_) (fun c39 => ?_)
              · have h := h.1 c39
                exact kJ35  ls H locs h (lv_sub hl [1, 2, 3, 4, 5, 6, 7, 0] rfl) hH
              · have h := h.2 c39
                refine v_iload X dX7_best_80 (lv_at hl 0 rfl) ?_
                refine v_iload X dX7_best_82 (lv_at hl 5 rfl) ?_
                refine v_icmp_ne (tgt := 102) X dX7_best_84 (by decide) (fun c38 => ?_) (fun c38 => ?_)
                · have h := h.2 c38
                  refine v_iconst (v := (0 : Int32)) X dX7_best_102 (by decide) ?_
                  exact kJ25 (0 : Int32) ls H locs h (lv_sub hl [1, 2, 3, 4, 5, 6, 7, 0] rfl) hH
                · have h := h.1 c38
                  refine v_aload_n X dX7_best_87 rfl (lv_at hl 1 rfl) ?_
                  refine v_bipush (v := (108 : Int32)) X dX7_best_88 (by decide) ?_
                  refine rdV (As := [.int (108 : Int32)]) (rest := []) X mv_X7_204 (c_X7_weightsIn F.2.1 D K t o u22 (108 : Int32) _ h) hF ⟨rfl, rfl, Nat.le_of_ble_eq_true rfl, Nat.le_of_ble_eq_true rfl⟩ (stW hT hH) hH.1 [0, 1, 2, 3, 4, 5, 6, 7, 8, 9] rfl 0 rfl rfl hl.1 rfl rfl (Nat.le_of_ble_eq_true rfl) dX7_best_90 (fun r36 h => ?_)
                  refine v_iload X dX7_best_93 (lv_at hl 6 rfl) ?_
                  refine v_icmp_ge (tgt := 102) X dX7_best_95 (by decide) (fun c37 => ?_) (fun c37 => ?_)
                  · have h := h.1 c37
                    refine v_iconst (v := (0 : Int32)) X dX7_best_102 (by decide) ?_
                    exact kJ25 (0 : Int32) ls H locs h (lv_sub hl [1, 2, 3, 4, 5, 6, 7, 0] rfl) hH
                  · have h := h.2 c37
                    exact kJ35  ls H locs h (lv_sub hl [1, 2, 3, 4, 5, 6, 7, 0] rfl) hH
        obtain ⟨n45, h⟩ := h
        have h : wL_X7_best_45 a0 a1 post Kx45 n45 (0 : Int32) (-1 : Int32) (0 : Int32) (0 : Int32) u := by rw [hK45]; exact h
        exact lp45 n45 (0 : Int32) (-1 : Int32) (0 : Int32) (0 : Int32) u ls H locs h (lv_sub hl [4, 5, 6, 3, 2, 1, 0] rfl) hH
      · have h := h.1 c41
        refine v_ldc X kc_X7_55 dX7_best_31 ?_
        exact v_wiret X hF u hH h dX7_best_33
  · have h := h.1 c43
    refine v_ldc X kc_X7_146 dX7_best_7 ?_
    exact v_wiret X hF u hH h dX7_best_9
def wL_X7_fewest_52 (y9 : Int32) (y10 : Int32) (y11 : Int32) (post : Int32 → BX7 → Prop) (Kx52 : Int32 → Int32 → BX7 → Prop) : Nat → Int32 → Int32 → Int32 → BX7 → Prop
  | 0, _, _, _, _ => False
  | n52 + 1, x5, x6, x7, u8 => w_X7_allLets u8 (fun r20 => (r20 ≤ x7 → Kx52 x5 x6 u8) ∧ (¬ r20 ≤ x7 → w_X7_triesLets u8 x7 y10 (fun r21 u22 => w_X7_restsIn u22 (108 : Int32) (fun r23 => wpJ (T := Int32 → Prop) (fun (v25 : Int32) => wpJ (T := Int32 → Prop) (fun (v27 : Int32) => (v25 = 0 → wL_X7_fewest_52 y9 y10 y11 post Kx52 n52 v27 x6 (x7 + (1 : Int32)) u22) ∧ (¬ v25 = 0 → wL_X7_fewest_52 y9 y10 y11 post Kx52 n52 v27 r21 (x7 + (1 : Int32)) u22)) (fun J26 => (v25 = 0 → J26 x5) ∧ (¬ v25 = 0 → J26 x7))) (fun J24 => wpJ (T := Unit → Prop) (fun (_ : Unit) => J24 (0 : Int32)) (fun J30 => ((y9 &&& (r23 ^^^ (-1 : Int32))) = 0 → (x6 ≤ r21 → J30 ()) ∧ (¬ x6 ≤ r21 → J24 (1 : Int32))) ∧ (¬ (y9 &&& (r23 ^^^ (-1 : Int32))) = 0 → J30 ())))))))
def w_X7_fewest (u : BX7) (a0 : Int32) (a1 : Int32) (a2 : Int32) (post : Int32 → BX7 → Prop) : Prop := w_X7_isAgency u (fun r1 => (r1 = 0 → post (-1000002 : Int32) u) ∧ (¬ r1 = 0 → w_X7_isSet u a0 (fun r2 => (r2 = 0 → post (-1000001 : Int32) u) ∧ (¬ r2 = 0 → w_X7_isSpan a1 (fun r3 => (r3 = 0 → post (-1000001 : Int32) u) ∧ (¬ r3 = 0 → w_X7_in a2.toInt64 (-1 : Int64) (3 : Int64) (fun r4 => (r4 = 0 → post (-1000001 : Int32) u) ∧ (¬ r4 = 0 → ∃ n52, wL_X7_fewest_52 a0 a1 a2 post (fun (x12 : Int32) (x13 : Int32) (u14 : BX7) => (x12 = (-1000000 : Int32) → post (-1000000 : Int32) u14) ∧ (¬ x12 = (-1000000 : Int32) → (a2 = (-1 : Int32) → post x13 u14) ∧ (¬ a2 = (-1 : Int32) → vp_in (22 : Int32) 144 ∧ (((u14.1 (22 : Int32).toNatClampNeg) ≤ a2 → post (-1000000 : Int32) u14) ∧ (¬ (u14.1 (22 : Int32).toNatClampNeg) ≤ a2 → w_X7_letBy u14 x12 a2 (fun r15 => post r15 u14)))))) n52 (-1000000 : Int32) (5 : Int32) (0 : Int32) u))))))))
set_option maxHeartbeats 4000000 in
set_option maxRecDepth 100000 in
theorem c_X7_fewest (l : Launch) (D : va_G) (K : Nat → ClassId) (t : Nat → Nat) (o : Nat → Nat) (u : BX7) (a0 : Int32) (a1 : Int32) (a2 : Int32) (post : Int32 → BX7 → Prop) (h : w_X7_fewest u a0 a1 a2 post) : WrI l yX7_fewest cX7_fewest 9 (some .int) ({ frames := 6, cells := 0, slots := 0, locals := 145 } : Room) D (TY K) t (CX7 K o u) [.ref (o 0), .int a0, .int a1, .int a2] (fun z : BX7 => CX7 K o z) (fun (r : Int32) (z : BX7) => post r z) := by
  refine WrI.mk rfl (Nat.le_of_ble_eq_true rfl) ?_
  intro F ls A _ hF X hH hA hl hT
  obtain ⟨H, hH0⟩ : ∃ z : Heap, z = (fxS F).heap := ⟨_, rfl⟩
  obtain ⟨locs, hL0⟩ : ∃ z : List Loc, z = [] := ⟨_, rfl⟩
  have hH : HH F D A (CX7 K o u) H locs := by rw [hH0, hL0]; exact hH
  suffices goal : V F (WQI F D (TY K) A (fun z : BX7 => CX7 K o z) (fun (r : Int32) (z : BX7) => post r z)) H locs 0 ls [] by rw [hH0, hL0] at goal; exact goal
  clear hH0 hL0
  have X : Cx F cX7_fewest 9 RX7 D (TY K) := X
  have hl : lv_has ls 9 [(0, .ref (o 0)), (1, .int a0), (2, .int a1), (3, .int a2)] := hl
  unfold w_X7_fewest at h
  refine v_aload_n X dX7_fewest_0 rfl (lv_at hl 0 rfl) ?_
  refine rdV (As := []) (rest := []) X mv_X7_143 (c_X7_isAgency F.2.1 D K t o u _ h) hF ⟨rfl, rfl, Nat.le_of_ble_eq_true rfl, Nat.le_of_ble_eq_true rfl⟩ (stW hT hH) hH.1 [0, 1, 2, 3, 4, 5, 6, 7, 8, 9] rfl 0 rfl rfl hl.1 rfl rfl (Nat.le_of_ble_eq_true rfl) dX7_fewest_1 (fun r1 h => ?_)
  refine v_if_ne (tgt := 10) X dX7_fewest_4 (by decide) (fun c37 => ?_) (fun c37 => ?_)
  · have h := h.2 c37
    refine v_aload_n X dX7_fewest_10 rfl (lv_at hl 0 rfl) ?_
    refine v_iload_n X dX7_fewest_11 rfl (lv_at hl 1 rfl) ?_
    refine rdV (As := [.int a0]) (rest := []) X mv_X7_184 (c_X7_isSet F.2.1 D K t o u a0 _ h) hF ⟨rfl, rfl, Nat.le_of_ble_eq_true rfl, Nat.le_of_ble_eq_true rfl⟩ (stW hT hH) hH.1 [0, 1, 2, 3, 4, 5, 6, 7, 8, 9] rfl 0 rfl rfl hl.1 rfl rfl (Nat.le_of_ble_eq_true rfl) dX7_fewest_12 (fun r2 h => ?_)
    refine v_if_eq (tgt := 39) X dX7_fewest_15 (by decide) (fun c36 => ?_) (fun c36 => ?_)
    · have h := h.1 c36
      refine v_ldc X kc_X7_55 dX7_fewest_39 ?_
      exact v_wiret X hF u hH h dX7_fewest_41
    · have h := h.2 c36
      refine v_iload_n X dX7_fewest_18 rfl (lv_at hl 2 rfl) ?_
      refine rdS (As := [.int a1]) (rest := []) X ms_X7_174 (c_X7_isSpan F.2.1 D K t a1 _ h) hF ⟨rfl, rfl, Nat.le_of_ble_eq_true rfl, Nat.le_of_ble_eq_true rfl⟩ (stW hT hH) hH.1 [] rfl hl.1 rfl rfl (Nat.le_of_ble_eq_true rfl) dX7_fewest_19 (fun r3 h => ?_)
      refine v_if_eq (tgt := 39) X dX7_fewest_22 (by decide) (fun c35 => ?_) (fun c35 => ?_)
      · have h := h.1 c35
        refine v_ldc X kc_X7_55 dX7_fewest_39 ?_
        exact v_wiret X hF u hH h dX7_fewest_41
      · have h := h.2 c35
        refine v_iload_n X dX7_fewest_25 rfl (lv_at hl 3 rfl) ?_
        refine v_i2l X dX7_fewest_26 rfl ?_
        refine v_ldc2 X kc_X7_207 dX7_fewest_27 ?_
        refine v_ldc2 X kc_X7_192 dX7_fewest_30 ?_
        refine rdS (As := [.long a2.toInt64, .long (-1 : Int64), .long (3 : Int64)]) (rest := []) X ms_X7_45 (c_X7_in F.2.1 D K t a2.toInt64 (-1 : Int64) (3 : Int64) _ h) hF ⟨rfl, rfl, Nat.le_of_ble_eq_true rfl, Nat.le_of_ble_eq_true rfl⟩ (stW hT hH) hH.1 [] rfl hl.1 rfl rfl (Nat.le_of_ble_eq_true rfl) dX7_fewest_33 (fun r4 h => ?_)
        refine v_if_ne (tgt := 42) X dX7_fewest_36 (by decide) (fun c34 => ?_) (fun c34 => ?_)
        · have h := h.2 c34
          refine v_ldc X kc_X7_180 dX7_fewest_42 ?_
          refine v_istore (lv' := [(4, .int (-1000000 : Int32)), (0, .ref (o 0)), (1, .int a0), (2, .int a1), (3, .int a2)]) X dX7_fewest_44 hl (by decide) rfl (fun ls hl => ?_)
          refine v_iconst (v := (5 : Int32)) X dX7_fewest_46 (by decide) ?_
          refine v_istore (lv' := [(5, .int (5 : Int32)), (4, .int (-1000000 : Int32)), (0, .ref (o 0)), (1, .int a0), (2, .int a1), (3, .int a2)]) X dX7_fewest_47 hl (by decide) rfl (fun ls hl => ?_)
          refine v_iconst (v := (0 : Int32)) X dX7_fewest_49 (by decide) ?_
          refine v_istore (lv' := [(6, .int (0 : Int32)), (5, .int (5 : Int32)), (4, .int (-1000000 : Int32)), (0, .ref (o 0)), (1, .int a0), (2, .int a1), (3, .int a2)]) X dX7_fewest_50 hl (by decide) rfl (fun ls hl => ?_)
          obtain ⟨Kx52, hK52⟩ : ∃ f : Int32 → Int32 → BX7 → Prop, f = (fun (x12 : Int32) (x13 : Int32) (u14 : BX7) => (x12 = (-1000000 : Int32) → post (-1000000 : Int32) u14) ∧ (¬ x12 = (-1000000 : Int32) → (a2 = (-1 : Int32) → post x13 u14) ∧ (¬ a2 = (-1 : Int32) → vp_in (22 : Int32) 144 ∧ (((u14.1 (22 : Int32).toNatClampNeg) ≤ a2 → post (-1000000 : Int32) u14) ∧ (¬ (u14.1 (22 : Int32).toNatClampNeg) ≤ a2 → w_X7_letBy u14 x12 a2 (fun r15 => post r15 u14)))))) := ⟨_, rfl⟩
          have kx19 : ∀ (x12 : Int32) (x13 : Int32) (u14 : BX7) (ls : Array Slot) (H : Heap) (locs : List Loc), (Kx52 x12 x13 u14) → lv_has ls 9 [(0, .ref (o 0)), (3, .int a2), (4, .int x12), (5, .int x13)] → HH F D A (CX7 K o u14) H locs → V F (WQI F D (TY K) A (fun z : BX7 => CX7 K o z) (fun (r : Int32) (z : BX7) => post r z)) H locs 131 ls [] := by
            intro x12 x13 u14 ls H locs h hl hH
            have h : (x12 = (-1000000 : Int32) → post (-1000000 : Int32) u14) ∧ (¬ x12 = (-1000000 : Int32) → (a2 = (-1 : Int32) → post x13 u14) ∧ (¬ a2 = (-1 : Int32) → vp_in (22 : Int32) 144 ∧ (((u14.1 (22 : Int32).toNatClampNeg) ≤ a2 → post (-1000000 : Int32) u14) ∧ (¬ (u14.1 (22 : Int32).toNatClampNeg) ≤ a2 → w_X7_letBy u14 x12 a2 (fun r15 => post r15 u14))))) := by rw [hK52] at h; exact h
            refine v_iload X dX7_fewest_131 (lv_at hl 2 rfl) ?_
            refine v_ldc X kc_X7_180 dX7_fewest_133 ?_
            refine v_icmp_ne (tgt := 143) X dX7_fewest_135 (by decide) (fun c18 => ?_) (fun c18 => ?_)
            · have h := h.2 c18
              refine v_iload_n X dX7_fewest_143 rfl (lv_at hl 1 rfl) ?_
              refine v_iconst (v := (-1 : Int32)) X dX7_fewest_144 (by decide) ?_
              refine v_icmp_ne (tgt := 153) X dX7_fewest_145 (by decide) (fun c17 => ?_) (fun c17 => ?_)
              · have h := h.2 c17
                refine v_iload_n X dX7_fewest_153 rfl (lv_at hl 1 rfl) ?_
                refine v_aload_n X dX7_fewest_154 rfl (lv_at hl 0 rfl) ?_
                refine v_get (v := .ref (o 1)) X hH.1 0 rfl fk_X7_7 rfl dX7_fewest_155 ?_
                refine v_bipush (v := (22 : Int32)) X dX7_fewest_158 (by decide) ?_
                have hin := h.1
                have h := h.2
                refine v_iald (f := u14.1) X hH.1 1 0 rfl rfl hin dX7_fewest_160 ?_
                refine v_icmp_ge (tgt := 174) X dX7_fewest_161 (by decide) (fun c16 => ?_) (fun c16 => ?_)
                · have h := h.1 c16
                  refine v_ldc X kc_X7_180 dX7_fewest_174 ?_
                  exact v_wiret X hF u14 hH h dX7_fewest_176
                · have h := h.2 c16
                  refine v_aload_n X dX7_fewest_164 rfl (lv_at hl 0 rfl) ?_
                  refine v_iload X dX7_fewest_165 (lv_at hl 2 rfl) ?_
                  refine v_iload_n X dX7_fewest_167 rfl (lv_at hl 1 rfl) ?_
                  refine rdV (As := [.int x12, .int a2]) (rest := []) X mv_X7_187 (c_X7_letBy F.2.1 D K t o u14 x12 a2 _ h) hF ⟨rfl, rfl, Nat.le_of_ble_eq_true rfl, Nat.le_of_ble_eq_true rfl⟩ (stW hT hH) hH.1 [0, 1, 2, 3, 4, 5, 6, 7, 8, 9] rfl 0 rfl rfl hl.1 rfl rfl (Nat.le_of_ble_eq_true rfl) dX7_fewest_168 (fun r15 h => ?_)
                  refine v_goto (tgt := 176) X dX7_fewest_171 (by decide) ?_
                  exact v_wiret X hF u14 hH h dX7_fewest_176
              · have h := h.1 c17
                refine v_iload X dX7_fewest_148 (lv_at hl 3 rfl) ?_
                refine v_goto (tgt := 176) X dX7_fewest_150 (by decide) ?_
                exact v_wiret X hF u14 hH h dX7_fewest_176
            · have h := h.1 c18
              refine v_ldc X kc_X7_180 dX7_fewest_138 ?_
              refine v_goto (tgt := 176) X dX7_fewest_140 (by decide) ?_
              exact v_wiret X hF u14 hH h dX7_fewest_176
          have lp52 : ∀ (n52 : Nat) (x5 : Int32) (x6 : Int32) (x7 : Int32) (u8 : BX7) (ls : Array Slot) (H : Heap) (locs : List Loc), wL_X7_fewest_52 a0 a1 a2 post Kx52 n52 x5 x6 x7 u8 → lv_has ls 9 [(0, .ref (o 0)), (1, .int a0), (2, .int a1), (3, .int a2), (4, .int x5), (5, .int x6), (6, .int x7)] → HH F D A (CX7 K o u8) H locs → V F (WQI F D (TY K) A (fun z : BX7 => CX7 K o z) (fun (r : Int32) (z : BX7) => post r z)) H locs 52 ls [] := by
            intro n52
            induction n52 with
            | zero => intro x5 x6 x7 u8 ls H locs h hl hH; exact h.elim
            | succ n52 ih52 =>
              intro x5 x6 x7 u8 ls H locs h hl hH
              refine v_iload X dX7_fewest_52 (lv_at hl 6 rfl) ?_
              refine v_aload_n X dX7_fewest_54 rfl (lv_at hl 0 rfl) ?_
              refine rdV (As := []) (rest := [.int x7]) X mv_X7_194 (c_X7_allLets F.2.1 D K t o u8 _ h) hF ⟨rfl, rfl, Nat.le_of_ble_eq_true rfl, Nat.le_of_ble_eq_true rfl⟩ (stW hT hH) hH.1 [0, 1, 2, 3, 4, 5, 6, 7, 8, 9] rfl 0 rfl rfl hl.1 rfl rfl (Nat.le_of_ble_eq_true rfl) dX7_fewest_55 (fun r20 h => ?_)
              refine v_icmp_ge (tgt := 131) X dX7_fewest_58 (by decide) (fun c33 => ?_) (fun c33 => ?_)
              · have h := h.1 c33
                exact kx19 x5 x6 u8 ls H locs h (lv_sub hl [0, 3, 4, 5] rfl) hH
              · have h := h.2 c33
                refine v_aload_n X dX7_fewest_61 rfl (lv_at hl 0 rfl) ?_
                refine v_iload X dX7_fewest_62 (lv_at hl 6 rfl) ?_
                refine v_iload_n X dX7_fewest_64 rfl (lv_at hl 2 rfl) ?_
                refine wrVI (As := [.int x7, .int a1]) (rest := []) (wr := ([] : va_W)) X mv_X7_198 (c_X7_triesLets F.2.1 D K t o u8 x7 a1 _ h) hF ⟨rfl, rfl, Nat.le_of_ble_eq_true rfl, Nat.le_of_ble_eq_true rfl⟩ hT hA hH [0, 1, 2, 3, 4, 5, 6, 7, 8, 9] [] ⟨rfl, rfl, rfl, rfl, by decide⟩ 0 rfl rfl hl.1 rfl rfl (Nat.le_of_ble_eq_true rfl) dX7_fewest_65 (fun r21 u22 H locs h hH => ?_)
                have hH : HH F D A (CX7 K o u22) H locs := hH
                refine v_istore (lv' := [(7, .int r21), (0, .ref (o 0)), (1, .int a0), (2, .int a1), (3, .int a2), (4, .int x5), (5, .int x6), (6, .int x7)]) X dX7_fewest_68 hl (by decide) rfl (fun ls hl => ?_)
                refine v_iload_n X dX7_fewest_70 rfl (lv_at hl 2 rfl) ?_
                refine v_aload_n X dX7_fewest_71 rfl (lv_at hl 1 rfl) ?_
                refine v_bipush (v := (108 : Int32)) X dX7_fewest_72 (by decide) ?_
                refine rdV (As := [.int (108 : Int32)]) (rest := [.int a0]) X mv_X7_155 (c_X7_restsIn F.2.1 D K t o u22 (108 : Int32) _ h) hF ⟨rfl, rfl, Nat.le_of_ble_eq_true rfl, Nat.le_of_ble_eq_true rfl⟩ (stW hT hH) hH.1 [0, 1, 2, 3, 4, 5, 6, 7, 8, 9] rfl 0 rfl rfl hl.1 rfl rfl (Nat.le_of_ble_eq_true rfl) dX7_fewest_74 (fun r23 h => ?_)
                refine v_iconst (v := (-1 : Int32)) X dX7_fewest_77 (by decide) ?_
                refine v_ixor X dX7_fewest_78 ?_
                refine v_iand X dX7_fewest_79 ?_
                obtain ⟨J24, hJ24⟩ : ∃ f : Int32 → Prop, f = (fun (v25 : Int32) => wpJ (T := Int32 → Prop) (fun (v27 : Int32) => (v25 = 0 → wL_X7_fewest_52 a0 a1 a2 post Kx52 n52 v27 x6 (x7 + (1 : Int32)) u22) ∧ (¬ v25 = 0 → wL_X7_fewest_52 a0 a1 a2 post Kx52 n52 v27 r21 (x7 + (1 : Int32)) u22)) (fun J26 => (v25 = 0 → J26 x5) ∧ (¬ v25 = 0 → J26 x7))) := ⟨_, rfl⟩
                have kJ24 : ∀ (v25 : Int32) (ls : Array Slot) (H : Heap) (locs : List Loc), (J24 v25) → lv_has ls 9 [(0, .ref (o 0)), (1, .int a0), (2, .int a1), (3, .int a2), (4, .int x5), (5, .int x6), (6, .int x7), (7, .int r21)] → HH F D A (CX7 K o u22) H locs → V F (WQI F D (TY K) A (fun z : BX7 => CX7 K o z) (fun (r : Int32) (z : BX7) => post r z)) H locs 95 ls [.int v25] := by
                  intro v25 ls H locs h hl hH
                  have h : wpJ (T := Int32 → Prop) (fun (v27 : Int32) => (v25 = 0 → wL_X7_fewest_52 a0 a1 a2 post Kx52 n52 v27 x6 (x7 + (1 : Int32)) u22) ∧ (¬ v25 = 0 → wL_X7_fewest_52 a0 a1 a2 post Kx52 n52 v27 r21 (x7 + (1 : Int32)) u22)) (fun J26 => (v25 = 0 → J26 x5) ∧ (¬ v25 = 0 → J26 x7)) := by rw [hJ24] at h; exact h
                  refine v_istore (lv' := [(8, .int v25), (0, .ref (o 0)), (1, .int a0), (2, .int a1), (3, .int a2), (4, .int x5), (5, .int x6), (6, .int x7), (7, .int r21)]) X dX7_fewest_95 hl (by decide) rfl (fun ls hl => ?_)
                  refine v_iload X dX7_fewest_97 (lv_at hl 0 rfl) ?_
                  obtain ⟨J26, hJ26⟩ : ∃ f : Int32 → Prop, f = (fun (v27 : Int32) => (v25 = 0 → wL_X7_fewest_52 a0 a1 a2 post Kx52 n52 v27 x6 (x7 + (1 : Int32)) u22) ∧ (¬ v25 = 0 → wL_X7_fewest_52 a0 a1 a2 post Kx52 n52 v27 r21 (x7 + (1 : Int32)) u22)) := ⟨_, rfl⟩
                  have kJ26 : ∀ (v27 : Int32) (ls : Array Slot) (H : Heap) (locs : List Loc), (J26 v27) → lv_has ls 9 [(0, .ref (o 0)), (1, .int a0), (2, .int a1), (3, .int a2), (5, .int x6), (6, .int x7), (7, .int r21), (8, .int v25)] → HH F D A (CX7 K o u22) H locs → V F (WQI F D (TY K) A (fun z : BX7 => CX7 K o z) (fun (r : Int32) (z : BX7) => post r z)) H locs 109 ls [.int v27] := by
                    intro v27 ls H locs h hl hH
                    have h : (v25 = 0 → wL_X7_fewest_52 a0 a1 a2 post Kx52 n52 v27 x6 (x7 + (1 : Int32)) u22) ∧ (¬ v25 = 0 → wL_X7_fewest_52 a0 a1 a2 post Kx52 n52 v27 r21 (x7 + (1 : Int32)) u22) := by rw [hJ26] at h; exact h
                    refine v_istore (lv' := [(4, .int v27), (0, .ref (o 0)), (1, .int a0), (2, .int a1), (3, .int a2), (5, .int x6), (6, .int x7), (7, .int r21), (8, .int v25)]) X dX7_fewest_109 hl (by decide) rfl (fun ls hl => ?_)
                    refine v_iload X dX7_fewest_111 (lv_at hl 8 rfl) ?_
                    refine v_if_eq (tgt := 121) X dX7_fewest_113 (by decide) (fun c28 => ?_) (fun c28 => ?_)
                    · have h := h.1 c28
                      refine v_iload X dX7_fewest_121 (lv_at hl 5 rfl) ?_
                      refine v_istore (lv' := [(5, .int x6), (4, .int v27), (0, .ref (o 0)), (1, .int a0), (2, .int a1), (3, .int a2), (6, .int x7), (7, .int r21), (8, .int v25)]) X dX7_fewest_123 hl (by decide) rfl (fun ls hl => ?_)
                      refine v_iinc (v := (x7 + (1 : Int32))) (lv' := [(6, .int (x7 + (1 : Int32))), (5, .int x6), (4, .int v27), (0, .ref (o 0)), (1, .int a0), (2, .int a1), (3, .int a2), (7, .int r21), (8, .int v25)]) X dX7_fewest_125 hl (k := 6) rfl rfl (by decide) rfl (fun ls hl => ?_)
                      refine v_goto (tgt := 52) X dX7_fewest_128 (by decide) ?_
                      exact ih52 v27 x6 (x7 + (1 : Int32)) u22 ls H locs h (lv_sub hl [3, 4, 5, 6, 2, 1, 0] rfl) hH
                    · have h := h.2 c28
                      refine v_iload X dX7_fewest_116 (lv_at hl 7 rfl) ?_
                      refine v_goto (tgt := 123) X dX7_fewest_118 (by decide) ?_
                      refine v_istore (lv' := [(5, .int r21), (4, .int v27), (0, .ref (o 0)), (1, .int a0), (2, .int a1), (3, .int a2), (6, .int x7), (7, .int r21), (8, .int v25)]) X dX7_fewest_123 hl (by decide) rfl (fun ls hl => ?_)
                      refine v_iinc (v := (x7 + (1 : Int32))) (lv' := [(6, .int (x7 + (1 : Int32))), (5, .int r21), (4, .int v27), (0, .ref (o 0)), (1, .int a0), (2, .int a1), (3, .int a2), (7, .int r21), (8, .int v25)]) X dX7_fewest_125 hl (k := 6) rfl rfl (by decide) rfl (fun ls hl => ?_)
                      refine v_goto (tgt := 52) X dX7_fewest_128 (by decide) ?_
                      exact ih52 v27 r21 (x7 + (1 : Int32)) u22 ls H locs h (lv_sub hl [3, 4, 5, 6, 2, 1, 0] rfl) hH
                  have h : (v25 = 0 → J26 x5) ∧ (¬ v25 = 0 → J26 x7) := by rw [hJ26]; exact h
                  refine v_if_eq (tgt := 107) X dX7_fewest_99 (by decide) (fun c29 => ?_) (fun c29 => ?_)
                  · have h := h.1 c29
                    refine v_iload X dX7_fewest_107 (lv_at hl 5 rfl) ?_
                    exact kJ26 x5 ls H locs h (lv_sub hl [1, 2, 3, 4, 6, 7, 8, 0] rfl) hH
                  · have h := h.2 c29
                    refine v_iload X dX7_fewest_102 (lv_at hl 7 rfl) ?_
                    refine v_goto (tgt := 109) X dX7_fewest_104 (by decide) ?_
                    exact kJ26 x7 ls H locs h (lv_sub hl [1, 2, 3, 4, 6, 7, 8, 0] rfl) hH
                have h : wpJ (T := Unit → Prop) (fun (_ : Unit) => J24 (0 : Int32)) (fun J30 => ((a0 &&& (r23 ^^^ (-1 : Int32))) = 0 → (x6 ≤ r21 → J30 ()) ∧ (¬ x6 ≤ r21 → J24 (1 : Int32))) ∧ (¬ (a0 &&& (r23 ^^^ (-1 : Int32))) = 0 → J30 ())) := by rw [hJ24]; exact h
                obtain ⟨J30, hJ30⟩ : ∃ f : Unit → Prop, f = (fun (_ : Unit) => J24 (0 : Int32)) := ⟨_, rfl⟩
                have kJ30 : ∀ (ls : Array Slot) (H : Heap) (locs : List Loc), (J30 ()) → lv_has ls 9 [(0, .ref (o 0)), (1, .int a0), (2, .int a1), (3, .int a2), (4, .int x5), (5, .int x6), (6, .int x7), (7, .int r21)] → HH F D A (CX7 K o u22) H locs → V F (WQI F D (TY K) A (fun z : BX7 => CX7 K o z) (fun (r : Int32) (z : BX7) => post r z)) H locs 94 ls [] := by
                  intro ls H locs h hl hH
                  have h : J24 (0 : Int32) := by rw [hJ30] at h; exact h
                  refine v_iconst (v := (0 : Int32)) X dX7_fewest_94 (by decide) ?_
                  exact kJ24 (0 : Int32) ls H locs h (lv_sub hl [0, 1, 2, 3, 4, 5, 6, 7] rfl) hH
                have h : ((a0 &&& (r23 ^^^ (-1 : Int32))) = 0 → (x6 ≤ r21 → J30 ()) ∧ (¬ x6 ≤ r21 → J24 (1 : Int32))) ∧ (¬ (a0 &&& (r23 ^^^ (-1 : Int32))) = 0 → J30 ()) := by rw [hJ30]; exact h
                refine v_if_ne (tgt := 94) X dX7_fewest_80 (by decide) (fun c32 => ?_) (fun c32 => ?_)
                · have h := h.2 c32
                  exact kJ30  ls H locs h (lv_sub hl [1, 2, 3, 4, 5, 6, 7, 0] rfl) hH
                · have h := h.1 c32
                  refine v_iload X dX7_fewest_83 (lv_at hl 0 rfl) ?_
                  refine v_iload X dX7_fewest_85 (lv_at hl 6 rfl) ?_
                  refine v_icmp_ge (tgt := 94) X dX7_fewest_87 (by decide) (fun c31 => ?_) (fun c31 => ?_)
                  · have h := h.1 c31
                    exact kJ30  ls H locs h (lv_sub hl [1, 2, 3, 4, 5, 6, 7, 0] rfl) hH
                  · have h := h.2 c31
                    refine v_iconst (v := (1 : Int32)) X dX7_fewest_90 (by decide) ?_
                    refine v_goto (tgt := 95) X dX7_fewest_91 (by decide) ?_
                    exact kJ24 (1 : Int32) ls H locs h (lv_sub hl [1, 2, 3, 4, 5, 6, 7, 0] rfl) hH
          obtain ⟨n52, h⟩ := h
          have h : wL_X7_fewest_52 a0 a1 a2 post Kx52 n52 (-1000000 : Int32) (5 : Int32) (0 : Int32) u := by rw [hK52]; exact h
          exact lp52 n52 (-1000000 : Int32) (5 : Int32) (0 : Int32) u ls H locs h (lv_sub hl [3, 4, 5, 6, 2, 1, 0] rfl) hH
        · have h := h.1 c34
          refine v_ldc X kc_X7_55 dX7_fewest_39 ?_
          exact v_wiret X hF u hH h dX7_fewest_41
  · have h := h.1 c37
    refine v_ldc X kc_X7_146 dX7_fewest_7 ?_
    exact v_wiret X hF u hH h dX7_fewest_9
def wL_X7_isSo_5 (y4 : Int32) (y5 : Int32) (post : Int32 → BX7 → Prop) (Kx5 : Int32 → BX7 → Prop) : Nat → Int32 → Int32 → BX7 → Prop
  | 0, _, _, _ => False
  | n5 + 1, x1, x2, u3 => (y5 ≤ x2 → Kx5 x1 u3) ∧ (¬ y5 ≤ x2 → w_X7_passes u3 (108 : Int32) (0 : Int32) (fun u10 => (x1 = 0 → wL_X7_isSo_5 y4 y5 post Kx5 n5 (0 : Int32) (x2 + (1 : Int32)) u10) ∧ (¬ x1 = 0 → w_X7_restsIn u10 (108 : Int32) (fun r11 => vp_in (y4 + x2) 320 ∧ ((r11 = (u10.2.2.2.2.1 (y4 + x2).toNatClampNeg) → wL_X7_isSo_5 y4 y5 post Kx5 n5 (1 : Int32) (x2 + (1 : Int32)) u10) ∧ (¬ r11 = (u10.2.2.2.2.1 (y4 + x2).toNatClampNeg) → wL_X7_isSo_5 y4 y5 post Kx5 n5 (0 : Int32) (x2 + (1 : Int32)) u10))))))
def w_X7_isSo (u : BX7) (a0 : Int32) (a1 : Int32) (post : Int32 → BX7 → Prop) : Prop := ∃ n5, wL_X7_isSo_5 a0 a1 post (fun (x6 : Int32) (u7 : BX7) => bz x6 ∧ post x6 u7) n5 (1 : Int32) (0 : Int32) u
set_option maxHeartbeats 4000000 in
set_option maxRecDepth 100000 in
theorem c_X7_isSo (l : Launch) (D : va_G) (K : Nat → ClassId) (t : Nat → Nat) (o : Nat → Nat) (u : BX7) (a0 : Int32) (a1 : Int32) (post : Int32 → BX7 → Prop) (h : w_X7_isSo u a0 a1 post) : WrI l yX7_isSo cX7_isSo 5 (some .boolean) ({ frames := 4, cells := 0, slots := 0, locals := 99 } : Room) D (TY K) t (CX7 K o u) [.ref (o 0), .int a0, .int a1] (fun z : BX7 => CX7 K o z) (fun (r : Int32) (z : BX7) => post r z) := by
  refine WrI.mk rfl (Nat.le_of_ble_eq_true rfl) ?_
  intro F ls A _ hF X hH hA hl hT
  obtain ⟨H, hH0⟩ : ∃ z : Heap, z = (fxS F).heap := ⟨_, rfl⟩
  obtain ⟨locs, hL0⟩ : ∃ z : List Loc, z = [] := ⟨_, rfl⟩
  have hH : HH F D A (CX7 K o u) H locs := by rw [hH0, hL0]; exact hH
  suffices goal : V F (WQI F D (TY K) A (fun z : BX7 => CX7 K o z) (fun (r : Int32) (z : BX7) => post r z)) H locs 0 ls [] by rw [hH0, hL0] at goal; exact goal
  clear hH0 hL0
  have X : Cx F cX7_isSo 5 RX7 D (TY K) := X
  have hl : lv_has ls 5 [(0, .ref (o 0)), (1, .int a0), (2, .int a1)] := hl
  unfold w_X7_isSo at h
  refine v_iconst (v := (1 : Int32)) X dX7_isSo_0 (by decide) ?_
  refine v_istore_n (lv' := [(3, .int (1 : Int32)), (0, .ref (o 0)), (1, .int a0), (2, .int a1)]) X dX7_isSo_1 rfl hl (by decide) rfl (fun ls hl => ?_)
  refine v_iconst (v := (0 : Int32)) X dX7_isSo_2 (by decide) ?_
  refine v_istore (lv' := [(4, .int (0 : Int32)), (3, .int (1 : Int32)), (0, .ref (o 0)), (1, .int a0), (2, .int a1)]) X dX7_isSo_3 hl (by decide) rfl (fun ls hl => ?_)
  obtain ⟨Kx5, hK5⟩ : ∃ f : Int32 → BX7 → Prop, f = (fun (x6 : Int32) (u7 : BX7) => bz x6 ∧ post x6 u7) := ⟨_, rfl⟩
  have kx8 : ∀ (x6 : Int32) (u7 : BX7) (ls : Array Slot) (H : Heap) (locs : List Loc), (Kx5 x6 u7) → lv_has ls 5 [(3, .int x6)] → HH F D A (CX7 K o u7) H locs → V F (WQI F D (TY K) A (fun z : BX7 => CX7 K o z) (fun (r : Int32) (z : BX7) => post r z)) H locs 52 ls [] := by
    intro x6 u7 ls H locs h hl hH
    have h : bz x6 ∧ post x6 u7 := by rw [hK5] at h; exact h
    refine v_iload_n X dX7_isSo_52 rfl (lv_at hl 0 rfl) ?_
    exact v_wzret X hF u7 hH h.1 h.2 dX7_isSo_53
  have lp5 : ∀ (n5 : Nat) (x1 : Int32) (x2 : Int32) (u3 : BX7) (ls : Array Slot) (H : Heap) (locs : List Loc), wL_X7_isSo_5 a0 a1 post Kx5 n5 x1 x2 u3 → lv_has ls 5 [(0, .ref (o 0)), (1, .int a0), (2, .int a1), (3, .int x1), (4, .int x2)] → HH F D A (CX7 K o u3) H locs → V F (WQI F D (TY K) A (fun z : BX7 => CX7 K o z) (fun (r : Int32) (z : BX7) => post r z)) H locs 5 ls [] := by
    intro n5
    induction n5 with
    | zero => intro x1 x2 u3 ls H locs h hl hH; exact h.elim
    | succ n5 ih5 =>
      intro x1 x2 u3 ls H locs h hl hH
      refine v_iload X dX7_isSo_5 (lv_at hl 4 rfl) ?_
      refine v_iload_n X dX7_isSo_7 rfl (lv_at hl 2 rfl) ?_
      refine v_icmp_ge (tgt := 52) X dX7_isSo_8 (by decide) (fun c14 => ?_) (fun c14 => ?_)
      · have h := h.1 c14
        exact kx8 x1 u3 ls H locs h (lv_sub hl [3] rfl) hH
      · have h := h.2 c14
        refine v_aload_n X dX7_isSo_11 rfl (lv_at hl 0 rfl) ?_
        refine v_bipush (v := (108 : Int32)) X dX7_isSo_12 (by decide) ?_
        refine v_iconst (v := (0 : Int32)) X dX7_isSo_14 (by decide) ?_
        refine wrVV (As := [.int (108 : Int32), .int (0 : Int32)]) (rest := []) (wr := ([] : va_W)) X mv_X7_152 (c_X7_passes F.2.1 D K t o u3 (108 : Int32) (0 : Int32) _ h) hF ⟨rfl, rfl, Nat.le_of_ble_eq_true rfl, Nat.le_of_ble_eq_true rfl⟩ hT hA hH [0, 1, 2, 3, 4, 5, 6, 7, 8, 9] [] ⟨rfl, rfl, rfl, rfl, by decide⟩ 0 rfl rfl hl.1 rfl rfl (Nat.le_of_ble_eq_true rfl) dX7_isSo_15 (fun u10 H locs h hH => ?_)
        have hH : HH F D A (CX7 K o u10) H locs := hH
        refine v_iload_n X dX7_isSo_18 rfl (lv_at hl 3 rfl) ?_
        refine v_if_eq (tgt := 44) X dX7_isSo_19 (by decide) (fun c13 => ?_) (fun c13 => ?_)
        · have h := h.1 c13
          refine v_iconst (v := (0 : Int32)) X dX7_isSo_44 (by decide) ?_
          refine v_istore_n (lv' := [(3, .int (0 : Int32)), (0, .ref (o 0)), (1, .int a0), (2, .int a1), (4, .int x2)]) X dX7_isSo_45 rfl hl (by decide) rfl (fun ls hl => ?_)
          refine v_iinc (v := (x2 + (1 : Int32))) (lv' := [(4, .int (x2 + (1 : Int32))), (3, .int (0 : Int32)), (0, .ref (o 0)), (1, .int a0), (2, .int a1)]) X dX7_isSo_46 hl (k := 4) rfl rfl (by decide) rfl (fun ls hl => ?_)
          refine v_goto (tgt := 5) X dX7_isSo_49 (by decide) ?_
          exact ih5 (0 : Int32) (x2 + (1 : Int32)) u10 ls H locs h (lv_sub hl [2, 3, 4, 1, 0] rfl) hH
        · have h := h.2 c13
          refine v_aload_n X dX7_isSo_22 rfl (lv_at hl 0 rfl) ?_
          refine v_bipush (v := (108 : Int32)) X dX7_isSo_23 (by decide) ?_
          refine rdV (As := [.int (108 : Int32)]) (rest := []) X mv_X7_155 (c_X7_restsIn F.2.1 D K t o u10 (108 : Int32) _ h) hF ⟨rfl, rfl, Nat.le_of_ble_eq_true rfl, Nat.le_of_ble_eq_true rfl⟩ (stW hT hH) hH.1 [0, 1, 2, 3, 4, 5, 6, 7, 8, 9] rfl 0 rfl rfl hl.1 rfl rfl (Nat.le_of_ble_eq_true rfl) dX7_isSo_25 (fun r11 h => ?_)
          refine v_aload_n X dX7_isSo_28 rfl (lv_at hl 0 rfl) ?_
          refine v_get (v := .ref (o 4)) X hH.1 0 rfl fk_X7_20 rfl dX7_isSo_29 ?_
          refine v_iload_n X dX7_isSo_32 rfl (lv_at hl 1 rfl) ?_
          refine v_iload X dX7_isSo_33 (lv_at hl 4 rfl) ?_
          refine v_iadd X dX7_isSo_35 ?_
          have hin := h.1
          have h := h.2
          refine v_iald (f := u10.2.2.2.2.1) X hH.1 4 0 rfl rfl hin dX7_isSo_36 ?_
          refine v_icmp_ne (tgt := 44) X dX7_isSo_37 (by decide) (fun c12 => ?_) (fun c12 => ?_)
          · have h := h.2 c12
            refine v_iconst (v := (0 : Int32)) X dX7_isSo_44 (by decide) ?_
            refine v_istore_n (lv' := [(3, .int (0 : Int32)), (0, .ref (o 0)), (1, .int a0), (2, .int a1), (4, .int x2)]) X dX7_isSo_45 rfl hl (by decide) rfl (fun ls hl => ?_)
            refine v_iinc (v := (x2 + (1 : Int32))) (lv' := [(4, .int (x2 + (1 : Int32))), (3, .int (0 : Int32)), (0, .ref (o 0)), (1, .int a0), (2, .int a1)]) X dX7_isSo_46 hl (k := 4) rfl rfl (by decide) rfl (fun ls hl => ?_)
            refine v_goto (tgt := 5) X dX7_isSo_49 (by decide) ?_
            exact ih5 (0 : Int32) (x2 + (1 : Int32)) u10 ls H locs h (lv_sub hl [2, 3, 4, 1, 0] rfl) hH
          · have h := h.1 c12
            refine v_iconst (v := (1 : Int32)) X dX7_isSo_40 (by decide) ?_
            refine v_goto (tgt := 45) X dX7_isSo_41 (by decide) ?_
            refine v_istore_n (lv' := [(3, .int (1 : Int32)), (0, .ref (o 0)), (1, .int a0), (2, .int a1), (4, .int x2)]) X dX7_isSo_45 rfl hl (by decide) rfl (fun ls hl => ?_)
            refine v_iinc (v := (x2 + (1 : Int32))) (lv' := [(4, .int (x2 + (1 : Int32))), (3, .int (1 : Int32)), (0, .ref (o 0)), (1, .int a0), (2, .int a1)]) X dX7_isSo_46 hl (k := 4) rfl rfl (by decide) rfl (fun ls hl => ?_)
            refine v_goto (tgt := 5) X dX7_isSo_49 (by decide) ?_
            exact ih5 (1 : Int32) (x2 + (1 : Int32)) u10 ls H locs h (lv_sub hl [2, 3, 4, 1, 0] rfl) hH
  obtain ⟨n5, h⟩ := h
  have h : wL_X7_isSo_5 a0 a1 post Kx5 n5 (1 : Int32) (0 : Int32) u := by rw [hK5]; exact h
  exact lp5 n5 (1 : Int32) (0 : Int32) u ls H locs h (lv_sub hl [2, 3, 4, 1, 0] rfl) hH
def wL_X7_fits_111 (y15 : Int32) (y16 : Int32) (y17 : Int32) (y18 : Int32) (y19 : Int32) (post : Int32 → BX7 → Prop) (Kx111 : Int32 → BX7 → Prop) : Nat → Int32 → Int32 → BX7 → Prop
  | 0, _, _, _ => False
  | n111 + 1, x12, x13, u14 => ((6 : Int32) ≤ x13 → Kx111 x12 u14) ∧ (¬ (6 : Int32) ≤ x13 → w_X7_copyAll u14 (0 : Int32) (108 : Int32) (fun u26 => vp_in (((108 : Int32) + y19) + y15) 144 ∧ (wpJ (T := Int32 → Prop) (fun (v28 : Int32) => (v28 = 0 → ∀ x29 : Int32, x29 = (x12 ||| (0 : Int32)) → wL_X7_fits_111 y15 y16 y17 y18 y19 post Kx111 n111 x29 (x13 + (1 : Int32)) ((upd u26.1 (((108 : Int32) + y19) + y15).toNatClampNeg x13), u26.2.1, u26.2.2.1, u26.2.2.2.1, u26.2.2.2.2.1, u26.2.2.2.2.2.1, u26.2.2.2.2.2.2.1, u26.2.2.2.2.2.2.2.1, u26.2.2.2.2.2.2.2.2.1, u26.2.2.2.2.2.2.2.2.2.1, u26.2.2.2.2.2.2.2.2.2.2.1, u26.2.2.2.2.2.2.2.2.2.2.2.1, u26.2.2.2.2.2.2.2.2.2.2.2.2.1, u26.2.2.2.2.2.2.2.2.2.2.2.2.2.1, u26.2.2.2.2.2.2.2.2.2.2.2.2.2.2.1, u26.2.2.2.2.2.2.2.2.2.2.2.2.2.2.2.1, u26.2.2.2.2.2.2.2.2.2.2.2.2.2.2.2.2)) ∧ (¬ v28 = 0 → w_X7_isSo ((upd u26.1 (((108 : Int32) + y19) + y15).toNatClampNeg x13), u26.2.1, u26.2.2.1, u26.2.2.2.1, u26.2.2.2.2.1, u26.2.2.2.2.2.1, u26.2.2.2.2.2.2.1, u26.2.2.2.2.2.2.2.1, u26.2.2.2.2.2.2.2.2.1, u26.2.2.2.2.2.2.2.2.2.1, u26.2.2.2.2.2.2.2.2.2.2.1, u26.2.2.2.2.2.2.2.2.2.2.2.1, u26.2.2.2.2.2.2.2.2.2.2.2.2.1, u26.2.2.2.2.2.2.2.2.2.2.2.2.2.1, u26.2.2.2.2.2.2.2.2.2.2.2.2.2.2.1, u26.2.2.2.2.2.2.2.2.2.2.2.2.2.2.2.1, u26.2.2.2.2.2.2.2.2.2.2.2.2.2.2.2.2) y18 y16 (fun r30 u31 => (r30 = 0 → ∀ x32 : Int32, x32 = (x12 ||| (0 : Int32)) → wL_X7_fits_111 y15 y16 y17 y18 y19 post Kx111 n111 x32 (x13 + (1 : Int32)) u31) ∧ (¬ r30 = 0 → ∀ x33 : Int32, x33 = (x12 ||| ((1 : Int32) <<< (x13 &&& 31))) → wL_X7_fits_111 y15 y16 y17 y18 y19 post Kx111 n111 x33 (x13 + (1 : Int32)) u31)))) (fun J27 => wpJ (T := Unit → Prop) (fun (_ : Unit) => J27 (1 : Int32)) (fun J36 => (y17 = 0 → (x13 = (5 : Int32) → J36 ()) ∧ (¬ x13 = (5 : Int32) → w_X7_isClient ((upd u26.1 (((108 : Int32) + y19) + y15).toNatClampNeg x13), u26.2.1, u26.2.2.1, u26.2.2.2.1, u26.2.2.2.2.1, u26.2.2.2.2.2.1, u26.2.2.2.2.2.2.1, u26.2.2.2.2.2.2.2.1, u26.2.2.2.2.2.2.2.2.1, u26.2.2.2.2.2.2.2.2.2.1, u26.2.2.2.2.2.2.2.2.2.2.1, u26.2.2.2.2.2.2.2.2.2.2.2.1, u26.2.2.2.2.2.2.2.2.2.2.2.2.1, u26.2.2.2.2.2.2.2.2.2.2.2.2.2.1, u26.2.2.2.2.2.2.2.2.2.2.2.2.2.2.1, u26.2.2.2.2.2.2.2.2.2.2.2.2.2.2.2.1, u26.2.2.2.2.2.2.2.2.2.2.2.2.2.2.2.2) x13 (fun r37 => (r37 = 0 → J27 (0 : Int32)) ∧ (¬ r37 = 0 → J36 ())))) ∧ (¬ y17 = 0 → J36 ()))))))
def w_X7_fits (u : BX7) (a0 : Int32) (a1 : Int32) (a2 : Int32) (a3 : Int32) (a4 : Int32) (post : Int32 → BX7 → Prop) : Prop := w_X7_isWaker u a0 (fun r1 => (r1 = 0 → post (-1000001 : Int32) u) ∧ (¬ r1 = 0 → w_X7_isRow a1 (fun r2 => (r2 = 0 → post (-1000001 : Int32) u) ∧ (¬ r2 = 0 → w_X7_in a3.toInt64 (1 : Int64) (16 : Int64) (fun r3 => (r3 = 0 → post (-1000001 : Int32) u) ∧ (¬ r3 = 0 → w_X7_in a4.toInt64 (0 : Int64) (2 : Int64) (fun r4 => (r4 = 0 → post (-1000001 : Int32) u) ∧ (¬ r4 = 0 → w_X7_against u a1 a2 a3 (fun r5 u6 => (0 ≤ r5 → ∀ x7 : Int32, x7 = (((40 : Int32) * a1) + a2) → wpJ (T := Int32 → Prop) (fun (v9 : Int32) => wpJ (T := Int32 → Prop) (fun (v11 : Int32) => ∃ n111, wL_X7_fits_111 a0 a3 a4 x7 v9 post (fun (x20 : Int32) (u21 : BX7) => w_X7_good u21 x20 (fun r22 u23 => post r22 u23)) n111 (0 : Int32) v11 u6) (fun J10 => (a4 = (1 : Int32) → J10 (1 : Int32)) ∧ (¬ a4 = (1 : Int32) → J10 (0 : Int32)))) (fun J8 => (a4 = 0 → J8 (10 : Int32)) ∧ (¬ a4 = 0 → (a4 = (1 : Int32) → J8 (28 : Int32)) ∧ (¬ a4 = (1 : Int32) → J8 (6 : Int32))))) ∧ (¬ 0 ≤ r5 → post r5 u6))))))))))
set_option maxHeartbeats 4000000 in
set_option maxRecDepth 100000 in
theorem c_X7_fits (l : Launch) (D : va_G) (K : Nat → ClassId) (t : Nat → Nat) (o : Nat → Nat) (u : BX7) (a0 : Int32) (a1 : Int32) (a2 : Int32) (a3 : Int32) (a4 : Int32) (post : Int32 → BX7 → Prop) (h : w_X7_fits u a0 a1 a2 a3 a4 post) : WrI l yX7_fits cX7_fits 12 (some .int) ({ frames := 5, cells := 0, slots := 0, locals := 123 } : Room) D (TY K) t (CX7 K o u) [.ref (o 0), .int a0, .int a1, .int a2, .int a3, .int a4] (fun z : BX7 => CX7 K o z) (fun (r : Int32) (z : BX7) => post r z) := by
  refine WrI.mk rfl (Nat.le_of_ble_eq_true rfl) ?_
  intro F ls A _ hF X hH hA hl hT
  obtain ⟨H, hH0⟩ : ∃ z : Heap, z = (fxS F).heap := ⟨_, rfl⟩
  obtain ⟨locs, hL0⟩ : ∃ z : List Loc, z = [] := ⟨_, rfl⟩
  have hH : HH F D A (CX7 K o u) H locs := by rw [hH0, hL0]; exact hH
  suffices goal : V F (WQI F D (TY K) A (fun z : BX7 => CX7 K o z) (fun (r : Int32) (z : BX7) => post r z)) H locs 0 ls [] by rw [hH0, hL0] at goal; exact goal
  clear hH0 hL0
  have X : Cx F cX7_fits 12 RX7 D (TY K) := X
  have hl : lv_has ls 12 [(0, .ref (o 0)), (1, .int a0), (2, .int a1), (3, .int a2), (4, .int a3), (5, .int a4)] := hl
  unfold w_X7_fits at h
  refine v_aload_n X dX7_fits_0 rfl (lv_at hl 0 rfl) ?_
  refine v_iload_n X dX7_fits_1 rfl (lv_at hl 1 rfl) ?_
  refine rdV (As := [.int a0]) (rest := []) X mv_X7_158 (c_X7_isWaker F.2.1 D K t o u a0 _ h) hF ⟨rfl, rfl, Nat.le_of_ble_eq_true rfl, Nat.le_of_ble_eq_true rfl⟩ (stW hT hH) hH.1 [0, 1, 2, 3, 4, 5, 6, 7, 8, 9] rfl 0 rfl rfl hl.1 rfl rfl (Nat.le_of_ble_eq_true rfl) dX7_fits_2 (fun r1 h => ?_)
  refine v_if_eq (tgt := 41) X dX7_fits_5 (by decide) (fun c49 => ?_) (fun c49 => ?_)
  · have h := h.1 c49
    refine v_ldc X kc_X7_55 dX7_fits_41 ?_
    exact v_wiret X hF u hH h dX7_fits_43
  · have h := h.2 c49
    refine v_iload_n X dX7_fits_8 rfl (lv_at hl 2 rfl) ?_
    refine rdS (As := [.int a1]) (rest := []) X ms_X7_49 (c_X7_isRow F.2.1 D K t a1 _ h) hF ⟨rfl, rfl, Nat.le_of_ble_eq_true rfl, Nat.le_of_ble_eq_true rfl⟩ (stW hT hH) hH.1 [] rfl hl.1 rfl rfl (Nat.le_of_ble_eq_true rfl) dX7_fits_9 (fun r2 h => ?_)
    refine v_if_eq (tgt := 41) X dX7_fits_12 (by decide) (fun c48 => ?_) (fun c48 => ?_)
    · have h := h.1 c48
      refine v_ldc X kc_X7_55 dX7_fits_41 ?_
      exact v_wiret X hF u hH h dX7_fits_43
    · have h := h.2 c48
      refine v_iload X dX7_fits_15 (lv_at hl 4 rfl) ?_
      refine v_i2l X dX7_fits_17 rfl ?_
      refine v_lconst (v := (1 : Int64)) X dX7_fits_18 (by decide) ?_
      refine v_ldc2 X kc_X7_209 dX7_fits_19 ?_
      refine rdS (As := [.long a3.toInt64, .long (1 : Int64), .long (16 : Int64)]) (rest := []) X ms_X7_45 (c_X7_in F.2.1 D K t a3.toInt64 (1 : Int64) (16 : Int64) _ h) hF ⟨rfl, rfl, Nat.le_of_ble_eq_true rfl, Nat.le_of_ble_eq_true rfl⟩ (stW hT hH) hH.1 [] rfl hl.1 rfl rfl (Nat.le_of_ble_eq_true rfl) dX7_fits_22 (fun r3 h => ?_)
      refine v_if_eq (tgt := 41) X dX7_fits_25 (by decide) (fun c47 => ?_) (fun c47 => ?_)
      · have h := h.1 c47
        refine v_ldc X kc_X7_55 dX7_fits_41 ?_
        exact v_wiret X hF u hH h dX7_fits_43
      · have h := h.2 c47
        refine v_iload X dX7_fits_28 (lv_at hl 5 rfl) ?_
        refine v_i2l X dX7_fits_30 rfl ?_
        refine v_lconst (v := (0 : Int64)) X dX7_fits_31 (by decide) ?_
        refine v_ldc2 X kc_X7_53 dX7_fits_32 ?_
        refine rdS (As := [.long a4.toInt64, .long (0 : Int64), .long (2 : Int64)]) (rest := []) X ms_X7_45 (c_X7_in F.2.1 D K t a4.toInt64 (0 : Int64) (2 : Int64) _ h) hF ⟨rfl, rfl, Nat.le_of_ble_eq_true rfl, Nat.le_of_ble_eq_true rfl⟩ (stW hT hH) hH.1 [] rfl hl.1 rfl rfl (Nat.le_of_ble_eq_true rfl) dX7_fits_35 (fun r4 h => ?_)
        refine v_if_ne (tgt := 44) X dX7_fits_38 (by decide) (fun c46 => ?_) (fun c46 => ?_)
        · have h := h.2 c46
          refine v_aload_n X dX7_fits_44 rfl (lv_at hl 0 rfl) ?_
          refine v_iload_n X dX7_fits_45 rfl (lv_at hl 2 rfl) ?_
          refine v_iload_n X dX7_fits_46 rfl (lv_at hl 3 rfl) ?_
          refine v_iload X dX7_fits_47 (lv_at hl 4 rfl) ?_
          refine wrVI (As := [.int a1, .int a2, .int a3]) (rest := []) (wr := ([] : va_W)) X mv_X7_211 (c_X7_against F.2.1 D K t o u a1 a2 a3 _ h) hF ⟨rfl, rfl, Nat.le_of_ble_eq_true rfl, Nat.le_of_ble_eq_true rfl⟩ hT hA hH [0, 1, 2, 3, 4, 5, 6, 7, 8, 9] [] ⟨rfl, rfl, rfl, rfl, by decide⟩ 0 rfl rfl hl.1 rfl rfl (Nat.le_of_ble_eq_true rfl) dX7_fits_49 (fun r5 u6 H locs h hH => ?_)
          have hH : HH F D A (CX7 K o u6) H locs := hH
          refine v_istore (lv' := [(6, .int r5), (0, .ref (o 0)), (1, .int a0), (2, .int a1), (3, .int a2), (4, .int a3), (5, .int a4)]) X dX7_fits_52 hl (by decide) rfl (fun ls hl => ?_)
          refine v_iload X dX7_fits_54 (lv_at hl 0 rfl) ?_
          refine v_if_ge (tgt := 62) X dX7_fits_56 (by decide) (fun c45 => ?_) (fun c45 => ?_)
          · have h := h.1 c45
            refine v_bipush (v := (40 : Int32)) X dX7_fits_62 (by decide) ?_
            refine v_iload_n X dX7_fits_64 rfl (lv_at hl 3 rfl) ?_
            refine v_imul X dX7_fits_65 ?_
            refine v_iload_n X dX7_fits_66 rfl (lv_at hl 4 rfl) ?_
            refine v_iadd X dX7_fits_67 ?_
            refine v_topi (fun x7 ex7 => ?_)
            have h := h x7 ex7
            refine v_istore (lv' := [(7, .int x7), (6, .int r5), (0, .ref (o 0)), (1, .int a0), (2, .int a1), (3, .int a2), (4, .int a3), (5, .int a4)]) X dX7_fits_68 hl (by decide) rfl (fun ls hl => ?_)
            refine v_iconst (v := (0 : Int32)) X dX7_fits_70 (by decide) ?_
            refine v_istore (lv' := [(8, .int (0 : Int32)), (7, .int x7), (6, .int r5), (0, .ref (o 0)), (1, .int a0), (2, .int a1), (3, .int a2), (4, .int a3), (5, .int a4)]) X dX7_fits_71 hl (by decide) rfl (fun ls hl => ?_)
            refine v_iload X dX7_fits_73 (lv_at hl 8 rfl) ?_
            obtain ⟨J8, hJ8⟩ : ∃ f : Int32 → Prop, f = (fun (v9 : Int32) => wpJ (T := Int32 → Prop) (fun (v11 : Int32) => ∃ n111, wL_X7_fits_111 a0 a3 a4 x7 v9 post (fun (x20 : Int32) (u21 : BX7) => w_X7_good u21 x20 (fun r22 u23 => post r22 u23)) n111 (0 : Int32) v11 u6) (fun J10 => (a4 = (1 : Int32) → J10 (1 : Int32)) ∧ (¬ a4 = (1 : Int32) → J10 (0 : Int32)))) := ⟨_, rfl⟩
            have kJ8 : ∀ (v9 : Int32) (ls : Array Slot) (H : Heap) (locs : List Loc), (J8 v9) → lv_has ls 12 [(0, .ref (o 0)), (1, .int a0), (4, .int a3), (5, .int a4), (7, .int x7), (8, .int (0 : Int32))] → HH F D A (CX7 K o u6) H locs → V F (WQI F D (TY K) A (fun z : BX7 => CX7 K o z) (fun (r : Int32) (z : BX7) => post r z)) H locs 96 ls [.int v9] := by
              intro v9 ls H locs h hl hH
              have h : wpJ (T := Int32 → Prop) (fun (v11 : Int32) => ∃ n111, wL_X7_fits_111 a0 a3 a4 x7 v9 post (fun (x20 : Int32) (u21 : BX7) => w_X7_good u21 x20 (fun r22 u23 => post r22 u23)) n111 (0 : Int32) v11 u6) (fun J10 => (a4 = (1 : Int32) → J10 (1 : Int32)) ∧ (¬ a4 = (1 : Int32) → J10 (0 : Int32))) := by rw [hJ8] at h; exact h
              refine v_istore (lv' := [(9, .int v9), (0, .ref (o 0)), (1, .int a0), (4, .int a3), (5, .int a4), (7, .int x7), (8, .int (0 : Int32))]) X dX7_fits_96 hl (by decide) rfl (fun ls hl => ?_)
              refine v_iload X dX7_fits_98 (lv_at hl 4 rfl) ?_
              refine v_iconst (v := (1 : Int32)) X dX7_fits_100 (by decide) ?_
              obtain ⟨J10, hJ10⟩ : ∃ f : Int32 → Prop, f = (fun (v11 : Int32) => ∃ n111, wL_X7_fits_111 a0 a3 a4 x7 v9 post (fun (x20 : Int32) (u21 : BX7) => w_X7_good u21 x20 (fun r22 u23 => post r22 u23)) n111 (0 : Int32) v11 u6) := ⟨_, rfl⟩
              have kJ10 : ∀ (v11 : Int32) (ls : Array Slot) (H : Heap) (locs : List Loc), (J10 v11) → lv_has ls 12 [(0, .ref (o 0)), (1, .int a0), (4, .int a3), (5, .int a4), (7, .int x7), (8, .int (0 : Int32)), (9, .int v9)] → HH F D A (CX7 K o u6) H locs → V F (WQI F D (TY K) A (fun z : BX7 => CX7 K o z) (fun (r : Int32) (z : BX7) => post r z)) H locs 109 ls [.int v11] := by
                intro v11 ls H locs h hl hH
                have h : ∃ n111, wL_X7_fits_111 a0 a3 a4 x7 v9 post (fun (x20 : Int32) (u21 : BX7) => w_X7_good u21 x20 (fun r22 u23 => post r22 u23)) n111 (0 : Int32) v11 u6 := by rw [hJ10] at h; exact h
                refine v_istore (lv' := [(10, .int v11), (0, .ref (o 0)), (1, .int a0), (4, .int a3), (5, .int a4), (7, .int x7), (8, .int (0 : Int32)), (9, .int v9)]) X dX7_fits_109 hl (by decide) rfl (fun ls hl => ?_)
                obtain ⟨Kx111, hK111⟩ : ∃ f : Int32 → BX7 → Prop, f = (fun (x20 : Int32) (u21 : BX7) => w_X7_good u21 x20 (fun r22 u23 => post r22 u23)) := ⟨_, rfl⟩
                have kx24 : ∀ (x20 : Int32) (u21 : BX7) (ls : Array Slot) (H : Heap) (locs : List Loc), (Kx111 x20 u21) → lv_has ls 12 [(0, .ref (o 0)), (8, .int x20)] → HH F D A (CX7 K o u21) H locs → V F (WQI F D (TY K) A (fun z : BX7 => CX7 K o z) (fun (r : Int32) (z : BX7) => post r z)) H locs 201 ls [] := by
                  intro x20 u21 ls H locs h hl hH
                  have h : w_X7_good u21 x20 (fun r22 u23 => post r22 u23) := by rw [hK111] at h; exact h
                  refine v_aload_n X dX7_fits_201 rfl (lv_at hl 0 rfl) ?_
                  refine v_iload X dX7_fits_202 (lv_at hl 1 rfl) ?_
                  refine wrVI (As := [.int x20]) (rest := []) (wr := ([] : va_W)) X mv_X7_60 (c_X7_good F.2.1 D K t o u21 x20 _ h) hF ⟨rfl, rfl, Nat.le_of_ble_eq_true rfl, Nat.le_of_ble_eq_true rfl⟩ hT hA hH [0, 1, 2, 3, 4, 5, 6, 7, 8, 9] [] ⟨rfl, rfl, rfl, rfl, by decide⟩ 0 rfl rfl hl.1 rfl rfl (Nat.le_of_ble_eq_true rfl) dX7_fits_204 (fun r22 u23 H locs h hH => ?_)
                  have hH : HH F D A (CX7 K o u23) H locs := hH
                  exact v_wiret X hF u23 hH h dX7_fits_207
                have lp111 : ∀ (n111 : Nat) (x12 : Int32) (x13 : Int32) (u14 : BX7) (ls : Array Slot) (H : Heap) (locs : List Loc), wL_X7_fits_111 a0 a3 a4 x7 v9 post Kx111 n111 x12 x13 u14 → lv_has ls 12 [(0, .ref (o 0)), (1, .int a0), (4, .int a3), (5, .int a4), (7, .int x7), (8, .int x12), (9, .int v9), (10, .int x13)] → HH F D A (CX7 K o u14) H locs → V F (WQI F D (TY K) A (fun z : BX7 => CX7 K o z) (fun (r : Int32) (z : BX7) => post r z)) H locs 111 ls [] := by
                  intro n111
                  induction n111 with
                  | zero => intro x12 x13 u14 ls H locs h hl hH; exact h.elim
                  | succ n111 ih111 =>
                    intro x12 x13 u14 ls H locs h hl hH
                    refine v_iload X dX7_fits_111 (lv_at hl 7 rfl) ?_
                    refine v_bipush (v := (6 : Int32)) X dX7_fits_113 (by decide) ?_
                    refine v_icmp_ge (tgt := 201) X dX7_fits_115 (by decide) (fun c41 => ?_) (fun c41 => ?_)
                    · have h := h.1 c41
                      exact kx24 x12 u14 ls H locs h (lv_sub hl [0, 5] rfl) hH
                    · have h := h.2 c41
                      refine v_aload_n X dX7_fits_118 rfl (lv_at hl 0 rfl) ?_
                      refine v_iconst (v := (0 : Int32)) X dX7_fits_119 (by decide) ?_
                      refine v_bipush (v := (108 : Int32)) X dX7_fits_120 (by decide) ?_
                      refine wrVV (As := [.int (0 : Int32), .int (108 : Int32)]) (rest := []) (wr := ([] : va_W)) X mv_X7_119 (c_X7_copyAll F.2.1 D K t o u14 (0 : Int32) (108 : Int32) _ h) hF ⟨rfl, rfl, Nat.le_of_ble_eq_true rfl, Nat.le_of_ble_eq_true rfl⟩ hT hA hH [0, 1, 2, 3, 4, 5, 6, 7, 8, 9] [] ⟨rfl, rfl, rfl, rfl, by decide⟩ 0 rfl rfl hl.1 rfl rfl (Nat.le_of_ble_eq_true rfl) dX7_fits_122 (fun u26 H locs h hH => ?_)
                      have hH : HH F D A (CX7 K o u26) H locs := hH
                      refine v_aload_n X dX7_fits_125 rfl (lv_at hl 0 rfl) ?_
                      refine v_get (v := .ref (o 1)) X hH.1 0 rfl fk_X7_7 rfl dX7_fits_126 ?_
                      refine v_bipush (v := (108 : Int32)) X dX7_fits_129 (by decide) ?_
                      refine v_iload X dX7_fits_131 (lv_at hl 6 rfl) ?_
                      refine v_iadd X dX7_fits_133 ?_
                      refine v_iload_n X dX7_fits_134 rfl (lv_at hl 1 rfl) ?_
                      refine v_iadd X dX7_fits_135 ?_
                      refine v_iload X dX7_fits_136 (lv_at hl 7 rfl) ?_
                      have hin := h.1
                      have h := h.2
                      refine v_iast (f := u26.1) X hH 1 0 rfl rfl hin dX7_fits_138 (fun H locs hH => ?_)
                      have hH : HH F D A (CX7 K o ((upd u26.1 (((108 : Int32) + v9) + a0).toNatClampNeg x13), u26.2.1, u26.2.2.1, u26.2.2.2.1, u26.2.2.2.2.1, u26.2.2.2.2.2.1, u26.2.2.2.2.2.2.1, u26.2.2.2.2.2.2.2.1, u26.2.2.2.2.2.2.2.2.1, u26.2.2.2.2.2.2.2.2.2.1, u26.2.2.2.2.2.2.2.2.2.2.1, u26.2.2.2.2.2.2.2.2.2.2.2.1, u26.2.2.2.2.2.2.2.2.2.2.2.2.1, u26.2.2.2.2.2.2.2.2.2.2.2.2.2.1, u26.2.2.2.2.2.2.2.2.2.2.2.2.2.2.1, u26.2.2.2.2.2.2.2.2.2.2.2.2.2.2.2.1, u26.2.2.2.2.2.2.2.2.2.2.2.2.2.2.2.2)) H locs := hH
                      refine v_iload X dX7_fits_139 (lv_at hl 3 rfl) ?_
                      obtain ⟨J27, hJ27⟩ : ∃ f : Int32 → Prop, f = (fun (v28 : Int32) => (v28 = 0 → ∀ x29 : Int32, x29 = (x12 ||| (0 : Int32)) → wL_X7_fits_111 a0 a3 a4 x7 v9 post Kx111 n111 x29 (x13 + (1 : Int32)) ((upd u26.1 (((108 : Int32) + v9) + a0).toNatClampNeg x13), u26.2.1, u26.2.2.1, u26.2.2.2.1, u26.2.2.2.2.1, u26.2.2.2.2.2.1, u26.2.2.2.2.2.2.1, u26.2.2.2.2.2.2.2.1, u26.2.2.2.2.2.2.2.2.1, u26.2.2.2.2.2.2.2.2.2.1, u26.2.2.2.2.2.2.2.2.2.2.1, u26.2.2.2.2.2.2.2.2.2.2.2.1, u26.2.2.2.2.2.2.2.2.2.2.2.2.1, u26.2.2.2.2.2.2.2.2.2.2.2.2.2.1, u26.2.2.2.2.2.2.2.2.2.2.2.2.2.2.1, u26.2.2.2.2.2.2.2.2.2.2.2.2.2.2.2.1, u26.2.2.2.2.2.2.2.2.2.2.2.2.2.2.2.2)) ∧ (¬ v28 = 0 → w_X7_isSo ((upd u26.1 (((108 : Int32) + v9) + a0).toNatClampNeg x13), u26.2.1, u26.2.2.1, u26.2.2.2.1, u26.2.2.2.2.1, u26.2.2.2.2.2.1, u26.2.2.2.2.2.2.1, u26.2.2.2.2.2.2.2.1, u26.2.2.2.2.2.2.2.2.1, u26.2.2.2.2.2.2.2.2.2.1, u26.2.2.2.2.2.2.2.2.2.2.1, u26.2.2.2.2.2.2.2.2.2.2.2.1, u26.2.2.2.2.2.2.2.2.2.2.2.2.1, u26.2.2.2.2.2.2.2.2.2.2.2.2.2.1, u26.2.2.2.2.2.2.2.2.2.2.2.2.2.2.1, u26.2.2.2.2.2.2.2.2.2.2.2.2.2.2.2.1, u26.2.2.2.2.2.2.2.2.2.2.2.2.2.2.2.2) x7 a3 (fun r30 u31 => (r30 = 0 → ∀ x32 : Int32, x32 = (x12 ||| (0 : Int32)) → wL_X7_fits_111 a0 a3 a4 x7 v9 post Kx111 n111 x32 (x13 + (1 : Int32)) u31) ∧ (¬ r30 = 0 → ∀ x33 : Int32, x33 = (x12 ||| ((1 : Int32) <<< (x13 &&& 31))) → wL_X7_fits_111 a0 a3 a4 x7 v9 post Kx111 n111 x33 (x13 + (1 : Int32)) u31)))) := ⟨_, rfl⟩
                      have kJ27 : ∀ (v28 : Int32) (ls : Array Slot) (H : Heap) (locs : List Loc), (J27 v28) → lv_has ls 12 [(0, .ref (o 0)), (1, .int a0), (4, .int a3), (5, .int a4), (7, .int x7), (8, .int x12), (9, .int v9), (10, .int x13)] → HH F D A (CX7 K o ((upd u26.1 (((108 : Int32) + v9) + a0).toNatClampNeg x13), u26.2.1, u26.2.2.1, u26.2.2.2.1, u26.2.2.2.2.1, u26.2.2.2.2.2.1, u26.2.2.2.2.2.2.1, u26.2.2.2.2.2.2.2.1, u26.2.2.2.2.2.2.2.2.1, u26.2.2.2.2.2.2.2.2.2.1, u26.2.2.2.2.2.2.2.2.2.2.1, u26.2.2.2.2.2.2.2.2.2.2.2.1, u26.2.2.2.2.2.2.2.2.2.2.2.2.1, u26.2.2.2.2.2.2.2.2.2.2.2.2.2.1, u26.2.2.2.2.2.2.2.2.2.2.2.2.2.2.1, u26.2.2.2.2.2.2.2.2.2.2.2.2.2.2.2.1, u26.2.2.2.2.2.2.2.2.2.2.2.2.2.2.2.2)) H locs → V F (WQI F D (TY K) A (fun z : BX7 => CX7 K o z) (fun (r : Int32) (z : BX7) => post r z)) H locs 164 ls [.int v28] := by
                        intro v28 ls H locs h hl hH
                        have h : (v28 = 0 → ∀ x29 : Int32, x29 = (x12 ||| (0 : Int32)) → wL_X7_fits_111 a0 a3 a4 x7 v9 post Kx111 n111 x29 (x13 + (1 : Int32)) ((upd u26.1 (((108 : Int32) + v9) + a0).toNatClampNeg x13), u26.2.1, u26.2.2.1, u26.2.2.2.1, u26.2.2.2.2.1, u26.2.2.2.2.2.1, u26.2.2.2.2.2.2.1, u26.2.2.2.2.2.2.2.1, u26.2.2.2.2.2.2.2.2.1, u26.2.2.2.2.2.2.2.2.2.1, u26.2.2.2.2.2.2.2.2.2.2.1, u26.2.2.2.2.2.2.2.2.2.2.2.1, u26.2.2.2.2.2.2.2.2.2.2.2.2.1, u26.2.2.2.2.2.2.2.2.2.2.2.2.2.1, u26.2.2.2.2.2.2.2.2.2.2.2.2.2.2.1, u26.2.2.2.2.2.2.2.2.2.2.2.2.2.2.2.1, u26.2.2.2.2.2.2.2.2.2.2.2.2.2.2.2.2)) ∧ (¬ v28 = 0 → w_X7_isSo ((upd u26.1 (((108 : Int32) + v9) + a0).toNatClampNeg x13), u26.2.1, u26.2.2.1, u26.2.2.2.1, u26.2.2.2.2.1, u26.2.2.2.2.2.1, u26.2.2.2.2.2.2.1, u26.2.2.2.2.2.2.2.1, u26.2.2.2.2.2.2.2.2.1, u26.2.2.2.2.2.2.2.2.2.1, u26.2.2.2.2.2.2.2.2.2.2.1, u26.2.2.2.2.2.2.2.2.2.2.2.1, u26.2.2.2.2.2.2.2.2.2.2.2.2.1, u26.2.2.2.2.2.2.2.2.2.2.2.2.2.1, u26.2.2.2.2.2.2.2.2.2.2.2.2.2.2.1, u26.2.2.2.2.2.2.2.2.2.2.2.2.2.2.2.1, u26.2.2.2.2.2.2.2.2.2.2.2.2.2.2.2.2) x7 a3 (fun r30 u31 => (r30 = 0 → ∀ x32 : Int32, x32 = (x12 ||| (0 : Int32)) → wL_X7_fits_111 a0 a3 a4 x7 v9 post Kx111 n111 x32 (x13 + (1 : Int32)) u31) ∧ (¬ r30 = 0 → ∀ x33 : Int32, x33 = (x12 ||| ((1 : Int32) <<< (x13 &&& 31))) → wL_X7_fits_111 a0 a3 a4 x7 v9 post Kx111 n111 x33 (x13 + (1 : Int32)) u31))) := by rw [hJ27] at h; exact h
                        refine v_istore (lv' := [(11, .int v28), (0, .ref (o 0)), (1, .int a0), (4, .int a3), (5, .int a4), (7, .int x7), (8, .int x12), (9, .int v9), (10, .int x13)]) X dX7_fits_164 hl (by decide) rfl (fun ls hl => ?_)
                        refine v_iload X dX7_fits_166 (lv_at hl 6 rfl) ?_
                        refine v_iload X dX7_fits_168 (lv_at hl 0 rfl) ?_
                        refine v_if_eq (tgt := 191) X dX7_fits_170 (by decide) (fun c35 => ?_) (fun c35 => ?_)
                        · have h := h.1 c35
                          refine v_iconst (v := (0 : Int32)) X dX7_fits_191 (by decide) ?_
                          refine v_ior X dX7_fits_192 ?_
                          refine v_topi (fun x29 ex29 => ?_)
                          have h := h x29 ex29
                          refine v_istore (lv' := [(8, .int x29), (11, .int v28), (0, .ref (o 0)), (1, .int a0), (4, .int a3), (5, .int a4), (7, .int x7), (9, .int v9), (10, .int x13)]) X dX7_fits_193 hl (by decide) rfl (fun ls hl => ?_)
                          refine v_iinc (v := (x13 + (1 : Int32))) (lv' := [(10, .int (x13 + (1 : Int32))), (8, .int x29), (11, .int v28), (0, .ref (o 0)), (1, .int a0), (4, .int a3), (5, .int a4), (7, .int x7), (9, .int v9)]) X dX7_fits_195 hl (k := 8) rfl rfl (by decide) rfl (fun ls hl => ?_)
                          refine v_goto (tgt := 111) X dX7_fits_198 (by decide) ?_
                          exact ih111 x29 (x13 + (1 : Int32)) ((upd u26.1 (((108 : Int32) + v9) + a0).toNatClampNeg x13), u26.2.1, u26.2.2.1, u26.2.2.2.1, u26.2.2.2.2.1, u26.2.2.2.2.2.1, u26.2.2.2.2.2.2.1, u26.2.2.2.2.2.2.2.1, u26.2.2.2.2.2.2.2.2.1, u26.2.2.2.2.2.2.2.2.2.1, u26.2.2.2.2.2.2.2.2.2.2.1, u26.2.2.2.2.2.2.2.2.2.2.2.1, u26.2.2.2.2.2.2.2.2.2.2.2.2.1, u26.2.2.2.2.2.2.2.2.2.2.2.2.2.1, u26.2.2.2.2.2.2.2.2.2.2.2.2.2.2.1, u26.2.2.2.2.2.2.2.2.2.2.2.2.2.2.2.1, u26.2.2.2.2.2.2.2.2.2.2.2.2.2.2.2.2) ls H locs h (lv_sub hl [3, 4, 5, 6, 7, 1, 8, 0] rfl) hH
                        · have h := h.2 c35
                          refine v_aload_n X dX7_fits_173 rfl (lv_at hl 1 rfl) ?_
                          refine v_iload X dX7_fits_174 (lv_at hl 5 rfl) ?_
                          refine v_iload X dX7_fits_176 (lv_at hl 3 rfl) ?_
                          refine wrVI (As := [.int x7, .int a3]) (rest := [.int x12]) (wr := ([] : va_W)) X mv_X7_214 (c_X7_isSo F.2.1 D K t o ((upd u26.1 (((108 : Int32) + v9) + a0).toNatClampNeg x13), u26.2.1, u26.2.2.1, u26.2.2.2.1, u26.2.2.2.2.1, u26.2.2.2.2.2.1, u26.2.2.2.2.2.2.1, u26.2.2.2.2.2.2.2.1, u26.2.2.2.2.2.2.2.2.1, u26.2.2.2.2.2.2.2.2.2.1, u26.2.2.2.2.2.2.2.2.2.2.1, u26.2.2.2.2.2.2.2.2.2.2.2.1, u26.2.2.2.2.2.2.2.2.2.2.2.2.1, u26.2.2.2.2.2.2.2.2.2.2.2.2.2.1, u26.2.2.2.2.2.2.2.2.2.2.2.2.2.2.1, u26.2.2.2.2.2.2.2.2.2.2.2.2.2.2.2.1, u26.2.2.2.2.2.2.2.2.2.2.2.2.2.2.2.2) x7 a3 _ h) hF ⟨rfl, rfl, Nat.le_of_ble_eq_true rfl, Nat.le_of_ble_eq_true rfl⟩ hT hA hH [0, 1, 2, 3, 4, 5, 6, 7, 8, 9] [] ⟨rfl, rfl, rfl, rfl, by decide⟩ 0 rfl rfl hl.1 rfl rfl (Nat.le_of_ble_eq_true rfl) dX7_fits_178 (fun r30 u31 H locs h hH => ?_)
                          have hH : HH F D A (CX7 K o u31) H locs := hH
                          refine v_if_eq (tgt := 191) X dX7_fits_181 (by decide) (fun c34 => ?_) (fun c34 => ?_)
                          · have h := h.1 c34
                            refine v_iconst (v := (0 : Int32)) X dX7_fits_191 (by decide) ?_
                            refine v_ior X dX7_fits_192 ?_
                            refine v_topi (fun x32 ex32 => ?_)
                            have h := h x32 ex32
                            refine v_istore (lv' := [(8, .int x32), (11, .int v28), (0, .ref (o 0)), (1, .int a0), (4, .int a3), (5, .int a4), (7, .int x7), (9, .int v9), (10, .int x13)]) X dX7_fits_193 hl (by decide) rfl (fun ls hl => ?_)
                            refine v_iinc (v := (x13 + (1 : Int32))) (lv' := [(10, .int (x13 + (1 : Int32))), (8, .int x32), (11, .int v28), (0, .ref (o 0)), (1, .int a0), (4, .int a3), (5, .int a4), (7, .int x7), (9, .int v9)]) X dX7_fits_195 hl (k := 8) rfl rfl (by decide) rfl (fun ls hl => ?_)
                            refine v_goto (tgt := 111) X dX7_fits_198 (by decide) ?_
                            exact ih111 x32 (x13 + (1 : Int32)) u31 ls H locs h (lv_sub hl [3, 4, 5, 6, 7, 1, 8, 0] rfl) hH
                          · have h := h.2 c34
                            refine v_iconst (v := (1 : Int32)) X dX7_fits_184 (by decide) ?_
                            refine v_iload X dX7_fits_185 (lv_at hl 8 rfl) ?_
                            refine v_ishl X dX7_fits_187 ?_
                            refine v_goto (tgt := 192) X dX7_fits_188 (by decide) ?_
                            refine v_ior X dX7_fits_192 ?_
                            refine v_topi (fun x33 ex33 => ?_)
                            have h := h x33 ex33
                            refine v_istore (lv' := [(8, .int x33), (11, .int v28), (0, .ref (o 0)), (1, .int a0), (4, .int a3), (5, .int a4), (7, .int x7), (9, .int v9), (10, .int x13)]) X dX7_fits_193 hl (by decide) rfl (fun ls hl => ?_)
                            refine v_iinc (v := (x13 + (1 : Int32))) (lv' := [(10, .int (x13 + (1 : Int32))), (8, .int x33), (11, .int v28), (0, .ref (o 0)), (1, .int a0), (4, .int a3), (5, .int a4), (7, .int x7), (9, .int v9)]) X dX7_fits_195 hl (k := 8) rfl rfl (by decide) rfl (fun ls hl => ?_)
                            refine v_goto (tgt := 111) X dX7_fits_198 (by decide) ?_
                            exact ih111 x33 (x13 + (1 : Int32)) u31 ls H locs h (lv_sub hl [3, 4, 5, 6, 7, 1, 8, 0] rfl) hH
                      have h : wpJ (T := Unit → Prop) (fun (_ : Unit) => J27 (1 : Int32)) (fun J36 => (a4 = 0 → (x13 = (5 : Int32) → J36 ()) ∧ (¬ x13 = (5 : Int32) → w_X7_isClient ((upd u26.1 (((108 : Int32) + v9) + a0).toNatClampNeg x13), u26.2.1, u26.2.2.1, u26.2.2.2.1, u26.2.2.2.2.1, u26.2.2.2.2.2.1, u26.2.2.2.2.2.2.1, u26.2.2.2.2.2.2.2.1, u26.2.2.2.2.2.2.2.2.1, u26.2.2.2.2.2.2.2.2.2.1, u26.2.2.2.2.2.2.2.2.2.2.1, u26.2.2.2.2.2.2.2.2.2.2.2.1, u26.2.2.2.2.2.2.2.2.2.2.2.2.1, u26.2.2.2.2.2.2.2.2.2.2.2.2.2.1, u26.2.2.2.2.2.2.2.2.2.2.2.2.2.2.1, u26.2.2.2.2.2.2.2.2.2.2.2.2.2.2.2.1, u26.2.2.2.2.2.2.2.2.2.2.2.2.2.2.2.2) x13 (fun r37 => (r37 = 0 → J27 (0 : Int32)) ∧ (¬ r37 = 0 → J36 ())))) ∧ (¬ a4 = 0 → J36 ())) := by rw [hJ27]; exact h
                      obtain ⟨J36, hJ36⟩ : ∃ f : Unit → Prop, f = (fun (_ : Unit) => J27 (1 : Int32)) := ⟨_, rfl⟩
                      have kJ36 : ∀ (ls : Array Slot) (H : Heap) (locs : List Loc), (J36 ()) → lv_has ls 12 [(0, .ref (o 0)), (1, .int a0), (4, .int a3), (5, .int a4), (7, .int x7), (8, .int x12), (9, .int v9), (10, .int x13)] → HH F D A (CX7 K o ((upd u26.1 (((108 : Int32) + v9) + a0).toNatClampNeg x13), u26.2.1, u26.2.2.1, u26.2.2.2.1, u26.2.2.2.2.1, u26.2.2.2.2.2.1, u26.2.2.2.2.2.2.1, u26.2.2.2.2.2.2.2.1, u26.2.2.2.2.2.2.2.2.1, u26.2.2.2.2.2.2.2.2.2.1, u26.2.2.2.2.2.2.2.2.2.2.1, u26.2.2.2.2.2.2.2.2.2.2.2.1, u26.2.2.2.2.2.2.2.2.2.2.2.2.1, u26.2.2.2.2.2.2.2.2.2.2.2.2.2.1, u26.2.2.2.2.2.2.2.2.2.2.2.2.2.2.1, u26.2.2.2.2.2.2.2.2.2.2.2.2.2.2.2.1, u26.2.2.2.2.2.2.2.2.2.2.2.2.2.2.2.2)) H locs → V F (WQI F D (TY K) A (fun z : BX7 => CX7 K o z) (fun (r : Int32) (z : BX7) => post r z)) H locs 159 ls [] := by
                        intro ls H locs h hl hH
                        have h : J27 (1 : Int32) := by rw [hJ36] at h; exact h
                        refine v_iconst (v := (1 : Int32)) X dX7_fits_159 (by decide) ?_
                        refine v_goto (tgt := 164) X dX7_fits_160 (by decide) ?_
                        exact kJ27 (1 : Int32) ls H locs h (lv_sub hl [0, 1, 2, 3, 4, 5, 6, 7] rfl) hH
                      have h : (a4 = 0 → (x13 = (5 : Int32) → J36 ()) ∧ (¬ x13 = (5 : Int32) → w_X7_isClient ((upd u26.1 (((108 : Int32) + v9) + a0).toNatClampNeg x13), u26.2.1, u26.2.2.1, u26.2.2.2.1, u26.2.2.2.2.1, u26.2.2.2.2.2.1, u26.2.2.2.2.2.2.1, u26.2.2.2.2.2.2.2.1, u26.2.2.2.2.2.2.2.2.1, u26.2.2.2.2.2.2.2.2.2.1, u26.2.2.2.2.2.2.2.2.2.2.1, u26.2.2.2.2.2.2.2.2.2.2.2.1, u26.2.2.2.2.2.2.2.2.2.2.2.2.1, u26.2.2.2.2.2.2.2.2.2.2.2.2.2.1, u26.2.2.2.2.2.2.2.2.2.2.2.2.2.2.1, u26.2.2.2.2.2.2.2.2.2.2.2.2.2.2.2.1, u26.2.2.2.2.2.2.2.2.2.2.2.2.2.2.2.2) x13 (fun r37 => (r37 = 0 → J27 (0 : Int32)) ∧ (¬ r37 = 0 → J36 ())))) ∧ (¬ a4 = 0 → J36 ()) := by rw [hJ36]; exact h
                      refine v_if_ne (tgt := 159) X dX7_fits_141 (by decide) (fun c40 => ?_) (fun c40 => ?_)
                      · have h := h.2 c40
                        exact kJ36  ls H locs h (lv_sub hl [0, 1, 2, 3, 4, 5, 6, 7] rfl) hH
                      · have h := h.1 c40
                        refine v_iload X dX7_fits_144 (lv_at hl 7 rfl) ?_
                        refine v_iconst (v := (5 : Int32)) X dX7_fits_146 (by decide) ?_
                        refine v_icmp_eq (tgt := 159) X dX7_fits_147 (by decide) (fun c39 => ?_) (fun c39 => ?_)
                        · have h := h.1 c39
                          exact kJ36  ls H locs h (lv_sub hl [0, 1, 2, 3, 4, 5, 6, 7] rfl) hH
                        · have h := h.2 c39
                          refine v_aload_n X dX7_fits_150 rfl (lv_at hl 0 rfl) ?_
                          refine v_iload X dX7_fits_151 (lv_at hl 7 rfl) ?_
                          refine rdV (As := [.int x13]) (rest := []) X mv_X7_161 (c_X7_isClient F.2.1 D K t o ((upd u26.1 (((108 : Int32) + v9) + a0).toNatClampNeg x13), u26.2.1, u26.2.2.1, u26.2.2.2.1, u26.2.2.2.2.1, u26.2.2.2.2.2.1, u26.2.2.2.2.2.2.1, u26.2.2.2.2.2.2.2.1, u26.2.2.2.2.2.2.2.2.1, u26.2.2.2.2.2.2.2.2.2.1, u26.2.2.2.2.2.2.2.2.2.2.1, u26.2.2.2.2.2.2.2.2.2.2.2.1, u26.2.2.2.2.2.2.2.2.2.2.2.2.1, u26.2.2.2.2.2.2.2.2.2.2.2.2.2.1, u26.2.2.2.2.2.2.2.2.2.2.2.2.2.2.1, u26.2.2.2.2.2.2.2.2.2.2.2.2.2.2.2.1, u26.2.2.2.2.2.2.2.2.2.2.2.2.2.2.2.2) x13 _ h) hF ⟨rfl, rfl, Nat.le_of_ble_eq_true rfl, Nat.le_of_ble_eq_true rfl⟩ (stW hT hH) hH.1 [0, 1, 2, 3, 4, 5, 6, 7, 8, 9] rfl 0 rfl rfl hl.1 rfl rfl (Nat.le_of_ble_eq_true rfl) dX7_fits_153 (fun r37 h => ?_)
                          refine v_if_eq (tgt := 163) X dX7_fits_156 (by decide) (fun c38 => ?_) (fun c38 => ?_)
                          · have h := h.1 c38
                            refine v_iconst (v := (0 : Int32)) X dX7_fits_163 (by decide) ?_
                            exact kJ27 (0 : Int32) ls H locs h (lv_sub hl [0, 1, 2, 3, 4, 5, 6, 7] rfl) hH
                          · have h := h.2 c38
                            exact kJ36  ls H locs h (lv_sub hl [0, 1, 2, 3, 4, 5, 6, 7] rfl) hH
                obtain ⟨n111, h⟩ := h
                have h : wL_X7_fits_111 a0 a3 a4 x7 v9 post Kx111 n111 (0 : Int32) v11 u6 := by rw [hK111]; exact h
                exact lp111 n111 (0 : Int32) v11 u6 ls H locs h (lv_sub hl [1, 2, 3, 4, 5, 6, 7, 0] rfl) hH
              have h : (a4 = (1 : Int32) → J10 (1 : Int32)) ∧ (¬ a4 = (1 : Int32) → J10 (0 : Int32)) := by rw [hJ10]; exact h
              refine v_icmp_ne (tgt := 108) X dX7_fits_101 (by decide) (fun c42 => ?_) (fun c42 => ?_)
              · have h := h.2 c42
                refine v_iconst (v := (0 : Int32)) X dX7_fits_108 (by decide) ?_
                exact kJ10 (0 : Int32) ls H locs h (lv_sub hl [1, 2, 3, 4, 5, 6, 0] rfl) hH
              · have h := h.1 c42
                refine v_iconst (v := (1 : Int32)) X dX7_fits_104 (by decide) ?_
                refine v_goto (tgt := 109) X dX7_fits_105 (by decide) ?_
                exact kJ10 (1 : Int32) ls H locs h (lv_sub hl [1, 2, 3, 4, 5, 6, 0] rfl) hH
            have h : (a4 = 0 → J8 (10 : Int32)) ∧ (¬ a4 = 0 → (a4 = (1 : Int32) → J8 (28 : Int32)) ∧ (¬ a4 = (1 : Int32) → J8 (6 : Int32))) := by rw [hJ8]; exact h
            refine v_if_ne (tgt := 83) X dX7_fits_75 (by decide) (fun c44 => ?_) (fun c44 => ?_)
            · have h := h.2 c44
              refine v_iload X dX7_fits_83 (lv_at hl 8 rfl) ?_
              refine v_iconst (v := (1 : Int32)) X dX7_fits_85 (by decide) ?_
              refine v_icmp_ne (tgt := 94) X dX7_fits_86 (by decide) (fun c43 => ?_) (fun c43 => ?_)
              · have h := h.2 c43
                refine v_bipush (v := (6 : Int32)) X dX7_fits_94 (by decide) ?_
                exact kJ8 (6 : Int32) ls H locs h (lv_sub hl [3, 4, 7, 8, 1, 0] rfl) hH
              · have h := h.1 c43
                refine v_bipush (v := (28 : Int32)) X dX7_fits_89 (by decide) ?_
                refine v_goto (tgt := 96) X dX7_fits_91 (by decide) ?_
                exact kJ8 (28 : Int32) ls H locs h (lv_sub hl [3, 4, 7, 8, 1, 0] rfl) hH
            · have h := h.1 c44
              refine v_bipush (v := (10 : Int32)) X dX7_fits_78 (by decide) ?_
              refine v_goto (tgt := 96) X dX7_fits_80 (by decide) ?_
              exact kJ8 (10 : Int32) ls H locs h (lv_sub hl [3, 4, 7, 8, 1, 0] rfl) hH
          · have h := h.2 c45
            refine v_iload X dX7_fits_59 (lv_at hl 0 rfl) ?_
            exact v_wiret X hF u6 hH h dX7_fits_61
        · have h := h.1 c46
          refine v_ldc X kc_X7_55 dX7_fits_41 ?_
          exact v_wiret X hF u hH h dX7_fits_43
def wL_X7_nods_198 (y24 : Int32) (y25 : Int32) (y26 : Int32) (b27 : BX7) (post : Int32 → BX7 → Prop) (Kx198 : Int32 → Prop) : Nat → Int32 → Int32 → Prop
  | 0, _, _ => False
  | n198 + 1, x22, x23 => (x23 = 0 → Kx198 x22) ∧ (¬ x23 = 0 → ¬ x23 = 0 ∧ (∀ x31 : Int32, x31 = (x22 - x22 / x23 * x23) → wL_X7_nods_198 y24 y25 y26 b27 post Kx198 n198 x23 x31))
def wL_X7_nods_104 (y36 : Int32) (y37 : Int32) (y38 : Int32) (y39 : Int32) (y40 : Int32) (y41 : Int32) (b42 : BX7) (post : Int32 → BX7 → Prop) (Kx104 : Int32 → Prop) : Nat → Int32 → Int32 → Prop
  | 0, _, _ => False
  | n104 + 1, x34, x35 => vp_in (22 : Int32) 144 ∧ (((b42.1 (22 : Int32).toNatClampNeg) ≤ x35 → Kx104 x34) ∧ (¬ (b42.1 (22 : Int32).toNatClampNeg) ≤ x35 → w_X7_has y41 x35 (fun r53 => (r53 = 0 → ∀ x54 : Int32, x54 = (x34 * ((10 : Int32) - y37)) → wL_X7_nods_104 y36 y37 y38 y39 y40 y41 b42 post Kx104 n104 x54 (x35 + (1 : Int32))) ∧ (¬ r53 = 0 → ∀ x55 : Int32, x55 = (x34 * y37) → wL_X7_nods_104 y36 y37 y38 y39 y40 y41 b42 post Kx104 n104 x55 (x35 + (1 : Int32))))))
def wL_X7_nods_84 (y16 : Int32) (y17 : Int32) (y18 : Int32) (y19 : Int32) (post : Int32 → BX7 → Prop) (Kx84 : Int32 → BX7 → Prop) : Nat → Int32 → Int32 → BX7 → Prop
  | 0, _, _, _ => False
  | n84 + 1, x13, x14, u15 => vp_in (22 : Int32) 144 ∧ ((((1 : Int32) <<< ((u15.1 (22 : Int32).toNatClampNeg) &&& 31)) ≤ x14 → Kx84 x13 u15) ∧ (¬ ((1 : Int32) <<< ((u15.1 (22 : Int32).toNatClampNeg) &&& 31)) ≤ x14 → ∃ n104, wL_X7_nods_104 y16 y17 y18 x13 y19 x14 u15 post (fun (x43 : Int32) => w_X7_copyAll u15 (0 : Int32) (108 : Int32) (fun u45 => w_X7_passes u45 (108 : Int32) x14 (fun u47 => w_X7_restsIn u47 (108 : Int32) (fun r48 => w_X7_ones r48 (fun r49 => (r49 < y16 → wL_X7_nods_84 y16 y17 y18 y19 post Kx84 n84 (x13 + (0 : Int32)) (x14 + (1 : Int32)) u47) ∧ (¬ r49 < y16 → ∀ x50 : Int32, x50 = (x13 + x43) → wL_X7_nods_84 y16 y17 y18 y19 post Kx84 n84 x50 (x14 + (1 : Int32)) u47)))))) n104 (1 : Int32) (0 : Int32)))
def wL_X7_nods_56 (y7 : Int32) (y8 : Int32) (y9 : Int32) (y10 : Int32) (b11 : BX7) (post : Int32 → BX7 → Prop) (Kx56 : Int32 → Prop) : Nat → Int32 → Int32 → Prop
  | 0, _, _ => False
  | n56 + 1, x5, x6 => vp_in (22 : Int32) 144 ∧ (((b11.1 (22 : Int32).toNatClampNeg) ≤ x6 → Kx56 x5) ∧ (¬ (b11.1 (22 : Int32).toNatClampNeg) ≤ x6 → ∀ x60 : Int32, x60 = (x5 * (10 : Int32)) → wL_X7_nods_56 y7 y8 y9 y10 b11 post Kx56 n56 x60 (x6 + (1 : Int32))))
def w_X7_nods (u : BX7) (a0 : Int32) (a1 : Int32) (a2 : Int32) (post : Int32 → BX7 → Prop) : Prop := w_X7_isAgency u (fun r1 => (r1 = 0 → post (-1000002 : Int32) u) ∧ (¬ r1 = 0 → w_X7_in a0.toInt64 (0 : Int64) (5 : Int64) (fun r2 => (r2 = 0 → post (-1000001 : Int32) u) ∧ (¬ r2 = 0 → w_X7_in a1.toInt64 (0 : Int64) (10 : Int64) (fun r3 => (r3 = 0 → post (-1000001 : Int32) u) ∧ (¬ r3 = 0 → w_X7_in a2.toInt64 (0 : Int64) (1 : Int64) (fun r4 => (r4 = 0 → post (-1000001 : Int32) u) ∧ (¬ r4 = 0 → ∃ n56, wL_X7_nods_56 a0 a1 a2 (0 : Int32) u post (fun (x12 : Int32) => ∃ n84, wL_X7_nods_84 a0 a1 a2 x12 post (fun (x20 : Int32) (u21 : BX7) => ∃ n198, wL_X7_nods_198 a2 x20 x12 u21 post (fun (x28 : Int32) => (a2 = 0 → ¬ x28 = 0 ∧ (post (x20 / x28) u21)) ∧ (¬ a2 = 0 → ¬ x28 = 0 ∧ (post (x12 / x28) u21))) n198 x20 x12) n84 (0 : Int32) (0 : Int32) u) n56 (1 : Int32) (0 : Int32)))))))))
set_option maxHeartbeats 4000000 in
set_option maxRecDepth 100000 in
theorem c_X7_nods (l : Launch) (D : va_G) (K : Nat → ClassId) (t : Nat → Nat) (o : Nat → Nat) (u : BX7) (a0 : Int32) (a1 : Int32) (a2 : Int32) (post : Int32 → BX7 → Prop) (h : w_X7_nods u a0 a1 a2 post) : WrI l yX7_nods cX7_nods 9 (some .int) ({ frames := 4, cells := 0, slots := 0, locals := 99 } : Room) D (TY K) t (CX7 K o u) [.ref (o 0), .int a0, .int a1, .int a2] (fun z : BX7 => CX7 K o z) (fun (r : Int32) (z : BX7) => post r z) := by
  refine WrI.mk rfl (Nat.le_of_ble_eq_true rfl) ?_
  intro F ls A _ hF X hH hA hl hT
  obtain ⟨H, hH0⟩ : ∃ z : Heap, z = (fxS F).heap := ⟨_, rfl⟩
  obtain ⟨locs, hL0⟩ : ∃ z : List Loc, z = [] := ⟨_, rfl⟩
  have hH : HH F D A (CX7 K o u) H locs := by rw [hH0, hL0]; exact hH
  suffices goal : V F (WQI F D (TY K) A (fun z : BX7 => CX7 K o z) (fun (r : Int32) (z : BX7) => post r z)) H locs 0 ls [] by rw [hH0, hL0] at goal; exact goal
  clear hH0 hL0
  have X : Cx F cX7_nods 9 RX7 D (TY K) := X
  have hl : lv_has ls 9 [(0, .ref (o 0)), (1, .int a0), (2, .int a1), (3, .int a2)] := hl
  unfold w_X7_nods at h
  refine v_aload_n X dX7_nods_0 rfl (lv_at hl 0 rfl) ?_
  refine rdV (As := []) (rest := []) X mv_X7_143 (c_X7_isAgency F.2.1 D K t o u _ h) hF ⟨rfl, rfl, Nat.le_of_ble_eq_true rfl, Nat.le_of_ble_eq_true rfl⟩ (stW hT hH) hH.1 [0, 1, 2, 3, 4, 5, 6, 7, 8, 9] rfl 0 rfl rfl hl.1 rfl rfl (Nat.le_of_ble_eq_true rfl) dX7_nods_1 (fun r1 h => ?_)
  refine v_if_ne (tgt := 10) X dX7_nods_4 (by decide) (fun c65 => ?_) (fun c65 => ?_)
  · have h := h.2 c65
    refine v_iload_n X dX7_nods_10 rfl (lv_at hl 1 rfl) ?_
    refine v_i2l X dX7_nods_11 rfl ?_
    refine v_lconst (v := (0 : Int64)) X dX7_nods_12 (by decide) ?_
    refine v_ldc2 X kc_X7_166 dX7_nods_13 ?_
    refine rdS (As := [.long a0.toInt64, .long (0 : Int64), .long (5 : Int64)]) (rest := []) X ms_X7_45 (c_X7_in F.2.1 D K t a0.toInt64 (0 : Int64) (5 : Int64) _ h) hF ⟨rfl, rfl, Nat.le_of_ble_eq_true rfl, Nat.le_of_ble_eq_true rfl⟩ (stW hT hH) hH.1 [] rfl hl.1 rfl rfl (Nat.le_of_ble_eq_true rfl) dX7_nods_16 (fun r2 h => ?_)
    refine v_if_eq (tgt := 44) X dX7_nods_19 (by decide) (fun c64 => ?_) (fun c64 => ?_)
    · have h := h.1 c64
      refine v_ldc X kc_X7_55 dX7_nods_44 ?_
      exact v_wiret X hF u hH h dX7_nods_46
    · have h := h.2 c64
      refine v_iload_n X dX7_nods_22 rfl (lv_at hl 2 rfl) ?_
      refine v_i2l X dX7_nods_23 rfl ?_
      refine v_lconst (v := (0 : Int64)) X dX7_nods_24 (by decide) ?_
      refine v_ldc2 X kc_X7_217 dX7_nods_25 ?_
      refine rdS (As := [.long a1.toInt64, .long (0 : Int64), .long (10 : Int64)]) (rest := []) X ms_X7_45 (c_X7_in F.2.1 D K t a1.toInt64 (0 : Int64) (10 : Int64) _ h) hF ⟨rfl, rfl, Nat.le_of_ble_eq_true rfl, Nat.le_of_ble_eq_true rfl⟩ (stW hT hH) hH.1 [] rfl hl.1 rfl rfl (Nat.le_of_ble_eq_true rfl) dX7_nods_28 (fun r3 h => ?_)
      refine v_if_eq (tgt := 44) X dX7_nods_31 (by decide) (fun c63 => ?_) (fun c63 => ?_)
      · have h := h.1 c63
        refine v_ldc X kc_X7_55 dX7_nods_44 ?_
        exact v_wiret X hF u hH h dX7_nods_46
      · have h := h.2 c63
        refine v_iload_n X dX7_nods_34 rfl (lv_at hl 3 rfl) ?_
        refine v_i2l X dX7_nods_35 rfl ?_
        refine v_lconst (v := (0 : Int64)) X dX7_nods_36 (by decide) ?_
        refine v_lconst (v := (1 : Int64)) X dX7_nods_37 (by decide) ?_
        refine rdS (As := [.long a2.toInt64, .long (0 : Int64), .long (1 : Int64)]) (rest := []) X ms_X7_45 (c_X7_in F.2.1 D K t a2.toInt64 (0 : Int64) (1 : Int64) _ h) hF ⟨rfl, rfl, Nat.le_of_ble_eq_true rfl, Nat.le_of_ble_eq_true rfl⟩ (stW hT hH) hH.1 [] rfl hl.1 rfl rfl (Nat.le_of_ble_eq_true rfl) dX7_nods_38 (fun r4 h => ?_)
        refine v_if_ne (tgt := 47) X dX7_nods_41 (by decide) (fun c62 => ?_) (fun c62 => ?_)
        · have h := h.2 c62
          refine v_iconst (v := (0 : Int32)) X dX7_nods_47 (by decide) ?_
          refine v_istore (lv' := [(4, .int (0 : Int32)), (0, .ref (o 0)), (1, .int a0), (2, .int a1), (3, .int a2)]) X dX7_nods_48 hl (by decide) rfl (fun ls hl => ?_)
          refine v_iconst (v := (1 : Int32)) X dX7_nods_50 (by decide) ?_
          refine v_istore (lv' := [(5, .int (1 : Int32)), (4, .int (0 : Int32)), (0, .ref (o 0)), (1, .int a0), (2, .int a1), (3, .int a2)]) X dX7_nods_51 hl (by decide) rfl (fun ls hl => ?_)
          refine v_iconst (v := (0 : Int32)) X dX7_nods_53 (by decide) ?_
          refine v_istore (lv' := [(6, .int (0 : Int32)), (5, .int (1 : Int32)), (4, .int (0 : Int32)), (0, .ref (o 0)), (1, .int a0), (2, .int a1), (3, .int a2)]) X dX7_nods_54 hl (by decide) rfl (fun ls hl => ?_)
          obtain ⟨Kx56, hK56⟩ : ∃ f : Int32 → Prop, f = (fun (x12 : Int32) => ∃ n84, wL_X7_nods_84 a0 a1 a2 x12 post (fun (x20 : Int32) (u21 : BX7) => ∃ n198, wL_X7_nods_198 a2 x20 x12 u21 post (fun (x28 : Int32) => (a2 = 0 → ¬ x28 = 0 ∧ (post (x20 / x28) u21)) ∧ (¬ a2 = 0 → ¬ x28 = 0 ∧ (post (x12 / x28) u21))) n198 x20 x12) n84 (0 : Int32) (0 : Int32) u) := ⟨_, rfl⟩
          have kx59 : ∀ (x12 : Int32) (ls : Array Slot) (H : Heap) (locs : List Loc), (Kx56 x12) → lv_has ls 9 [(0, .ref (o 0)), (1, .int a0), (2, .int a1), (3, .int a2), (4, .int (0 : Int32)), (5, .int x12)] → HH F D A (CX7 K o u) H locs → V F (WQI F D (TY K) A (fun z : BX7 => CX7 K o z) (fun (r : Int32) (z : BX7) => post r z)) H locs 81 ls [] := by
            intro x12 ls H locs h hl hH
            have h : ∃ n84, wL_X7_nods_84 a0 a1 a2 x12 post (fun (x20 : Int32) (u21 : BX7) => ∃ n198, wL_X7_nods_198 a2 x20 x12 u21 post (fun (x28 : Int32) => (a2 = 0 → ¬ x28 = 0 ∧ (post (x20 / x28) u21)) ∧ (¬ a2 = 0 → ¬ x28 = 0 ∧ (post (x12 / x28) u21))) n198 x20 x12) n84 (0 : Int32) (0 : Int32) u := by rw [hK56] at h; exact h
            refine v_iconst (v := (0 : Int32)) X dX7_nods_81 (by decide) ?_
            refine v_istore (lv' := [(6, .int (0 : Int32)), (0, .ref (o 0)), (1, .int a0), (2, .int a1), (3, .int a2), (4, .int (0 : Int32)), (5, .int x12)]) X dX7_nods_82 hl (by decide) rfl (fun ls hl => ?_)
            obtain ⟨Kx84, hK84⟩ : ∃ f : Int32 → BX7 → Prop, f = (fun (x20 : Int32) (u21 : BX7) => ∃ n198, wL_X7_nods_198 a2 x20 x12 u21 post (fun (x28 : Int32) => (a2 = 0 → ¬ x28 = 0 ∧ (post (x20 / x28) u21)) ∧ (¬ a2 = 0 → ¬ x28 = 0 ∧ (post (x12 / x28) u21))) n198 x20 x12) := ⟨_, rfl⟩
            have kx33 : ∀ (x20 : Int32) (u21 : BX7) (ls : Array Slot) (H : Heap) (locs : List Loc), (Kx84 x20 u21) → lv_has ls 9 [(3, .int a2), (4, .int x20), (5, .int x12)] → HH F D A (CX7 K o u21) H locs → V F (WQI F D (TY K) A (fun z : BX7 => CX7 K o z) (fun (r : Int32) (z : BX7) => post r z)) H locs 190 ls [] := by
              intro x20 u21 ls H locs h hl hH
              have h : ∃ n198, wL_X7_nods_198 a2 x20 x12 u21 post (fun (x28 : Int32) => (a2 = 0 → ¬ x28 = 0 ∧ (post (x20 / x28) u21)) ∧ (¬ a2 = 0 → ¬ x28 = 0 ∧ (post (x12 / x28) u21))) n198 x20 x12 := by rw [hK84] at h; exact h
              refine v_iload X dX7_nods_190 (lv_at hl 1 rfl) ?_
              refine v_istore (lv' := [(6, .int x20), (3, .int a2), (4, .int x20), (5, .int x12)]) X dX7_nods_192 hl (by decide) rfl (fun ls hl => ?_)
              refine v_iload X dX7_nods_194 (lv_at hl 3 rfl) ?_
              refine v_istore (lv' := [(7, .int x12), (6, .int x20), (3, .int a2), (4, .int x20), (5, .int x12)]) X dX7_nods_196 hl (by decide) rfl (fun ls hl => ?_)
              obtain ⟨Kx198, hK198⟩ : ∃ f : Int32 → Prop, f = (fun (x28 : Int32) => (a2 = 0 → ¬ x28 = 0 ∧ (post (x20 / x28) u21)) ∧ (¬ a2 = 0 → ¬ x28 = 0 ∧ (post (x12 / x28) u21))) := ⟨_, rfl⟩
              have kx30 : ∀ (x28 : Int32) (ls : Array Slot) (H : Heap) (locs : List Loc), (Kx198 x28) → lv_has ls 9 [(3, .int a2), (4, .int x20), (5, .int x12), (6, .int x28)] → HH F D A (CX7 K o u21) H locs → V F (WQI F D (TY K) A (fun z : BX7 => CX7 K o z) (fun (r : Int32) (z : BX7) => post r z)) H locs 221 ls [] := by
                intro x28 ls H locs h hl hH
                have h : (a2 = 0 → ¬ x28 = 0 ∧ (post (x20 / x28) u21)) ∧ (¬ a2 = 0 → ¬ x28 = 0 ∧ (post (x12 / x28) u21)) := by rw [hK198] at h; exact h
                refine v_iload_n X dX7_nods_221 rfl (lv_at hl 0 rfl) ?_
                refine v_if_ne (tgt := 233) X dX7_nods_222 (by decide) (fun c29 => ?_) (fun c29 => ?_)
                · have h := h.2 c29
                  refine v_iload X dX7_nods_233 (lv_at hl 2 rfl) ?_
                  refine v_iload X dX7_nods_235 (lv_at hl 3 rfl) ?_
                  have hne := h.1
                  have h := h.2
                  refine v_idiv X dX7_nods_237 hne ?_
                  exact v_wiret X hF u21 hH h dX7_nods_238
                · have h := h.1 c29
                  refine v_iload X dX7_nods_225 (lv_at hl 1 rfl) ?_
                  refine v_iload X dX7_nods_227 (lv_at hl 3 rfl) ?_
                  have hne := h.1
                  have h := h.2
                  refine v_idiv X dX7_nods_229 hne ?_
                  refine v_goto (tgt := 238) X dX7_nods_230 (by decide) ?_
                  exact v_wiret X hF u21 hH h dX7_nods_238
              have lp198 : ∀ (n198 : Nat) (x22 : Int32) (x23 : Int32) (ls : Array Slot) (H : Heap) (locs : List Loc), wL_X7_nods_198 a2 x20 x12 u21 post Kx198 n198 x22 x23 → lv_has ls 9 [(3, .int a2), (4, .int x20), (5, .int x12), (6, .int x22), (7, .int x23)] → HH F D A (CX7 K o u21) H locs → V F (WQI F D (TY K) A (fun z : BX7 => CX7 K o z) (fun (r : Int32) (z : BX7) => post r z)) H locs 198 ls [] := by
                intro n198
                induction n198 with
                | zero => intro x22 x23 ls H locs h hl hH; exact h.elim
                | succ n198 ih198 =>
                  intro x22 x23 ls H locs h hl hH
                  refine v_iload X dX7_nods_198 (lv_at hl 4 rfl) ?_
                  refine v_if_eq (tgt := 221) X dX7_nods_200 (by decide) (fun c32 => ?_) (fun c32 => ?_)
                  · have h := h.1 c32
                    exact kx30 x22 ls H locs h (lv_sub hl [0, 1, 2, 3] rfl) hH
                  · have h := h.2 c32
                    refine v_iload X dX7_nods_203 (lv_at hl 3 rfl) ?_
                    refine v_iload X dX7_nods_205 (lv_at hl 4 rfl) ?_
                    have hne := h.1
                    have h := h.2
                    refine v_irem X dX7_nods_207 hne ?_
                    refine v_topi (fun x31 ex31 => ?_)
                    have h := h x31 ex31
                    refine v_istore (lv' := [(8, .int x31), (3, .int a2), (4, .int x20), (5, .int x12), (6, .int x22), (7, .int x23)]) X dX7_nods_208 hl (by decide) rfl (fun ls hl => ?_)
                    refine v_iload X dX7_nods_210 (lv_at hl 5 rfl) ?_
                    refine v_istore (lv' := [(6, .int x23), (8, .int x31), (3, .int a2), (4, .int x20), (5, .int x12), (7, .int x23)]) X dX7_nods_212 hl (by decide) rfl (fun ls hl => ?_)
                    refine v_iload X dX7_nods_214 (lv_at hl 1 rfl) ?_
                    refine v_istore (lv' := [(7, .int x31), (6, .int x23), (8, .int x31), (3, .int a2), (4, .int x20), (5, .int x12)]) X dX7_nods_216 hl (by decide) rfl (fun ls hl => ?_)
                    refine v_goto (tgt := 198) X dX7_nods_218 (by decide) ?_
                    exact ih198 x23 x31 ls H locs h (lv_sub hl [3, 4, 5, 1, 0] rfl) hH
              obtain ⟨n198, h⟩ := h
              have h : wL_X7_nods_198 a2 x20 x12 u21 post Kx198 n198 x20 x12 := by rw [hK198]; exact h
              exact lp198 n198 x20 x12 ls H locs h (lv_sub hl [2, 3, 4, 1, 0] rfl) hH
            have lp84 : ∀ (n84 : Nat) (x13 : Int32) (x14 : Int32) (u15 : BX7) (ls : Array Slot) (H : Heap) (locs : List Loc), wL_X7_nods_84 a0 a1 a2 x12 post Kx84 n84 x13 x14 u15 → lv_has ls 9 [(0, .ref (o 0)), (1, .int a0), (2, .int a1), (3, .int a2), (4, .int x13), (5, .int x12), (6, .int x14)] → HH F D A (CX7 K o u15) H locs → V F (WQI F D (TY K) A (fun z : BX7 => CX7 K o z) (fun (r : Int32) (z : BX7) => post r z)) H locs 84 ls [] := by
              intro n84
              induction n84 with
              | zero => intro x13 x14 u15 ls H locs h hl hH; exact h.elim
              | succ n84 ih84 =>
                intro x13 x14 u15 ls H locs h hl hH
                refine v_iload X dX7_nods_84 (lv_at hl 6 rfl) ?_
                refine v_iconst (v := (1 : Int32)) X dX7_nods_86 (by decide) ?_
                refine v_aload_n X dX7_nods_87 rfl (lv_at hl 0 rfl) ?_
                refine v_get (v := .ref (o 1)) X hH.1 0 rfl fk_X7_7 rfl dX7_nods_88 ?_
                refine v_bipush (v := (22 : Int32)) X dX7_nods_91 (by decide) ?_
                have hin := h.1
                have h := h.2
                refine v_iald (f := u15.1) X hH.1 1 0 rfl rfl hin dX7_nods_93 ?_
                refine v_ishl X dX7_nods_94 ?_
                refine v_icmp_ge (tgt := 190) X dX7_nods_95 (by decide) (fun c58 => ?_) (fun c58 => ?_)
                · have h := h.1 c58
                  exact kx33 x13 u15 ls H locs h (lv_sub hl [3, 4, 5] rfl) hH
                · have h := h.2 c58
                  refine v_iconst (v := (1 : Int32)) X dX7_nods_98 (by decide) ?_
                  refine v_istore (lv' := [(7, .int (1 : Int32)), (0, .ref (o 0)), (1, .int a0), (2, .int a1), (3, .int a2), (4, .int x13), (5, .int x12), (6, .int x14)]) X dX7_nods_99 hl (by decide) rfl (fun ls hl => ?_)
                  refine v_iconst (v := (0 : Int32)) X dX7_nods_101 (by decide) ?_
                  refine v_istore (lv' := [(8, .int (0 : Int32)), (7, .int (1 : Int32)), (0, .ref (o 0)), (1, .int a0), (2, .int a1), (3, .int a2), (4, .int x13), (5, .int x12), (6, .int x14)]) X dX7_nods_102 hl (by decide) rfl (fun ls hl => ?_)
                  obtain ⟨Kx104, hK104⟩ : ∃ f : Int32 → Prop, f = (fun (x43 : Int32) => w_X7_copyAll u15 (0 : Int32) (108 : Int32) (fun u45 => w_X7_passes u45 (108 : Int32) x14 (fun u47 => w_X7_restsIn u47 (108 : Int32) (fun r48 => w_X7_ones r48 (fun r49 => (r49 < a0 → wL_X7_nods_84 a0 a1 a2 x12 post Kx84 n84 (x13 + (0 : Int32)) (x14 + (1 : Int32)) u47) ∧ (¬ r49 < a0 → ∀ x50 : Int32, x50 = (x13 + x43) → wL_X7_nods_84 a0 a1 a2 x12 post Kx84 n84 x50 (x14 + (1 : Int32)) u47)))))) := ⟨_, rfl⟩
                  have kx52 : ∀ (x43 : Int32) (ls : Array Slot) (H : Heap) (locs : List Loc), (Kx104 x43) → lv_has ls 9 [(0, .ref (o 0)), (1, .int a0), (2, .int a1), (3, .int a2), (4, .int x13), (5, .int x12), (6, .int x14), (7, .int x43)] → HH F D A (CX7 K o u15) H locs → V F (WQI F D (TY K) A (fun z : BX7 => CX7 K o z) (fun (r : Int32) (z : BX7) => post r z)) H locs 145 ls [] := by
                    intro x43 ls H locs h hl hH
                    have h : w_X7_copyAll u15 (0 : Int32) (108 : Int32) (fun u45 => w_X7_passes u45 (108 : Int32) x14 (fun u47 => w_X7_restsIn u47 (108 : Int32) (fun r48 => w_X7_ones r48 (fun r49 => (r49 < a0 → wL_X7_nods_84 a0 a1 a2 x12 post Kx84 n84 (x13 + (0 : Int32)) (x14 + (1 : Int32)) u47) ∧ (¬ r49 < a0 → ∀ x50 : Int32, x50 = (x13 + x43) → wL_X7_nods_84 a0 a1 a2 x12 post Kx84 n84 x50 (x14 + (1 : Int32)) u47))))) := by rw [hK104] at h; exact h
                    refine v_aload_n X dX7_nods_145 rfl (lv_at hl 0 rfl) ?_
                    refine v_iconst (v := (0 : Int32)) X dX7_nods_146 (by decide) ?_
                    refine v_bipush (v := (108 : Int32)) X dX7_nods_147 (by decide) ?_
                    refine wrVV (As := [.int (0 : Int32), .int (108 : Int32)]) (rest := []) (wr := ([] : va_W)) X mv_X7_119 (c_X7_copyAll F.2.1 D K t o u15 (0 : Int32) (108 : Int32) _ h) hF ⟨rfl, rfl, Nat.le_of_ble_eq_true rfl, Nat.le_of_ble_eq_true rfl⟩ hT hA hH [0, 1, 2, 3, 4, 5, 6, 7, 8, 9] [] ⟨rfl, rfl, rfl, rfl, by decide⟩ 0 rfl rfl hl.1 rfl rfl (Nat.le_of_ble_eq_true rfl) dX7_nods_149 (fun u45 H locs h hH => ?_)
                    have hH : HH F D A (CX7 K o u45) H locs := hH
                    refine v_aload_n X dX7_nods_152 rfl (lv_at hl 0 rfl) ?_
                    refine v_bipush (v := (108 : Int32)) X dX7_nods_153 (by decide) ?_
                    refine v_iload X dX7_nods_155 (lv_at hl 6 rfl) ?_
                    refine wrVV (As := [.int (108 : Int32), .int x14]) (rest := []) (wr := ([] : va_W)) X mv_X7_152 (c_X7_passes F.2.1 D K t o u45 (108 : Int32) x14 _ h) hF ⟨rfl, rfl, Nat.le_of_ble_eq_true rfl, Nat.le_of_ble_eq_true rfl⟩ hT hA hH [0, 1, 2, 3, 4, 5, 6, 7, 8, 9] [] ⟨rfl, rfl, rfl, rfl, by decide⟩ 0 rfl rfl hl.1 rfl rfl (Nat.le_of_ble_eq_true rfl) dX7_nods_157 (fun u47 H locs h hH => ?_)
                    have hH : HH F D A (CX7 K o u47) H locs := hH
                    refine v_iload X dX7_nods_160 (lv_at hl 4 rfl) ?_
                    refine v_aload_n X dX7_nods_162 rfl (lv_at hl 0 rfl) ?_
                    refine v_bipush (v := (108 : Int32)) X dX7_nods_163 (by decide) ?_
                    refine rdV (As := [.int (108 : Int32)]) (rest := [.int x13]) X mv_X7_155 (c_X7_restsIn F.2.1 D K t o u47 (108 : Int32) _ h) hF ⟨rfl, rfl, Nat.le_of_ble_eq_true rfl, Nat.le_of_ble_eq_true rfl⟩ (stW hT hH) hH.1 [0, 1, 2, 3, 4, 5, 6, 7, 8, 9] rfl 0 rfl rfl hl.1 rfl rfl (Nat.le_of_ble_eq_true rfl) dX7_nods_165 (fun r48 h => ?_)
                    refine rdS (As := [.int r48]) (rest := [.int x13]) X ms_X7_201 (c_X7_ones F.2.1 D K t r48 _ h) hF ⟨rfl, rfl, Nat.le_of_ble_eq_true rfl, Nat.le_of_ble_eq_true rfl⟩ (stW hT hH) hH.1 [] rfl hl.1 rfl rfl (Nat.le_of_ble_eq_true rfl) dX7_nods_168 (fun r49 h => ?_)
                    refine v_iload_n X dX7_nods_171 rfl (lv_at hl 1 rfl) ?_
                    refine v_icmp_lt (tgt := 180) X dX7_nods_172 (by decide) (fun c51 => ?_) (fun c51 => ?_)
                    · have h := h.1 c51
                      refine v_iconst (v := (0 : Int32)) X dX7_nods_180 (by decide) ?_
                      refine v_iadd X dX7_nods_181 ?_
                      refine v_istore (lv' := [(4, .int (x13 + (0 : Int32))), (0, .ref (o 0)), (1, .int a0), (2, .int a1), (3, .int a2), (5, .int x12), (6, .int x14), (7, .int x43)]) X dX7_nods_182 hl (by decide) rfl (fun ls hl => ?_)
                      refine v_iinc (v := (x14 + (1 : Int32))) (lv' := [(6, .int (x14 + (1 : Int32))), (4, .int (x13 + (0 : Int32))), (0, .ref (o 0)), (1, .int a0), (2, .int a1), (3, .int a2), (5, .int x12), (7, .int x43)]) X dX7_nods_184 hl (k := 6) rfl rfl (by decide) rfl (fun ls hl => ?_)
                      refine v_goto (tgt := 84) X dX7_nods_187 (by decide) ?_
                      exact ih84 (x13 + (0 : Int32)) (x14 + (1 : Int32)) u47 ls H locs h (lv_sub hl [2, 3, 4, 5, 1, 6, 0] rfl) hH
                    · have h := h.2 c51
                      refine v_iload X dX7_nods_175 (lv_at hl 7 rfl) ?_
                      refine v_goto (tgt := 181) X dX7_nods_177 (by decide) ?_
                      refine v_iadd X dX7_nods_181 ?_
                      refine v_topi (fun x50 ex50 => ?_)
                      have h := h x50 ex50
                      refine v_istore (lv' := [(4, .int x50), (0, .ref (o 0)), (1, .int a0), (2, .int a1), (3, .int a2), (5, .int x12), (6, .int x14), (7, .int x43)]) X dX7_nods_182 hl (by decide) rfl (fun ls hl => ?_)
                      refine v_iinc (v := (x14 + (1 : Int32))) (lv' := [(6, .int (x14 + (1 : Int32))), (4, .int x50), (0, .ref (o 0)), (1, .int a0), (2, .int a1), (3, .int a2), (5, .int x12), (7, .int x43)]) X dX7_nods_184 hl (k := 6) rfl rfl (by decide) rfl (fun ls hl => ?_)
                      refine v_goto (tgt := 84) X dX7_nods_187 (by decide) ?_
                      exact ih84 x50 (x14 + (1 : Int32)) u47 ls H locs h (lv_sub hl [2, 3, 4, 5, 1, 6, 0] rfl) hH
                  have lp104 : ∀ (n104 : Nat) (x34 : Int32) (x35 : Int32) (ls : Array Slot) (H : Heap) (locs : List Loc), wL_X7_nods_104 a0 a1 a2 x13 x12 x14 u15 post Kx104 n104 x34 x35 → lv_has ls 9 [(0, .ref (o 0)), (1, .int a0), (2, .int a1), (3, .int a2), (4, .int x13), (5, .int x12), (6, .int x14), (7, .int x34), (8, .int x35)] → HH F D A (CX7 K o u15) H locs → V F (WQI F D (TY K) A (fun z : BX7 => CX7 K o z) (fun (r : Int32) (z : BX7) => post r z)) H locs 104 ls [] := by
                    intro n104
                    induction n104 with
                    | zero => intro x34 x35 ls H locs h hl hH; exact h.elim
                    | succ n104 ih104 =>
                      intro x34 x35 ls H locs h hl hH
                      refine v_iload X dX7_nods_104 (lv_at hl 8 rfl) ?_
                      refine v_aload_n X dX7_nods_106 rfl (lv_at hl 0 rfl) ?_
                      refine v_get (v := .ref (o 1)) X hH.1 0 rfl fk_X7_7 rfl dX7_nods_107 ?_
                      refine v_bipush (v := (22 : Int32)) X dX7_nods_110 (by decide) ?_
                      have hin := h.1
                      have h := h.2
                      refine v_iald (f := u15.1) X hH.1 1 0 rfl rfl hin dX7_nods_112 ?_
                      refine v_icmp_ge (tgt := 145) X dX7_nods_113 (by decide) (fun c57 => ?_) (fun c57 => ?_)
                      · have h := h.1 c57
                        exact kx52 x34 ls H locs h (lv_sub hl [0, 1, 2, 3, 4, 5, 6, 7] rfl) hH
                      · have h := h.2 c57
                        refine v_iload X dX7_nods_116 (lv_at hl 7 rfl) ?_
                        refine v_iload X dX7_nods_118 (lv_at hl 6 rfl) ?_
                        refine v_iload X dX7_nods_120 (lv_at hl 8 rfl) ?_
                        refine rdS (As := [.int x14, .int x35]) (rest := [.int x34]) X ms_X7_133 (c_X7_has F.2.1 D K t x14 x35 _ h) hF ⟨rfl, rfl, Nat.le_of_ble_eq_true rfl, Nat.le_of_ble_eq_true rfl⟩ (stW hT hH) hH.1 [] rfl hl.1 rfl rfl (Nat.le_of_ble_eq_true rfl) dX7_nods_122 (fun r53 h => ?_)
                        refine v_if_eq (tgt := 132) X dX7_nods_125 (by decide) (fun c56 => ?_) (fun c56 => ?_)
                        · have h := h.1 c56
                          refine v_bipush (v := (10 : Int32)) X dX7_nods_132 (by decide) ?_
                          refine v_iload_n X dX7_nods_134 rfl (lv_at hl 2 rfl) ?_
                          refine v_isub X dX7_nods_135 ?_
                          refine v_imul X dX7_nods_136 ?_
                          refine v_topi (fun x54 ex54 => ?_)
                          have h := h x54 ex54
                          refine v_istore (lv' := [(7, .int x54), (0, .ref (o 0)), (1, .int a0), (2, .int a1), (3, .int a2), (4, .int x13), (5, .int x12), (6, .int x14), (8, .int x35)]) X dX7_nods_137 hl (by decide) rfl (fun ls hl => ?_)
                          refine v_iinc (v := (x35 + (1 : Int32))) (lv' := [(8, .int (x35 + (1 : Int32))), (7, .int x54), (0, .ref (o 0)), (1, .int a0), (2, .int a1), (3, .int a2), (4, .int x13), (5, .int x12), (6, .int x14)]) X dX7_nods_139 hl (k := 8) rfl rfl (by decide) rfl (fun ls hl => ?_)
                          refine v_goto (tgt := 104) X dX7_nods_142 (by decide) ?_
                          exact ih104 x54 (x35 + (1 : Int32)) ls H locs h (lv_sub hl [2, 3, 4, 5, 6, 7, 8, 1, 0] rfl) hH
                        · have h := h.2 c56
                          refine v_iload_n X dX7_nods_128 rfl (lv_at hl 2 rfl) ?_
                          refine v_goto (tgt := 136) X dX7_nods_129 (by decide) ?_
                          refine v_imul X dX7_nods_136 ?_
                          refine v_topi (fun x55 ex55 => ?_)
                          have h := h x55 ex55
                          refine v_istore (lv' := [(7, .int x55), (0, .ref (o 0)), (1, .int a0), (2, .int a1), (3, .int a2), (4, .int x13), (5, .int x12), (6, .int x14), (8, .int x35)]) X dX7_nods_137 hl (by decide) rfl (fun ls hl => ?_)
                          refine v_iinc (v := (x35 + (1 : Int32))) (lv' := [(8, .int (x35 + (1 : Int32))), (7, .int x55), (0, .ref (o 0)), (1, .int a0), (2, .int a1), (3, .int a2), (4, .int x13), (5, .int x12), (6, .int x14)]) X dX7_nods_139 hl (k := 8) rfl rfl (by decide) rfl (fun ls hl => ?_)
                          refine v_goto (tgt := 104) X dX7_nods_142 (by decide) ?_
                          exact ih104 x55 (x35 + (1 : Int32)) ls H locs h (lv_sub hl [2, 3, 4, 5, 6, 7, 8, 1, 0] rfl) hH
                  obtain ⟨n104, h⟩ := h
                  have h : wL_X7_nods_104 a0 a1 a2 x13 x12 x14 u15 post Kx104 n104 (1 : Int32) (0 : Int32) := by rw [hK104]; exact h
                  exact lp104 n104 (1 : Int32) (0 : Int32) ls H locs h (lv_sub hl [2, 3, 4, 5, 6, 7, 8, 1, 0] rfl) hH
            obtain ⟨n84, h⟩ := h
            have h : wL_X7_nods_84 a0 a1 a2 x12 post Kx84 n84 (0 : Int32) (0 : Int32) u := by rw [hK84]; exact h
            exact lp84 n84 (0 : Int32) (0 : Int32) u ls H locs h (lv_sub hl [1, 2, 3, 4, 5, 6, 0] rfl) hH
          have lp56 : ∀ (n56 : Nat) (x5 : Int32) (x6 : Int32) (ls : Array Slot) (H : Heap) (locs : List Loc), wL_X7_nods_56 a0 a1 a2 (0 : Int32) u post Kx56 n56 x5 x6 → lv_has ls 9 [(0, .ref (o 0)), (1, .int a0), (2, .int a1), (3, .int a2), (4, .int (0 : Int32)), (5, .int x5), (6, .int x6)] → HH F D A (CX7 K o u) H locs → V F (WQI F D (TY K) A (fun z : BX7 => CX7 K o z) (fun (r : Int32) (z : BX7) => post r z)) H locs 56 ls [] := by
            intro n56
            induction n56 with
            | zero => intro x5 x6 ls H locs h hl hH; exact h.elim
            | succ n56 ih56 =>
              intro x5 x6 ls H locs h hl hH
              refine v_iload X dX7_nods_56 (lv_at hl 6 rfl) ?_
              refine v_aload_n X dX7_nods_58 rfl (lv_at hl 0 rfl) ?_
              refine v_get (v := .ref (o 1)) X hH.1 0 rfl fk_X7_7 rfl dX7_nods_59 ?_
              refine v_bipush (v := (22 : Int32)) X dX7_nods_62 (by decide) ?_
              have hin := h.1
              have h := h.2
              refine v_iald (f := u.1) X hH.1 1 0 rfl rfl hin dX7_nods_64 ?_
              refine v_icmp_ge (tgt := 81) X dX7_nods_65 (by decide) (fun c61 => ?_) (fun c61 => ?_)
              · have h := h.1 c61
                exact kx59 x5 ls H locs h (lv_sub hl [0, 1, 2, 3, 4, 5] rfl) hH
              · have h := h.2 c61
                refine v_iload X dX7_nods_68 (lv_at hl 5 rfl) ?_
                refine v_bipush (v := (10 : Int32)) X dX7_nods_70 (by decide) ?_
                refine v_imul X dX7_nods_72 ?_
                refine v_topi (fun x60 ex60 => ?_)
                have h := h x60 ex60
                refine v_istore (lv' := [(5, .int x60), (0, .ref (o 0)), (1, .int a0), (2, .int a1), (3, .int a2), (4, .int (0 : Int32)), (6, .int x6)]) X dX7_nods_73 hl (by decide) rfl (fun ls hl => ?_)
                refine v_iinc (v := (x6 + (1 : Int32))) (lv' := [(6, .int (x6 + (1 : Int32))), (5, .int x60), (0, .ref (o 0)), (1, .int a0), (2, .int a1), (3, .int a2), (4, .int (0 : Int32))]) X dX7_nods_75 hl (k := 6) rfl rfl (by decide) rfl (fun ls hl => ?_)
                refine v_goto (tgt := 56) X dX7_nods_78 (by decide) ?_
                exact ih56 x60 (x6 + (1 : Int32)) ls H locs h (lv_sub hl [2, 3, 4, 5, 6, 1, 0] rfl) hH
          obtain ⟨n56, h⟩ := h
          have h : wL_X7_nods_56 a0 a1 a2 (0 : Int32) u post Kx56 n56 (1 : Int32) (0 : Int32) := by rw [hK56]; exact h
          exact lp56 n56 (1 : Int32) (0 : Int32) ls H locs h (lv_sub hl [3, 4, 5, 6, 2, 1, 0] rfl) hH
        · have h := h.1 c62
          refine v_ldc X kc_X7_55 dX7_nods_44 ?_
          exact v_wiret X hF u hH h dX7_nods_46
  · have h := h.1 c65
    refine v_ldc X kc_X7_146 dX7_nods_7 ?_
    exact v_wiret X hF u hH h dX7_nods_9
def wL_X7_drawn_59 (y12 : Int32) (y13 : Int32) (post : Int32 → BX7 → Prop) (Kx59 : Int32 → BX7 → Prop) : Nat → Int64 → Int32 → Int32 → BX7 → Prop
  | 0, _, _, _, _ => False
  | n59 + 1, x8, x9, x10, u11 => (y12 ≤ x10 → Kx59 x9 u11) ∧ (¬ y12 ≤ x10 → ∀ x19 : Int64, x19 = ((x8 * (16807 : Int64)) - (x8 * (16807 : Int64)) / (2147483647 : Int64) * (2147483647 : Int64)) → vp_in (21 : Int32) 144 ∧ (¬ (u11.1 (21 : Int32).toNatClampNeg).toInt64 = 0 ∧ (∀ x20 : Int32, x20 = (x19 - x19 / (u11.1 (21 : Int32).toNatClampNeg).toInt64 * (u11.1 (21 : Int32).toNatClampNeg).toInt64).toInt32 → vp_in ((109 : Int32) + x20) 144 ∧ (∀ x21 : Int32, x21 = ((u11.1 ((109 : Int32) + x20).toNatClampNeg) + (x19 - x19 / (5 : Int64) * (5 : Int64)).toInt32) → wpJ (T := Int32 → Prop) (fun (v23 : Int32) => vp_in ((109 : Int32) + x20) 144 ∧ (w_X7_passes ((upd u11.1 ((109 : Int32) + x20).toNatClampNeg v23), u11.2.1, u11.2.2.1, u11.2.2.2.1, u11.2.2.2.2.1, u11.2.2.2.2.2.1, u11.2.2.2.2.2.2.1, u11.2.2.2.2.2.2.2.1, u11.2.2.2.2.2.2.2.2.1, u11.2.2.2.2.2.2.2.2.2.1, u11.2.2.2.2.2.2.2.2.2.2.1, u11.2.2.2.2.2.2.2.2.2.2.2.1, u11.2.2.2.2.2.2.2.2.2.2.2.2.1, u11.2.2.2.2.2.2.2.2.2.2.2.2.2.1, u11.2.2.2.2.2.2.2.2.2.2.2.2.2.2.1, u11.2.2.2.2.2.2.2.2.2.2.2.2.2.2.2.1, u11.2.2.2.2.2.2.2.2.2.2.2.2.2.2.2.2) (108 : Int32) (0 : Int32) (fun u25 => w_X7_restsIn u25 (108 : Int32) (fun r26 => w_X7_ones r26 (fun r27 => ∀ x28 : Int32, x28 = (x9 + r27) → wL_X7_drawn_59 y12 y13 post Kx59 n59 x19 x28 (x10 + (1 : Int32)) u25))))) (fun J22 => (x21 ≤ (99 : Int32) → J22 x21) ∧ (¬ x21 ≤ (99 : Int32) → J22 (99 : Int32)))))))
def w_X7_drawn (u : BX7) (a0 : Int32) (a1 : Int32) (a2 : Int32) (post : Int32 → BX7 → Prop) : Prop := w_X7_isAgency u (fun r1 => (r1 = 0 → post (-1000002 : Int32) u) ∧ (¬ r1 = 0 → w_X7_isSpan a0 (fun r2 => (r2 = 0 → post (-1000001 : Int32) u) ∧ (¬ r2 = 0 → w_X7_in a1.toInt64 (1 : Int64) (999999 : Int64) (fun r3 => (r3 = 0 → post (-1000001 : Int32) u) ∧ (¬ r3 = 0 → w_X7_in a2.toInt64 (0 : Int64) (1 : Int64) (fun r4 => (r4 = 0 → post (-1000001 : Int32) u) ∧ (¬ r4 = 0 → w_X7_copyAll u (0 : Int32) (108 : Int32) (fun u6 => ∀ x7 : Int64, x7 = a1.toInt64 → ∃ n59, wL_X7_drawn_59 a0 a2 post (fun (x14 : Int32) (u15 : BX7) => (a2 = 0 → post x14 u15) ∧ (¬ a2 = 0 → w_X7_weightsIn u15 (108 : Int32) (fun r16 => post r16 u15))) n59 x7 (0 : Int32) (0 : Int32) u6)))))))))
set_option maxHeartbeats 4000000 in
set_option maxRecDepth 100000 in
theorem c_X7_drawn (l : Launch) (D : va_G) (K : Nat → ClassId) (t : Nat → Nat) (o : Nat → Nat) (u : BX7) (a0 : Int32) (a1 : Int32) (a2 : Int32) (post : Int32 → BX7 → Prop) (h : w_X7_drawn u a0 a1 a2 post) : WrI l yX7_drawn cX7_drawn 10 (some .int) ({ frames := 4, cells := 0, slots := 0, locals := 99 } : Room) D (TY K) t (CX7 K o u) [.ref (o 0), .int a0, .int a1, .int a2] (fun z : BX7 => CX7 K o z) (fun (r : Int32) (z : BX7) => post r z) := by
  refine WrI.mk rfl (Nat.le_of_ble_eq_true rfl) ?_
  intro F ls A _ hF X hH hA hl hT
  obtain ⟨H, hH0⟩ : ∃ z : Heap, z = (fxS F).heap := ⟨_, rfl⟩
  obtain ⟨locs, hL0⟩ : ∃ z : List Loc, z = [] := ⟨_, rfl⟩
  have hH : HH F D A (CX7 K o u) H locs := by rw [hH0, hL0]; exact hH
  suffices goal : V F (WQI F D (TY K) A (fun z : BX7 => CX7 K o z) (fun (r : Int32) (z : BX7) => post r z)) H locs 0 ls [] by rw [hH0, hL0] at goal; exact goal
  clear hH0 hL0
  have X : Cx F cX7_drawn 10 RX7 D (TY K) := X
  have hl : lv_has ls 10 [(0, .ref (o 0)), (1, .int a0), (2, .int a1), (3, .int a2)] := hl
  unfold w_X7_drawn at h
  refine v_aload_n X dX7_drawn_0 rfl (lv_at hl 0 rfl) ?_
  refine rdV (As := []) (rest := []) X mv_X7_143 (c_X7_isAgency F.2.1 D K t o u _ h) hF ⟨rfl, rfl, Nat.le_of_ble_eq_true rfl, Nat.le_of_ble_eq_true rfl⟩ (stW hT hH) hH.1 [0, 1, 2, 3, 4, 5, 6, 7, 8, 9] rfl 0 rfl rfl hl.1 rfl rfl (Nat.le_of_ble_eq_true rfl) dX7_drawn_1 (fun r1 h => ?_)
  refine v_if_ne (tgt := 10) X dX7_drawn_4 (by decide) (fun c34 => ?_) (fun c34 => ?_)
  · have h := h.2 c34
    refine v_iload_n X dX7_drawn_10 rfl (lv_at hl 1 rfl) ?_
    refine rdS (As := [.int a0]) (rest := []) X ms_X7_174 (c_X7_isSpan F.2.1 D K t a0 _ h) hF ⟨rfl, rfl, Nat.le_of_ble_eq_true rfl, Nat.le_of_ble_eq_true rfl⟩ (stW hT hH) hH.1 [] rfl hl.1 rfl rfl (Nat.le_of_ble_eq_true rfl) dX7_drawn_11 (fun r2 h => ?_)
    refine v_if_eq (tgt := 39) X dX7_drawn_14 (by decide) (fun c33 => ?_) (fun c33 => ?_)
    · have h := h.1 c33
      refine v_ldc X kc_X7_55 dX7_drawn_39 ?_
      exact v_wiret X hF u hH h dX7_drawn_41
    · have h := h.2 c33
      refine v_iload_n X dX7_drawn_17 rfl (lv_at hl 2 rfl) ?_
      refine v_i2l X dX7_drawn_18 rfl ?_
      refine v_lconst (v := (1 : Int64)) X dX7_drawn_19 (by decide) ?_
      refine v_ldc2 X kc_X7_219 dX7_drawn_20 ?_
      refine rdS (As := [.long a1.toInt64, .long (1 : Int64), .long (999999 : Int64)]) (rest := []) X ms_X7_45 (c_X7_in F.2.1 D K t a1.toInt64 (1 : Int64) (999999 : Int64) _ h) hF ⟨rfl, rfl, Nat.le_of_ble_eq_true rfl, Nat.le_of_ble_eq_true rfl⟩ (stW hT hH) hH.1 [] rfl hl.1 rfl rfl (Nat.le_of_ble_eq_true rfl) dX7_drawn_23 (fun r3 h => ?_)
      refine v_if_eq (tgt := 39) X dX7_drawn_26 (by decide) (fun c32 => ?_) (fun c32 => ?_)
      · have h := h.1 c32
        refine v_ldc X kc_X7_55 dX7_drawn_39 ?_
        exact v_wiret X hF u hH h dX7_drawn_41
      · have h := h.2 c32
        refine v_iload_n X dX7_drawn_29 rfl (lv_at hl 3 rfl) ?_
        refine v_i2l X dX7_drawn_30 rfl ?_
        refine v_lconst (v := (0 : Int64)) X dX7_drawn_31 (by decide) ?_
        refine v_lconst (v := (1 : Int64)) X dX7_drawn_32 (by decide) ?_
        refine rdS (As := [.long a2.toInt64, .long (0 : Int64), .long (1 : Int64)]) (rest := []) X ms_X7_45 (c_X7_in F.2.1 D K t a2.toInt64 (0 : Int64) (1 : Int64) _ h) hF ⟨rfl, rfl, Nat.le_of_ble_eq_true rfl, Nat.le_of_ble_eq_true rfl⟩ (stW hT hH) hH.1 [] rfl hl.1 rfl rfl (Nat.le_of_ble_eq_true rfl) dX7_drawn_33 (fun r4 h => ?_)
        refine v_if_ne (tgt := 42) X dX7_drawn_36 (by decide) (fun c31 => ?_) (fun c31 => ?_)
        · have h := h.2 c31
          refine v_aload_n X dX7_drawn_42 rfl (lv_at hl 0 rfl) ?_
          refine v_iconst (v := (0 : Int32)) X dX7_drawn_43 (by decide) ?_
          refine v_bipush (v := (108 : Int32)) X dX7_drawn_44 (by decide) ?_
          refine wrVV (As := [.int (0 : Int32), .int (108 : Int32)]) (rest := []) (wr := ([] : va_W)) X mv_X7_119 (c_X7_copyAll F.2.1 D K t o u (0 : Int32) (108 : Int32) _ h) hF ⟨rfl, rfl, Nat.le_of_ble_eq_true rfl, Nat.le_of_ble_eq_true rfl⟩ hT hA hH [0, 1, 2, 3, 4, 5, 6, 7, 8, 9] [] ⟨rfl, rfl, rfl, rfl, by decide⟩ 0 rfl rfl hl.1 rfl rfl (Nat.le_of_ble_eq_true rfl) dX7_drawn_46 (fun u6 H locs h hH => ?_)
          have hH : HH F D A (CX7 K o u6) H locs := hH
          refine v_iload_n X dX7_drawn_49 rfl (lv_at hl 2 rfl) ?_
          refine v_i2l X dX7_drawn_50 rfl ?_
          refine v_topl (fun x7 ex7 => ?_)
          have h := h x7 ex7
          refine v_lstore (lv' := [(4, .long x7), (0, .ref (o 0)), (1, .int a0), (2, .int a1), (3, .int a2)]) X dX7_drawn_51 hl (by decide) rfl (fun ls hl => ?_)
          refine v_iconst (v := (0 : Int32)) X dX7_drawn_53 (by decide) ?_
          refine v_istore (lv' := [(6, .int (0 : Int32)), (4, .long x7), (0, .ref (o 0)), (1, .int a0), (2, .int a1), (3, .int a2)]) X dX7_drawn_54 hl (by decide) rfl (fun ls hl => ?_)
          refine v_iconst (v := (0 : Int32)) X dX7_drawn_56 (by decide) ?_
          refine v_istore (lv' := [(7, .int (0 : Int32)), (6, .int (0 : Int32)), (4, .long x7), (0, .ref (o 0)), (1, .int a0), (2, .int a1), (3, .int a2)]) X dX7_drawn_57 hl (by decide) rfl (fun ls hl => ?_)
          obtain ⟨Kx59, hK59⟩ : ∃ f : Int32 → BX7 → Prop, f = (fun (x14 : Int32) (u15 : BX7) => (a2 = 0 → post x14 u15) ∧ (¬ a2 = 0 → w_X7_weightsIn u15 (108 : Int32) (fun r16 => post r16 u15))) := ⟨_, rfl⟩
          have kx18 : ∀ (x14 : Int32) (u15 : BX7) (ls : Array Slot) (H : Heap) (locs : List Loc), (Kx59 x14 u15) → lv_has ls 10 [(0, .ref (o 0)), (3, .int a2), (6, .int x14)] → HH F D A (CX7 K o u15) H locs → V F (WQI F D (TY K) A (fun z : BX7 => CX7 K o z) (fun (r : Int32) (z : BX7) => post r z)) H locs 162 ls [] := by
            intro x14 u15 ls H locs h hl hH
            have h : (a2 = 0 → post x14 u15) ∧ (¬ a2 = 0 → w_X7_weightsIn u15 (108 : Int32) (fun r16 => post r16 u15)) := by rw [hK59] at h; exact h
            refine v_iload_n X dX7_drawn_162 rfl (lv_at hl 1 rfl) ?_
            refine v_if_ne (tgt := 171) X dX7_drawn_163 (by decide) (fun c17 => ?_) (fun c17 => ?_)
            · have h := h.2 c17
              refine v_aload_n X dX7_drawn_171 rfl (lv_at hl 0 rfl) ?_
              refine v_bipush (v := (108 : Int32)) X dX7_drawn_172 (by decide) ?_
              refine rdV (As := [.int (108 : Int32)]) (rest := []) X mv_X7_204 (c_X7_weightsIn F.2.1 D K t o u15 (108 : Int32) _ h) hF ⟨rfl, rfl, Nat.le_of_ble_eq_true rfl, Nat.le_of_ble_eq_true rfl⟩ (stW hT hH) hH.1 [0, 1, 2, 3, 4, 5, 6, 7, 8, 9] rfl 0 rfl rfl hl.1 rfl rfl (Nat.le_of_ble_eq_true rfl) dX7_drawn_174 (fun r16 h => ?_)
              exact v_wiret X hF u15 hH h dX7_drawn_177
            · have h := h.1 c17
              refine v_iload X dX7_drawn_166 (lv_at hl 2 rfl) ?_
              refine v_goto (tgt := 177) X dX7_drawn_168 (by decide) ?_
              exact v_wiret X hF u15 hH h dX7_drawn_177
          have lp59 : ∀ (n59 : Nat) (x8 : Int64) (x9 : Int32) (x10 : Int32) (u11 : BX7) (ls : Array Slot) (H : Heap) (locs : List Loc), wL_X7_drawn_59 a0 a2 post Kx59 n59 x8 x9 x10 u11 → lv_has ls 10 [(0, .ref (o 0)), (1, .int a0), (3, .int a2), (4, .long x8), (6, .int x9), (7, .int x10)] → HH F D A (CX7 K o u11) H locs → V F (WQI F D (TY K) A (fun z : BX7 => CX7 K o z) (fun (r : Int32) (z : BX7) => post r z)) H locs 59 ls [] := by
            intro n59
            induction n59 with
            | zero => intro x8 x9 x10 u11 ls H locs h hl hH; exact h.elim
            | succ n59 ih59 =>
              intro x8 x9 x10 u11 ls H locs h hl hH
              refine v_iload X dX7_drawn_59 (lv_at hl 5 rfl) ?_
              refine v_iload_n X dX7_drawn_61 rfl (lv_at hl 1 rfl) ?_
              refine v_icmp_ge (tgt := 162) X dX7_drawn_62 (by decide) (fun c30 => ?_) (fun c30 => ?_)
              · have h := h.1 c30
                exact kx18 x9 u11 ls H locs h (lv_sub hl [0, 2, 4] rfl) hH
              · have h := h.2 c30
                refine v_lload X dX7_drawn_65 (lv_at hl 3 rfl) ?_
                refine v_ldc2 X kc_X7_221 dX7_drawn_67 ?_
                refine v_lmul X dX7_drawn_70 ?_
                refine v_ldc2 X kc_X7_223 dX7_drawn_71 ?_
                refine v_lrem X dX7_drawn_74 (by decide) ?_
                refine v_topl (fun x19 ex19 => ?_)
                have h := h x19 ex19
                refine v_lstore (lv' := [(4, .long x19), (0, .ref (o 0)), (1, .int a0), (3, .int a2), (6, .int x9), (7, .int x10)]) X dX7_drawn_75 hl (by decide) rfl (fun ls hl => ?_)
                refine v_lload X dX7_drawn_77 (lv_at hl 0 rfl) ?_
                refine v_aload_n X dX7_drawn_79 rfl (lv_at hl 1 rfl) ?_
                refine v_get (v := .ref (o 1)) X hH.1 0 rfl fk_X7_7 rfl dX7_drawn_80 ?_
                refine v_bipush (v := (21 : Int32)) X dX7_drawn_83 (by decide) ?_
                have hin := h.1
                have h := h.2
                refine v_iald (f := u11.1) X hH.1 1 0 rfl rfl hin dX7_drawn_85 ?_
                refine v_i2l X dX7_drawn_86 rfl ?_
                have hne := h.1
                have h := h.2
                refine v_lrem X dX7_drawn_87 hne ?_
                refine v_l2i X dX7_drawn_88 rfl ?_
                refine v_topi (fun x20 ex20 => ?_)
                have h := h x20 ex20
                refine v_istore (lv' := [(8, .int x20), (4, .long x19), (0, .ref (o 0)), (1, .int a0), (3, .int a2), (6, .int x9), (7, .int x10)]) X dX7_drawn_89 hl (by decide) rfl (fun ls hl => ?_)
                refine v_aload_n X dX7_drawn_91 rfl (lv_at hl 2 rfl) ?_
                refine v_get (v := .ref (o 1)) X hH.1 0 rfl fk_X7_7 rfl dX7_drawn_92 ?_
                refine v_bipush (v := (109 : Int32)) X dX7_drawn_95 (by decide) ?_
                refine v_iload X dX7_drawn_97 (lv_at hl 0 rfl) ?_
                refine v_iadd X dX7_drawn_99 ?_
                have hin := h.1
                have h := h.2
                refine v_iald (f := u11.1) X hH.1 1 0 rfl rfl hin dX7_drawn_100 ?_
                refine v_lload X dX7_drawn_101 (lv_at hl 1 rfl) ?_
                refine v_ldc2 X kc_X7_166 dX7_drawn_103 ?_
                refine v_lrem X dX7_drawn_106 (by decide) ?_
                refine v_l2i X dX7_drawn_107 rfl ?_
                refine v_iadd X dX7_drawn_108 ?_
                refine v_topi (fun x21 ex21 => ?_)
                have h := h x21 ex21
                refine v_istore (lv' := [(9, .int x21), (8, .int x20), (4, .long x19), (0, .ref (o 0)), (1, .int a0), (3, .int a2), (6, .int x9), (7, .int x10)]) X dX7_drawn_109 hl (by decide) rfl (fun ls hl => ?_)
                refine v_aload_n X dX7_drawn_111 rfl (lv_at hl 3 rfl) ?_
                refine v_get (v := .ref (o 1)) X hH.1 0 rfl fk_X7_7 rfl dX7_drawn_112 ?_
                refine v_bipush (v := (109 : Int32)) X dX7_drawn_115 (by decide) ?_
                refine v_iload X dX7_drawn_117 (lv_at hl 1 rfl) ?_
                refine v_iadd X dX7_drawn_119 ?_
                refine v_iload X dX7_drawn_120 (lv_at hl 0 rfl) ?_
                refine v_bipush (v := (99 : Int32)) X dX7_drawn_122 (by decide) ?_
                obtain ⟨J22, hJ22⟩ : ∃ f : Int32 → Prop, f = (fun (v23 : Int32) => vp_in ((109 : Int32) + x20) 144 ∧ (w_X7_passes ((upd u11.1 ((109 : Int32) + x20).toNatClampNeg v23), u11.2.1, u11.2.2.1, u11.2.2.2.1, u11.2.2.2.2.1, u11.2.2.2.2.2.1, u11.2.2.2.2.2.2.1, u11.2.2.2.2.2.2.2.1, u11.2.2.2.2.2.2.2.2.1, u11.2.2.2.2.2.2.2.2.2.1, u11.2.2.2.2.2.2.2.2.2.2.1, u11.2.2.2.2.2.2.2.2.2.2.2.1, u11.2.2.2.2.2.2.2.2.2.2.2.2.1, u11.2.2.2.2.2.2.2.2.2.2.2.2.2.1, u11.2.2.2.2.2.2.2.2.2.2.2.2.2.2.1, u11.2.2.2.2.2.2.2.2.2.2.2.2.2.2.2.1, u11.2.2.2.2.2.2.2.2.2.2.2.2.2.2.2.2) (108 : Int32) (0 : Int32) (fun u25 => w_X7_restsIn u25 (108 : Int32) (fun r26 => w_X7_ones r26 (fun r27 => ∀ x28 : Int32, x28 = (x9 + r27) → wL_X7_drawn_59 a0 a2 post Kx59 n59 x19 x28 (x10 + (1 : Int32)) u25))))) := ⟨_, rfl⟩
                have kJ22 : ∀ (v23 : Int32) (ls : Array Slot) (H : Heap) (locs : List Loc), (J22 v23) → lv_has ls 10 [(0, .ref (o 0)), (1, .int a0), (3, .int a2), (4, .long x19), (6, .int x9), (7, .int x10)] → HH F D A (CX7 K o u11) H locs → V F (WQI F D (TY K) A (fun z : BX7 => CX7 K o z) (fun (r : Int32) (z : BX7) => post r z)) H locs 134 ls [.int v23, .int ((109 : Int32) + x20), .ref (o 1)] := by
                  intro v23 ls H locs h hl hH
                  have h : vp_in ((109 : Int32) + x20) 144 ∧ (w_X7_passes ((upd u11.1 ((109 : Int32) + x20).toNatClampNeg v23), u11.2.1, u11.2.2.1, u11.2.2.2.1, u11.2.2.2.2.1, u11.2.2.2.2.2.1, u11.2.2.2.2.2.2.1, u11.2.2.2.2.2.2.2.1, u11.2.2.2.2.2.2.2.2.1, u11.2.2.2.2.2.2.2.2.2.1, u11.2.2.2.2.2.2.2.2.2.2.1, u11.2.2.2.2.2.2.2.2.2.2.2.1, u11.2.2.2.2.2.2.2.2.2.2.2.2.1, u11.2.2.2.2.2.2.2.2.2.2.2.2.2.1, u11.2.2.2.2.2.2.2.2.2.2.2.2.2.2.1, u11.2.2.2.2.2.2.2.2.2.2.2.2.2.2.2.1, u11.2.2.2.2.2.2.2.2.2.2.2.2.2.2.2.2) (108 : Int32) (0 : Int32) (fun u25 => w_X7_restsIn u25 (108 : Int32) (fun r26 => w_X7_ones r26 (fun r27 => ∀ x28 : Int32, x28 = (x9 + r27) → wL_X7_drawn_59 a0 a2 post Kx59 n59 x19 x28 (x10 + (1 : Int32)) u25)))) := by rw [hJ22] at h; exact h
                  have hin := h.1
                  have h := h.2
                  refine v_iast (f := u11.1) X hH 1 0 rfl rfl hin dX7_drawn_134 (fun H locs hH => ?_)
                  have hH : HH F D A (CX7 K o ((upd u11.1 ((109 : Int32) + x20).toNatClampNeg v23), u11.2.1, u11.2.2.1, u11.2.2.2.1, u11.2.2.2.2.1, u11.2.2.2.2.2.1, u11.2.2.2.2.2.2.1, u11.2.2.2.2.2.2.2.1, u11.2.2.2.2.2.2.2.2.1, u11.2.2.2.2.2.2.2.2.2.1, u11.2.2.2.2.2.2.2.2.2.2.1, u11.2.2.2.2.2.2.2.2.2.2.2.1, u11.2.2.2.2.2.2.2.2.2.2.2.2.1, u11.2.2.2.2.2.2.2.2.2.2.2.2.2.1, u11.2.2.2.2.2.2.2.2.2.2.2.2.2.2.1, u11.2.2.2.2.2.2.2.2.2.2.2.2.2.2.2.1, u11.2.2.2.2.2.2.2.2.2.2.2.2.2.2.2.2)) H locs := hH
                  refine v_aload_n X dX7_drawn_135 rfl (lv_at hl 0 rfl) ?_
                  refine v_bipush (v := (108 : Int32)) X dX7_drawn_136 (by decide) ?_
                  refine v_iconst (v := (0 : Int32)) X dX7_drawn_138 (by decide) ?_
                  refine wrVV (As := [.int (108 : Int32), .int (0 : Int32)]) (rest := []) (wr := ([] : va_W)) X mv_X7_152 (c_X7_passes F.2.1 D K t o ((upd u11.1 ((109 : Int32) + x20).toNatClampNeg v23), u11.2.1, u11.2.2.1, u11.2.2.2.1, u11.2.2.2.2.1, u11.2.2.2.2.2.1, u11.2.2.2.2.2.2.1, u11.2.2.2.2.2.2.2.1, u11.2.2.2.2.2.2.2.2.1, u11.2.2.2.2.2.2.2.2.2.1, u11.2.2.2.2.2.2.2.2.2.2.1, u11.2.2.2.2.2.2.2.2.2.2.2.1, u11.2.2.2.2.2.2.2.2.2.2.2.2.1, u11.2.2.2.2.2.2.2.2.2.2.2.2.2.1, u11.2.2.2.2.2.2.2.2.2.2.2.2.2.2.1, u11.2.2.2.2.2.2.2.2.2.2.2.2.2.2.2.1, u11.2.2.2.2.2.2.2.2.2.2.2.2.2.2.2.2) (108 : Int32) (0 : Int32) _ h) hF ⟨rfl, rfl, Nat.le_of_ble_eq_true rfl, Nat.le_of_ble_eq_true rfl⟩ hT hA hH [0, 1, 2, 3, 4, 5, 6, 7, 8, 9] [] ⟨rfl, rfl, rfl, rfl, by decide⟩ 0 rfl rfl hl.1 rfl rfl (Nat.le_of_ble_eq_true rfl) dX7_drawn_139 (fun u25 H locs h hH => ?_)
                  have hH : HH F D A (CX7 K o u25) H locs := hH
                  refine v_iload X dX7_drawn_142 (lv_at hl 4 rfl) ?_
                  refine v_aload_n X dX7_drawn_144 rfl (lv_at hl 0 rfl) ?_
                  refine v_bipush (v := (108 : Int32)) X dX7_drawn_145 (by decide) ?_
                  refine rdV (As := [.int (108 : Int32)]) (rest := [.int x9]) X mv_X7_155 (c_X7_restsIn F.2.1 D K t o u25 (108 : Int32) _ h) hF ⟨rfl, rfl, Nat.le_of_ble_eq_true rfl, Nat.le_of_ble_eq_true rfl⟩ (stW hT hH) hH.1 [0, 1, 2, 3, 4, 5, 6, 7, 8, 9] rfl 0 rfl rfl hl.1 rfl rfl (Nat.le_of_ble_eq_true rfl) dX7_drawn_147 (fun r26 h => ?_)
                  refine rdS (As := [.int r26]) (rest := [.int x9]) X ms_X7_201 (c_X7_ones F.2.1 D K t r26 _ h) hF ⟨rfl, rfl, Nat.le_of_ble_eq_true rfl, Nat.le_of_ble_eq_true rfl⟩ (stW hT hH) hH.1 [] rfl hl.1 rfl rfl (Nat.le_of_ble_eq_true rfl) dX7_drawn_150 (fun r27 h => ?_)
                  refine v_iadd X dX7_drawn_153 ?_
                  refine v_topi (fun x28 ex28 => ?_)
                  have h := h x28 ex28
                  refine v_istore (lv' := [(6, .int x28), (0, .ref (o 0)), (1, .int a0), (3, .int a2), (4, .long x19), (7, .int x10)]) X dX7_drawn_154 hl (by decide) rfl (fun ls hl => ?_)
                  refine v_iinc (v := (x10 + (1 : Int32))) (lv' := [(7, .int (x10 + (1 : Int32))), (6, .int x28), (0, .ref (o 0)), (1, .int a0), (3, .int a2), (4, .long x19)]) X dX7_drawn_156 hl (k := 5) rfl rfl (by decide) rfl (fun ls hl => ?_)
                  refine v_goto (tgt := 59) X dX7_drawn_159 (by decide) ?_
                  exact ih59 x19 x28 (x10 + (1 : Int32)) u25 ls H locs h (lv_sub hl [2, 3, 4, 5, 1, 0] rfl) hH
                have h : (x21 ≤ (99 : Int32) → J22 x21) ∧ (¬ x21 ≤ (99 : Int32) → J22 (99 : Int32)) := by rw [hJ22]; exact h
                refine v_icmp_le (tgt := 132) X dX7_drawn_124 (by decide) (fun c29 => ?_) (fun c29 => ?_)
                · have h := h.1 c29
                  refine v_iload X dX7_drawn_132 (lv_at hl 0 rfl) ?_
                  exact kJ22 x21 ls H locs h (lv_sub hl [3, 4, 5, 2, 6, 7] rfl) hH
                · have h := h.2 c29
                  refine v_bipush (v := (99 : Int32)) X dX7_drawn_127 (by decide) ?_
                  refine v_goto (tgt := 134) X dX7_drawn_129 (by decide) ?_
                  exact kJ22 (99 : Int32) ls H locs h (lv_sub hl [3, 4, 5, 2, 6, 7] rfl) hH
          obtain ⟨n59, h⟩ := h
          have h : wL_X7_drawn_59 a0 a2 post Kx59 n59 x7 (0 : Int32) (0 : Int32) u6 := by rw [hK59]; exact h
          exact lp59 n59 x7 (0 : Int32) (0 : Int32) u6 ls H locs h (lv_sub hl [3, 4, 6, 2, 1, 0] rfl) hH
        · have h := h.1 c31
          refine v_ldc X kc_X7_55 dX7_drawn_39 ?_
          exact v_wiret X hF u hH h dX7_drawn_41
  · have h := h.1 c34
    refine v_ldc X kc_X7_146 dX7_drawn_7 ?_
    exact v_wiret X hF u hH h dX7_drawn_9
def w_X7_image (u : BX7) (a0 : Int32) (post : Int32 → BX7 → Prop) : Prop := w_X7_in a0.toInt64 (0 : Int64) (1 : Int64) (fun r1 => (r1 = 0 → post (-1000001 : Int32) u) ∧ (¬ r1 = 0 → w_X7_isAgency u (fun r2 => (r2 = 0 → post (-1000002 : Int32) u) ∧ (¬ r2 = 0 → w_X7_copyAll u (0 : Int32) ((36 : Int32) * ((1 : Int32) + a0)) (fun u4 => vp_in a0 2 ∧ (post (1 : Int32) (u4.1, (upd u4.2.1 a0.toNatClampNeg (vp_nar .boolean (1 : Int32))), u4.2.2.1, u4.2.2.2.1, u4.2.2.2.2.1, u4.2.2.2.2.2.1, u4.2.2.2.2.2.2.1, u4.2.2.2.2.2.2.2.1, u4.2.2.2.2.2.2.2.2.1, u4.2.2.2.2.2.2.2.2.2.1, u4.2.2.2.2.2.2.2.2.2.2.1, u4.2.2.2.2.2.2.2.2.2.2.2.1, u4.2.2.2.2.2.2.2.2.2.2.2.2.1, u4.2.2.2.2.2.2.2.2.2.2.2.2.2.1, u4.2.2.2.2.2.2.2.2.2.2.2.2.2.2.1, u4.2.2.2.2.2.2.2.2.2.2.2.2.2.2.2.1, u4.2.2.2.2.2.2.2.2.2.2.2.2.2.2.2.2)))))))
set_option maxHeartbeats 4000000 in
set_option maxRecDepth 100000 in
theorem c_X7_image (l : Launch) (D : va_G) (K : Nat → ClassId) (t : Nat → Nat) (o : Nat → Nat) (u : BX7) (a0 : Int32) (post : Int32 → BX7 → Prop) (h : w_X7_image u a0 post) : WrI l yX7_image cX7_image 2 (some .int) ({ frames := 1, cells := 0, slots := 0, locals := 25 } : Room) D (TY K) t (CX7 K o u) [.ref (o 0), .int a0] (fun z : BX7 => CX7 K o z) (fun (r : Int32) (z : BX7) => post r z) := by
  refine WrI.mk rfl (Nat.le_of_ble_eq_true rfl) ?_
  intro F ls A _ hF X hH hA hl hT
  obtain ⟨H, hH0⟩ : ∃ z : Heap, z = (fxS F).heap := ⟨_, rfl⟩
  obtain ⟨locs, hL0⟩ : ∃ z : List Loc, z = [] := ⟨_, rfl⟩
  have hH : HH F D A (CX7 K o u) H locs := by rw [hH0, hL0]; exact hH
  suffices goal : V F (WQI F D (TY K) A (fun z : BX7 => CX7 K o z) (fun (r : Int32) (z : BX7) => post r z)) H locs 0 ls [] by rw [hH0, hL0] at goal; exact goal
  clear hH0 hL0
  have X : Cx F cX7_image 2 RX7 D (TY K) := X
  have hl : lv_has ls 2 [(0, .ref (o 0)), (1, .int a0)] := hl
  unfold w_X7_image at h
  refine v_iload_n X dX7_image_0 rfl (lv_at hl 1 rfl) ?_
  refine v_i2l X dX7_image_1 rfl ?_
  refine v_lconst (v := (0 : Int64)) X dX7_image_2 (by decide) ?_
  refine v_lconst (v := (1 : Int64)) X dX7_image_3 (by decide) ?_
  refine rdS (As := [.long a0.toInt64, .long (0 : Int64), .long (1 : Int64)]) (rest := []) X ms_X7_45 (c_X7_in F.2.1 D K t a0.toInt64 (0 : Int64) (1 : Int64) _ h) hF ⟨rfl, rfl, Nat.le_of_ble_eq_true rfl, Nat.le_of_ble_eq_true rfl⟩ (stW hT hH) hH.1 [] rfl hl.1 rfl rfl (Nat.le_of_ble_eq_true rfl) dX7_image_4 (fun r1 h => ?_)
  refine v_if_ne (tgt := 13) X dX7_image_7 (by decide) (fun c6 => ?_) (fun c6 => ?_)
  · have h := h.2 c6
    refine v_aload_n X dX7_image_13 rfl (lv_at hl 0 rfl) ?_
    refine rdV (As := []) (rest := []) X mv_X7_143 (c_X7_isAgency F.2.1 D K t o u _ h) hF ⟨rfl, rfl, Nat.le_of_ble_eq_true rfl, Nat.le_of_ble_eq_true rfl⟩ (stW hT hH) hH.1 [0, 1, 2, 3, 4, 5, 6, 7, 8, 9] rfl 0 rfl rfl hl.1 rfl rfl (Nat.le_of_ble_eq_true rfl) dX7_image_14 (fun r2 h => ?_)
    refine v_if_ne (tgt := 23) X dX7_image_17 (by decide) (fun c5 => ?_) (fun c5 => ?_)
    · have h := h.2 c5
      refine v_aload_n X dX7_image_23 rfl (lv_at hl 0 rfl) ?_
      refine v_iconst (v := (0 : Int32)) X dX7_image_24 (by decide) ?_
      refine v_bipush (v := (36 : Int32)) X dX7_image_25 (by decide) ?_
      refine v_iconst (v := (1 : Int32)) X dX7_image_27 (by decide) ?_
      refine v_iload_n X dX7_image_28 rfl (lv_at hl 1 rfl) ?_
      refine v_iadd X dX7_image_29 ?_
      refine v_imul X dX7_image_30 ?_
      refine wrVV (As := [.int (0 : Int32), .int ((36 : Int32) * ((1 : Int32) + a0))]) (rest := []) (wr := ([] : va_W)) X mv_X7_119 (c_X7_copyAll F.2.1 D K t o u (0 : Int32) ((36 : Int32) * ((1 : Int32) + a0)) _ h) hF ⟨rfl, rfl, Nat.le_of_ble_eq_true rfl, Nat.le_of_ble_eq_true rfl⟩ hT hA hH [0, 1, 2, 3, 4, 5, 6, 7, 8, 9] [] ⟨rfl, rfl, rfl, rfl, by decide⟩ 0 rfl rfl hl.1 rfl rfl (Nat.le_of_ble_eq_true rfl) dX7_image_31 (fun u4 H locs h hH => ?_)
      have hH : HH F D A (CX7 K o u4) H locs := hH
      refine v_aload_n X dX7_image_34 rfl (lv_at hl 0 rfl) ?_
      refine v_get (v := .ref (o 2)) X hH.1 0 rfl fk_X7_13 rfl dX7_image_35 ?_
      refine v_iload_n X dX7_image_38 rfl (lv_at hl 1 rfl) ?_
      refine v_iconst (v := (1 : Int32)) X dX7_image_39 (by decide) ?_
      have hin := h.1
      have h := h.2
      refine v_zast (f := u4.2.1) X hH 2 1 rfl rfl hin dX7_image_40 (fun H locs hH => ?_)
      have hH : HH F D A (CX7 K o (u4.1, (upd u4.2.1 a0.toNatClampNeg (vp_nar .boolean (1 : Int32))), u4.2.2.1, u4.2.2.2.1, u4.2.2.2.2.1, u4.2.2.2.2.2.1, u4.2.2.2.2.2.2.1, u4.2.2.2.2.2.2.2.1, u4.2.2.2.2.2.2.2.2.1, u4.2.2.2.2.2.2.2.2.2.1, u4.2.2.2.2.2.2.2.2.2.2.1, u4.2.2.2.2.2.2.2.2.2.2.2.1, u4.2.2.2.2.2.2.2.2.2.2.2.2.1, u4.2.2.2.2.2.2.2.2.2.2.2.2.2.1, u4.2.2.2.2.2.2.2.2.2.2.2.2.2.2.1, u4.2.2.2.2.2.2.2.2.2.2.2.2.2.2.2.1, u4.2.2.2.2.2.2.2.2.2.2.2.2.2.2.2.2)) H locs := hH
      refine v_iconst (v := (1 : Int32)) X dX7_image_41 (by decide) ?_
      exact v_wiret X hF (u4.1, (upd u4.2.1 a0.toNatClampNeg (vp_nar .boolean (1 : Int32))), u4.2.2.1, u4.2.2.2.1, u4.2.2.2.2.1, u4.2.2.2.2.2.1, u4.2.2.2.2.2.2.1, u4.2.2.2.2.2.2.2.1, u4.2.2.2.2.2.2.2.2.1, u4.2.2.2.2.2.2.2.2.2.1, u4.2.2.2.2.2.2.2.2.2.2.1, u4.2.2.2.2.2.2.2.2.2.2.2.1, u4.2.2.2.2.2.2.2.2.2.2.2.2.1, u4.2.2.2.2.2.2.2.2.2.2.2.2.2.1, u4.2.2.2.2.2.2.2.2.2.2.2.2.2.2.1, u4.2.2.2.2.2.2.2.2.2.2.2.2.2.2.2.1, u4.2.2.2.2.2.2.2.2.2.2.2.2.2.2.2.2) hH h dX7_image_42
    · have h := h.1 c5
      refine v_ldc X kc_X7_146 dX7_image_20 ?_
      exact v_wiret X hF u hH h dX7_image_22
  · have h := h.1 c6
    refine v_ldc X kc_X7_55 dX7_image_10 ?_
    exact v_wiret X hF u hH h dX7_image_12
def w_X7_restore (u : BX7) (a0 : Int32) (post : Int32 → BX7 → Prop) : Prop := w_X7_in a0.toInt64 (0 : Int64) (1 : Int64) (fun r1 => (r1 = 0 → post (-1000001 : Int32) u) ∧ (¬ r1 = 0 → vp_in a0 2 ∧ (((u.2.1 a0.toNatClampNeg) = 0 → post (-1000002 : Int32) u) ∧ (¬ (u.2.1 a0.toNatClampNeg) = 0 → w_X7_copyAll u ((36 : Int32) * ((1 : Int32) + a0)) (0 : Int32) (fun u3 => post (1 : Int32) (u3.1, u3.2.1, u3.2.2.1, (0 : Int32), u3.2.2.2.2.1, u3.2.2.2.2.2.1, u3.2.2.2.2.2.2.1, u3.2.2.2.2.2.2.2.1, u3.2.2.2.2.2.2.2.2.1, u3.2.2.2.2.2.2.2.2.2.1, u3.2.2.2.2.2.2.2.2.2.2.1, u3.2.2.2.2.2.2.2.2.2.2.2.1, u3.2.2.2.2.2.2.2.2.2.2.2.2.1, u3.2.2.2.2.2.2.2.2.2.2.2.2.2.1, u3.2.2.2.2.2.2.2.2.2.2.2.2.2.2.1, u3.2.2.2.2.2.2.2.2.2.2.2.2.2.2.2.1, u3.2.2.2.2.2.2.2.2.2.2.2.2.2.2.2.2))))))
set_option maxHeartbeats 4000000 in
set_option maxRecDepth 100000 in
theorem c_X7_restore (l : Launch) (D : va_G) (K : Nat → ClassId) (t : Nat → Nat) (o : Nat → Nat) (u : BX7) (a0 : Int32) (post : Int32 → BX7 → Prop) (h : w_X7_restore u a0 post) : WrI l yX7_restore cX7_restore 2 (some .int) ({ frames := 1, cells := 0, slots := 0, locals := 25 } : Room) D (TY K) t (CX7 K o u) [.ref (o 0), .int a0] (fun z : BX7 => CX7 K o z) (fun (r : Int32) (z : BX7) => post r z) := by
  refine WrI.mk rfl (Nat.le_of_ble_eq_true rfl) ?_
  intro F ls A _ hF X hH hA hl hT
  obtain ⟨H, hH0⟩ : ∃ z : Heap, z = (fxS F).heap := ⟨_, rfl⟩
  obtain ⟨locs, hL0⟩ : ∃ z : List Loc, z = [] := ⟨_, rfl⟩
  have hH : HH F D A (CX7 K o u) H locs := by rw [hH0, hL0]; exact hH
  suffices goal : V F (WQI F D (TY K) A (fun z : BX7 => CX7 K o z) (fun (r : Int32) (z : BX7) => post r z)) H locs 0 ls [] by rw [hH0, hL0] at goal; exact goal
  clear hH0 hL0
  have X : Cx F cX7_restore 2 RX7 D (TY K) := X
  have hl : lv_has ls 2 [(0, .ref (o 0)), (1, .int a0)] := hl
  unfold w_X7_restore at h
  refine v_iload_n X dX7_restore_0 rfl (lv_at hl 1 rfl) ?_
  refine v_i2l X dX7_restore_1 rfl ?_
  refine v_lconst (v := (0 : Int64)) X dX7_restore_2 (by decide) ?_
  refine v_lconst (v := (1 : Int64)) X dX7_restore_3 (by decide) ?_
  refine rdS (As := [.long a0.toInt64, .long (0 : Int64), .long (1 : Int64)]) (rest := []) X ms_X7_45 (c_X7_in F.2.1 D K t a0.toInt64 (0 : Int64) (1 : Int64) _ h) hF ⟨rfl, rfl, Nat.le_of_ble_eq_true rfl, Nat.le_of_ble_eq_true rfl⟩ (stW hT hH) hH.1 [] rfl hl.1 rfl rfl (Nat.le_of_ble_eq_true rfl) dX7_restore_4 (fun r1 h => ?_)
  refine v_if_ne (tgt := 13) X dX7_restore_7 (by decide) (fun c5 => ?_) (fun c5 => ?_)
  · have h := h.2 c5
    refine v_aload_n X dX7_restore_13 rfl (lv_at hl 0 rfl) ?_
    refine v_get (v := .ref (o 2)) X hH.1 0 rfl fk_X7_13 rfl dX7_restore_14 ?_
    refine v_iload_n X dX7_restore_17 rfl (lv_at hl 1 rfl) ?_
    have hin := h.1
    have h := h.2
    refine v_zald (f := u.2.1) X hH.1 2 1 rfl rfl hin dX7_restore_18 ?_
    refine v_if_ne (tgt := 25) X dX7_restore_19 (by decide) (fun c4 => ?_) (fun c4 => ?_)
    · have h := h.2 c4
      refine v_aload_n X dX7_restore_25 rfl (lv_at hl 0 rfl) ?_
      refine v_bipush (v := (36 : Int32)) X dX7_restore_26 (by decide) ?_
      refine v_iconst (v := (1 : Int32)) X dX7_restore_28 (by decide) ?_
      refine v_iload_n X dX7_restore_29 rfl (lv_at hl 1 rfl) ?_
      refine v_iadd X dX7_restore_30 ?_
      refine v_imul X dX7_restore_31 ?_
      refine v_iconst (v := (0 : Int32)) X dX7_restore_32 (by decide) ?_
      refine wrVV (As := [.int ((36 : Int32) * ((1 : Int32) + a0)), .int (0 : Int32)]) (rest := []) (wr := ([] : va_W)) X mv_X7_119 (c_X7_copyAll F.2.1 D K t o u ((36 : Int32) * ((1 : Int32) + a0)) (0 : Int32) _ h) hF ⟨rfl, rfl, Nat.le_of_ble_eq_true rfl, Nat.le_of_ble_eq_true rfl⟩ hT hA hH [0, 1, 2, 3, 4, 5, 6, 7, 8, 9] [] ⟨rfl, rfl, rfl, rfl, by decide⟩ 0 rfl rfl hl.1 rfl rfl (Nat.le_of_ble_eq_true rfl) dX7_restore_33 (fun u3 H locs h hH => ?_)
      have hH : HH F D A (CX7 K o u3) H locs := hH
      refine v_aload_n X dX7_restore_36 rfl (lv_at hl 0 rfl) ?_
      refine v_iconst (v := (0 : Int32)) X dX7_restore_37 (by decide) ?_
      refine v_put X hH 0 rfl fi_X7_123 (Nat.le_of_ble_eq_true rfl) dX7_restore_38 (fun H locs hH => ?_)
      have hH : HH F D A (CX7 K o (u3.1, u3.2.1, u3.2.2.1, (0 : Int32), u3.2.2.2.2.1, u3.2.2.2.2.2.1, u3.2.2.2.2.2.2.1, u3.2.2.2.2.2.2.2.1, u3.2.2.2.2.2.2.2.2.1, u3.2.2.2.2.2.2.2.2.2.1, u3.2.2.2.2.2.2.2.2.2.2.1, u3.2.2.2.2.2.2.2.2.2.2.2.1, u3.2.2.2.2.2.2.2.2.2.2.2.2.1, u3.2.2.2.2.2.2.2.2.2.2.2.2.2.1, u3.2.2.2.2.2.2.2.2.2.2.2.2.2.2.1, u3.2.2.2.2.2.2.2.2.2.2.2.2.2.2.2.1, u3.2.2.2.2.2.2.2.2.2.2.2.2.2.2.2.2)) H locs := hH
      refine v_iconst (v := (1 : Int32)) X dX7_restore_41 (by decide) ?_
      exact v_wiret X hF (u3.1, u3.2.1, u3.2.2.1, (0 : Int32), u3.2.2.2.2.1, u3.2.2.2.2.2.1, u3.2.2.2.2.2.2.1, u3.2.2.2.2.2.2.2.1, u3.2.2.2.2.2.2.2.2.1, u3.2.2.2.2.2.2.2.2.2.1, u3.2.2.2.2.2.2.2.2.2.2.1, u3.2.2.2.2.2.2.2.2.2.2.2.1, u3.2.2.2.2.2.2.2.2.2.2.2.2.1, u3.2.2.2.2.2.2.2.2.2.2.2.2.2.1, u3.2.2.2.2.2.2.2.2.2.2.2.2.2.2.1, u3.2.2.2.2.2.2.2.2.2.2.2.2.2.2.2.1, u3.2.2.2.2.2.2.2.2.2.2.2.2.2.2.2.2) hH h dX7_restore_42
    · have h := h.1 c4
      refine v_ldc X kc_X7_146 dX7_restore_22 ?_
      exact v_wiret X hF u hH h dX7_restore_24
  · have h := h.1 c5
    refine v_ldc X kc_X7_55 dX7_restore_10 ?_
    exact v_wiret X hF u hH h dX7_restore_12
def w_X7_kind (u : BX7) (a0 : Int32) (post : Int32 → Prop) : Prop := w_X7_isWaker u a0 (fun r1 => (r1 = 0 → post (-1000001 : Int32)) ∧ (¬ r1 = 0 → vp_in ((28 : Int32) + a0) 144 ∧ (post (u.1 ((28 : Int32) + a0).toNatClampNeg))))
set_option maxHeartbeats 4000000 in
set_option maxRecDepth 100000 in
theorem c_X7_kind (l : Launch) (D : va_G) (K : Nat → ClassId) (t : Nat → Nat) (o : Nat → Nat) (u : BX7) (a0 : Int32) (post : Int32 → Prop) (h : w_X7_kind u a0 post) : RdM l yX7_kind cX7_kind 2 (some .int) ({ frames := 2, cells := 0, slots := 0, locals := 46 } : Room) D (TY K) t (CX7 K o u) [.ref (o 0), .int a0] post := by
  refine RdM.mk rfl (Nat.le_of_ble_eq_true rfl) ?_
  intro F ls _ hF X hP hl hT
  have X : Cx F cX7_kind 2 RX7 D (TY K) := X
  have hl : lv_has ls 2 [(0, .ref (o 0)), (1, .int a0)] := hl
  unfold w_X7_kind at h
  refine v_aload_n X dX7_kind_0 rfl (lv_at hl 0 rfl) ?_
  refine v_iload_n X dX7_kind_1 rfl (lv_at hl 1 rfl) ?_
  refine rdV (As := [.int a0]) (rest := []) X mv_X7_158 (c_X7_isWaker F.2.1 D K t o u a0 _ h) hF ⟨rfl, rfl, Nat.le_of_ble_eq_true rfl, Nat.le_of_ble_eq_true rfl⟩ hT hP [0, 1, 2, 3, 4, 5, 6, 7, 8, 9] rfl 0 rfl rfl hl.1 rfl rfl (Nat.le_of_ble_eq_true rfl) dX7_kind_2 (fun r1 h => ?_)
  refine v_if_eq (tgt := 20) X dX7_kind_5 (by decide) (fun c2 => ?_) (fun c2 => ?_)
  · have h := h.1 c2
    refine v_ldc X kc_X7_55 dX7_kind_20 ?_
    exact v_riret X hF h dX7_kind_22
  · have h := h.2 c2
    refine v_aload_n X dX7_kind_8 rfl (lv_at hl 0 rfl) ?_
    refine v_get (v := .ref (o 1)) X hP 0 rfl fk_X7_7 rfl dX7_kind_9 ?_
    refine v_bipush (v := (28 : Int32)) X dX7_kind_12 (by decide) ?_
    refine v_iload_n X dX7_kind_14 rfl (lv_at hl 1 rfl) ?_
    refine v_iadd X dX7_kind_15 ?_
    have hin := h.1
    have h := h.2
    refine v_iald (f := u.1) X hP 1 0 rfl rfl hin dX7_kind_16 ?_
    refine v_goto (tgt := 22) X dX7_kind_17 (by decide) ?_
    exact v_riret X hF h dX7_kind_22
def w_X7_as (u : BX7) (a0 : Int32) (a1 : Int32) (post : Int32 → BX7 → Prop) : Prop := w_X7_isWaker u a0 (fun r1 => (r1 = 0 → post (-1000001 : Int32) u) ∧ (¬ r1 = 0 → w_X7_in a1.toInt64 (0 : Int64) (5 : Int64) (fun r2 => (r2 = 0 → post (-1000001 : Int32) u) ∧ (¬ r2 = 0 → vp_in ((28 : Int32) + a0) 144 ∧ (∀ x3 : Int32, x3 = (u.1 ((28 : Int32) + a0).toNatClampNeg) → wpJ (T := Int32 → Prop) (fun (v5 : Int32) => (v5 = 0 → w_X7_found u (3 : Int32) (fun r6 u7 => post r6 u7)) ∧ (¬ v5 = 0 → w_X7_good u a0 (fun r8 u9 => post r8 u9))) (fun J4 => wpJ (T := Unit → Prop) (fun (_ : Unit) => J4 (1 : Int32)) (fun J11 => (a1 = 0 → J11 ()) ∧ (¬ a1 = 0 → (a1 = x3 → J11 ()) ∧ (¬ a1 = x3 → (a1 = (1 : Int32) → (x3 < (4 : Int32) → J11 ()) ∧ (¬ x3 < (4 : Int32) → (a1 = (4 : Int32) → (x3 = (5 : Int32) → J11 ()) ∧ (¬ x3 = (5 : Int32) → J4 (0 : Int32))) ∧ (¬ a1 = (4 : Int32) → J4 (0 : Int32)))) ∧ (¬ a1 = (1 : Int32) → (a1 = (4 : Int32) → (x3 = (5 : Int32) → J11 ()) ∧ (¬ x3 = (5 : Int32) → J4 (0 : Int32))) ∧ (¬ a1 = (4 : Int32) → J4 (0 : Int32))))))))))))
set_option maxHeartbeats 4000000 in
set_option maxRecDepth 100000 in
theorem c_X7_as (l : Launch) (D : va_G) (K : Nat → ClassId) (t : Nat → Nat) (o : Nat → Nat) (u : BX7) (a0 : Int32) (a1 : Int32) (post : Int32 → BX7 → Prop) (h : w_X7_as u a0 a1 post) : WrI l yX7_as cX7_as 5 (some .int) ({ frames := 2, cells := 0, slots := 0, locals := 46 } : Room) D (TY K) t (CX7 K o u) [.ref (o 0), .int a0, .int a1] (fun z : BX7 => CX7 K o z) (fun (r : Int32) (z : BX7) => post r z) := by
  refine WrI.mk rfl (Nat.le_of_ble_eq_true rfl) ?_
  intro F ls A _ hF X hH hA hl hT
  obtain ⟨H, hH0⟩ : ∃ z : Heap, z = (fxS F).heap := ⟨_, rfl⟩
  obtain ⟨locs, hL0⟩ : ∃ z : List Loc, z = [] := ⟨_, rfl⟩
  have hH : HH F D A (CX7 K o u) H locs := by rw [hH0, hL0]; exact hH
  suffices goal : V F (WQI F D (TY K) A (fun z : BX7 => CX7 K o z) (fun (r : Int32) (z : BX7) => post r z)) H locs 0 ls [] by rw [hH0, hL0] at goal; exact goal
  clear hH0 hL0
  have X : Cx F cX7_as 5 RX7 D (TY K) := X
  have hl : lv_has ls 5 [(0, .ref (o 0)), (1, .int a0), (2, .int a1)] := hl
  unfold w_X7_as at h
  refine v_aload_n X dX7_as_0 rfl (lv_at hl 0 rfl) ?_
  refine v_iload_n X dX7_as_1 rfl (lv_at hl 1 rfl) ?_
  refine rdV (As := [.int a0]) (rest := []) X mv_X7_158 (c_X7_isWaker F.2.1 D K t o u a0 _ h) hF ⟨rfl, rfl, Nat.le_of_ble_eq_true rfl, Nat.le_of_ble_eq_true rfl⟩ (stW hT hH) hH.1 [0, 1, 2, 3, 4, 5, 6, 7, 8, 9] rfl 0 rfl rfl hl.1 rfl rfl (Nat.le_of_ble_eq_true rfl) dX7_as_2 (fun r1 h => ?_)
  refine v_if_eq (tgt := 20) X dX7_as_5 (by decide) (fun c21 => ?_) (fun c21 => ?_)
  · have h := h.1 c21
    refine v_ldc X kc_X7_55 dX7_as_20 ?_
    exact v_wiret X hF u hH h dX7_as_22
  · have h := h.2 c21
    refine v_iload_n X dX7_as_8 rfl (lv_at hl 2 rfl) ?_
    refine v_i2l X dX7_as_9 rfl ?_
    refine v_lconst (v := (0 : Int64)) X dX7_as_10 (by decide) ?_
    refine v_ldc2 X kc_X7_166 dX7_as_11 ?_
    refine rdS (As := [.long a1.toInt64, .long (0 : Int64), .long (5 : Int64)]) (rest := []) X ms_X7_45 (c_X7_in F.2.1 D K t a1.toInt64 (0 : Int64) (5 : Int64) _ h) hF ⟨rfl, rfl, Nat.le_of_ble_eq_true rfl, Nat.le_of_ble_eq_true rfl⟩ (stW hT hH) hH.1 [] rfl hl.1 rfl rfl (Nat.le_of_ble_eq_true rfl) dX7_as_14 (fun r2 h => ?_)
    refine v_if_ne (tgt := 23) X dX7_as_17 (by decide) (fun c20 => ?_) (fun c20 => ?_)
    · have h := h.2 c20
      refine v_aload_n X dX7_as_23 rfl (lv_at hl 0 rfl) ?_
      refine v_get (v := .ref (o 1)) X hH.1 0 rfl fk_X7_7 rfl dX7_as_24 ?_
      refine v_bipush (v := (28 : Int32)) X dX7_as_27 (by decide) ?_
      refine v_iload_n X dX7_as_29 rfl (lv_at hl 1 rfl) ?_
      refine v_iadd X dX7_as_30 ?_
      have hin := h.1
      have h := h.2
      refine v_iald (f := u.1) X hH.1 1 0 rfl rfl hin dX7_as_31 ?_
      refine v_topi (fun x3 ex3 => ?_)
      have h := h x3 ex3
      refine v_istore_n (lv' := [(3, .int x3), (0, .ref (o 0)), (1, .int a0), (2, .int a1)]) X dX7_as_32 rfl hl (by decide) rfl (fun ls hl => ?_)
      refine v_iload_n X dX7_as_33 rfl (lv_at hl 3 rfl) ?_
      obtain ⟨J4, hJ4⟩ : ∃ f : Int32 → Prop, f = (fun (v5 : Int32) => (v5 = 0 → w_X7_found u (3 : Int32) (fun r6 u7 => post r6 u7)) ∧ (¬ v5 = 0 → w_X7_good u a0 (fun r8 u9 => post r8 u9))) := ⟨_, rfl⟩
      have kJ4 : ∀ (v5 : Int32) (ls : Array Slot) (H : Heap) (locs : List Loc), (J4 v5) → lv_has ls 5 [(0, .ref (o 0)), (1, .int a0)] → HH F D A (CX7 K o u) H locs → V F (WQI F D (TY K) A (fun z : BX7 => CX7 K o z) (fun (r : Int32) (z : BX7) => post r z)) H locs 67 ls [.int v5] := by
        intro v5 ls H locs h hl hH
        have h : (v5 = 0 → w_X7_found u (3 : Int32) (fun r6 u7 => post r6 u7)) ∧ (¬ v5 = 0 → w_X7_good u a0 (fun r8 u9 => post r8 u9)) := by rw [hJ4] at h; exact h
        refine v_istore (lv' := [(4, .int v5), (0, .ref (o 0)), (1, .int a0)]) X dX7_as_67 hl (by decide) rfl (fun ls hl => ?_)
        refine v_iload X dX7_as_69 (lv_at hl 0 rfl) ?_
        refine v_if_eq (tgt := 82) X dX7_as_71 (by decide) (fun c10 => ?_) (fun c10 => ?_)
        · have h := h.1 c10
          refine v_aload_n X dX7_as_82 rfl (lv_at hl 1 rfl) ?_
          refine v_iconst (v := (3 : Int32)) X dX7_as_83 (by decide) ?_
          refine wrVI (As := [.int (3 : Int32)]) (rest := []) (wr := ([] : va_W)) X mv_X7_56 (c_X7_found F.2.1 D K t o u (3 : Int32) _ h) hF ⟨rfl, rfl, Nat.le_of_ble_eq_true rfl, Nat.le_of_ble_eq_true rfl⟩ hT hA hH [0, 1, 2, 3, 4, 5, 6, 7, 8, 9] [] ⟨rfl, rfl, rfl, rfl, by decide⟩ 0 rfl rfl hl.1 rfl rfl (Nat.le_of_ble_eq_true rfl) dX7_as_84 (fun r6 u7 H locs h hH => ?_)
          have hH : HH F D A (CX7 K o u7) H locs := hH
          exact v_wiret X hF u7 hH h dX7_as_87
        · have h := h.2 c10
          refine v_aload_n X dX7_as_74 rfl (lv_at hl 1 rfl) ?_
          refine v_iload_n X dX7_as_75 rfl (lv_at hl 2 rfl) ?_
          refine wrVI (As := [.int a0]) (rest := []) (wr := ([] : va_W)) X mv_X7_60 (c_X7_good F.2.1 D K t o u a0 _ h) hF ⟨rfl, rfl, Nat.le_of_ble_eq_true rfl, Nat.le_of_ble_eq_true rfl⟩ hT hA hH [0, 1, 2, 3, 4, 5, 6, 7, 8, 9] [] ⟨rfl, rfl, rfl, rfl, by decide⟩ 0 rfl rfl hl.1 rfl rfl (Nat.le_of_ble_eq_true rfl) dX7_as_76 (fun r8 u9 H locs h hH => ?_)
          have hH : HH F D A (CX7 K o u9) H locs := hH
          refine v_goto (tgt := 87) X dX7_as_79 (by decide) ?_
          exact v_wiret X hF u9 hH h dX7_as_87
      have h : wpJ (T := Unit → Prop) (fun (_ : Unit) => J4 (1 : Int32)) (fun J11 => (a1 = 0 → J11 ()) ∧ (¬ a1 = 0 → (a1 = x3 → J11 ()) ∧ (¬ a1 = x3 → (a1 = (1 : Int32) → (x3 < (4 : Int32) → J11 ()) ∧ (¬ x3 < (4 : Int32) → (a1 = (4 : Int32) → (x3 = (5 : Int32) → J11 ()) ∧ (¬ x3 = (5 : Int32) → J4 (0 : Int32))) ∧ (¬ a1 = (4 : Int32) → J4 (0 : Int32)))) ∧ (¬ a1 = (1 : Int32) → (a1 = (4 : Int32) → (x3 = (5 : Int32) → J11 ()) ∧ (¬ x3 = (5 : Int32) → J4 (0 : Int32))) ∧ (¬ a1 = (4 : Int32) → J4 (0 : Int32)))))) := by rw [hJ4]; exact h
      obtain ⟨J11, hJ11⟩ : ∃ f : Unit → Prop, f = (fun (_ : Unit) => J4 (1 : Int32)) := ⟨_, rfl⟩
      have kJ11 : ∀ (ls : Array Slot) (H : Heap) (locs : List Loc), (J11 ()) → lv_has ls 5 [(0, .ref (o 0)), (1, .int a0)] → HH F D A (CX7 K o u) H locs → V F (WQI F D (TY K) A (fun z : BX7 => CX7 K o z) (fun (r : Int32) (z : BX7) => post r z)) H locs 62 ls [] := by
        intro ls H locs h hl hH
        have h : J4 (1 : Int32) := by rw [hJ11] at h; exact h
        refine v_iconst (v := (1 : Int32)) X dX7_as_62 (by decide) ?_
        refine v_goto (tgt := 67) X dX7_as_63 (by decide) ?_
        exact kJ4 (1 : Int32) ls H locs h (lv_sub hl [0, 1] rfl) hH
      have h : (a1 = 0 → J11 ()) ∧ (¬ a1 = 0 → (a1 = x3 → J11 ()) ∧ (¬ a1 = x3 → (a1 = (1 : Int32) → (x3 < (4 : Int32) → J11 ()) ∧ (¬ x3 < (4 : Int32) → (a1 = (4 : Int32) → (x3 = (5 : Int32) → J11 ()) ∧ (¬ x3 = (5 : Int32) → J4 (0 : Int32))) ∧ (¬ a1 = (4 : Int32) → J4 (0 : Int32)))) ∧ (¬ a1 = (1 : Int32) → (a1 = (4 : Int32) → (x3 = (5 : Int32) → J11 ()) ∧ (¬ x3 = (5 : Int32) → J4 (0 : Int32))) ∧ (¬ a1 = (4 : Int32) → J4 (0 : Int32))))) := by rw [hJ11]; exact h
      refine v_if_eq (tgt := 62) X dX7_as_34 (by decide) (fun c19 => ?_) (fun c19 => ?_)
      · have h := h.1 c19
        exact kJ11  ls H locs h (lv_sub hl [1, 2] rfl) hH
      · have h := h.2 c19
        refine v_iload_n X dX7_as_37 rfl (lv_at hl 3 rfl) ?_
        refine v_iload_n X dX7_as_38 rfl (lv_at hl 0 rfl) ?_
        refine v_icmp_eq (tgt := 62) X dX7_as_39 (by decide) (fun c18 => ?_) (fun c18 => ?_)
        · have h := h.1 c18
          exact kJ11  ls H locs h (lv_sub hl [1, 2] rfl) hH
        · have h := h.2 c18
          refine v_iload_n X dX7_as_42 rfl (lv_at hl 3 rfl) ?_
          refine v_iconst (v := (1 : Int32)) X dX7_as_43 (by decide) ?_
          refine v_icmp_ne (tgt := 52) X dX7_as_44 (by decide) (fun c17 => ?_) (fun c17 => ?_)
          · have h := h.2 c17
            refine v_iload_n X dX7_as_52 rfl (lv_at hl 3 rfl) ?_
            refine v_iconst (v := (4 : Int32)) X dX7_as_53 (by decide) ?_
            refine v_icmp_ne (tgt := 66) X dX7_as_54 (by decide) (fun c13 => ?_) (fun c13 => ?_)
            · have h := h.2 c13
              refine v_iconst (v := (0 : Int32)) X dX7_as_66 (by decide) ?_
              exact kJ4 (0 : Int32) ls H locs h (lv_sub hl [1, 2] rfl) hH
            · have h := h.1 c13
              refine v_iload_n X dX7_as_57 rfl (lv_at hl 0 rfl) ?_
              refine v_iconst (v := (5 : Int32)) X dX7_as_58 (by decide) ?_
              refine v_icmp_ne (tgt := 66) X dX7_as_59 (by decide) (fun c12 => ?_) (fun c12 => ?_)
              · have h := h.2 c12
                refine v_iconst (v := (0 : Int32)) X dX7_as_66 (by decide) ?_
                exact kJ4 (0 : Int32) ls H locs h (lv_sub hl [1, 2] rfl) hH
              · have h := h.1 c12
                exact kJ11  ls H locs h (lv_sub hl [1, 2] rfl) hH
          · have h := h.1 c17
            refine v_iload_n X dX7_as_47 rfl (lv_at hl 0 rfl) ?_
            refine v_iconst (v := (4 : Int32)) X dX7_as_48 (by decide) ?_
            refine v_icmp_lt (tgt := 62) X dX7_as_49 (by decide) (fun c16 => ?_) (fun c16 => ?_)
            · have h := h.1 c16
              exact kJ11  ls H locs h (lv_sub hl [1, 2] rfl) hH
            · have h := h.2 c16
              refine v_iload_n X dX7_as_52 rfl (lv_at hl 3 rfl) ?_
              refine v_iconst (v := (4 : Int32)) X dX7_as_53 (by decide) ?_
              refine v_icmp_ne (tgt := 66) X dX7_as_54 (by decide) (fun c15 => ?_) (fun c15 => ?_)
              · have h := h.2 c15
                refine v_iconst (v := (0 : Int32)) X dX7_as_66 (by decide) ?_
                exact kJ4 (0 : Int32) ls H locs h (lv_sub hl [1, 2] rfl) hH
              · have h := h.1 c15
                refine v_iload_n X dX7_as_57 rfl (lv_at hl 0 rfl) ?_
                refine v_iconst (v := (5 : Int32)) X dX7_as_58 (by decide) ?_
                refine v_icmp_ne (tgt := 66) X dX7_as_59 (by decide) (fun c14 => ?_) (fun c14 => ?_)
                · have h := h.2 c14
                  refine v_iconst (v := (0 : Int32)) X dX7_as_66 (by decide) ?_
                  exact kJ4 (0 : Int32) ls H locs h (lv_sub hl [1, 2] rfl) hH
                · have h := h.1 c14
                  exact kJ11  ls H locs h (lv_sub hl [1, 2] rfl) hH
    · have h := h.1 c20
      refine v_ldc X kc_X7_55 dX7_as_20 ?_
      exact v_wiret X hF u hH h dX7_as_22
def w_X7_leaves (u : BX7) (a0 : Int32) (post : BX7 → Prop) : Prop := ((16 : Int32) ≤ u.2.2.2.2.2.2.2.2.2.2.2.2.1 → post u) ∧ (¬ (16 : Int32) ≤ u.2.2.2.2.2.2.2.2.2.2.2.2.1 → vp_in u.2.2.2.2.2.2.2.2.2.2.2.2.1 16 ∧ (post (u.1, u.2.1, u.2.2.1, u.2.2.2.1, u.2.2.2.2.1, u.2.2.2.2.2.1, u.2.2.2.2.2.2.1, u.2.2.2.2.2.2.2.1, u.2.2.2.2.2.2.2.2.1, u.2.2.2.2.2.2.2.2.2.1, u.2.2.2.2.2.2.2.2.2.2.1, (upd u.2.2.2.2.2.2.2.2.2.2.2.1 u.2.2.2.2.2.2.2.2.2.2.2.2.1.toNatClampNeg a0), (u.2.2.2.2.2.2.2.2.2.2.2.2.1 + (1 : Int32)), u.2.2.2.2.2.2.2.2.2.2.2.2.2.1, u.2.2.2.2.2.2.2.2.2.2.2.2.2.2.1, u.2.2.2.2.2.2.2.2.2.2.2.2.2.2.2.1, u.2.2.2.2.2.2.2.2.2.2.2.2.2.2.2.2)))
set_option maxHeartbeats 4000000 in
set_option maxRecDepth 100000 in
theorem c_X7_leaves (l : Launch) (D : va_G) (K : Nat → ClassId) (t : Nat → Nat) (o : Nat → Nat) (u : BX7) (a0 : Int32) (post : BX7 → Prop) (h : w_X7_leaves u a0 post) : WrV l yX7_leaves cX7_leaves 2 ({ frames := 0, cells := 0, slots := 0, locals := 0 } : Room) D (TY K) t (CX7 K o u) [.ref (o 0), .int a0] (fun z : BX7 => CX7 K o z) (fun z : BX7 => post z) := by
  refine WrV.mk rfl (Nat.le_of_ble_eq_true rfl) ?_
  intro F ls A _ hF X hH hA hl hT
  obtain ⟨H, hH0⟩ : ∃ z : Heap, z = (fxS F).heap := ⟨_, rfl⟩
  obtain ⟨locs, hL0⟩ : ∃ z : List Loc, z = [] := ⟨_, rfl⟩
  have hH : HH F D A (CX7 K o u) H locs := by rw [hH0, hL0]; exact hH
  suffices goal : V F (WQV F D (TY K) A (fun z : BX7 => CX7 K o z) (fun z : BX7 => post z)) H locs 0 ls [] by rw [hH0, hL0] at goal; exact goal
  clear hH0 hL0
  have X : Cx F cX7_leaves 2 RX7 D (TY K) := X
  have hl : lv_has ls 2 [(0, .ref (o 0)), (1, .int a0)] := hl
  unfold w_X7_leaves at h
  refine v_aload_n X dX7_leaves_0 rfl (lv_at hl 0 rfl) ?_
  refine v_get (v := .int u.2.2.2.2.2.2.2.2.2.2.2.2.1) X hH.1 0 rfl fk_X7_225 rfl dX7_leaves_1 ?_
  refine v_bipush (v := (16 : Int32)) X dX7_leaves_4 (by decide) ?_
  refine v_icmp_ge (tgt := 29) X dX7_leaves_6 (by decide) (fun c1 => ?_) (fun c1 => ?_)
  · have h := h.1 c1
    exact v_wvret X hF u hH h dX7_leaves_29
  · have h := h.2 c1
    refine v_aload_n X dX7_leaves_9 rfl (lv_at hl 0 rfl) ?_
    refine v_get (v := .ref (o 8)) X hH.1 0 rfl fk_X7_32 rfl dX7_leaves_10 ?_
    refine v_aload_n X dX7_leaves_13 rfl (lv_at hl 0 rfl) ?_
    refine v_get (v := .int u.2.2.2.2.2.2.2.2.2.2.2.2.1) X hH.1 0 rfl fk_X7_225 rfl dX7_leaves_14 ?_
    refine v_iload_n X dX7_leaves_17 rfl (lv_at hl 1 rfl) ?_
    have hin := h.1
    have h := h.2
    refine v_iast (f := u.2.2.2.2.2.2.2.2.2.2.2.1) X hH 8 0 rfl rfl hin dX7_leaves_18 (fun H locs hH => ?_)
    have hH : HH F D A (CX7 K o (u.1, u.2.1, u.2.2.1, u.2.2.2.1, u.2.2.2.2.1, u.2.2.2.2.2.1, u.2.2.2.2.2.2.1, u.2.2.2.2.2.2.2.1, u.2.2.2.2.2.2.2.2.1, u.2.2.2.2.2.2.2.2.2.1, u.2.2.2.2.2.2.2.2.2.2.1, (upd u.2.2.2.2.2.2.2.2.2.2.2.1 u.2.2.2.2.2.2.2.2.2.2.2.2.1.toNatClampNeg a0), u.2.2.2.2.2.2.2.2.2.2.2.2.1, u.2.2.2.2.2.2.2.2.2.2.2.2.2.1, u.2.2.2.2.2.2.2.2.2.2.2.2.2.2.1, u.2.2.2.2.2.2.2.2.2.2.2.2.2.2.2.1, u.2.2.2.2.2.2.2.2.2.2.2.2.2.2.2.2)) H locs := hH
    refine v_aload_n X dX7_leaves_19 rfl (lv_at hl 0 rfl) ?_
    refine v_dup X dX7_leaves_20 rfl ?_
    refine v_get (v := .int u.2.2.2.2.2.2.2.2.2.2.2.2.1) X hH.1 0 rfl fk_X7_225 rfl dX7_leaves_21 ?_
    refine v_iconst (v := (1 : Int32)) X dX7_leaves_24 (by decide) ?_
    refine v_iadd X dX7_leaves_25 ?_
    refine v_put X hH 0 rfl fi_X7_225 (Nat.le_of_ble_eq_true rfl) dX7_leaves_26 (fun H locs hH => ?_)
    have hH : HH F D A (CX7 K o (u.1, u.2.1, u.2.2.1, u.2.2.2.1, u.2.2.2.2.1, u.2.2.2.2.2.1, u.2.2.2.2.2.2.1, u.2.2.2.2.2.2.2.1, u.2.2.2.2.2.2.2.2.1, u.2.2.2.2.2.2.2.2.2.1, u.2.2.2.2.2.2.2.2.2.2.1, (upd u.2.2.2.2.2.2.2.2.2.2.2.1 u.2.2.2.2.2.2.2.2.2.2.2.2.1.toNatClampNeg a0), (u.2.2.2.2.2.2.2.2.2.2.2.2.1 + (1 : Int32)), u.2.2.2.2.2.2.2.2.2.2.2.2.2.1, u.2.2.2.2.2.2.2.2.2.2.2.2.2.2.1, u.2.2.2.2.2.2.2.2.2.2.2.2.2.2.2.1, u.2.2.2.2.2.2.2.2.2.2.2.2.2.2.2.2)) H locs := hH
    exact v_wvret X hF (u.1, u.2.1, u.2.2.1, u.2.2.2.1, u.2.2.2.2.1, u.2.2.2.2.2.1, u.2.2.2.2.2.2.1, u.2.2.2.2.2.2.2.1, u.2.2.2.2.2.2.2.2.1, u.2.2.2.2.2.2.2.2.2.1, u.2.2.2.2.2.2.2.2.2.2.1, (upd u.2.2.2.2.2.2.2.2.2.2.2.1 u.2.2.2.2.2.2.2.2.2.2.2.2.1.toNatClampNeg a0), (u.2.2.2.2.2.2.2.2.2.2.2.2.1 + (1 : Int32)), u.2.2.2.2.2.2.2.2.2.2.2.2.2.1, u.2.2.2.2.2.2.2.2.2.2.2.2.2.2.1, u.2.2.2.2.2.2.2.2.2.2.2.2.2.2.2.1, u.2.2.2.2.2.2.2.2.2.2.2.2.2.2.2.2) hH h dX7_leaves_29
def w_X7_markLent (u : BX7) (a0 : Int32) (post : Int32 → BX7 → Prop) : Prop := w_X7_leaves u (20 : Int32) (fun u2 => post a0 u2)
set_option maxHeartbeats 4000000 in
set_option maxRecDepth 100000 in
theorem c_X7_markLent (l : Launch) (D : va_G) (K : Nat → ClassId) (t : Nat → Nat) (o : Nat → Nat) (u : BX7) (a0 : Int32) (post : Int32 → BX7 → Prop) (h : w_X7_markLent u a0 post) : WrI l yX7_markLent cX7_markLent 2 (some .int) ({ frames := 1, cells := 0, slots := 0, locals := 21 } : Room) D (TY K) t (CX7 K o u) [.ref (o 0), .int a0] (fun z : BX7 => CX7 K o z) (fun (r : Int32) (z : BX7) => post r z) := by
  refine WrI.mk rfl (Nat.le_of_ble_eq_true rfl) ?_
  intro F ls A _ hF X hH hA hl hT
  obtain ⟨H, hH0⟩ : ∃ z : Heap, z = (fxS F).heap := ⟨_, rfl⟩
  obtain ⟨locs, hL0⟩ : ∃ z : List Loc, z = [] := ⟨_, rfl⟩
  have hH : HH F D A (CX7 K o u) H locs := by rw [hH0, hL0]; exact hH
  suffices goal : V F (WQI F D (TY K) A (fun z : BX7 => CX7 K o z) (fun (r : Int32) (z : BX7) => post r z)) H locs 0 ls [] by rw [hH0, hL0] at goal; exact goal
  clear hH0 hL0
  have X : Cx F cX7_markLent 2 RX7 D (TY K) := X
  have hl : lv_has ls 2 [(0, .ref (o 0)), (1, .int a0)] := hl
  unfold w_X7_markLent at h
  refine v_aload_n X dX7_markLent_0 rfl (lv_at hl 0 rfl) ?_
  refine v_bipush (v := (20 : Int32)) X dX7_markLent_1 (by decide) ?_
  refine wrVV (As := [.int (20 : Int32)]) (rest := []) (wr := ([] : va_W)) X mv_X7_228 (c_X7_leaves F.2.1 D K t o u (20 : Int32) _ h) hF ⟨rfl, rfl, Nat.le_of_ble_eq_true rfl, Nat.le_of_ble_eq_true rfl⟩ hT hA hH [0, 1, 2, 3, 4, 5, 6, 7, 8, 9] [] ⟨rfl, rfl, rfl, rfl, by decide⟩ 0 rfl rfl hl.1 rfl rfl (Nat.le_of_ble_eq_true rfl) dX7_markLent_3 (fun u2 H locs h hH => ?_)
  have hH : HH F D A (CX7 K o u2) H locs := hH
  refine v_iload_n X dX7_markLent_6 rfl (lv_at hl 1 rfl) ?_
  exact v_wiret X hF u2 hH h dX7_markLent_7
def w_X7_markOwl (u : BX7) (a0 : Int32) (post : Int32 → BX7 → Prop) : Prop := w_X7_leaves u (21 : Int32) (fun u2 => w_X7_markLent u2 a0 (fun r3 u4 => vp_in ((14 : Int32) + a0) 144 ∧ (post (r3 + (u4.1 ((14 : Int32) + a0).toNatClampNeg)) u4)))
set_option maxHeartbeats 4000000 in
set_option maxRecDepth 100000 in
theorem c_X7_markOwl (l : Launch) (D : va_G) (K : Nat → ClassId) (t : Nat → Nat) (o : Nat → Nat) (u : BX7) (a0 : Int32) (post : Int32 → BX7 → Prop) (h : w_X7_markOwl u a0 post) : WrI l yX7_markOwl cX7_markOwl 2 (some .int) ({ frames := 2, cells := 0, slots := 0, locals := 42 } : Room) D (TY K) t (CX7 K o u) [.ref (o 0), .int a0] (fun z : BX7 => CX7 K o z) (fun (r : Int32) (z : BX7) => post r z) := by
  refine WrI.mk rfl (Nat.le_of_ble_eq_true rfl) ?_
  intro F ls A _ hF X hH hA hl hT
  obtain ⟨H, hH0⟩ : ∃ z : Heap, z = (fxS F).heap := ⟨_, rfl⟩
  obtain ⟨locs, hL0⟩ : ∃ z : List Loc, z = [] := ⟨_, rfl⟩
  have hH : HH F D A (CX7 K o u) H locs := by rw [hH0, hL0]; exact hH
  suffices goal : V F (WQI F D (TY K) A (fun z : BX7 => CX7 K o z) (fun (r : Int32) (z : BX7) => post r z)) H locs 0 ls [] by rw [hH0, hL0] at goal; exact goal
  clear hH0 hL0
  have X : Cx F cX7_markOwl 2 RX7 D (TY K) := X
  have hl : lv_has ls 2 [(0, .ref (o 0)), (1, .int a0)] := hl
  unfold w_X7_markOwl at h
  refine v_aload_n X dX7_markOwl_0 rfl (lv_at hl 0 rfl) ?_
  refine v_bipush (v := (21 : Int32)) X dX7_markOwl_1 (by decide) ?_
  refine wrVV (As := [.int (21 : Int32)]) (rest := []) (wr := ([] : va_W)) X mv_X7_228 (c_X7_leaves F.2.1 D K t o u (21 : Int32) _ h) hF ⟨rfl, rfl, Nat.le_of_ble_eq_true rfl, Nat.le_of_ble_eq_true rfl⟩ hT hA hH [0, 1, 2, 3, 4, 5, 6, 7, 8, 9] [] ⟨rfl, rfl, rfl, rfl, by decide⟩ 0 rfl rfl hl.1 rfl rfl (Nat.le_of_ble_eq_true rfl) dX7_markOwl_3 (fun u2 H locs h hH => ?_)
  have hH : HH F D A (CX7 K o u2) H locs := hH
  refine v_aload_n X dX7_markOwl_6 rfl (lv_at hl 0 rfl) ?_
  refine v_iload_n X dX7_markOwl_7 rfl (lv_at hl 1 rfl) ?_
  refine wrVI (As := [.int a0]) (rest := []) (wr := ([] : va_W)) X mv_X7_231 (c_X7_markLent F.2.1 D K t o u2 a0 _ h) hF ⟨rfl, rfl, Nat.le_of_ble_eq_true rfl, Nat.le_of_ble_eq_true rfl⟩ hT hA hH [0, 1, 2, 3, 4, 5, 6, 7, 8, 9] [] ⟨rfl, rfl, rfl, rfl, by decide⟩ 0 rfl rfl hl.1 rfl rfl (Nat.le_of_ble_eq_true rfl) dX7_markOwl_8 (fun r3 u4 H locs h hH => ?_)
  have hH : HH F D A (CX7 K o u4) H locs := hH
  refine v_aload_n X dX7_markOwl_11 rfl (lv_at hl 0 rfl) ?_
  refine v_get (v := .ref (o 1)) X hH.1 0 rfl fk_X7_7 rfl dX7_markOwl_12 ?_
  refine v_bipush (v := (14 : Int32)) X dX7_markOwl_15 (by decide) ?_
  refine v_iload_n X dX7_markOwl_17 rfl (lv_at hl 1 rfl) ?_
  refine v_iadd X dX7_markOwl_18 ?_
  have hin := h.1
  have h := h.2
  refine v_iald (f := u4.1) X hH.1 1 0 rfl rfl hin dX7_markOwl_19 ?_
  refine v_iadd X dX7_markOwl_20 ?_
  exact v_wiret X hF u4 hH h dX7_markOwl_21
def w_X7_sizeGuard (u : BX7) (a0 : Int32) (a1 : Int32) (post : Int32 → BX7 → Prop) : Prop := wpJ (T := BX7 → Prop) (fun (u2 : BX7) => w_X7_leaves u2 (13 : Int32) (fun u4 => w_X7_leaves u4 (10 : Int32) (fun u6 => vp_in ((32 : Int32) + a0) 144 ∧ (∀ x7 : Int32, x7 = ((u6.1 ((32 : Int32) + a0).toNatClampNeg) - (100 : Int32)) → (a1 = 0 → post x7 u6) ∧ (¬ a1 = 0 → post ((2 : Int32) * x7) u6))))) (fun J1 => (a1 = 0 → J1 u) ∧ (¬ a1 = 0 → w_X7_leaves u (14 : Int32) (fun u10 => J1 u10)))
set_option maxHeartbeats 4000000 in
set_option maxRecDepth 100000 in
theorem c_X7_sizeGuard (l : Launch) (D : va_G) (K : Nat → ClassId) (t : Nat → Nat) (o : Nat → Nat) (u : BX7) (a0 : Int32) (a1 : Int32) (post : Int32 → BX7 → Prop) (h : w_X7_sizeGuard u a0 a1 post) : WrI l yX7_sizeGuard cX7_sizeGuard 4 (some .int) ({ frames := 1, cells := 0, slots := 0, locals := 21 } : Room) D (TY K) t (CX7 K o u) [.ref (o 0), .int a0, .int a1] (fun z : BX7 => CX7 K o z) (fun (r : Int32) (z : BX7) => post r z) := by
  refine WrI.mk rfl (Nat.le_of_ble_eq_true rfl) ?_
  intro F ls A _ hF X hH hA hl hT
  obtain ⟨H, hH0⟩ : ∃ z : Heap, z = (fxS F).heap := ⟨_, rfl⟩
  obtain ⟨locs, hL0⟩ : ∃ z : List Loc, z = [] := ⟨_, rfl⟩
  have hH : HH F D A (CX7 K o u) H locs := by rw [hH0, hL0]; exact hH
  suffices goal : V F (WQI F D (TY K) A (fun z : BX7 => CX7 K o z) (fun (r : Int32) (z : BX7) => post r z)) H locs 0 ls [] by rw [hH0, hL0] at goal; exact goal
  clear hH0 hL0
  have X : Cx F cX7_sizeGuard 4 RX7 D (TY K) := X
  have hl : lv_has ls 4 [(0, .ref (o 0)), (1, .int a0), (2, .int a1)] := hl
  unfold w_X7_sizeGuard at h
  refine v_iload_n X dX7_sizeGuard_0 rfl (lv_at hl 2 rfl) ?_
  obtain ⟨J1, hJ1⟩ : ∃ f : BX7 → Prop, f = (fun (u2 : BX7) => w_X7_leaves u2 (13 : Int32) (fun u4 => w_X7_leaves u4 (10 : Int32) (fun u6 => vp_in ((32 : Int32) + a0) 144 ∧ (∀ x7 : Int32, x7 = ((u6.1 ((32 : Int32) + a0).toNatClampNeg) - (100 : Int32)) → (a1 = 0 → post x7 u6) ∧ (¬ a1 = 0 → post ((2 : Int32) * x7) u6))))) := ⟨_, rfl⟩
  have kJ1 : ∀ (u2 : BX7) (ls : Array Slot) (H : Heap) (locs : List Loc), (J1 u2) → lv_has ls 4 [(0, .ref (o 0)), (1, .int a0), (2, .int a1)] → HH F D A (CX7 K o u2) H locs → V F (WQI F D (TY K) A (fun z : BX7 => CX7 K o z) (fun (r : Int32) (z : BX7) => post r z)) H locs 10 ls [] := by
    intro u2 ls H locs h hl hH
    have h : w_X7_leaves u2 (13 : Int32) (fun u4 => w_X7_leaves u4 (10 : Int32) (fun u6 => vp_in ((32 : Int32) + a0) 144 ∧ (∀ x7 : Int32, x7 = ((u6.1 ((32 : Int32) + a0).toNatClampNeg) - (100 : Int32)) → (a1 = 0 → post x7 u6) ∧ (¬ a1 = 0 → post ((2 : Int32) * x7) u6)))) := by rw [hJ1] at h; exact h
    refine v_aload_n X dX7_sizeGuard_10 rfl (lv_at hl 0 rfl) ?_
    refine v_bipush (v := (13 : Int32)) X dX7_sizeGuard_11 (by decide) ?_
    refine wrVV (As := [.int (13 : Int32)]) (rest := []) (wr := ([] : va_W)) X mv_X7_228 (c_X7_leaves F.2.1 D K t o u2 (13 : Int32) _ h) hF ⟨rfl, rfl, Nat.le_of_ble_eq_true rfl, Nat.le_of_ble_eq_true rfl⟩ hT hA hH [0, 1, 2, 3, 4, 5, 6, 7, 8, 9] [] ⟨rfl, rfl, rfl, rfl, by decide⟩ 0 rfl rfl hl.1 rfl rfl (Nat.le_of_ble_eq_true rfl) dX7_sizeGuard_13 (fun u4 H locs h hH => ?_)
    have hH : HH F D A (CX7 K o u4) H locs := hH
    refine v_aload_n X dX7_sizeGuard_16 rfl (lv_at hl 0 rfl) ?_
    refine v_bipush (v := (10 : Int32)) X dX7_sizeGuard_17 (by decide) ?_
    refine wrVV (As := [.int (10 : Int32)]) (rest := []) (wr := ([] : va_W)) X mv_X7_228 (c_X7_leaves F.2.1 D K t o u4 (10 : Int32) _ h) hF ⟨rfl, rfl, Nat.le_of_ble_eq_true rfl, Nat.le_of_ble_eq_true rfl⟩ hT hA hH [0, 1, 2, 3, 4, 5, 6, 7, 8, 9] [] ⟨rfl, rfl, rfl, rfl, by decide⟩ 0 rfl rfl hl.1 rfl rfl (Nat.le_of_ble_eq_true rfl) dX7_sizeGuard_19 (fun u6 H locs h hH => ?_)
    have hH : HH F D A (CX7 K o u6) H locs := hH
    refine v_aload_n X dX7_sizeGuard_22 rfl (lv_at hl 0 rfl) ?_
    refine v_get (v := .ref (o 1)) X hH.1 0 rfl fk_X7_7 rfl dX7_sizeGuard_23 ?_
    refine v_bipush (v := (32 : Int32)) X dX7_sizeGuard_26 (by decide) ?_
    refine v_iload_n X dX7_sizeGuard_28 rfl (lv_at hl 1 rfl) ?_
    refine v_iadd X dX7_sizeGuard_29 ?_
    have hin := h.1
    have h := h.2
    refine v_iald (f := u6.1) X hH.1 1 0 rfl rfl hin dX7_sizeGuard_30 ?_
    refine v_bipush (v := (100 : Int32)) X dX7_sizeGuard_31 (by decide) ?_
    refine v_isub X dX7_sizeGuard_33 ?_
    refine v_topi (fun x7 ex7 => ?_)
    have h := h x7 ex7
    refine v_istore_n (lv' := [(3, .int x7), (0, .ref (o 0)), (1, .int a0), (2, .int a1)]) X dX7_sizeGuard_34 rfl hl (by decide) rfl (fun ls hl => ?_)
    refine v_iload_n X dX7_sizeGuard_35 rfl (lv_at hl 3 rfl) ?_
    refine v_if_eq (tgt := 45) X dX7_sizeGuard_36 (by decide) (fun c8 => ?_) (fun c8 => ?_)
    · have h := h.1 c8
      refine v_iload_n X dX7_sizeGuard_45 rfl (lv_at hl 0 rfl) ?_
      exact v_wiret X hF u6 hH h dX7_sizeGuard_46
    · have h := h.2 c8
      refine v_iconst (v := (2 : Int32)) X dX7_sizeGuard_39 (by decide) ?_
      refine v_iload_n X dX7_sizeGuard_40 rfl (lv_at hl 0 rfl) ?_
      refine v_imul X dX7_sizeGuard_41 ?_
      refine v_goto (tgt := 46) X dX7_sizeGuard_42 (by decide) ?_
      exact v_wiret X hF u6 hH h dX7_sizeGuard_46
  have h : (a1 = 0 → J1 u) ∧ (¬ a1 = 0 → w_X7_leaves u (14 : Int32) (fun u10 => J1 u10)) := by rw [hJ1]; exact h
  refine v_if_eq (tgt := 10) X dX7_sizeGuard_1 (by decide) (fun c11 => ?_) (fun c11 => ?_)
  · have h := h.1 c11
    exact kJ1 u ls H locs h (lv_sub hl [0, 1, 2] rfl) hH
  · have h := h.2 c11
    refine v_aload_n X dX7_sizeGuard_4 rfl (lv_at hl 0 rfl) ?_
    refine v_bipush (v := (14 : Int32)) X dX7_sizeGuard_5 (by decide) ?_
    refine wrVV (As := [.int (14 : Int32)]) (rest := []) (wr := ([] : va_W)) X mv_X7_228 (c_X7_leaves F.2.1 D K t o u (14 : Int32) _ h) hF ⟨rfl, rfl, Nat.le_of_ble_eq_true rfl, Nat.le_of_ble_eq_true rfl⟩ hT hA hH [0, 1, 2, 3, 4, 5, 6, 7, 8, 9] [] ⟨rfl, rfl, rfl, rfl, by decide⟩ 0 rfl rfl hl.1 rfl rfl (Nat.le_of_ble_eq_true rfl) dX7_sizeGuard_7 (fun u10 H locs h hH => ?_)
    have hH : HH F D A (CX7 K o u10) H locs := hH
    exact kJ1 u10 ls H locs h (lv_sub hl [0, 1, 2] rfl) hH
def w_X7_mark (u : BX7) (a0 : Int32) (post : Int32 → BX7 → Prop) : Prop := vp_in ((28 : Int32) + a0) 144 ∧ (∀ x1 : Int32, x1 = (u.1 ((28 : Int32) + a0).toNatClampNeg) → (x1 = (1 : Int32) → w_X7_markOwl u a0 (fun r3 u4 => post r3 u4)) ∧ (¬ x1 = (1 : Int32) → (x1 = (2 : Int32) → w_X7_leaves u (24 : Int32) (fun u7 => w_X7_markOwl u7 a0 (fun r8 u9 => post ((2 : Int32) * r8) u9))) ∧ (¬ x1 = (2 : Int32) → (x1 = (3 : Int32) → w_X7_leaves u (22 : Int32) (fun u12 => w_X7_markOwl u12 a0 (fun r13 u14 => post (r13 - (1000 : Int32)) u14))) ∧ (¬ x1 = (3 : Int32) → w_X7_leaves u (23 : Int32) (fun u16 => w_X7_markLent u16 a0 (fun r17 u18 => (x1 = (5 : Int32) → w_X7_sizeGuard u18 a0 (1 : Int32) (fun r21 u22 => post (r17 - r21) u22)) ∧ (¬ x1 = (5 : Int32) → w_X7_sizeGuard u18 a0 (0 : Int32) (fun r19 u20 => post (r17 - r19) u20))))))))
set_option maxHeartbeats 4000000 in
set_option maxRecDepth 100000 in
theorem c_X7_mark (l : Launch) (D : va_G) (K : Nat → ClassId) (t : Nat → Nat) (o : Nat → Nat) (u : BX7) (a0 : Int32) (post : Int32 → BX7 → Prop) (h : w_X7_mark u a0 post) : WrI l yX7_mark cX7_mark 3 (some .int) ({ frames := 3, cells := 0, slots := 0, locals := 63 } : Room) D (TY K) t (CX7 K o u) [.ref (o 0), .int a0] (fun z : BX7 => CX7 K o z) (fun (r : Int32) (z : BX7) => post r z) := by
  refine WrI.mk rfl (Nat.le_of_ble_eq_true rfl) ?_
  intro F ls A _ hF X hH hA hl hT
  obtain ⟨H, hH0⟩ : ∃ z : Heap, z = (fxS F).heap := ⟨_, rfl⟩
  obtain ⟨locs, hL0⟩ : ∃ z : List Loc, z = [] := ⟨_, rfl⟩
  have hH : HH F D A (CX7 K o u) H locs := by rw [hH0, hL0]; exact hH
  suffices goal : V F (WQI F D (TY K) A (fun z : BX7 => CX7 K o z) (fun (r : Int32) (z : BX7) => post r z)) H locs 0 ls [] by rw [hH0, hL0] at goal; exact goal
  clear hH0 hL0
  have X : Cx F cX7_mark 3 RX7 D (TY K) := X
  have hl : lv_has ls 3 [(0, .ref (o 0)), (1, .int a0)] := hl
  unfold w_X7_mark at h
  refine v_aload_n X dX7_mark_0 rfl (lv_at hl 0 rfl) ?_
  refine v_get (v := .ref (o 1)) X hH.1 0 rfl fk_X7_7 rfl dX7_mark_1 ?_
  refine v_bipush (v := (28 : Int32)) X dX7_mark_4 (by decide) ?_
  refine v_iload_n X dX7_mark_6 rfl (lv_at hl 1 rfl) ?_
  refine v_iadd X dX7_mark_7 ?_
  have hin := h.1
  have h := h.2
  refine v_iald (f := u.1) X hH.1 1 0 rfl rfl hin dX7_mark_8 ?_
  refine v_topi (fun x1 ex1 => ?_)
  have h := h x1 ex1
  refine v_istore_n (lv' := [(2, .int x1), (0, .ref (o 0)), (1, .int a0)]) X dX7_mark_9 rfl hl (by decide) rfl (fun ls hl => ?_)
  refine v_iload_n X dX7_mark_10 rfl (lv_at hl 0 rfl) ?_
  by_cases c2 : x1 = (1 : Int32)
  · have h := h.1 c2
    refine v_tableIn (tgt := 66) (off := 55) X dX7_mark_11 (by rw [c2]; decide) (by rw [c2]; decide) (by rw [c2]; rfl) (by decide) ?_
    refine v_aload_n X dX7_mark_66 rfl (lv_at hl 1 rfl) ?_
    refine v_iload_n X dX7_mark_67 rfl (lv_at hl 2 rfl) ?_
    refine wrVI (As := [.int a0]) (rest := []) (wr := ([] : va_W)) X mv_X7_234 (c_X7_markOwl F.2.1 D K t o u a0 _ h) hF ⟨rfl, rfl, Nat.le_of_ble_eq_true rfl, Nat.le_of_ble_eq_true rfl⟩ hT hA hH [0, 1, 2, 3, 4, 5, 6, 7, 8, 9] [] ⟨rfl, rfl, rfl, rfl, by decide⟩ 0 rfl rfl hl.1 rfl rfl (Nat.le_of_ble_eq_true rfl) dX7_mark_68 (fun r3 u4 H locs h hH => ?_)
    have hH : HH F D A (CX7 K o u4) H locs := hH
    exact v_wiret X hF u4 hH h dX7_mark_71
  · have h := h.2 c2
    by_cases c5 : x1 = (2 : Int32)
    · have h := h.1 c5
      refine v_tableIn (tgt := 36) (off := 25) X dX7_mark_11 (by rw [c5]; decide) (by rw [c5]; decide) (by rw [c5]; rfl) (by decide) ?_
      refine v_aload_n X dX7_mark_36 rfl (lv_at hl 1 rfl) ?_
      refine v_bipush (v := (24 : Int32)) X dX7_mark_37 (by decide) ?_
      refine wrVV (As := [.int (24 : Int32)]) (rest := []) (wr := ([] : va_W)) X mv_X7_228 (c_X7_leaves F.2.1 D K t o u (24 : Int32) _ h) hF ⟨rfl, rfl, Nat.le_of_ble_eq_true rfl, Nat.le_of_ble_eq_true rfl⟩ hT hA hH [0, 1, 2, 3, 4, 5, 6, 7, 8, 9] [] ⟨rfl, rfl, rfl, rfl, by decide⟩ 0 rfl rfl hl.1 rfl rfl (Nat.le_of_ble_eq_true rfl) dX7_mark_39 (fun u7 H locs h hH => ?_)
      have hH : HH F D A (CX7 K o u7) H locs := hH
      refine v_iconst (v := (2 : Int32)) X dX7_mark_42 (by decide) ?_
      refine v_aload_n X dX7_mark_43 rfl (lv_at hl 1 rfl) ?_
      refine v_iload_n X dX7_mark_44 rfl (lv_at hl 2 rfl) ?_
      refine wrVI (As := [.int a0]) (rest := [.int (2 : Int32)]) (wr := ([] : va_W)) X mv_X7_234 (c_X7_markOwl F.2.1 D K t o u7 a0 _ h) hF ⟨rfl, rfl, Nat.le_of_ble_eq_true rfl, Nat.le_of_ble_eq_true rfl⟩ hT hA hH [0, 1, 2, 3, 4, 5, 6, 7, 8, 9] [] ⟨rfl, rfl, rfl, rfl, by decide⟩ 0 rfl rfl hl.1 rfl rfl (Nat.le_of_ble_eq_true rfl) dX7_mark_45 (fun r8 u9 H locs h hH => ?_)
      have hH : HH F D A (CX7 K o u9) H locs := hH
      refine v_imul X dX7_mark_48 ?_
      exact v_wiret X hF u9 hH h dX7_mark_49
    · have h := h.2 c5
      by_cases c10 : x1 = (3 : Int32)
      · have h := h.1 c10
        refine v_tableIn (tgt := 50) (off := 39) X dX7_mark_11 (by rw [c10]; decide) (by rw [c10]; decide) (by rw [c10]; rfl) (by decide) ?_
        refine v_aload_n X dX7_mark_50 rfl (lv_at hl 1 rfl) ?_
        refine v_bipush (v := (22 : Int32)) X dX7_mark_51 (by decide) ?_
        refine wrVV (As := [.int (22 : Int32)]) (rest := []) (wr := ([] : va_W)) X mv_X7_228 (c_X7_leaves F.2.1 D K t o u (22 : Int32) _ h) hF ⟨rfl, rfl, Nat.le_of_ble_eq_true rfl, Nat.le_of_ble_eq_true rfl⟩ hT hA hH [0, 1, 2, 3, 4, 5, 6, 7, 8, 9] [] ⟨rfl, rfl, rfl, rfl, by decide⟩ 0 rfl rfl hl.1 rfl rfl (Nat.le_of_ble_eq_true rfl) dX7_mark_53 (fun u12 H locs h hH => ?_)
        have hH : HH F D A (CX7 K o u12) H locs := hH
        refine v_aload_n X dX7_mark_56 rfl (lv_at hl 1 rfl) ?_
        refine v_iload_n X dX7_mark_57 rfl (lv_at hl 2 rfl) ?_
        refine wrVI (As := [.int a0]) (rest := []) (wr := ([] : va_W)) X mv_X7_234 (c_X7_markOwl F.2.1 D K t o u12 a0 _ h) hF ⟨rfl, rfl, Nat.le_of_ble_eq_true rfl, Nat.le_of_ble_eq_true rfl⟩ hT hA hH [0, 1, 2, 3, 4, 5, 6, 7, 8, 9] [] ⟨rfl, rfl, rfl, rfl, by decide⟩ 0 rfl rfl hl.1 rfl rfl (Nat.le_of_ble_eq_true rfl) dX7_mark_58 (fun r13 u14 H locs h hH => ?_)
        have hH : HH F D A (CX7 K o u14) H locs := hH
        refine v_sipush (v := (1000 : Int32)) X dX7_mark_61 (by decide) ?_
        refine v_isub X dX7_mark_64 ?_
        exact v_wiret X hF u14 hH h dX7_mark_65
      · have h := h.2 c10
        refine v_tableOut (tgt := 72) X dX7_mark_11 (by have e0 : x1.toInt ≠ 1 := fun q => c2 (Int32.toInt_inj.mp (by rw [q]; rfl)); have e1 : x1.toInt ≠ 2 := fun q => c5 (Int32.toInt_inj.mp (by rw [q]; rfl)); have e2 : x1.toInt ≠ 3 := fun q => c10 (Int32.toInt_inj.mp (by rw [q]; rfl)); omega) (by decide) ?_
        refine v_aload_n X dX7_mark_72 rfl (lv_at hl 1 rfl) ?_
        refine v_bipush (v := (23 : Int32)) X dX7_mark_73 (by decide) ?_
        refine wrVV (As := [.int (23 : Int32)]) (rest := []) (wr := ([] : va_W)) X mv_X7_228 (c_X7_leaves F.2.1 D K t o u (23 : Int32) _ h) hF ⟨rfl, rfl, Nat.le_of_ble_eq_true rfl, Nat.le_of_ble_eq_true rfl⟩ hT hA hH [0, 1, 2, 3, 4, 5, 6, 7, 8, 9] [] ⟨rfl, rfl, rfl, rfl, by decide⟩ 0 rfl rfl hl.1 rfl rfl (Nat.le_of_ble_eq_true rfl) dX7_mark_75 (fun u16 H locs h hH => ?_)
        have hH : HH F D A (CX7 K o u16) H locs := hH
        refine v_aload_n X dX7_mark_78 rfl (lv_at hl 1 rfl) ?_
        refine v_iload_n X dX7_mark_79 rfl (lv_at hl 2 rfl) ?_
        refine wrVI (As := [.int a0]) (rest := []) (wr := ([] : va_W)) X mv_X7_231 (c_X7_markLent F.2.1 D K t o u16 a0 _ h) hF ⟨rfl, rfl, Nat.le_of_ble_eq_true rfl, Nat.le_of_ble_eq_true rfl⟩ hT hA hH [0, 1, 2, 3, 4, 5, 6, 7, 8, 9] [] ⟨rfl, rfl, rfl, rfl, by decide⟩ 0 rfl rfl hl.1 rfl rfl (Nat.le_of_ble_eq_true rfl) dX7_mark_80 (fun r17 u18 H locs h hH => ?_)
        have hH : HH F D A (CX7 K o u18) H locs := hH
        refine v_aload_n X dX7_mark_83 rfl (lv_at hl 1 rfl) ?_
        refine v_iload_n X dX7_mark_84 rfl (lv_at hl 2 rfl) ?_
        refine v_iload_n X dX7_mark_85 rfl (lv_at hl 0 rfl) ?_
        refine v_iconst (v := (5 : Int32)) X dX7_mark_86 (by decide) ?_
        refine v_icmp_ne (tgt := 94) X dX7_mark_87 (by decide) (fun c23 => ?_) (fun c23 => ?_)
        · have h := h.2 c23
          refine v_iconst (v := (0 : Int32)) X dX7_mark_94 (by decide) ?_
          refine wrVI (As := [.int a0, .int (0 : Int32)]) (rest := [.int r17]) (wr := ([] : va_W)) X mv_X7_237 (c_X7_sizeGuard F.2.1 D K t o u18 a0 (0 : Int32) _ h) hF ⟨rfl, rfl, Nat.le_of_ble_eq_true rfl, Nat.le_of_ble_eq_true rfl⟩ hT hA hH [0, 1, 2, 3, 4, 5, 6, 7, 8, 9] [] ⟨rfl, rfl, rfl, rfl, by decide⟩ 0 rfl rfl hl.1 rfl rfl (Nat.le_of_ble_eq_true rfl) dX7_mark_95 (fun r19 u20 H locs h hH => ?_)
          have hH : HH F D A (CX7 K o u20) H locs := hH
          refine v_isub X dX7_mark_98 ?_
          exact v_wiret X hF u20 hH h dX7_mark_99
        · have h := h.1 c23
          refine v_iconst (v := (1 : Int32)) X dX7_mark_90 (by decide) ?_
          refine v_goto (tgt := 95) X dX7_mark_91 (by decide) ?_
          refine wrVI (As := [.int a0, .int (1 : Int32)]) (rest := [.int r17]) (wr := ([] : va_W)) X mv_X7_237 (c_X7_sizeGuard F.2.1 D K t o u18 a0 (1 : Int32) _ h) hF ⟨rfl, rfl, Nat.le_of_ble_eq_true rfl, Nat.le_of_ble_eq_true rfl⟩ hT hA hH [0, 1, 2, 3, 4, 5, 6, 7, 8, 9] [] ⟨rfl, rfl, rfl, rfl, by decide⟩ 0 rfl rfl hl.1 rfl rfl (Nat.le_of_ble_eq_true rfl) dX7_mark_95 (fun r21 u22 H locs h hH => ?_)
          have hH : HH F D A (CX7 K o u22) H locs := hH
          refine v_isub X dX7_mark_98 ?_
          exact v_wiret X hF u22 hH h dX7_mark_99
def w_X7_sizeOwl (u : BX7) (a0 : Int32) (post : Int32 → BX7 → Prop) : Prop := w_X7_leaves u (11 : Int32) (fun u2 => w_X7_leaves u2 (10 : Int32) (fun u4 => vp_in ((32 : Int32) + a0) 144 ∧ (w_X7_mark u4 a0 (fun r5 u6 => post ((u4.1 ((32 : Int32) + a0).toNatClampNeg) + r5) u6))))
set_option maxHeartbeats 4000000 in
set_option maxRecDepth 100000 in
theorem c_X7_sizeOwl (l : Launch) (D : va_G) (K : Nat → ClassId) (t : Nat → Nat) (o : Nat → Nat) (u : BX7) (a0 : Int32) (post : Int32 → BX7 → Prop) (h : w_X7_sizeOwl u a0 post) : WrI l yX7_sizeOwl cX7_sizeOwl 2 (some .int) ({ frames := 4, cells := 0, slots := 0, locals := 85 } : Room) D (TY K) t (CX7 K o u) [.ref (o 0), .int a0] (fun z : BX7 => CX7 K o z) (fun (r : Int32) (z : BX7) => post r z) := by
  refine WrI.mk rfl (Nat.le_of_ble_eq_true rfl) ?_
  intro F ls A _ hF X hH hA hl hT
  obtain ⟨H, hH0⟩ : ∃ z : Heap, z = (fxS F).heap := ⟨_, rfl⟩
  obtain ⟨locs, hL0⟩ : ∃ z : List Loc, z = [] := ⟨_, rfl⟩
  have hH : HH F D A (CX7 K o u) H locs := by rw [hH0, hL0]; exact hH
  suffices goal : V F (WQI F D (TY K) A (fun z : BX7 => CX7 K o z) (fun (r : Int32) (z : BX7) => post r z)) H locs 0 ls [] by rw [hH0, hL0] at goal; exact goal
  clear hH0 hL0
  have X : Cx F cX7_sizeOwl 2 RX7 D (TY K) := X
  have hl : lv_has ls 2 [(0, .ref (o 0)), (1, .int a0)] := hl
  unfold w_X7_sizeOwl at h
  refine v_aload_n X dX7_sizeOwl_0 rfl (lv_at hl 0 rfl) ?_
  refine v_bipush (v := (11 : Int32)) X dX7_sizeOwl_1 (by decide) ?_
  refine wrVV (As := [.int (11 : Int32)]) (rest := []) (wr := ([] : va_W)) X mv_X7_228 (c_X7_leaves F.2.1 D K t o u (11 : Int32) _ h) hF ⟨rfl, rfl, Nat.le_of_ble_eq_true rfl, Nat.le_of_ble_eq_true rfl⟩ hT hA hH [0, 1, 2, 3, 4, 5, 6, 7, 8, 9] [] ⟨rfl, rfl, rfl, rfl, by decide⟩ 0 rfl rfl hl.1 rfl rfl (Nat.le_of_ble_eq_true rfl) dX7_sizeOwl_3 (fun u2 H locs h hH => ?_)
  have hH : HH F D A (CX7 K o u2) H locs := hH
  refine v_aload_n X dX7_sizeOwl_6 rfl (lv_at hl 0 rfl) ?_
  refine v_bipush (v := (10 : Int32)) X dX7_sizeOwl_7 (by decide) ?_
  refine wrVV (As := [.int (10 : Int32)]) (rest := []) (wr := ([] : va_W)) X mv_X7_228 (c_X7_leaves F.2.1 D K t o u2 (10 : Int32) _ h) hF ⟨rfl, rfl, Nat.le_of_ble_eq_true rfl, Nat.le_of_ble_eq_true rfl⟩ hT hA hH [0, 1, 2, 3, 4, 5, 6, 7, 8, 9] [] ⟨rfl, rfl, rfl, rfl, by decide⟩ 0 rfl rfl hl.1 rfl rfl (Nat.le_of_ble_eq_true rfl) dX7_sizeOwl_9 (fun u4 H locs h hH => ?_)
  have hH : HH F D A (CX7 K o u4) H locs := hH
  refine v_aload_n X dX7_sizeOwl_12 rfl (lv_at hl 0 rfl) ?_
  refine v_get (v := .ref (o 1)) X hH.1 0 rfl fk_X7_7 rfl dX7_sizeOwl_13 ?_
  refine v_bipush (v := (32 : Int32)) X dX7_sizeOwl_16 (by decide) ?_
  refine v_iload_n X dX7_sizeOwl_18 rfl (lv_at hl 1 rfl) ?_
  refine v_iadd X dX7_sizeOwl_19 ?_
  have hin := h.1
  have h := h.2
  refine v_iald (f := u4.1) X hH.1 1 0 rfl rfl hin dX7_sizeOwl_20 ?_
  refine v_aload_n X dX7_sizeOwl_21 rfl (lv_at hl 0 rfl) ?_
  refine v_iload_n X dX7_sizeOwl_22 rfl (lv_at hl 1 rfl) ?_
  refine wrVI (As := [.int a0]) (rest := [.int (u4.1 ((32 : Int32) + a0).toNatClampNeg)]) (wr := ([] : va_W)) X mv_X7_241 (c_X7_mark F.2.1 D K t o u4 a0 _ h) hF ⟨rfl, rfl, Nat.le_of_ble_eq_true rfl, Nat.le_of_ble_eq_true rfl⟩ hT hA hH [0, 1, 2, 3, 4, 5, 6, 7, 8, 9] [] ⟨rfl, rfl, rfl, rfl, by decide⟩ 0 rfl rfl hl.1 rfl rfl (Nat.le_of_ble_eq_true rfl) dX7_sizeOwl_23 (fun r5 u6 H locs h hH => ?_)
  have hH : HH F D A (CX7 K o u6) H locs := hH
  refine v_iadd X dX7_sizeOwl_26 ?_
  exact v_wiret X hF u6 hH h dX7_sizeOwl_27
def w_X7_size (u : BX7) (a0 : Int32) (post : Int32 → BX7 → Prop) : Prop := vp_in ((28 : Int32) + a0) 144 ∧ (∀ x1 : Int32, x1 = (u.1 ((28 : Int32) + a0).toNatClampNeg) → (x1 = (1 : Int32) → w_X7_sizeOwl u a0 (fun r3 u4 => post r3 u4)) ∧ (¬ x1 = (1 : Int32) → (x1 = (2 : Int32) → w_X7_leaves u (12 : Int32) (fun u7 => w_X7_sizeOwl u7 a0 (fun r8 u9 => post (-r8) u9))) ∧ (¬ x1 = (2 : Int32) → (x1 = (3 : Int32) → w_X7_sizeOwl u a0 (fun r11 u12 => post r11 u12)) ∧ (¬ x1 = (3 : Int32) → (x1 = (5 : Int32) → w_X7_sizeGuard u a0 (1 : Int32) (fun r15 u16 => post r15 u16)) ∧ (¬ x1 = (5 : Int32) → w_X7_sizeGuard u a0 (0 : Int32) (fun r13 u14 => post r13 u14))))))
set_option maxHeartbeats 4000000 in
set_option maxRecDepth 100000 in
theorem c_X7_size (l : Launch) (D : va_G) (K : Nat → ClassId) (t : Nat → Nat) (o : Nat → Nat) (u : BX7) (a0 : Int32) (post : Int32 → BX7 → Prop) (h : w_X7_size u a0 post) : WrI l yX7_size cX7_size 3 (some .int) ({ frames := 5, cells := 0, slots := 0, locals := 106 } : Room) D (TY K) t (CX7 K o u) [.ref (o 0), .int a0] (fun z : BX7 => CX7 K o z) (fun (r : Int32) (z : BX7) => post r z) := by
  refine WrI.mk rfl (Nat.le_of_ble_eq_true rfl) ?_
  intro F ls A _ hF X hH hA hl hT
  obtain ⟨H, hH0⟩ : ∃ z : Heap, z = (fxS F).heap := ⟨_, rfl⟩
  obtain ⟨locs, hL0⟩ : ∃ z : List Loc, z = [] := ⟨_, rfl⟩
  have hH : HH F D A (CX7 K o u) H locs := by rw [hH0, hL0]; exact hH
  suffices goal : V F (WQI F D (TY K) A (fun z : BX7 => CX7 K o z) (fun (r : Int32) (z : BX7) => post r z)) H locs 0 ls [] by rw [hH0, hL0] at goal; exact goal
  clear hH0 hL0
  have X : Cx F cX7_size 3 RX7 D (TY K) := X
  have hl : lv_has ls 3 [(0, .ref (o 0)), (1, .int a0)] := hl
  unfold w_X7_size at h
  refine v_aload_n X dX7_size_0 rfl (lv_at hl 0 rfl) ?_
  refine v_get (v := .ref (o 1)) X hH.1 0 rfl fk_X7_7 rfl dX7_size_1 ?_
  refine v_bipush (v := (28 : Int32)) X dX7_size_4 (by decide) ?_
  refine v_iload_n X dX7_size_6 rfl (lv_at hl 1 rfl) ?_
  refine v_iadd X dX7_size_7 ?_
  have hin := h.1
  have h := h.2
  refine v_iald (f := u.1) X hH.1 1 0 rfl rfl hin dX7_size_8 ?_
  refine v_topi (fun x1 ex1 => ?_)
  have h := h x1 ex1
  refine v_istore_n (lv' := [(2, .int x1), (0, .ref (o 0)), (1, .int a0)]) X dX7_size_9 rfl hl (by decide) rfl (fun ls hl => ?_)
  refine v_iload_n X dX7_size_10 rfl (lv_at hl 0 rfl) ?_
  by_cases c2 : x1 = (1 : Int32)
  · have h := h.1 c2
    refine v_tableIn (tgt := 49) (off := 38) X dX7_size_11 (by rw [c2]; decide) (by rw [c2]; decide) (by rw [c2]; rfl) (by decide) ?_
    refine v_aload_n X dX7_size_49 rfl (lv_at hl 1 rfl) ?_
    refine v_iload_n X dX7_size_50 rfl (lv_at hl 2 rfl) ?_
    refine wrVI (As := [.int a0]) (rest := []) (wr := ([] : va_W)) X mv_X7_244 (c_X7_sizeOwl F.2.1 D K t o u a0 _ h) hF ⟨rfl, rfl, Nat.le_of_ble_eq_true rfl, Nat.le_of_ble_eq_true rfl⟩ hT hA hH [0, 1, 2, 3, 4, 5, 6, 7, 8, 9] [] ⟨rfl, rfl, rfl, rfl, by decide⟩ 0 rfl rfl hl.1 rfl rfl (Nat.le_of_ble_eq_true rfl) dX7_size_51 (fun r3 u4 H locs h hH => ?_)
    have hH : HH F D A (CX7 K o u4) H locs := hH
    exact v_wiret X hF u4 hH h dX7_size_54
  · have h := h.2 c2
    by_cases c5 : x1 = (2 : Int32)
    · have h := h.1 c5
      refine v_tableIn (tgt := 36) (off := 25) X dX7_size_11 (by rw [c5]; decide) (by rw [c5]; decide) (by rw [c5]; rfl) (by decide) ?_
      refine v_aload_n X dX7_size_36 rfl (lv_at hl 1 rfl) ?_
      refine v_bipush (v := (12 : Int32)) X dX7_size_37 (by decide) ?_
      refine wrVV (As := [.int (12 : Int32)]) (rest := []) (wr := ([] : va_W)) X mv_X7_228 (c_X7_leaves F.2.1 D K t o u (12 : Int32) _ h) hF ⟨rfl, rfl, Nat.le_of_ble_eq_true rfl, Nat.le_of_ble_eq_true rfl⟩ hT hA hH [0, 1, 2, 3, 4, 5, 6, 7, 8, 9] [] ⟨rfl, rfl, rfl, rfl, by decide⟩ 0 rfl rfl hl.1 rfl rfl (Nat.le_of_ble_eq_true rfl) dX7_size_39 (fun u7 H locs h hH => ?_)
      have hH : HH F D A (CX7 K o u7) H locs := hH
      refine v_aload_n X dX7_size_42 rfl (lv_at hl 1 rfl) ?_
      refine v_iload_n X dX7_size_43 rfl (lv_at hl 2 rfl) ?_
      refine wrVI (As := [.int a0]) (rest := []) (wr := ([] : va_W)) X mv_X7_244 (c_X7_sizeOwl F.2.1 D K t o u7 a0 _ h) hF ⟨rfl, rfl, Nat.le_of_ble_eq_true rfl, Nat.le_of_ble_eq_true rfl⟩ hT hA hH [0, 1, 2, 3, 4, 5, 6, 7, 8, 9] [] ⟨rfl, rfl, rfl, rfl, by decide⟩ 0 rfl rfl hl.1 rfl rfl (Nat.le_of_ble_eq_true rfl) dX7_size_44 (fun r8 u9 H locs h hH => ?_)
      have hH : HH F D A (CX7 K o u9) H locs := hH
      refine v_ineg X dX7_size_47 ?_
      exact v_wiret X hF u9 hH h dX7_size_48
    · have h := h.2 c5
      by_cases c10 : x1 = (3 : Int32)
      · have h := h.1 c10
        refine v_tableIn (tgt := 49) (off := 38) X dX7_size_11 (by rw [c10]; decide) (by rw [c10]; decide) (by rw [c10]; rfl) (by decide) ?_
        refine v_aload_n X dX7_size_49 rfl (lv_at hl 1 rfl) ?_
        refine v_iload_n X dX7_size_50 rfl (lv_at hl 2 rfl) ?_
        refine wrVI (As := [.int a0]) (rest := []) (wr := ([] : va_W)) X mv_X7_244 (c_X7_sizeOwl F.2.1 D K t o u a0 _ h) hF ⟨rfl, rfl, Nat.le_of_ble_eq_true rfl, Nat.le_of_ble_eq_true rfl⟩ hT hA hH [0, 1, 2, 3, 4, 5, 6, 7, 8, 9] [] ⟨rfl, rfl, rfl, rfl, by decide⟩ 0 rfl rfl hl.1 rfl rfl (Nat.le_of_ble_eq_true rfl) dX7_size_51 (fun r11 u12 H locs h hH => ?_)
        have hH : HH F D A (CX7 K o u12) H locs := hH
        exact v_wiret X hF u12 hH h dX7_size_54
      · have h := h.2 c10
        refine v_tableOut (tgt := 55) X dX7_size_11 (by have e0 : x1.toInt ≠ 1 := fun q => c2 (Int32.toInt_inj.mp (by rw [q]; rfl)); have e1 : x1.toInt ≠ 2 := fun q => c5 (Int32.toInt_inj.mp (by rw [q]; rfl)); have e2 : x1.toInt ≠ 3 := fun q => c10 (Int32.toInt_inj.mp (by rw [q]; rfl)); omega) (by decide) ?_
        refine v_aload_n X dX7_size_55 rfl (lv_at hl 1 rfl) ?_
        refine v_iload_n X dX7_size_56 rfl (lv_at hl 2 rfl) ?_
        refine v_iload_n X dX7_size_57 rfl (lv_at hl 0 rfl) ?_
        refine v_iconst (v := (5 : Int32)) X dX7_size_58 (by decide) ?_
        refine v_icmp_ne (tgt := 66) X dX7_size_59 (by decide) (fun c17 => ?_) (fun c17 => ?_)
        · have h := h.2 c17
          refine v_iconst (v := (0 : Int32)) X dX7_size_66 (by decide) ?_
          refine wrVI (As := [.int a0, .int (0 : Int32)]) (rest := []) (wr := ([] : va_W)) X mv_X7_237 (c_X7_sizeGuard F.2.1 D K t o u a0 (0 : Int32) _ h) hF ⟨rfl, rfl, Nat.le_of_ble_eq_true rfl, Nat.le_of_ble_eq_true rfl⟩ hT hA hH [0, 1, 2, 3, 4, 5, 6, 7, 8, 9] [] ⟨rfl, rfl, rfl, rfl, by decide⟩ 0 rfl rfl hl.1 rfl rfl (Nat.le_of_ble_eq_true rfl) dX7_size_67 (fun r13 u14 H locs h hH => ?_)
          have hH : HH F D A (CX7 K o u14) H locs := hH
          exact v_wiret X hF u14 hH h dX7_size_70
        · have h := h.1 c17
          refine v_iconst (v := (1 : Int32)) X dX7_size_62 (by decide) ?_
          refine v_goto (tgt := 67) X dX7_size_63 (by decide) ?_
          refine wrVI (As := [.int a0, .int (1 : Int32)]) (rest := []) (wr := ([] : va_W)) X mv_X7_237 (c_X7_sizeGuard F.2.1 D K t o u a0 (1 : Int32) _ h) hF ⟨rfl, rfl, Nat.le_of_ble_eq_true rfl, Nat.le_of_ble_eq_true rfl⟩ hT hA hH [0, 1, 2, 3, 4, 5, 6, 7, 8, 9] [] ⟨rfl, rfl, rfl, rfl, by decide⟩ 0 rfl rfl hl.1 rfl rfl (Nat.le_of_ble_eq_true rfl) dX7_size_67 (fun r15 u16 H locs h hH => ?_)
          have hH : HH F D A (CX7 K o u16) H locs := hH
          exact v_wiret X hF u16 hH h dX7_size_70
def w_X7_ask (u : BX7) (a0 : Int32) (a1 : Int32) (post : Int32 → BX7 → Prop) : Prop := w_X7_isWaker u a0 (fun r1 => (r1 = 0 → post (-1000001 : Int32) u) ∧ (¬ r1 = 0 → w_X7_in a1.toInt64 (0 : Int64) (1 : Int64) (fun r2 => (r2 = 0 → post (-1000001 : Int32) u) ∧ (¬ r2 = 0 → (a1 = 0 → w_X7_size (u.1, u.2.1, u.2.2.1, u.2.2.2.1, u.2.2.2.2.1, u.2.2.2.2.2.1, u.2.2.2.2.2.2.1, u.2.2.2.2.2.2.2.1, u.2.2.2.2.2.2.2.2.1, u.2.2.2.2.2.2.2.2.2.1, u.2.2.2.2.2.2.2.2.2.2.1, u.2.2.2.2.2.2.2.2.2.2.2.1, (0 : Int32), u.2.2.2.2.2.2.2.2.2.2.2.2.2.1, u.2.2.2.2.2.2.2.2.2.2.2.2.2.2.1, u.2.2.2.2.2.2.2.2.2.2.2.2.2.2.2.1, u.2.2.2.2.2.2.2.2.2.2.2.2.2.2.2.2) a0 (fun r5 u6 => post r5 u6)) ∧ (¬ a1 = 0 → w_X7_mark (u.1, u.2.1, u.2.2.1, u.2.2.2.1, u.2.2.2.2.1, u.2.2.2.2.2.1, u.2.2.2.2.2.2.1, u.2.2.2.2.2.2.2.1, u.2.2.2.2.2.2.2.2.1, u.2.2.2.2.2.2.2.2.2.1, u.2.2.2.2.2.2.2.2.2.2.1, u.2.2.2.2.2.2.2.2.2.2.2.1, (0 : Int32), u.2.2.2.2.2.2.2.2.2.2.2.2.2.1, u.2.2.2.2.2.2.2.2.2.2.2.2.2.2.1, u.2.2.2.2.2.2.2.2.2.2.2.2.2.2.2.1, u.2.2.2.2.2.2.2.2.2.2.2.2.2.2.2.2) a0 (fun r3 u4 => post r3 u4))))))
set_option maxHeartbeats 4000000 in
set_option maxRecDepth 100000 in
theorem c_X7_ask (l : Launch) (D : va_G) (K : Nat → ClassId) (t : Nat → Nat) (o : Nat → Nat) (u : BX7) (a0 : Int32) (a1 : Int32) (post : Int32 → BX7 → Prop) (h : w_X7_ask u a0 a1 post) : WrI l yX7_ask cX7_ask 3 (some .int) ({ frames := 6, cells := 0, slots := 0, locals := 128 } : Room) D (TY K) t (CX7 K o u) [.ref (o 0), .int a0, .int a1] (fun z : BX7 => CX7 K o z) (fun (r : Int32) (z : BX7) => post r z) := by
  refine WrI.mk rfl (Nat.le_of_ble_eq_true rfl) ?_
  intro F ls A _ hF X hH hA hl hT
  obtain ⟨H, hH0⟩ : ∃ z : Heap, z = (fxS F).heap := ⟨_, rfl⟩
  obtain ⟨locs, hL0⟩ : ∃ z : List Loc, z = [] := ⟨_, rfl⟩
  have hH : HH F D A (CX7 K o u) H locs := by rw [hH0, hL0]; exact hH
  suffices goal : V F (WQI F D (TY K) A (fun z : BX7 => CX7 K o z) (fun (r : Int32) (z : BX7) => post r z)) H locs 0 ls [] by rw [hH0, hL0] at goal; exact goal
  clear hH0 hL0
  have X : Cx F cX7_ask 3 RX7 D (TY K) := X
  have hl : lv_has ls 3 [(0, .ref (o 0)), (1, .int a0), (2, .int a1)] := hl
  unfold w_X7_ask at h
  refine v_aload_n X dX7_ask_0 rfl (lv_at hl 0 rfl) ?_
  refine v_iload_n X dX7_ask_1 rfl (lv_at hl 1 rfl) ?_
  refine rdV (As := [.int a0]) (rest := []) X mv_X7_158 (c_X7_isWaker F.2.1 D K t o u a0 _ h) hF ⟨rfl, rfl, Nat.le_of_ble_eq_true rfl, Nat.le_of_ble_eq_true rfl⟩ (stW hT hH) hH.1 [0, 1, 2, 3, 4, 5, 6, 7, 8, 9] rfl 0 rfl rfl hl.1 rfl rfl (Nat.le_of_ble_eq_true rfl) dX7_ask_2 (fun r1 h => ?_)
  refine v_if_eq (tgt := 18) X dX7_ask_5 (by decide) (fun c9 => ?_) (fun c9 => ?_)
  · have h := h.1 c9
    refine v_ldc X kc_X7_55 dX7_ask_18 ?_
    exact v_wiret X hF u hH h dX7_ask_20
  · have h := h.2 c9
    refine v_iload_n X dX7_ask_8 rfl (lv_at hl 2 rfl) ?_
    refine v_i2l X dX7_ask_9 rfl ?_
    refine v_lconst (v := (0 : Int64)) X dX7_ask_10 (by decide) ?_
    refine v_lconst (v := (1 : Int64)) X dX7_ask_11 (by decide) ?_
    refine rdS (As := [.long a1.toInt64, .long (0 : Int64), .long (1 : Int64)]) (rest := []) X ms_X7_45 (c_X7_in F.2.1 D K t a1.toInt64 (0 : Int64) (1 : Int64) _ h) hF ⟨rfl, rfl, Nat.le_of_ble_eq_true rfl, Nat.le_of_ble_eq_true rfl⟩ (stW hT hH) hH.1 [] rfl hl.1 rfl rfl (Nat.le_of_ble_eq_true rfl) dX7_ask_12 (fun r2 h => ?_)
    refine v_if_ne (tgt := 21) X dX7_ask_15 (by decide) (fun c8 => ?_) (fun c8 => ?_)
    · have h := h.2 c8
      refine v_aload_n X dX7_ask_21 rfl (lv_at hl 0 rfl) ?_
      refine v_iconst (v := (0 : Int32)) X dX7_ask_22 (by decide) ?_
      refine v_put X hH 0 rfl fi_X7_225 (Nat.le_of_ble_eq_true rfl) dX7_ask_23 (fun H locs hH => ?_)
      have hH : HH F D A (CX7 K o (u.1, u.2.1, u.2.2.1, u.2.2.2.1, u.2.2.2.2.1, u.2.2.2.2.2.1, u.2.2.2.2.2.2.1, u.2.2.2.2.2.2.2.1, u.2.2.2.2.2.2.2.2.1, u.2.2.2.2.2.2.2.2.2.1, u.2.2.2.2.2.2.2.2.2.2.1, u.2.2.2.2.2.2.2.2.2.2.2.1, (0 : Int32), u.2.2.2.2.2.2.2.2.2.2.2.2.2.1, u.2.2.2.2.2.2.2.2.2.2.2.2.2.2.1, u.2.2.2.2.2.2.2.2.2.2.2.2.2.2.2.1, u.2.2.2.2.2.2.2.2.2.2.2.2.2.2.2.2)) H locs := hH
      refine v_iload_n X dX7_ask_26 rfl (lv_at hl 2 rfl) ?_
      refine v_if_ne (tgt := 38) X dX7_ask_27 (by decide) (fun c7 => ?_) (fun c7 => ?_)
      · have h := h.2 c7
        refine v_aload_n X dX7_ask_38 rfl (lv_at hl 0 rfl) ?_
        refine v_iload_n X dX7_ask_39 rfl (lv_at hl 1 rfl) ?_
        refine wrVI (As := [.int a0]) (rest := []) (wr := ([] : va_W)) X mv_X7_241 (c_X7_mark F.2.1 D K t o (u.1, u.2.1, u.2.2.1, u.2.2.2.1, u.2.2.2.2.1, u.2.2.2.2.2.1, u.2.2.2.2.2.2.1, u.2.2.2.2.2.2.2.1, u.2.2.2.2.2.2.2.2.1, u.2.2.2.2.2.2.2.2.2.1, u.2.2.2.2.2.2.2.2.2.2.1, u.2.2.2.2.2.2.2.2.2.2.2.1, (0 : Int32), u.2.2.2.2.2.2.2.2.2.2.2.2.2.1, u.2.2.2.2.2.2.2.2.2.2.2.2.2.2.1, u.2.2.2.2.2.2.2.2.2.2.2.2.2.2.2.1, u.2.2.2.2.2.2.2.2.2.2.2.2.2.2.2.2) a0 _ h) hF ⟨rfl, rfl, Nat.le_of_ble_eq_true rfl, Nat.le_of_ble_eq_true rfl⟩ hT hA hH [0, 1, 2, 3, 4, 5, 6, 7, 8, 9] [] ⟨rfl, rfl, rfl, rfl, by decide⟩ 0 rfl rfl hl.1 rfl rfl (Nat.le_of_ble_eq_true rfl) dX7_ask_40 (fun r3 u4 H locs h hH => ?_)
        have hH : HH F D A (CX7 K o u4) H locs := hH
        exact v_wiret X hF u4 hH h dX7_ask_43
      · have h := h.1 c7
        refine v_aload_n X dX7_ask_30 rfl (lv_at hl 0 rfl) ?_
        refine v_iload_n X dX7_ask_31 rfl (lv_at hl 1 rfl) ?_
        refine wrVI (As := [.int a0]) (rest := []) (wr := ([] : va_W)) X mv_X7_247 (c_X7_size F.2.1 D K t o (u.1, u.2.1, u.2.2.1, u.2.2.2.1, u.2.2.2.2.1, u.2.2.2.2.2.1, u.2.2.2.2.2.2.1, u.2.2.2.2.2.2.2.1, u.2.2.2.2.2.2.2.2.1, u.2.2.2.2.2.2.2.2.2.1, u.2.2.2.2.2.2.2.2.2.2.1, u.2.2.2.2.2.2.2.2.2.2.2.1, (0 : Int32), u.2.2.2.2.2.2.2.2.2.2.2.2.2.1, u.2.2.2.2.2.2.2.2.2.2.2.2.2.2.1, u.2.2.2.2.2.2.2.2.2.2.2.2.2.2.2.1, u.2.2.2.2.2.2.2.2.2.2.2.2.2.2.2.2) a0 _ h) hF ⟨rfl, rfl, Nat.le_of_ble_eq_true rfl, Nat.le_of_ble_eq_true rfl⟩ hT hA hH [0, 1, 2, 3, 4, 5, 6, 7, 8, 9] [] ⟨rfl, rfl, rfl, rfl, by decide⟩ 0 rfl rfl hl.1 rfl rfl (Nat.le_of_ble_eq_true rfl) dX7_ask_32 (fun r5 u6 H locs h hH => ?_)
        have hH : HH F D A (CX7 K o u6) H locs := hH
        refine v_goto (tgt := 43) X dX7_ask_35 (by decide) ?_
        exact v_wiret X hF u6 hH h dX7_ask_43
    · have h := h.1 c8
      refine v_ldc X kc_X7_55 dX7_ask_18 ?_
      exact v_wiret X hF u hH h dX7_ask_20
def w_X7_trace (u : BX7) (a0 : Int32) (post : Int32 → Prop) : Prop := w_X7_in a0.toInt64 (0 : Int64) ((u.2.2.2.2.2.2.2.2.2.2.2.2.1 - (1 : Int32)).toInt64) (fun r1 => (r1 = 0 → post (-1000000 : Int32)) ∧ (¬ r1 = 0 → vp_in a0 16 ∧ (post (u.2.2.2.2.2.2.2.2.2.2.2.1 a0.toNatClampNeg))))
set_option maxHeartbeats 4000000 in
set_option maxRecDepth 100000 in
theorem c_X7_trace (l : Launch) (D : va_G) (K : Nat → ClassId) (t : Nat → Nat) (o : Nat → Nat) (u : BX7) (a0 : Int32) (post : Int32 → Prop) (h : w_X7_trace u a0 post) : RdM l yX7_trace cX7_trace 2 (some .int) ({ frames := 1, cells := 0, slots := 0, locals := 25 } : Room) D (TY K) t (CX7 K o u) [.ref (o 0), .int a0] post := by
  refine RdM.mk rfl (Nat.le_of_ble_eq_true rfl) ?_
  intro F ls _ hF X hP hl hT
  have X : Cx F cX7_trace 2 RX7 D (TY K) := X
  have hl : lv_has ls 2 [(0, .ref (o 0)), (1, .int a0)] := hl
  unfold w_X7_trace at h
  refine v_iload_n X dX7_trace_0 rfl (lv_at hl 1 rfl) ?_
  refine v_i2l X dX7_trace_1 rfl ?_
  refine v_lconst (v := (0 : Int64)) X dX7_trace_2 (by decide) ?_
  refine v_aload_n X dX7_trace_3 rfl (lv_at hl 0 rfl) ?_
  refine v_get (v := .int u.2.2.2.2.2.2.2.2.2.2.2.2.1) X hP 0 rfl fk_X7_225 rfl dX7_trace_4 ?_
  refine v_iconst (v := (1 : Int32)) X dX7_trace_7 (by decide) ?_
  refine v_isub X dX7_trace_8 ?_
  refine v_i2l X dX7_trace_9 rfl ?_
  refine rdS (As := [.long a0.toInt64, .long (0 : Int64), .long (u.2.2.2.2.2.2.2.2.2.2.2.2.1 - (1 : Int32)).toInt64]) (rest := []) X ms_X7_45 (c_X7_in F.2.1 D K t a0.toInt64 (0 : Int64) ((u.2.2.2.2.2.2.2.2.2.2.2.2.1 - (1 : Int32)).toInt64) _ h) hF ⟨rfl, rfl, Nat.le_of_ble_eq_true rfl, Nat.le_of_ble_eq_true rfl⟩ hT hP [] rfl hl.1 rfl rfl (Nat.le_of_ble_eq_true rfl) dX7_trace_10 (fun r1 h => ?_)
  refine v_if_eq (tgt := 25) X dX7_trace_13 (by decide) (fun c2 => ?_) (fun c2 => ?_)
  · have h := h.1 c2
    refine v_ldc X kc_X7_180 dX7_trace_25 ?_
    exact v_riret X hF h dX7_trace_27
  · have h := h.2 c2
    refine v_aload_n X dX7_trace_16 rfl (lv_at hl 0 rfl) ?_
    refine v_get (v := .ref (o 8)) X hP 0 rfl fk_X7_32 rfl dX7_trace_17 ?_
    refine v_iload_n X dX7_trace_20 rfl (lv_at hl 1 rfl) ?_
    have hin := h.1
    have h := h.2
    refine v_iald (f := u.2.2.2.2.2.2.2.2.2.2.2.1) X hP 8 0 rfl rfl hin dX7_trace_21 ?_
    refine v_goto (tgt := 27) X dX7_trace_22 (by decide) ?_
    exact v_riret X hF h dX7_trace_27
def wL_X7_earnedOfAll_4 (b3 : BX7) (post : Int32 → Prop) (Kx4 : Int32 → Prop) : Nat → Int32 → Int32 → Prop
  | 0, _, _ => False
  | n4 + 1, x1, x2 => vp_in (22 : Int32) 144 ∧ (((b3.1 (22 : Int32).toNatClampNeg) ≤ x2 → Kx4 x1) ∧ (¬ (b3.1 (22 : Int32).toNatClampNeg) ≤ x2 → vp_in ((14 : Int32) + x2) 144 ∧ (∀ x6 : Int32, x6 = (x1 + (b3.1 ((14 : Int32) + x2).toNatClampNeg)) → wL_X7_earnedOfAll_4 b3 post Kx4 n4 x6 (x2 + (1 : Int32)))))
def w_X7_earnedOfAll (u : BX7) (post : Int32 → Prop) : Prop := ∃ n4, wL_X7_earnedOfAll_4 u post (fun (x4 : Int32) => post x4) n4 (0 : Int32) (0 : Int32)
set_option maxHeartbeats 4000000 in
set_option maxRecDepth 100000 in
theorem c_X7_earnedOfAll (l : Launch) (D : va_G) (K : Nat → ClassId) (t : Nat → Nat) (o : Nat → Nat) (u : BX7) (post : Int32 → Prop) (h : w_X7_earnedOfAll u post) : RdM l yX7_earnedOfAll cX7_earnedOfAll 3 (some .int) ({ frames := 0, cells := 0, slots := 0, locals := 0 } : Room) D (TY K) t (CX7 K o u) [.ref (o 0)] post := by
  refine RdM.mk rfl (Nat.le_of_ble_eq_true rfl) ?_
  intro F ls _ hF X hP hl hT
  have X : Cx F cX7_earnedOfAll 3 RX7 D (TY K) := X
  have hl : lv_has ls 3 [(0, .ref (o 0))] := hl
  unfold w_X7_earnedOfAll at h
  refine v_iconst (v := (0 : Int32)) X dX7_earnedOfAll_0 (by decide) ?_
  refine v_istore_n (lv' := [(1, .int (0 : Int32)), (0, .ref (o 0))]) X dX7_earnedOfAll_1 rfl hl (by decide) rfl (fun ls hl => ?_)
  refine v_iconst (v := (0 : Int32)) X dX7_earnedOfAll_2 (by decide) ?_
  refine v_istore_n (lv' := [(2, .int (0 : Int32)), (1, .int (0 : Int32)), (0, .ref (o 0))]) X dX7_earnedOfAll_3 rfl hl (by decide) rfl (fun ls hl => ?_)
  obtain ⟨Kx4, hK4⟩ : ∃ f : Int32 → Prop, f = (fun (x4 : Int32) => post x4) := ⟨_, rfl⟩
  have kx5 : ∀ (x4 : Int32) (ls : Array Slot), (Kx4 x4) → lv_has ls 3 [(1, .int x4)] → V F (RQ F post) (fxS F).heap [] 33 ls [] := by
    intro x4 ls h hl
    have h : post x4 := by rw [hK4] at h; exact h
    refine v_iload_n X dX7_earnedOfAll_33 rfl (lv_at hl 0 rfl) ?_
    exact v_riret X hF h dX7_earnedOfAll_34
  have lp4 : ∀ (n4 : Nat) (x1 : Int32) (x2 : Int32) (ls : Array Slot), wL_X7_earnedOfAll_4 u post Kx4 n4 x1 x2 → lv_has ls 3 [(0, .ref (o 0)), (1, .int x1), (2, .int x2)] → V F (RQ F post) (fxS F).heap [] 4 ls [] := by
    intro n4
    induction n4 with
    | zero => intro x1 x2 ls h hl; exact h.elim
    | succ n4 ih4 =>
      intro x1 x2 ls h hl
      refine v_iload_n X dX7_earnedOfAll_4 rfl (lv_at hl 2 rfl) ?_
      refine v_aload_n X dX7_earnedOfAll_5 rfl (lv_at hl 0 rfl) ?_
      refine v_get (v := .ref (o 1)) X hP 0 rfl fk_X7_7 rfl dX7_earnedOfAll_6 ?_
      refine v_bipush (v := (22 : Int32)) X dX7_earnedOfAll_9 (by decide) ?_
      have hin := h.1
      have h := h.2
      refine v_iald (f := u.1) X hP 1 0 rfl rfl hin dX7_earnedOfAll_11 ?_
      refine v_icmp_ge (tgt := 33) X dX7_earnedOfAll_12 (by decide) (fun c7 => ?_) (fun c7 => ?_)
      · have h := h.1 c7
        exact kx5 x1 ls h (lv_sub hl [1] rfl)
      · have h := h.2 c7
        refine v_iload_n X dX7_earnedOfAll_15 rfl (lv_at hl 1 rfl) ?_
        refine v_aload_n X dX7_earnedOfAll_16 rfl (lv_at hl 0 rfl) ?_
        refine v_get (v := .ref (o 1)) X hP 0 rfl fk_X7_7 rfl dX7_earnedOfAll_17 ?_
        refine v_bipush (v := (14 : Int32)) X dX7_earnedOfAll_20 (by decide) ?_
        refine v_iload_n X dX7_earnedOfAll_22 rfl (lv_at hl 2 rfl) ?_
        refine v_iadd X dX7_earnedOfAll_23 ?_
        have hin := h.1
        have h := h.2
        refine v_iald (f := u.1) X hP 1 0 rfl rfl hin dX7_earnedOfAll_24 ?_
        refine v_iadd X dX7_earnedOfAll_25 ?_
        refine v_topi (fun x6 ex6 => ?_)
        have h := h x6 ex6
        refine v_istore_n (lv' := [(1, .int x6), (0, .ref (o 0)), (2, .int x2)]) X dX7_earnedOfAll_26 rfl hl (by decide) rfl (fun ls hl => ?_)
        refine v_iinc (v := (x2 + (1 : Int32))) (lv' := [(2, .int (x2 + (1 : Int32))), (1, .int x6), (0, .ref (o 0))]) X dX7_earnedOfAll_27 hl (k := 2) rfl rfl (by decide) rfl (fun ls hl => ?_)
        refine v_goto (tgt := 4) X dX7_earnedOfAll_30 (by decide) ?_
        exact ih4 x6 (x2 + (1 : Int32)) ls h (lv_sub hl [2, 1, 0] rfl)
  obtain ⟨n4, h⟩ := h
  have h : wL_X7_earnedOfAll_4 u post Kx4 n4 (0 : Int32) (0 : Int32) := by rw [hK4]; exact h
  exact lp4 n4 (0 : Int32) (0 : Int32) ls h (lv_sub hl [2, 1, 0] rfl)
def wL_X7_count_52 (b4 : BX7) (post : Int32 → Prop) (Kx52 : Int32 → Prop) : Nat → Int32 → Int32 → Prop
  | 0, _, _ => False
  | n52 + 1, x2, x3 => ((8 : Int32) ≤ x3 → Kx52 x2) ∧ (¬ (8 : Int32) ≤ x3 → vp_in x3 8 ∧ ((0 ≤ (b4.2.2.2.2.2.1 x3.toNatClampNeg) → wL_X7_count_52 b4 post Kx52 n52 (x2 + (1 : Int32)) (x3 + (1 : Int32))) ∧ (¬ 0 ≤ (b4.2.2.2.2.2.1 x3.toNatClampNeg) → wL_X7_count_52 b4 post Kx52 n52 (x2 + (0 : Int32)) (x3 + (1 : Int32)))))
def w_X7_count (u : BX7) (a0 : Int32) (post : Int32 → Prop) : Prop := (a0 = (0 : Int32) → ∃ n52, wL_X7_count_52 u post (fun (x5 : Int32) => post x5) n52 (0 : Int32) (0 : Int32)) ∧ (¬ a0 = (0 : Int32) → (a0 = (1 : Int32) → vp_in (21 : Int32) 144 ∧ (post (u.1 (21 : Int32).toNatClampNeg))) ∧ (¬ a0 = (1 : Int32) → (a0 = (2 : Int32) → vp_in (22 : Int32) 144 ∧ (post (u.1 (22 : Int32).toNatClampNeg))) ∧ (¬ a0 = (2 : Int32) → (a0 = (3 : Int32) → vp_in (0 : Int32) 144 ∧ (post (u.1 (0 : Int32).toNatClampNeg))) ∧ (¬ a0 = (3 : Int32) → (a0 = (4 : Int32) → w_X7_restsIn u (0 : Int32) (fun r13 => post r13)) ∧ (¬ a0 = (4 : Int32) → (a0 = (5 : Int32) → w_X7_earnedOfAll u (fun r15 => post r15)) ∧ (¬ a0 = (5 : Int32) → (a0 = (6 : Int32) → post u.2.2.2.1) ∧ (¬ a0 = (6 : Int32) → (a0 = (7 : Int32) → post u.2.2.2.2.2.2.2.2.2.1) ∧ (¬ a0 = (7 : Int32) → post (-1000001 : Int32)))))))))
set_option maxHeartbeats 4000000 in
set_option maxRecDepth 100000 in
theorem c_X7_count (l : Launch) (D : va_G) (K : Nat → ClassId) (t : Nat → Nat) (o : Nat → Nat) (u : BX7) (a0 : Int32) (post : Int32 → Prop) (h : w_X7_count u a0 post) : RdM l yX7_count cX7_count 4 (some .int) ({ frames := 1, cells := 0, slots := 0, locals := 23 } : Room) D (TY K) t (CX7 K o u) [.ref (o 0), .int a0] post := by
  refine RdM.mk rfl (Nat.le_of_ble_eq_true rfl) ?_
  intro F ls _ hF X hP hl hT
  have X : Cx F cX7_count 4 RX7 D (TY K) := X
  have hl : lv_has ls 4 [(0, .ref (o 0)), (1, .int a0)] := hl
  unfold w_X7_count at h
  refine v_iload_n X dX7_count_0 rfl (lv_at hl 1 rfl) ?_
  by_cases c1 : a0 = (0 : Int32)
  · have h := h.1 c1
    refine v_tableIn (tgt := 48) (off := 47) X dX7_count_1 (by rw [c1]; decide) (by rw [c1]; decide) (by rw [c1]; rfl) (by decide) ?_
    refine v_iconst (v := (0 : Int32)) X dX7_count_48 (by decide) ?_
    refine v_istore_n (lv' := [(2, .int (0 : Int32)), (0, .ref (o 0)), (1, .int a0)]) X dX7_count_49 rfl hl (by decide) rfl (fun ls hl => ?_)
    refine v_iconst (v := (0 : Int32)) X dX7_count_50 (by decide) ?_
    refine v_istore_n (lv' := [(3, .int (0 : Int32)), (2, .int (0 : Int32)), (0, .ref (o 0)), (1, .int a0)]) X dX7_count_51 rfl hl (by decide) rfl (fun ls hl => ?_)
    obtain ⟨Kx52, hK52⟩ : ∃ f : Int32 → Prop, f = (fun (x5 : Int32) => post x5) := ⟨_, rfl⟩
    have kx6 : ∀ (x5 : Int32) (ls : Array Slot), (Kx52 x5) → lv_has ls 4 [(2, .int x5)] → V F (RQ F post) (fxS F).heap [] 81 ls [] := by
      intro x5 ls h hl
      have h : post x5 := by rw [hK52] at h; exact h
      refine v_iload_n X dX7_count_81 rfl (lv_at hl 0 rfl) ?_
      exact v_riret X hF h dX7_count_82
    have lp52 : ∀ (n52 : Nat) (x2 : Int32) (x3 : Int32) (ls : Array Slot), wL_X7_count_52 u post Kx52 n52 x2 x3 → lv_has ls 4 [(0, .ref (o 0)), (2, .int x2), (3, .int x3)] → V F (RQ F post) (fxS F).heap [] 52 ls [] := by
      intro n52
      induction n52 with
      | zero => intro x2 x3 ls h hl; exact h.elim
      | succ n52 ih52 =>
        intro x2 x3 ls h hl
        refine v_iload_n X dX7_count_52 rfl (lv_at hl 2 rfl) ?_
        refine v_bipush (v := (8 : Int32)) X dX7_count_53 (by decide) ?_
        refine v_icmp_ge (tgt := 81) X dX7_count_55 (by decide) (fun c8 => ?_) (fun c8 => ?_)
        · have h := h.1 c8
          exact kx6 x2 ls h (lv_sub hl [1] rfl)
        · have h := h.2 c8
          refine v_iload_n X dX7_count_58 rfl (lv_at hl 1 rfl) ?_
          refine v_aload_n X dX7_count_59 rfl (lv_at hl 0 rfl) ?_
          refine v_get (v := .ref (o 5)) X hP 0 rfl fk_X7_23 rfl dX7_count_60 ?_
          refine v_iload_n X dX7_count_63 rfl (lv_at hl 2 rfl) ?_
          have hin := h.1
          have h := h.2
          refine v_iald (f := u.2.2.2.2.2.1) X hP 5 0 rfl rfl hin dX7_count_64 ?_
          refine v_if_ge (tgt := 72) X dX7_count_65 (by decide) (fun c7 => ?_) (fun c7 => ?_)
          · have h := h.1 c7
            refine v_iconst (v := (1 : Int32)) X dX7_count_72 (by decide) ?_
            refine v_iadd X dX7_count_73 ?_
            refine v_istore_n (lv' := [(2, .int (x2 + (1 : Int32))), (0, .ref (o 0)), (3, .int x3)]) X dX7_count_74 rfl hl (by decide) rfl (fun ls hl => ?_)
            refine v_iinc (v := (x3 + (1 : Int32))) (lv' := [(3, .int (x3 + (1 : Int32))), (2, .int (x2 + (1 : Int32))), (0, .ref (o 0))]) X dX7_count_75 hl (k := 2) rfl rfl (by decide) rfl (fun ls hl => ?_)
            refine v_goto (tgt := 52) X dX7_count_78 (by decide) ?_
            exact ih52 (x2 + (1 : Int32)) (x3 + (1 : Int32)) ls h (lv_sub hl [2, 1, 0] rfl)
          · have h := h.2 c7
            refine v_iconst (v := (0 : Int32)) X dX7_count_68 (by decide) ?_
            refine v_goto (tgt := 73) X dX7_count_69 (by decide) ?_
            refine v_iadd X dX7_count_73 ?_
            refine v_istore_n (lv' := [(2, .int (x2 + (0 : Int32))), (0, .ref (o 0)), (3, .int x3)]) X dX7_count_74 rfl hl (by decide) rfl (fun ls hl => ?_)
            refine v_iinc (v := (x3 + (1 : Int32))) (lv' := [(3, .int (x3 + (1 : Int32))), (2, .int (x2 + (0 : Int32))), (0, .ref (o 0))]) X dX7_count_75 hl (k := 2) rfl rfl (by decide) rfl (fun ls hl => ?_)
            refine v_goto (tgt := 52) X dX7_count_78 (by decide) ?_
            exact ih52 (x2 + (0 : Int32)) (x3 + (1 : Int32)) ls h (lv_sub hl [2, 1, 0] rfl)
    obtain ⟨n52, h⟩ := h
    have h : wL_X7_count_52 u post Kx52 n52 (0 : Int32) (0 : Int32) := by rw [hK52]; exact h
    exact lp52 n52 (0 : Int32) (0 : Int32) ls h (lv_sub hl [2, 1, 0] rfl)
  · have h := h.2 c1
    by_cases c9 : a0 = (1 : Int32)
    · have h := h.1 c9
      refine v_tableIn (tgt := 83) (off := 82) X dX7_count_1 (by rw [c9]; decide) (by rw [c9]; decide) (by rw [c9]; rfl) (by decide) ?_
      refine v_aload_n X dX7_count_83 rfl (lv_at hl 0 rfl) ?_
      refine v_get (v := .ref (o 1)) X hP 0 rfl fk_X7_7 rfl dX7_count_84 ?_
      refine v_bipush (v := (21 : Int32)) X dX7_count_87 (by decide) ?_
      have hin := h.1
      have h := h.2
      refine v_iald (f := u.1) X hP 1 0 rfl rfl hin dX7_count_89 ?_
      exact v_riret X hF h dX7_count_90
    · have h := h.2 c9
      by_cases c10 : a0 = (2 : Int32)
      · have h := h.1 c10
        refine v_tableIn (tgt := 91) (off := 90) X dX7_count_1 (by rw [c10]; decide) (by rw [c10]; decide) (by rw [c10]; rfl) (by decide) ?_
        refine v_aload_n X dX7_count_91 rfl (lv_at hl 0 rfl) ?_
        refine v_get (v := .ref (o 1)) X hP 0 rfl fk_X7_7 rfl dX7_count_92 ?_
        refine v_bipush (v := (22 : Int32)) X dX7_count_95 (by decide) ?_
        have hin := h.1
        have h := h.2
        refine v_iald (f := u.1) X hP 1 0 rfl rfl hin dX7_count_97 ?_
        exact v_riret X hF h dX7_count_98
      · have h := h.2 c10
        by_cases c11 : a0 = (3 : Int32)
        · have h := h.1 c11
          refine v_tableIn (tgt := 99) (off := 98) X dX7_count_1 (by rw [c11]; decide) (by rw [c11]; decide) (by rw [c11]; rfl) (by decide) ?_
          refine v_aload_n X dX7_count_99 rfl (lv_at hl 0 rfl) ?_
          refine v_get (v := .ref (o 1)) X hP 0 rfl fk_X7_7 rfl dX7_count_100 ?_
          refine v_iconst (v := (0 : Int32)) X dX7_count_103 (by decide) ?_
          have hin := h.1
          have h := h.2
          refine v_iald (f := u.1) X hP 1 0 rfl rfl hin dX7_count_104 ?_
          exact v_riret X hF h dX7_count_105
        · have h := h.2 c11
          by_cases c12 : a0 = (4 : Int32)
          · have h := h.1 c12
            refine v_tableIn (tgt := 106) (off := 105) X dX7_count_1 (by rw [c12]; decide) (by rw [c12]; decide) (by rw [c12]; rfl) (by decide) ?_
            refine v_aload_n X dX7_count_106 rfl (lv_at hl 0 rfl) ?_
            refine v_iconst (v := (0 : Int32)) X dX7_count_107 (by decide) ?_
            refine rdV (As := [.int (0 : Int32)]) (rest := []) X mv_X7_155 (c_X7_restsIn F.2.1 D K t o u (0 : Int32) _ h) hF ⟨rfl, rfl, Nat.le_of_ble_eq_true rfl, Nat.le_of_ble_eq_true rfl⟩ hT hP [0, 1, 2, 3, 4, 5, 6, 7, 8, 9] rfl 0 rfl rfl hl.1 rfl rfl (Nat.le_of_ble_eq_true rfl) dX7_count_108 (fun r13 h => ?_)
            exact v_riret X hF h dX7_count_111
          · have h := h.2 c12
            by_cases c14 : a0 = (5 : Int32)
            · have h := h.1 c14
              refine v_tableIn (tgt := 112) (off := 111) X dX7_count_1 (by rw [c14]; decide) (by rw [c14]; decide) (by rw [c14]; rfl) (by decide) ?_
              refine v_aload_n X dX7_count_112 rfl (lv_at hl 0 rfl) ?_
              refine rdV (As := []) (rest := []) X mv_X7_250 (c_X7_earnedOfAll F.2.1 D K t o u _ h) hF ⟨rfl, rfl, Nat.le_of_ble_eq_true rfl, Nat.le_of_ble_eq_true rfl⟩ hT hP [0, 1, 2, 3, 4, 5, 6, 7, 8, 9] rfl 0 rfl rfl hl.1 rfl rfl (Nat.le_of_ble_eq_true rfl) dX7_count_113 (fun r15 h => ?_)
              exact v_riret X hF h dX7_count_116
            · have h := h.2 c14
              by_cases c16 : a0 = (6 : Int32)
              · have h := h.1 c16
                refine v_tableIn (tgt := 117) (off := 116) X dX7_count_1 (by rw [c16]; decide) (by rw [c16]; decide) (by rw [c16]; rfl) (by decide) ?_
                refine v_aload_n X dX7_count_117 rfl (lv_at hl 0 rfl) ?_
                refine v_get (v := .int u.2.2.2.1) X hP 0 rfl fk_X7_123 rfl dX7_count_118 ?_
                exact v_riret X hF h dX7_count_121
              · have h := h.2 c16
                by_cases c17 : a0 = (7 : Int32)
                · have h := h.1 c17
                  refine v_tableIn (tgt := 122) (off := 121) X dX7_count_1 (by rw [c17]; decide) (by rw [c17]; decide) (by rw [c17]; rfl) (by decide) ?_
                  refine v_aload_n X dX7_count_122 rfl (lv_at hl 0 rfl) ?_
                  refine v_get (v := .int u.2.2.2.2.2.2.2.2.2.1) X hP 0 rfl fk_X7_69 rfl dX7_count_123 ?_
                  exact v_riret X hF h dX7_count_126
                · have h := h.2 c17
                  refine v_tableOut (tgt := 127) X dX7_count_1 (by have e0 : a0.toInt ≠ 0 := fun q => c1 (Int32.toInt_inj.mp (by rw [q]; rfl)); have e1 : a0.toInt ≠ 1 := fun q => c9 (Int32.toInt_inj.mp (by rw [q]; rfl)); have e2 : a0.toInt ≠ 2 := fun q => c10 (Int32.toInt_inj.mp (by rw [q]; rfl)); have e3 : a0.toInt ≠ 3 := fun q => c11 (Int32.toInt_inj.mp (by rw [q]; rfl)); have e4 : a0.toInt ≠ 4 := fun q => c12 (Int32.toInt_inj.mp (by rw [q]; rfl)); have e5 : a0.toInt ≠ 5 := fun q => c14 (Int32.toInt_inj.mp (by rw [q]; rfl)); have e6 : a0.toInt ≠ 6 := fun q => c16 (Int32.toInt_inj.mp (by rw [q]; rfl)); have e7 : a0.toInt ≠ 7 := fun q => c17 (Int32.toInt_inj.mp (by rw [q]; rfl)); omega) (by decide) ?_
                  refine v_ldc X kc_X7_55 dX7_count_127 ?_
                  exact v_riret X hF h dX7_count_129
def w_X7_status (u : BX7) (post : Int32 → Prop) : Prop := post u.2.2.2.2.2.2.2.1
set_option maxHeartbeats 4000000 in
set_option maxRecDepth 100000 in
theorem c_X7_status (l : Launch) (D : va_G) (K : Nat → ClassId) (t : Nat → Nat) (o : Nat → Nat) (u : BX7) (post : Int32 → Prop) (h : w_X7_status u post) : RdM l yX7_status cX7_status 1 (some .int) ({ frames := 0, cells := 0, slots := 0, locals := 0 } : Room) D (TY K) t (CX7 K o u) [.ref (o 0)] post := by
  refine RdM.mk rfl (Nat.le_of_ble_eq_true rfl) ?_
  intro F ls _ hF X hP hl hT
  have X : Cx F cX7_status 1 RX7 D (TY K) := X
  have hl : lv_has ls 1 [(0, .ref (o 0))] := hl
  unfold w_X7_status at h
  refine v_aload_n X dX7_status_0 rfl (lv_at hl 0 rfl) ?_
  refine v_get (v := .int u.2.2.2.2.2.2.2.1) X hP 0 rfl fk_X7_38 rfl dX7_status_1 ?_
  exact v_riret X hF h dX7_status_4
