theorem tb_1 {w : Cond} (h : w ∈ tables_1_1) : w ∈ lw_tbl := List.mem_append_right _ (List.mem_append_left _ h)
theorem tb_2 {w : Cond} (h : w ∈ tables_1_2) : w ∈ lw_tbl := List.mem_append_right _ (List.mem_append_right _ (List.mem_append_left _ h))
theorem tb_3 {w : Cond} (h : w ∈ tables_1_3) : w ∈ lw_tbl := List.mem_append_right _ (List.mem_append_right _ (List.mem_append_right _ (List.mem_append_left _ h)))
theorem tb_4 {w : Cond} (h : w ∈ tables_1_4) : w ∈ lw_tbl := List.mem_append_right _ (List.mem_append_right _ (List.mem_append_right _ (List.mem_append_right _ (List.mem_append_left _ h))))
theorem tb_5 {w : Cond} (h : w ∈ tables_1_5) : w ∈ lw_tbl := List.mem_append_right _ (List.mem_append_right _ (List.mem_append_right _ (List.mem_append_right _ (List.mem_append_right _ (h)))))
theorem start_ty {s : State} {args : Array Value} {ty : FieldType} (h : (Cond.arrayClass ty).before args s = true) (hn : ∀ C, ty ≠ .object C) : ∃ c, ArrOfT s c ty ∧ va_RA s c ty := by
  obtain ⟨c, k, comp, h1, h2, h3⟩ := Cond.arrayClass_spec h
  refine ⟨c, fun n z => ⟨fun k h => (by cases h), k, h2, comp, h3⟩, ?_⟩
  cases ty with
  | object C => exact absurd rfl (hn C)
  | _ => exact h1
theorem start_ao {s : State} {C : String} (h : va_AO C s) : ∃ c, ArrOfT s c (.object C) ∧ va_RA s c (.object C) := by
  obtain ⟨comp, c, k, h1, h2, h3, h4, h5⟩ := Cond.arrayOver_spec h
  exact ⟨c, fun n z => ⟨fun k h => (by cases h), k, h3, comp, h4⟩, k, comp, h3, h4, h1, h5⟩
theorem start_st {s : State} {args : Array Value} {n : String} {f : Nat → Int32} {A : Nat → Prop} (hl : (Cond.laysStatic "WakeLet$Asks" n "[I").before args s = true) (hi : (Cond.initialized "WakeLet$Asks").before args s = true) (ha : (Cond.arrayOf (.static "WakeLet$Asks" n "[I") .int).before args s = true) (he : (Cond.eq (.length (.static "WakeLet$Asks" n "[I")) (.int 6)).before args s = true) (hf : ∀ j : Nat, j < 6 → (Cond.eq (.elem (.static "WakeLet$Asks" n "[I") (.int (Int32.ofNat j))) (.int (f j))).before args s = true) (hA : ∀ a : Nat, a < s.heap.size → ¬ A a) : ∃ t, ST1 n t f A s s.heap := by
  obtain ⟨t, h1, h2⟩ := va_Tof (N := 6) (f := fun j => .int (f j)) (by decide) ha (va_eqt he) (fun j hj => va_eqt (hf j hj)) hA
  exact ⟨t, va_Zof hl hi h1 hA, h2⟩
theorem ex6_warm {s U : State} (h : EX6 s) (hW : s.WarmedH U.vm) : EX6 U := ⟨h.1.moved hW.alike, h.2.1.moved hW.alike, va_Nw.warmM hW h.2.2.1, va_Nw.warmM hW h.2.2.2.1, va_Nw.warmM hW h.2.2.2.2.1, va_Nw.warmM hW h.2.2.2.2.2.1, va_Nw.warmM hW h.2.2.2.2.2.2.1, va_Nw.warmM hW h.2.2.2.2.2.2.2⟩
theorem ex6_call {U : State} (h : EX6 U) (g : JFrame) (mk : MethodId) (a : Array Value) : EX6 (U.calling g mk a) := ⟨h.1.moved (u := U) (U := U.calling g mk a) (Vm.Alike.refl U.vm), h.2.1.moved (u := U) (U := U.calling g mk a) (Vm.Alike.refl U.vm), va_Nw.same (u := U) (U := U.calling g mk a) rfl rfl h.2.2.1, va_Nw.same (u := U) (U := U.calling g mk a) rfl rfl h.2.2.2.1, va_Nw.same (u := U) (U := U.calling g mk a) rfl rfl h.2.2.2.2.1, va_Nw.same (u := U) (U := U.calling g mk a) rfl rfl h.2.2.2.2.2.1, va_Nw.same (u := U) (U := U.calling g mk a) rfl rfl h.2.2.2.2.2.2.1, va_Nw.same (u := U) (U := U.calling g mk a) rfl rfl h.2.2.2.2.2.2.2⟩
set_option maxHeartbeats 8000000 in
set_option maxRecDepth 100000 in
theorem whole_start {p : Program} {e : Env} {s : State} {m : MethodId} {below : List Frame} {meth : Method} {c : Code} (l : Launch) {b L : Nat} {xs : Nat → Int32} (hL : L ≤ 384) (C0 : lw_At p s m meth c b L xs) : W p l e room_1 s m #[Value.ref b] below meth c s.heap [] 0 0 (lw_Z below #[Value.ref b] s) (entryFrame m ([Value.ref b] : List Value).toArray 4) := by
  obtain ⟨hx, hb, hr, hml, hown, hts, hX, hbl, hlocks, hgv⟩ := C0
  have hg := flat_of_before _ hgv
  have htg : ∀ w ∈ gw, w.before #[Value.ref b] s = true := fun w h => hts w (List.mem_filter.mp h).1
  have hno : ∀ a : Nat, a < s.heap.size → ¬ (fun q : Nat => s.heap.size ≤ q) a := fun a h => Nat.not_le.mpr h
  obtain ⟨c0, i0, hKn0⟩ := u_known (C := RX0) (T := TX0) (N := 3) (n := 3) htg uin_X0 (htg (.instantiable RX0 3) gk_1_127)
  obtain ⟨c1, i1, hKn1⟩ := u_known (C := RX1) (T := TX1) (N := 12) (n := 12) htg uin_X1 (htg (.instantiable RX1 12) gk_1_24)
  obtain ⟨c2, i2, hKn2⟩ := u_known (C := RX2) (T := TX2) (N := 2) (n := 2) htg uin_X2 (htg (.instantiable RX2 2) gk_1_179)
  obtain ⟨c3, i3, hKn3⟩ := u_known (C := RX3) (T := TX3) (N := 3) (n := 3) htg uin_X3 (htg (.instantiable RX3 3) gk_1_193)
  obtain ⟨c4, i4, hKn4⟩ := u_known (C := RX4) (T := TX4) (N := 8) (n := 8) htg uin_X4 (htg (.instantiable RX4 8) gk_1_144)
  obtain ⟨c5, i5, hKn5⟩ := u_known (C := RX5) (T := TX5) (N := 5) (n := 5) htg uin_X5 (htg (.instantiable RX5 5) gk_1_102)
  obtain ⟨c6, i6, hKn6⟩ := u_known (C := RX6) (T := TX6) (N := 10) (n := 10) htg uin_X6 (htg (.instantiable RX6 10) gk_1_13)
  obtain ⟨c7, i7, hKn7⟩ := u_known (C := RX7) (T := TX7) (N := 17) (n := 17) htg uin_X7 (htg (.instantiable RX7 17) gk_3_207)
  obtain ⟨k0, hk0⟩ := start_ty (ty := .int) (htg _ gk_1_100) (fun C h => by cases h)
  obtain ⟨k1, hk1⟩ := start_ty (ty := .boolean) (htg _ gk_4_24) (fun C h => by cases h)
  have hO2 : va_AO "WakeLet$Row" s := va_AO.of (hts _ (tb_1 (List.mem_of_getElem? (i := 21) rfl)))
  have hO3 : va_AO "WakeLet$Agency" s := va_AO.of (hts _ (tb_1 (List.mem_of_getElem? (i := 23) rfl)))
  obtain ⟨k2, hk2⟩ := start_ao hO2
  obtain ⟨k3, hk3⟩ := start_ao hO3
  have hE : EX6 s := ⟨hO2, hO3, va_Nw.of rfl (hts _ (tb_1 (List.mem_of_getElem? (i := 25) rfl))), va_Nw.of rfl (hts _ (tb_1 (List.mem_of_getElem? (i := 103) rfl))), va_Nw.of rfl (hts _ (tb_1 (List.mem_of_getElem? (i := 128) rfl))), va_Nw.of rfl (hts _ (tb_1 (List.mem_of_getElem? (i := 145) rfl))), va_Nw.of rfl (hts _ (tb_1 (List.mem_of_getElem? (i := 180) rfl))), va_Nw.of rfl (hts _ (tb_1 (List.mem_of_getElem? (i := 194) rfl)))⟩
  obtain ⟨t0, hT0⟩ := start_st (n := "PARENTS") (f := stP) (A := fun q : Nat => s.heap.size ≤ q) (hts _ (tb_3 (List.mem_of_getElem? (i := 154) rfl))) (hts _ (tb_1 (List.mem_of_getElem? (i := 6) rfl))) (hg _ (by decide +kernel)) (hg _ (by decide +kernel)) (fun j hj => by rcases (show j = 0 ∨ j = 1 ∨ j = 2 ∨ j = 3 ∨ j = 4 ∨ j = 5 by omega) with rfl | rfl | rfl | rfl | rfl | rfl <;> exact hg _ (by decide +kernel)) hno
  obtain ⟨t1, hT1⟩ := start_st (n := "SIZE_BODIES") (f := stS) (A := fun q : Nat => s.heap.size ≤ q) (hts _ (tb_3 (List.mem_of_getElem? (i := 175) rfl))) (hts _ (tb_1 (List.mem_of_getElem? (i := 6) rfl))) (hg _ (by decide +kernel)) (hg _ (by decide +kernel)) (fun j hj => by rcases (show j = 0 ∨ j = 1 ∨ j = 2 ∨ j = 3 ∨ j = 4 ∨ j = 5 by omega) with rfl | rfl | rfl | rfl | rfl | rfl <;> exact hg _ (by decide +kernel)) hno
  obtain ⟨t2, hT2⟩ := start_st (n := "MARK_BODIES") (f := stM) (A := fun q : Nat => s.heap.size ≤ q) (hts _ (tb_3 (List.mem_of_getElem? (i := 177) rfl))) (hts _ (tb_1 (List.mem_of_getElem? (i := 6) rfl))) (hg _ (by decide +kernel)) (hg _ (by decide +kernel)) (fun j hj => by rcases (show j = 0 ∨ j = 1 ∨ j = 2 ∨ j = 3 ∨ j = 4 ∨ j = 5 by omega) with rfl | rfl | rfl | rfl | rfl | rfl <;> exact hg _ (by decide +kernel)) hno
  obtain ⟨D, hD⟩ : ∃ D : va_G, D = (fun k => if k = 0 then c0 else if k = 1 then c1 else if k = 2 then c2 else if k = 3 then c3 else if k = 4 then c4 else if k = 5 then c5 else if k = 6 then c6 else c7, fun k => if k = 0 then i0 else if k = 1 then i1 else if k = 2 then i2 else if k = 3 then i3 else if k = 4 then i4 else if k = 5 then i5 else if k = 6 then i6 else i7) := ⟨_, rfl⟩
  obtain ⟨K, hKe⟩ : ∃ K : Nat → ClassId, K = (fun k => if k = 0 then k0 else if k = 1 then k1 else if k = 2 then k2 else k3) := ⟨_, rfl⟩
  have hK : va_K D vwCl (TY K) s := by
    refine ⟨?_, ?_⟩
    · intro k q hq
      rw [hD]
      match k, hq with
      | 0, hq => cases hq; exact hKn0
      | 1, hq => cases hq; exact hKn1
      | 2, hq => cases hq; exact hKn2
      | 3, hq => cases hq; exact hKn3
      | 4, hq => cases hq; exact hKn4
      | 5, hq => cases hq; exact hKn5
      | 6, hq => cases hq; exact hKn6
      | 7, hq => cases hq; exact hKn7
      | k + 8, hq => simp [vwCl] at hq
    · intro k q hq
      rw [hKe] at hq
      match k, hq with
      | 0, hq => cases hq; exact hk0
      | 1, hq => cases hq; exact hk1
      | 2, hq => cases hq; exact hk2
      | 3, hq => cases hq; exact hk3
      | k + 4, hq => simp at hq
  obtain ⟨t, ht⟩ : ∃ t : Nat → Nat, t = (fun k => if k = 0 then t0 else if k = 1 then t1 else t2) := ⟨_, rfl⟩
  have hT : ST t (fun q : Nat => s.heap.size ≤ q) s s.heap := by rw [ht]; exact ⟨hT0, hT1, hT2⟩
  have hl := lv_entry ([.ref b]) (n := 4) (Nat.le_of_ble_eq_true rfl)
  rw [lg_entry_eq]
  generalize (lg_sl ([.ref b]) ++ List.replicate (4 - (lg_sl ([.ref b])).length) Slot.unset).toArray = ls at hl ⊢
  have hl : lv_has ls 4 [(0, .ref b)] := hl
  suffices go : ∀ (G F : FX) (H : Heap) (locs : List Loc) (A : Nat → Prop), G = (p, l, e, room_1, s, m, #[Value.ref b], below, meth, c, 0, 0) → A = (fun q : Nat => s.heap.size ≤ q) → FA F G room_1 0 0 → Cx F cL_law 4 RL D (TY K) → HH F D A ([] : va_W) H locs → (∀ q : Nat, (fxS F).heap.size ≤ q → A q) → fxS F = s → V F (lw_Z below #[Value.ref b] s) H locs 0 ls [] from
    go (p, l, e, room_1, s, m, #[Value.ref b], below, meth, c, 0, 0) (p, l, e, room_1, s, m, #[Value.ref b], below, meth, c, 0, 0) s.heap [] (fun q : Nat => s.heap.size ≤ q) rfl rfl ⟨rfl, rfl⟩ ⟨⟨hx, hb, hml, hown, htg⟩, hK⟩ ⟨fun k q h => by simp at h, ⟨fun i j p q h => by simp at h, fun k q h => by simp at h⟩, va_S.rf⟩ (fun _ h => h) rfl
  intro G F H locs A hG hAe hF X hH hA hs
  refine v_new X hF hH hA nk_L_7 (by decide) (by decide) dL_law_0 (fun F q1 H hF X hH hA hs1 => ?_)
  have hs := hs1.trans hs
  refine v_dup X dL_law_3 rfl ?_
  refine v_ctorP (wr := ([] : va_W)) X hF mi_L_9 rfl (c_X6_init F.2.1 D K q1) (fun U hW => ex6_warm (by rw [hs]; exact hE) hW) (fun U g mk a h => ex6_call h g mk a) ⟨by decide, by decide, by decide, by decide⟩ hA hH hl.1 (Nat.le_of_ble_eq_true rfl) dL_law_4 (fun F z H locs hF X hu hHn hA hs1 => ?_)
  have hs := hs1.trans hs
  subst hu
  have hH := hHn
  refine v_astore_n (lv' := [(1, .ref (z.1 0)), (0, .ref b)]) X dL_law_7 rfl hl (by decide) rfl (fun ls hl => ?_)
  refine v_new X hF hH hA nk_L_10 (by decide) (by decide) dL_law_8 (fun F q2 H hF X hH hA hs1 => ?_)
  have hs := hs1.trans hs
  refine v_dup X dL_law_11 rfl ?_
  refine v_ctorP (wr := ([] : va_W) ++ XZ K z) X hF mi_L_12 rfl (c_X7_init F.2.1 D K q2) (fun U hW => trivial) (fun U g mk a h => trivial) ⟨by decide, by decide, by decide, by decide⟩ hA hH hl.1 (Nat.le_of_ble_eq_true rfl) dL_law_12 (fun F mo H locs hF X hu hHn hA hs1 => ?_)
  have hs := hs1.trans hs
  subst hu
  have hH := hHn
  refine v_astore_n (lv' := [(2, .ref (mo 0)), (1, .ref (z.1 0)), (0, .ref b)]) X dL_law_15 rfl hl (by decide) rfl (fun ls hl => ?_)
  refine v_iconst (v := 0) X dL_law_16 (by decide) ?_
  refine v_istore_n (lv' := [(3, .int 0), (2, .ref (mo 0)), (1, .ref (z.1 0)), (0, .ref b)]) X dL_law_17 rfl hl (by decide) rfl (fun ls hl => ?_)
  have hb1 : F.2.2.2.2.2.2.2.1 = below := by rw [hF.1, hG]
  have hLW : LW F b A := by
    refine ⟨?_, ?_, ?_, ?_, ?_, ?_, ?_⟩
    · rw [hF.1, hG]
    · rw [hF.1, hG]
    · rw [hF.1, hG]; exact hr
    · rw [hF.1, hG]; exact hlocks
    · rw [hAe, hs]
    · rw [hF.1]; exact Nat.le_of_ble_eq_true rfl
    · rw [hF.1]; exact Nat.le_of_ble_eq_true rfl
  have hFo : FOk F room_1 ret := ⟨hLW.1, ⟨by rw [show fxR F = room_1 from hLW.1]; exact hLW.2.2.2.2.2.1, by rw [show fxR F = room_1 from hLW.1]; exact hLW.2.2.2.2.2.2⟩, hLW.2.2.1, hLW.2.2.2.1⟩
  have hSX : SX F A b L xs := by rw [SX, hs, hAe]; exact ⟨hX, hbl, Nat.not_le.mpr hbl⟩
  have hTF : ST t A (fxS F) (fxS F).heap := by rw [hs, hAe]; exact hT
  have goal := law_loop (x := z.1) (no := z.2.1) (tr := z.2.2.1) (tp := z.2.2.2.1) (ac := z.2.2.2.2.1) (se := z.2.2.2.2.2.1) (ak := z.2.2.2.2.2.2.1) (ro := z.2.2.2.2.2.2.2.1) (im := z.2.2.2.2.2.2.2.2) (mo := mo) hLW hFo X hSX hTF hA (fun _ => True) 0 (0, 0) zX1 zX1 zX5 zX0 zX4 zX2 (fun _ => zX3) (fun _ => zX1) zX7 ls H locs (law_pure hL xs) (lv_sub hl [3, 2, 1, 0] rfl) hH
  rw [hb1, hs] at goal
  exact goal
