theorem bi_iff {p q : Prop} [Decidable p] [Decidable q] (h : p ↔ q) : bi p = bi q := by
  by_cases hq : q
  · rw [bi_t hq, bi_t (h.mpr hq)]
  · rw [bi_f hq, bi_f (fun x => hq (h.mp x))]
theorem p_isRow {a : Int32} {post : Int32 → Prop} (hp : post (bi (0 ≤ a.toInt ∧ a.toInt < (8 : Nat)))) : w_X7_isRow a post := by
  unfold w_X7_isRow
  refine p_in ⟨bi_bz, ?_⟩
  rw [t64, l64_0, show (7 : Int64).toInt = 7 from rfl, bi_iff (show ((0 : Int) ≤ a.toInt ∧ a.toInt ≤ 7) ↔ (0 ≤ a.toInt ∧ a.toInt < (8 : Nat)) by omega)]
  exact hp
theorem p_within7 {a : Int32} {post : Int32 → Prop} (hp : post (bi (0 ≤ a.toInt ∧ a.toInt < (8 : Nat)))) : w_X6_isWithin a 0 7 post := by
  refine p_isWithin ?_
  rw [lit_toInt0, show (7 : Int32).toInt = 7 from rfl, bi_iff (show ((0 : Int) ≤ a.toInt ∧ a.toInt ≤ 7) ↔ (0 ≤ a.toInt ∧ a.toInt < (8 : Nat)) by omega)]
  exact hp
theorem nI_ge0 {n : Nat} (h : n < 2147483648) : (0 : Int32) ≤ nI n := (nIle (a := 0) (by omega) h).mpr (Nat.zero_le _)
theorem p_miss1 {u : BX3} (h : u.2.2 = -1) {post : Int32 → Prop} (hp : post 1) : w_X3_isMissing u post := by
  unfold w_X3_isMissing
  rw [h]
  exact ⟨fun q => absurd q (by decide), fun _ => hp⟩
theorem p_miss0 {u : BX3} {n : Nat} (h : u.2.2 = nI n) (hn : n ≤ 40) {post : Int32 → Prop} (hp : post 0) : w_X3_isMissing u post := by
  unfold w_X3_isMissing
  rw [h]
  exact ⟨fun _ => hp, fun q => absurd (nI_ge0 (by omega)) q⟩
theorem p_holds {u : BX3} {n : Nat} (e : u.2.2 = nI n) (hn : n ≤ 40) {a b : Int32} {post : Int32 → Prop} (hp : post (bi (0 ≤ a.toInt ∧ 0 ≤ b.toInt ∧ a.toInt + b.toInt ≤ n))) : w_X3_holds u a b post := by
  unfold w_X3_holds
  rw [e, i32_lt, i32_lt, i32_lt, i32_lt, lit_toInt0, nIto (by omega)]
  refine ⟨fun h => ?_, fun h => ⟨fun h2 => ?_, fun h2 => ⟨fun h3 => ?_, fun h3 => ?_⟩⟩⟩
  · rw [bi_f (by omega)] at hp; exact hp
  · rw [bi_f (by omega)] at hp; exact hp
  · rw [bi_f (by omega)] at hp; exact hp
  · obtain ⟨k, hk, rfl⟩ := nI_range2 (c := b) (N := n) (by omega) (by omega)
    rw [nIto (by omega)] at hp
    rw [pk_sub_toInt (by omega) (by omega)]
    refine ⟨fun h4 => ?_, fun h4 => ?_⟩
    · rw [bi_f (by omega)] at hp; exact hp
    · rw [bi_t (by omega)] at hp; exact hp
theorem p_isWithinM {a b : Int32} {n : Nat} (hn : n ≤ 40) {post : Int32 → Prop} (hp : post (bi (0 ≤ a.toInt ∧ a.toInt + b.toInt ≤ n))) : w_X7_isWithin a b (nI n) post := by
  unfold w_X7_isWithin
  rw [i32_lt, lit_toInt0, lg_cmp_gt, Int64.lt_iff_toInt_lt, lg_i2l_add, t64, nIto (by omega)]
  refine ⟨fun h => ?_, fun h => ⟨fun h2 => ?_, fun h2 => ?_⟩⟩
  · rw [bi_f (by omega)] at hp; exact hp
  · rw [bi_f (by omega)] at hp; exact hp
  · rw [bi_t (by omega)] at hp; exact hp
theorem p_make {u : BX3} {a0 a1 : Int32} {post : BX3 → Prop} (hp : ∀ it, (∀ i, i < 40 → it i = nI 0) → post (it, a0, a1)) : w_X3_make u a0 a1 post := by
  unfold w_X3_make
  refine up_inv (fun n i (v : BX3) => wL_X3_make_12 post (fun u3 => post u3) n i v) 40 (fun j v => ∃ it, v = (it, a0, a1) ∧ ∀ i, i < j → it i = nI 0) ?_ ?_ _ ⟨u.1, rfl, fun i hi => absurd hi (by omega)⟩
  · intro n v hv
    obtain ⟨it, rfl, h⟩ := hv
    show wL_X3_make_12 _ _ _ _ _
    unfold wL_X3_make_12
    exact ⟨fun _ => hp it h, fun h => absurd (Int32.le_refl _) h⟩
  · intro n j v hj hv ih
    obtain ⟨it, rfl, h⟩ := hv
    show wL_X3_make_12 _ _ _ _ _
    unfold wL_X3_make_12
    simp (disch := omega) only [liN, nI_add, nIcl, nIle, nI_1]
    refine ⟨fun h => absurd h (by omega), fun _ => ⟨nIin (by omega) (by omega), ih _ ⟨upd it j (nI 0), rfl, fun i hi => ?_⟩⟩⟩
    rw [upd_at]
    by_cases hij : i = j
    · rw [if_pos hij]
    · rw [if_neg hij]; exact h i (by omega)
theorem p_rowL {k : Nat} (hk : k < 8) {y6 : Int32} {post : Int32 → BX7 → Prop} {Kx : BX7 → Prop} {u : BX7} (hp : ∀ rows', (∀ j, rows' j = if 40 * k ≤ j ∧ j < 40 * k + 40 then nI 0 else u.2.2.2.2.1 j) → Kx (u.1, u.2.1, u.2.2.1, u.2.2.2.1, rows', u.2.2.2.2.2)) : ∃ n55, wL_X7_row_55 (nI k) y6 post Kx n55 (0 : Int32) u := by
  refine up_inv (fun n i (v : BX7) => wL_X7_row_55 (nI k) y6 post Kx n i v) 40 (fun j v => ∃ rows', v = (u.1, u.2.1, u.2.2.1, u.2.2.2.1, rows', u.2.2.2.2.2) ∧ ∀ i, rows' i = if 40 * k ≤ i ∧ i < 40 * k + j then nI 0 else u.2.2.2.2.1 i) ?_ ?_ u ⟨u.2.2.2.2.1, rfl, fun i => by rw [if_neg (by omega)]⟩
  · intro n v hv
    obtain ⟨rows', rfl, h⟩ := hv
    show wL_X7_row_55 _ _ _ _ _ _ _
    unfold wL_X7_row_55
    exact ⟨fun _ => hp rows' h, fun h => absurd (Int32.le_refl _) h⟩
  · intro n j v hj hv ih
    obtain ⟨rows', rfl, h⟩ := hv
    show wL_X7_row_55 _ _ _ _ _ _ _
    unfold wL_X7_row_55
    simp (disch := omega) only [liN, nI_add, pk_mul, nIcl, nIle, nI_1]
    refine ⟨fun h => absurd h (by omega), fun _ => ⟨nIin (by omega) (by omega), ih _ ⟨upd rows' (40 * k + j) (nI 0), rfl, fun i => ?_⟩⟩⟩
    rw [upd_at]
    by_cases hi : i = 40 * k + j
    · rw [if_pos hi, if_pos (by omega)]
    · rw [if_neg hi, h]
      by_cases h3 : 40 * k ≤ i ∧ i < 40 * k + j
      · rw [if_pos h3, if_pos (by omega)]
      · rw [if_neg h3, if_neg (by omega)]
theorem RowR.up {rs : Nat → BX3} {rows sz ln : Nat → Int32} (h : RowR rs rows sz ln) {k : Nat} {u : BX3} {rows' sz' ln' : Nat → Int32} (hk : (u.2.2 = -1 ∧ sz' k = -1) ∨ (∃ n l, n ≤ 40 ∧ l ≤ 2 ∧ u.2.2 = nI n ∧ sz' k = nI n ∧ u.2.1 = nI l ∧ ln' k = nI l ∧ ∀ i, i < 40 → u.1 i = rows' (40 * k + i))) (ho : ∀ r, r < 8 → r ≠ k → sz' r = sz r ∧ ln' r = ln r ∧ ∀ i, i < 40 → rows' (40 * r + i) = rows (40 * r + i)) : RowR (va_up rs k u) rows' sz' ln' := by
  intro r hr
  by_cases hrk : r = k
  · subst hrk
    rw [va_up_self]
    exact hk
  · rw [va_up_ne _ _ hrk]
    obtain ⟨o1, o2, o3⟩ := ho r hr hrk
    rcases h r hr with ⟨e1, e2⟩ | ⟨n, l, e1, e2, e3, e4, e5, e6, e7⟩
    · exact Or.inl ⟨e1, o1.trans e2⟩
    · exact Or.inr ⟨n, l, e1, e2, e3, o1.trans e4, e5, o2.trans e6, fun i hi => (e7 i hi).trans (o3 i hi).symm⟩
theorem up_same3 {rs : Nat → BX3} {k : Nat} : va_up rs k (rs k) = rs := by
  funext i
  by_cases h : i = k
  · subst h; exact va_up_self _ _ _
  · exact va_up_ne _ _ h
section OPSH
variable {ux : BX6} {un ut : BX1} {up : BX5} {ua : BX0} {us : BX4} {uk : BX2} {rs : Nat → BX3} {ms : Nat → BX1} {m : BX7} {a0 a1 a2 a3 a4 : Int32}
theorem RR.stat (h : RR ux un up ua uk rs ms m) (s : Int32) : RR (ux.1, s) un up ua uk rs ms (m.1, m.2.1, m.2.2.1, m.2.2.2.1, m.2.2.2.2.1, m.2.2.2.2.2.1, m.2.2.2.2.2.2.1, s, m.2.2.2.2.2.2.2.2) := by
  obtain ⟨g, h1, h2, h3, h4, h5, h6, h7, h8⟩ := h
  exact ⟨g, h1, h2, h3, h4, h5, h6, h7, rfl⟩
theorem RR.rows (h : RR ux un up ua uk rs ms m) {rs' : Nat → BX3} {rows' sz' ln' held' : Nat → Int32} (hr : RowR rs' rows' sz' ln') (s : Int32) : RR (ux.1, s) un up ua uk rs' ms (m.1, m.2.1, m.2.2.1, m.2.2.2.1, rows', sz', ln', s, m.2.2.2.2.2.2.2.2.1, m.2.2.2.2.2.2.2.2.2.1, m.2.2.2.2.2.2.2.2.2.2.1, m.2.2.2.2.2.2.2.2.2.2.2.1, m.2.2.2.2.2.2.2.2.2.2.2.2.1, held', m.2.2.2.2.2.2.2.2.2.2.2.2.2.2) := by
  obtain ⟨g, h1, h2, h3, h4, h5, h6, h7, h8⟩ := h
  exact ⟨g, h1, h2, h3, hr, h5, h6, h7, rfl⟩
theorem op_row (hR : RR ux un up ua uk rs ms m) {P : Int32 → BX6 → (Nat → BX3) → Int32 → BX7 → Prop} (hp : ∀ r ux' rs' m', RR ux' un up ua uk rs' ms m' → P r ux' rs' r m') : W_X6_row ux rs a0 a1 a2 (fun r ux' rs' => w_X7_row m a0 a1 a2 (fun r2 m' => P r ux' rs' r2 m')) := by
  have hRow : RowR rs m.2.2.2.2.1 m.2.2.2.2.2.1 m.2.2.2.2.2.2.1 := hR.choose_spec.2.2.2.1
  unfold W_X6_row
  by_cases h0 : 0 ≤ a0.toInt ∧ a0.toInt < (8 : Nat)
  · obtain ⟨k, hk, rfl⟩ := nI_range h0 (by decide)
    have hv : vp_in (nI k) 8 := nIin hk (by omega)
    refine ⟨k, hk, fun _ => nIcl (by omega), ?_⟩
    unfold w_X6_row w_X7_row
    refine p_within7 ?_
    rw [bi_t h0]
    refine sel1 (p_isWithin ?_)
    rw [lit_toInt0, show (2 : Int32).toInt = (2 : Nat) from rfl]
    by_cases h1 : 0 ≤ a1.toInt ∧ a1.toInt ≤ (2 : Nat)
    · rw [bi_t h1]
      obtain ⟨l, hl, rfl⟩ := nI_range2 h1 (by decide)
      refine sel1 ⟨fun h2 => ⟨fun h3 => ⟨hv, p_make (fun it hit => ?_)⟩, fun h3 => ?_⟩, fun h2 => ?_⟩
      · refine p_isRow ?_
        rw [bi_t h0]
        refine sel1 (p_in ?_)
        rw [t64, l64_0, show (2 : Int64).toInt = (2 : Nat) from rfl, bi_t h1]
        refine sel1 ⟨fun _ => ⟨fun _ => ⟨hv, hv, p_rowL hk (fun rows' hr => ?_)⟩, fun q => absurd h3 q⟩, fun q => absurd h2 q⟩
        have g2 := i32_le.mp h2
        have g3 := i32_le.mp h3
        rw [show (40 : Int32).toInt = (40 : Nat) from rfl] at g2
        rw [lit_toInt0] at g3
        obtain ⟨n, hn, rfl⟩ := nI_range2 ⟨g3, g2⟩ (by decide)
        rw [nIcl (by omega)]
        refine hp _ _ _ _ (hR.rows (held' := m.2.2.2.2.2.2.2.2.2.2.2.2.2.1) (rows' := rows') (sz' := upd m.2.2.2.2.2.1 k (nI n)) (ln' := upd m.2.2.2.2.2.2.1 k (nI l)) (hRow.up (k := k) (Or.inr ⟨n, l, hn, hl, rfl, ?_, rfl, ?_, fun i hi => ?_⟩) (fun r hr8 hrk => ⟨?_, ?_, fun i hi => ?_⟩)) 0)
        · rw [upd_at, if_pos rfl]
        · rw [upd_at, if_pos rfl]
        · rw [hr, if_pos (by omega)]; exact hit i hi
        · rw [upd_at, if_neg hrk]
        · rw [upd_at, if_neg hrk]
        · rw [hr, if_neg (by omega)]
      · refine p_isRow ?_
        rw [bi_t h0]
        refine sel1 (p_in ?_)
        rw [t64, l64_0, show (2 : Int64).toInt = (2 : Nat) from rfl, bi_t h1]
        refine sel1 ⟨fun _ => ⟨fun q => absurd q h3, fun _ => ?_⟩, fun q => absurd h2 q⟩
        refine hp _ _ _ _ ?_
        rw [up_same3]
        exact hR.stat 4
      · refine p_isRow ?_
        rw [bi_t h0]
        refine sel1 (p_in ?_)
        rw [t64, l64_0, show (2 : Int64).toInt = (2 : Nat) from rfl, bi_t h1]
        refine sel1 ⟨fun q => absurd q h2, fun _ => ?_⟩
        refine hp _ _ _ _ ?_
        rw [up_same3]
        exact hR
    · rw [bi_f h1]
      refine sel0 (p_isRow ?_)
      rw [bi_t h0]
      refine sel1 (p_in ?_)
      rw [t64, l64_0, show (2 : Int64).toInt = (2 : Nat) from rfl, bi_f h1]
      refine sel0 (hp _ _ _ _ ?_)
      rw [up_same3]
      exact hR
  · obtain ⟨k, hk, he⟩ := pick_in a0 (N := 8) (by omega)
    refine ⟨k, hk, he, ?_⟩
    unfold w_X6_row w_X7_row
    refine p_within7 ?_
    rw [bi_f h0]
    refine sel0 (p_isRow ?_)
    rw [bi_f h0]
    refine sel0 (hp _ _ _ _ ?_)
    rw [up_same3]
    exact hR
theorem op_drop (hR : RR ux un up ua uk rs ms m) {P : Int32 → BX6 → (Nat → BX3) → Int32 → BX7 → Prop} (hp : ∀ r ux' rs' m', RR ux' un up ua uk rs' ms m' → P r ux' rs' r m') : W_X6_drop ux rs a0 (fun r ux' rs' => w_X7_drop m a0 (fun r2 m' => P r ux' rs' r2 m')) := by
  have hRow : RowR rs m.2.2.2.2.1 m.2.2.2.2.2.1 m.2.2.2.2.2.2.1 := hR.choose_spec.2.2.2.1
  unfold W_X6_drop
  by_cases h0 : 0 ≤ a0.toInt ∧ a0.toInt < (8 : Nat)
  · obtain ⟨k, hk, rfl⟩ := nI_range h0 (by decide)
    have hv : vp_in (nI k) 8 := nIin hk (by omega)
    refine ⟨k, hk, fun _ => nIcl (by omega), ?_⟩
    unfold w_X6_drop w_X7_drop
    refine p_within7 ?_
    rw [bi_t h0]
    refine sel1 ⟨hv, ?_⟩
    rcases hRow k hk with ⟨e1, e2⟩ | ⟨n, l, hn, hl, e1, e2, e3, e4, e5⟩
    · refine p_miss1 e1 (sel1 (p_isRow ?_))
      rw [bi_t h0, nIcl (by omega), e2]
      refine sel1 ⟨hv, fun q => absurd q (by decide), fun _ => hp _ _ _ _ ?_⟩
      rw [up_same3]
      exact hR.stat 1
    · refine p_miss0 e1 hn (sel0 (fun x hx => p_isRow ?_))
      rw [bi_t h0, nIcl (by omega), e2]
      rw [e1] at hx
      subst hx
      refine sel1 ⟨hv, fun _ => ⟨hv, fun x2 hx2 => ⟨hv, ?_⟩⟩, fun q => absurd (nI_ge0 (by omega)) q⟩
      subst hx2
      refine hp _ _ _ _ (hR.rows (held' := m.2.2.2.2.2.2.2.2.2.2.2.2.2.1) (rows' := m.2.2.2.2.1) (sz' := upd m.2.2.2.2.2.1 k (-1)) (ln' := m.2.2.2.2.2.2.1) (hRow.up (k := k) (Or.inl ⟨rfl, ?_⟩) (fun r hr8 hrk => ⟨?_, rfl, fun i hi => rfl⟩)) 0)
      · rw [upd_at, if_pos rfl]
      · rw [upd_at, if_neg hrk]
  · obtain ⟨k, hk, he⟩ := pick_in a0 (N := 8) (by omega)
    refine ⟨k, hk, he, ?_⟩
    unfold w_X6_drop w_X7_drop
    refine p_within7 ?_
    rw [bi_f h0]
    refine sel0 (p_isRow ?_)
    rw [bi_f h0]
    refine sel0 (hp _ _ _ _ ?_)
    rw [up_same3]
    exact hR
theorem op_set (hR : RR ux un up ua uk rs ms m) {P : Int32 → BX6 → (Nat → BX3) → Int32 → BX7 → Prop} (hp : ∀ r ux' rs' m', RR ux' un up ua uk rs' ms m' → P r ux' rs' r m') : W_X6_set ux rs a0 a1 a2 (fun r ux' rs' => w_X7_set m a0 a1 a2 (fun r2 m' => P r ux' rs' r2 m')) := by
  have hRow : RowR rs m.2.2.2.2.1 m.2.2.2.2.2.1 m.2.2.2.2.2.2.1 := hR.choose_spec.2.2.2.1
  unfold W_X6_set
  by_cases h0 : 0 ≤ a0.toInt ∧ a0.toInt < (8 : Nat)
  · obtain ⟨k, hk, rfl⟩ := nI_range h0 (by decide)
    have hv : vp_in (nI k) 8 := nIin hk (by omega)
    refine ⟨k, hk, fun _ => nIcl (by omega), ?_⟩
    unfold w_X6_set w_X6_found w_X6_unfound
    refine p_within7 ?_
    rw [bi_t h0]
    refine sel1 ⟨hv, ?_⟩
    rcases hRow k hk with ⟨e1, e2⟩ | ⟨n, l, hn, hl, e1, e2, e3, e4, e5⟩
    · refine p_miss1 e1 (sel1 (p_isRow ?_))
      rw [bi_t h0, nIcl (by omega), e2]
      refine sel1 ⟨hv, fun q => absurd q (by decide), fun _ => hp _ _ _ _ ?_⟩
      rw [up_same3]
      exact hR.stat 1
    · refine p_miss0 e1 hn (sel0 (p_holds e1 hn ?_))
      rw [show (1 : Int32).toInt = 1 from rfl]
      by_cases h1 : 0 ≤ a1.toInt ∧ (0 : Int) ≤ 1 ∧ a1.toInt + 1 ≤ n
      · rw [bi_t h1]
        obtain ⟨i, hi, rfl⟩ := nI_range (c := a1) (N := n) (by omega) (by omega)
        have hv2 : vp_in (nI i) 40 := nIin (by omega) (by omega)
        -- the reference's way, by the lane
        have M : ∀ (v : Int32) (Q : Int32 → BX7 → Prop), (l = 0 → v = a2.toInt8.toInt32) → (l = 1 → v = a2.toInt16.toInt32) → (l = 2 → v = a2) → (Q v (m.1, m.2.1, m.2.2.1, m.2.2.2.1, upd m.2.2.2.2.1 (40 * k + i) v, m.2.2.2.2.2.1, m.2.2.2.2.2.2.1, 0, m.2.2.2.2.2.2.2.2)) → w_X7_set m (nI k) (nI i) a2 Q := by
          intro v Q q0 q1 q2 hq
          unfold w_X7_set
          refine p_isRow ?_
          rw [bi_t h0, nIcl (by omega), e2, e4]
          refine sel1 ⟨hv, fun _ => ⟨hv, p_in ?_⟩, fun q => absurd (nI_ge0 (by omega)) q⟩
          rw [t64, t64, l64_0, show nI n - (1 : Int32) = nI n - nI 1 from rfl, pk_sub_toInt (by omega) (by omega), bi_t (by rw [nIto (by omega)]; omega)]
          refine sel1 ⟨hv, ?_⟩
          unfold wpJ
          have fin : ∀ z, z = v → (vp_in (((40 : Int32) * nI k) + nI i) 320 ∧ (vp_in (((40 : Int32) * nI k) + nI i) 320 ∧ (w_X7_good (m.1, m.2.1, m.2.2.1, m.2.2.2.1, (upd m.2.2.2.2.1 (((40 : Int32) * nI k) + nI i).toNatClampNeg z), m.2.2.2.2.2.1, m.2.2.2.2.2.2.1, m.2.2.2.2.2.2.2.1, m.2.2.2.2.2.2.2.2.1, m.2.2.2.2.2.2.2.2.2.1, m.2.2.2.2.2.2.2.2.2.2.1, m.2.2.2.2.2.2.2.2.2.2.2.1, m.2.2.2.2.2.2.2.2.2.2.2.2.1, m.2.2.2.2.2.2.2.2.2.2.2.2.2.1, m.2.2.2.2.2.2.2.2.2.2.2.2.2.2.1, m.2.2.2.2.2.2.2.2.2.2.2.2.2.2.2.1, m.2.2.2.2.2.2.2.2.2.2.2.2.2.2.2.2) ((upd m.2.2.2.2.1 (((40 : Int32) * nI k) + nI i).toNatClampNeg z) (((40 : Int32) * nI k) + nI i).toNatClampNeg) (fun r5 u6 => Q r5 u6)))) := by
            intro z hz
            subst hz
            have e : (40 : Int32) * nI k + nI i = nI (40 * k + i) := by simp (disch := omega) only [liN, nI_add, pk_mul]
            rw [e, nIcl (by omega)]
            refine ⟨nIin (by omega) (by omega), nIin (by omega) (by omega), ?_⟩
            show Q (upd m.2.2.2.2.1 (40 * k + i) z (40 * k + i)) _
            have e9 : upd m.2.2.2.2.1 (40 * k + i) z (40 * k + i) = z := by rw [upd_at, if_pos rfl]
            rw [e9]
            exact hq
          rcases (show l = 0 ∨ l = 1 ∨ l = 2 by omega) with rfl | rfl | rfl
          · exact ⟨fun _ => fin _ (q0 rfl).symm, fun q => absurd rfl q⟩
          · exact ⟨fun q => absurd q (by decide), fun _ => ⟨hv, fun _ => fin _ (q1 rfl).symm, fun q => absurd rfl q⟩⟩
          · exact ⟨fun q => absurd q (by decide), fun _ => ⟨hv, fun q => absurd q (by decide), fun _ => fin _ (q2 rfl).symm⟩⟩
        have fin2 : ∀ v, P (upd (rs k).1 i v i) (ux.1, 0) (va_up rs k (upd (rs k).1 i v, nI l, (rs k).2.2)) v (m.1, m.2.1, m.2.2.1, m.2.2.2.1, upd m.2.2.2.2.1 (40 * k + i) v, m.2.2.2.2.2.1, m.2.2.2.2.2.2.1, 0, m.2.2.2.2.2.2.2.2) := by
          intro v
          have e9 : upd (rs k).1 i v i = v := by rw [upd_at, if_pos rfl]
          rw [e9]
          refine hp _ _ _ _ (hR.rows (held' := m.2.2.2.2.2.2.2.2.2.2.2.2.2.1) (rows' := upd m.2.2.2.2.1 (40 * k + i) v) (sz' := m.2.2.2.2.2.1) (ln' := m.2.2.2.2.2.2.1) (hRow.up (k := k) (u := (upd (rs k).1 i v, nI l, (rs k).2.2)) (Or.inr ⟨n, l, hn, hl, e1, e2, rfl, e4, fun j hj => ?_⟩) (fun r hr8 hrk => ⟨rfl, rfl, fun j hj => ?_⟩)) 0)
          · show upd (rs k).1 i v j = upd m.2.2.2.2.1 (40 * k + i) v (40 * k + j)
            rw [upd_at, upd_at]
            by_cases hji : j = i
            · rw [if_pos hji, if_pos (by omega)]
            · rw [if_neg hji, if_neg (by omega)]; exact e5 j hj
          · show upd m.2.2.2.2.1 (40 * k + i) v (40 * r + j) = _
            rw [upd_at, if_neg (by omega)]
        refine sel1 ?_
        unfold w_X3_put
        rw [e3, nIcl (by omega)]
        rcases (show l = 0 ∨ l = 1 ∨ l = 2 by omega) with rfl | rfl | rfl
        · exact ⟨fun _ => ⟨hv2, hv2, M _ _ (fun _ => rfl) (fun q => absurd q (by decide)) (fun q => absurd q (by decide)) (fin2 _)⟩, fun q => absurd rfl q⟩
        · exact ⟨fun q => absurd q (by decide), fun _ => ⟨fun _ => ⟨hv2, hv2, M _ _ (fun q => absurd q (by decide)) (fun _ => rfl) (fun q => absurd q (by decide)) (fin2 _)⟩, fun q => absurd rfl q⟩⟩
        · exact ⟨fun q => absurd q (by decide), fun _ => ⟨fun q => absurd q (by decide), fun _ => ⟨hv2, hv2, M _ _ (fun q => absurd q (by decide)) (fun q => absurd q (by decide)) (fun _ => rfl) (fin2 _)⟩⟩⟩
      · rw [bi_f h1]
        refine sel0 (p_isRow ?_)
        rw [bi_t h0, nIcl (by omega), e2]
        refine sel1 ⟨hv, fun _ => ⟨hv, p_in ?_⟩, fun q => absurd (nI_ge0 (by omega)) q⟩
        rw [t64, t64, l64_0, show nI n - (1 : Int32) = nI n - nI 1 from rfl, pk_sub_toInt (by omega) (by omega), bi_f (by omega)]
        refine sel0 (hp _ _ _ _ ?_)
        rw [up_same3]
        exact hR.stat 2
  · obtain ⟨k, hk, he⟩ := pick_in a0 (N := 8) (by omega)
    refine ⟨k, hk, he, ?_⟩
    unfold w_X6_set w_X6_found w_X6_unfound
    refine p_within7 ?_
    rw [bi_f h0]
    refine sel0 (p_isRow ?_)
    rw [bi_f h0]
    refine sel0 (hp _ _ _ _ ?_)
    rw [up_same3]
    exact hR
end OPSH
