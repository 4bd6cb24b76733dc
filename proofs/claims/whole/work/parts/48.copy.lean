theorem p_copyL1 {k i n : Nat} (hk : k < 8) (hi : i + n ≤ 40) {y15 y16 : Int32} {post : Int32 → BX7 → Prop} {Kx : BX7 → Prop} {u : BX7} (hp : ∀ held', (∀ q, q < n → held' q = u.2.2.2.2.1 (40 * k + i + q)) → Kx (u.1, u.2.1, u.2.2.1, u.2.2.2.1, u.2.2.2.2.1, u.2.2.2.2.2.1, u.2.2.2.2.2.2.1, u.2.2.2.2.2.2.2.1, u.2.2.2.2.2.2.2.2.1, u.2.2.2.2.2.2.2.2.2.1, u.2.2.2.2.2.2.2.2.2.2.1, u.2.2.2.2.2.2.2.2.2.2.2.1, u.2.2.2.2.2.2.2.2.2.2.2.2.1, held', u.2.2.2.2.2.2.2.2.2.2.2.2.2.2)) : ∃ n107, wL_X7_copy_107 (nI k) (nI i) y15 y16 (nI n) post Kx n107 (0 : Int32) u := by
  refine up_inv (fun n2 x (v : BX7) => wL_X7_copy_107 (nI k) (nI i) y15 y16 (nI n) post Kx n2 x v) n (fun j v => ∃ held', v = (u.1, u.2.1, u.2.2.1, u.2.2.2.1, u.2.2.2.2.1, u.2.2.2.2.2.1, u.2.2.2.2.2.2.1, u.2.2.2.2.2.2.2.1, u.2.2.2.2.2.2.2.2.1, u.2.2.2.2.2.2.2.2.2.1, u.2.2.2.2.2.2.2.2.2.2.1, u.2.2.2.2.2.2.2.2.2.2.2.1, u.2.2.2.2.2.2.2.2.2.2.2.2.1, held', u.2.2.2.2.2.2.2.2.2.2.2.2.2.2) ∧ ∀ q, q < j → held' q = u.2.2.2.2.1 (40 * k + i + q)) ?_ ?_ u ⟨u.2.2.2.2.2.2.2.2.2.2.2.2.2.1, rfl, fun q hq => absurd hq (by omega)⟩
  · intro n2 v hv
    obtain ⟨held', rfl, h⟩ := hv
    show wL_X7_copy_107 _ _ _ _ _ _ _ _ _ _
    unfold wL_X7_copy_107
    exact ⟨fun _ => hp held' h, fun h => absurd (Int32.le_refl _) h⟩
  · intro n2 j v hj hv ih
    obtain ⟨held', rfl, h⟩ := hv
    show wL_X7_copy_107 _ _ _ _ _ _ _ _ _ _
    unfold wL_X7_copy_107
    simp (disch := omega) only [liN, nI_add, pk_mul, nIcl, nIle, nI_1]
    refine ⟨fun h => absurd h (by omega), fun _ => ⟨nIin (by omega) (by omega), nIin (by omega) (by omega), ih _ ⟨upd held' j (u.2.2.2.2.1 (40 * k + i + j)), rfl, fun q hq => ?_⟩⟩⟩
    rw [upd_at]
    by_cases hqj : q = j
    · rw [if_pos hqj, hqj]
    · rw [if_neg hqj]; exact h q (by omega)
theorem p_copyL2 {k i n : Nat} (hk : k < 8) (hi : i + n ≤ 40) {post : Int32 → BX7 → Prop} {Kx : BX7 → Prop} {u : BX7} (hp : ∀ rows', (∀ q, rows' q = if 40 * k + i ≤ q ∧ q < 40 * k + i + n then u.2.2.2.2.2.2.2.2.2.2.2.2.2.1 (q - (40 * k + i)) else u.2.2.2.2.1 q) → Kx (u.1, u.2.1, u.2.2.1, u.2.2.2.1, rows', u.2.2.2.2.2)) : ∃ n144, wL_X7_copy_144 (nI k) (nI i) (nI n) post Kx n144 (0 : Int32) u := by
  refine up_inv (fun n2 x (v : BX7) => wL_X7_copy_144 (nI k) (nI i) (nI n) post Kx n2 x v) n (fun j v => ∃ rows', v = (u.1, u.2.1, u.2.2.1, u.2.2.2.1, rows', u.2.2.2.2.2) ∧ ∀ q, rows' q = if 40 * k + i ≤ q ∧ q < 40 * k + i + j then u.2.2.2.2.2.2.2.2.2.2.2.2.2.1 (q - (40 * k + i)) else u.2.2.2.2.1 q) ?_ ?_ u ⟨u.2.2.2.2.1, rfl, fun q => by rw [if_neg (by omega)]⟩
  · intro n2 v hv
    obtain ⟨rows', rfl, h⟩ := hv
    show wL_X7_copy_144 _ _ _ _ _ _ _ _
    unfold wL_X7_copy_144
    exact ⟨fun _ => hp rows' h, fun h => absurd (Int32.le_refl _) h⟩
  · intro n2 j v hj hv ih
    obtain ⟨rows', rfl, h⟩ := hv
    show wL_X7_copy_144 _ _ _ _ _ _ _ _
    unfold wL_X7_copy_144
    simp (disch := omega) only [liN, nI_add, pk_mul, nIcl, nIle, nI_1]
    refine ⟨fun h => absurd h (by omega), fun _ => ⟨nIin (by omega) (by omega), nIin (by omega) (by omega), ih _ ⟨upd rows' (40 * k + i + j) (u.2.2.2.2.2.2.2.2.2.2.2.2.2.1 j), rfl, fun q => ?_⟩⟩⟩
    rw [upd_at]
    by_cases hq : q = 40 * k + i + j
    · rw [if_pos hq, if_pos (by omega), hq, show 40 * k + i + j - (40 * k + i) = j by omega]
    · rw [if_neg hq, h]
      by_cases h3 : 40 * k + i ≤ q ∧ q < 40 * k + i + j
      · rw [if_pos h3, if_pos (by omega)]
      · rw [if_neg h3, if_neg (by omega)]
theorem p_there {u : BX3} {c x : Nat} {J : Int32 → Prop} (hu : (c = 1 ∧ 0 ≤ u.2.2) ∨ (c = 0 ∧ ¬ 0 ≤ u.2.2)) (hx : J (nI (x + c))) : w_X3_isMissing u (fun r => wpJ (T := Int32 → Prop) J (fun J => (r = 0 → J (nI x + 1)) ∧ (¬ r = 0 → J (nI x)))) := by
  unfold w_X3_isMissing wpJ
  rcases hu with ⟨rfl, h⟩ | ⟨rfl, h⟩
  · refine ⟨fun _ => sel0 ?_, fun q => absurd h q⟩
    rw [nI_1]
    exact hx
  · exact ⟨fun q => absurd q h, fun _ => sel1 hx⟩
theorem p_there0 {u : BX3} {c : Nat} {J : Int32 → Prop} (hu : (c = 1 ∧ 0 ≤ u.2.2) ∨ (c = 0 ∧ ¬ 0 ≤ u.2.2)) (hx : J (nI (0 + c))) : w_X3_isMissing u (fun r => wpJ (T := Int32 → Prop) J (fun J => (r = 0 → J 1) ∧ (¬ r = 0 → J 0))) := p_there (x := 0) hu hx
section OPSI
variable {ux : BX6} {un ut : BX1} {up : BX5} {ua : BX0} {us : BX4} {uk : BX2} {rs : Nat → BX3} {ms : Nat → BX1} {m : BX7} {a0 a1 a2 a3 a4 : Int32}
theorem op_copy0 (hR : RR ux un up ua uk rs ms m) {P : Int32 → BX6 → (Nat → BX3) → Int32 → BX7 → Prop} (hp : ∀ r ux' rs' m', RR ux' un up ua uk rs' ms m' → P r ux' rs' r m') {k1 k2 : Nat} (hk1 : k1 < 8) (hk2 : k2 < 8) (q1 : 0 ≤ a0.toInt ∧ a0.toInt < (8 : Nat) → a0 = nI k1) (q2 : 0 ≤ a2.toInt ∧ a2.toInt < (8 : Nat) → a2 = nI k2) : w_X6_copy ux (rs k1) (rs k2) a0 a1 a2 a3 a4 (fun r ux1 r1 => w_X7_copy m a0 a1 a2 a3 a4 (fun r2 m' => P r ux1 (va_up rs k2 r1) r2 m')) := by
  have hRow : RowR rs m.2.2.2.2.1 m.2.2.2.2.2.1 m.2.2.2.2.2.2.1 := hR.choose_spec.2.2.2.1
  have hv1 : vp_in (nI k1) 8 := nIin hk1 (by omega)
  have hv2 : vp_in (nI k2) 8 := nIin hk2 (by omega)
  have same : ∀ (r : Int32) (s : Int32), P r (ux.1, s) (va_up rs k2 (rs k2)) r (m.1, m.2.1, m.2.2.1, m.2.2.2.1, m.2.2.2.2.1, m.2.2.2.2.2.1, m.2.2.2.2.2.2.1, s, m.2.2.2.2.2.2.2.2) := fun r s => hp _ _ _ _ (by rw [up_same3]; exact hR.stat s)
  unfold w_X6_copy w_X6_found w_X6_unfound
  refine p_within7 ?_
  by_cases h0 : 0 ≤ a0.toInt ∧ a0.toInt < (8 : Nat)
  · rw [bi_t h0]
    have e0 := q1 h0
    subst e0
    refine sel1 (p_within7 ?_)
    by_cases h2 : 0 ≤ a2.toInt ∧ a2.toInt < (8 : Nat)
    · rw [bi_t h2]
      have e0 := q2 h2
      subst e0
      refine sel1 ⟨hv1, hv2, ?_⟩
      rcases hRow k1 hk1 with ⟨e1, e2⟩ | ⟨n1, l1, hn1, hl1, e1, e2, e3, e4, e5⟩
      · refine p_miss1 e1 (sel1 (p_isRow ?_))
        rw [bi_t h0]
        refine sel1 (p_isRow ?_)
        rw [bi_t h2, nIcl (show k1 < _ by omega), e2]
        exact sel1 ⟨hv1, fun _ => same _ 1, fun q => absurd (by decide) q⟩
      · refine p_miss0 e1 hn1 (sel0 ?_)
        rcases hRow k2 hk2 with ⟨c1, c2⟩ | ⟨n2, l2, hn2, hl2, c1, c2, c3, c4, c5⟩
        · refine p_miss1 c1 (sel1 (p_isRow ?_))
          rw [bi_t h0]
          refine sel1 (p_isRow ?_)
          rw [bi_t h2, nIcl (show k1 < _ by omega), nIcl (show k2 < _ by omega), e2, c2]
          exact sel1 ⟨hv1, fun q => absurd q (nI_pos (by omega)), fun _ => ⟨hv2, fun q => absurd q (by decide), fun _ => same _ 1⟩⟩
        · -- the reference's way
          have M : ∀ Q : Int32 → BX7 → Prop, (¬ l1 = l2 → Q ((-1000010 : Int32) - 5) (m.1, m.2.1, m.2.2.1, m.2.2.2.1, m.2.2.2.2.1, m.2.2.2.2.2.1, m.2.2.2.2.2.2.1, 5, m.2.2.2.2.2.2.2.2)) → (l1 = l2 → ¬ ((0 ≤ a1.toInt ∧ 0 ≤ a4.toInt ∧ a1.toInt + a4.toInt ≤ n1) ∧ (0 ≤ a3.toInt ∧ 0 ≤ a4.toInt ∧ a3.toInt + a4.toInt ≤ n2)) → Q ((-1000010 : Int32) - 2) (m.1, m.2.1, m.2.2.1, m.2.2.2.1, m.2.2.2.2.1, m.2.2.2.2.2.1, m.2.2.2.2.2.2.1, 2, m.2.2.2.2.2.2.2.2)) → (l1 = l2 → ((0 ≤ a1.toInt ∧ 0 ≤ a4.toInt ∧ a1.toInt + a4.toInt ≤ n1) ∧ (0 ≤ a3.toInt ∧ 0 ≤ a4.toInt ∧ a3.toInt + a4.toInt ≤ n2)) → ∃ n107, wL_X7_copy_107 (nI k1) a1 (nI k2) a3 a4 Q (fun (u18 : BX7) => ∃ n144, wL_X7_copy_144 (nI k2) a3 a4 Q (fun (u24 : BX7) => w_X7_good u24 a4 (fun r25 u26 => Q r25 u26)) n144 (0 : Int32) u18) n107 (0 : Int32) m) → w_X7_copy m (nI k1) a1 (nI k2) a3 a4 Q := by
            intro Q z1 z2 z3
            unfold w_X7_copy
            refine p_isRow ?_
            rw [bi_t h0]
            refine sel1 (p_isRow ?_)
            rw [bi_t h2, nIcl (show k1 < _ by omega), nIcl (show k2 < _ by omega), e2, c2, e4, c4, nIinj (by omega) (by omega)]
            refine sel1 ⟨hv1, fun q => absurd q (nI_pos (by omega)), fun _ => ⟨hv2, fun _ => ⟨hv1, hv2, fun hl => ⟨fun h4 => z2 hl ?_, fun h4 => ⟨hv1, p_isWithinM hn1 ?_⟩⟩, fun hl => z1 hl⟩, fun q => absurd (nI_ge0 (by omega)) q⟩⟩
            · rw [i32_lt, lit_toInt0] at h4
              omega
            · rw [i32_lt, lit_toInt0] at h4
              by_cases h5 : 0 ≤ a1.toInt ∧ a1.toInt + a4.toInt ≤ n1
              · rw [bi_t h5]
                refine sel1 ⟨hv2, p_isWithinM hn2 ?_⟩
                by_cases h6 : 0 ≤ a3.toInt ∧ a3.toInt + a4.toInt ≤ n2
                · rw [bi_t h6]
                  exact sel1 (z3 hl ⟨⟨h5.1, by omega, h5.2⟩, ⟨h6.1, by omega, h6.2⟩⟩)
                · rw [bi_f h6]
                  exact sel0 (z2 hl (by omega))
              · rw [bi_f h5]
                exact sel0 (z2 hl (by omega))
          refine p_miss0 c1 hn2 (sel0 ?_)
          rw [e3, c3, nIinj (by omega) (by omega)]
          refine ⟨fun hl => p_holds e1 hn1 ?_, fun hl => M _ (fun _ => same _ 5) (fun q => absurd q hl) (fun q => absurd q hl)⟩
          by_cases h5 : 0 ≤ a1.toInt ∧ 0 ≤ a4.toInt ∧ a1.toInt + a4.toInt ≤ n1
          · rw [bi_t h5]
            refine sel1 (p_holds c1 hn2 ?_)
            by_cases h6 : 0 ≤ a3.toInt ∧ 0 ≤ a4.toInt ∧ a3.toInt + a4.toInt ≤ n2
            · rw [bi_t h6]
              obtain ⟨n, hn, rfl⟩ := nI_range2 (c := a4) (N := 40) (by omega) (by decide)
              obtain ⟨i, hi, rfl⟩ := nI_range2 (c := a1) (N := 40) (by omega) (by decide)
              obtain ⟨j, hj, rfl⟩ := nI_range2 (c := a3) (N := 40) (by omega) (by decide)
              have h5' := h5
              have h6' := h6
              rw [nIto (by omega), nIto (by omega)] at h5' h6'
              have b1 : i + n ≤ n1 := by omega
              have b2 : j + n ≤ n2 := by omega
              rw [nIcl (show i < _ by omega), nIcl (show j < _ by omega), nIcl (show n < _ by omega)]
              refine sel1 ⟨⟨⟨nI_pos (by omega), nI_pos (by omega), nI_pos (by omega)⟩, by omega, by omega⟩, M _ (fun q => absurd hl q) (fun _ q => absurd ⟨h5, h6⟩ q) (fun _ _ => p_copyL1 hk1 (by omega) (fun held' hh => p_copyL2 hk2 (by omega) (fun rows' hr => ?_)))⟩
              refine hp _ _ _ _ (hR.rows (held' := held') (rows' := rows') (sz' := m.2.2.2.2.2.1) (ln' := m.2.2.2.2.2.2.1) (hRow.up (k := k2) (u := (va_cpy (rs k1).1 (rs k2).1 i j n, nI l2, (rs k2).2.2)) (Or.inr ⟨n2, l2, hn2, hl2, c1, c2, rfl, c4, fun q hq => ?_⟩) (fun r hr8 hrk => ⟨rfl, rfl, fun q hq => ?_⟩)) 0)
              · show va_cpy (rs k1).1 (rs k2).1 i j n q = rows' (40 * k2 + q)
                rw [hr]
                by_cases h7 : j ≤ q ∧ q < j + n
                · rw [if_pos (by omega), pk_cpy_in (by omega) (by omega)]
                  show _ = held' _
                  rw [hh _ (by omega), e5 _ (by omega)]
                  exact congrArg m.2.2.2.2.1 (by omega)
                · rw [if_neg (by omega), pk_cpy_out (by omega)]
                  exact c5 q hq
              · rw [hr, if_neg (by omega)]
            · rw [bi_f h6]
              exact sel0 (M _ (fun q => absurd hl q) (fun _ _ => same _ 2) (fun _ q => absurd q.2 h6))
          · rw [bi_f h5]
            exact sel0 (M _ (fun q => absurd hl q) (fun _ _ => same _ 2) (fun _ q => absurd q.1 h5))
    · rw [bi_f h2]
      refine sel0 (p_isRow ?_)
      rw [bi_t h0]
      refine sel1 (p_isRow ?_)
      rw [bi_f h2]
      refine sel0 (hp _ _ _ _ ?_)
      rw [up_same3]
      exact hR
  · rw [bi_f h0]
    refine sel0 (p_isRow ?_)
    rw [bi_f h0]
    refine sel0 (hp _ _ _ _ ?_)
    rw [up_same3]
    exact hR
theorem op_copy (hR : RR ux un up ua uk rs ms m) {P : Int32 → BX6 → (Nat → BX3) → Int32 → BX7 → Prop} (hp : ∀ r ux' rs' m', RR ux' un up ua uk rs' ms m' → P r ux' rs' r m') : W_X6_copy ux rs a0 a1 a2 a3 a4 (fun r ux' rs' => w_X7_copy m a0 a1 a2 a3 a4 (fun r2 m' => P r ux' rs' r2 m')) := by
  have pick : ∀ a : Int32, ∃ k, k < 8 ∧ (vp_in a 8 → a.toNatClampNeg = k) ∧ (0 ≤ a.toInt ∧ a.toInt < (8 : Nat) → a = nI k) := by
    intro a
    by_cases h : 0 ≤ a.toInt ∧ a.toInt < (8 : Nat)
    · obtain ⟨k, hk, rfl⟩ := nI_range h (by decide)
      exact ⟨k, hk, fun _ => nIcl (by omega), fun _ => rfl⟩
    · obtain ⟨k, hk, he⟩ := pick_in a (N := 8) (by omega)
      exact ⟨k, hk, he, fun q => absurd q h⟩
  obtain ⟨k1, hk1, e1, f1⟩ := pick a0
  obtain ⟨k2, hk2, e2, f2⟩ := pick a2
  unfold W_X6_copy
  refine ⟨k1, k2, hk1, hk2, e1, e2, fun h => ?_, fun _ => op_copy0 hR hp hk1 hk2 f1 f2⟩
  subst h
  exact op_copy0 hR hp hk1 hk1 f1 f2
theorem op_count (hR : RR ux un up ua uk rs ms m) {P : Int32 → Int32 → Prop} (hp : ∀ r, P r r) : w_X6_count ux un up ua (rs 0) (rs 1) (rs 2) (rs 3) (rs 4) (rs 5) (rs 6) (rs 7) a0 (fun r => w_X7_count m a0 (fun r2 => P r r2)) := by
  obtain ⟨g, ⟨hA, hM, hO⟩, ⟨n, hs, hX, hAm, hok⟩, hI, hRow, ⟨nt, hnt, et1, et2, _⟩, hrest⟩ := hR
  obtain ⟨b1, b2, b3, b4, b5, b6⟩ := hO.1
  have hat : ∀ j, j < 36 → m.1 j = nI (g j) := fun j hj => by have := hM j hj; rw [Nat.zero_add] at this; exact this
  obtain ⟨c, hc⟩ : ∃ c : Nat → Nat, ∀ r, r < 8 → ((c r = 1 ∧ 0 ≤ (rs r).2.2) ∨ (c r = 0 ∧ ¬ 0 ≤ (rs r).2.2)) ∧ ((c r = 1 ∧ 0 ≤ m.2.2.2.2.2.1 r) ∨ (c r = 0 ∧ ¬ 0 ≤ m.2.2.2.2.2.1 r)) := by
    refine ⟨fun r => if (rs r).2.2 = -1 then 0 else 1, fun r hr => ?_⟩
    rcases hRow r hr with ⟨e1, e2⟩ | ⟨n1, l1, hn1, hl1, e1, e2, e3, e4, e5⟩
    · rw [e2]
      simp only [e1, if_true]
      exact ⟨Or.inr ⟨trivial, by decide⟩, Or.inr ⟨trivial, by decide⟩⟩
    · have hne : ¬ (rs r).2.2 = -1 := by
        rw [e1]
        intro h
        have h2 := congrArg Int32.toInt h
        rw [nIto (by omega)] at h2
        change (n1 : Int) = -1 at h2
        omega
      simp only [hne, if_false]
      rw [e1, e2]
      exact ⟨Or.inl ⟨trivial, nI_ge0 (by omega)⟩, Or.inl ⟨trivial, nI_ge0 (by omega)⟩⟩
  have M : ∀ Q : Int32 → Prop, (a0 = 0 → Q (nI (fb_sm c 8))) → (a0 = 1 → Q (nI (g 21))) → (a0 = 2 → Q (nI (g 22))) → (a0 = 3 → Q (nI (g 0))) → (a0 = 4 → Q (nI (grs g))) → (a0 = 5 → Q (nI (fb_sm (fun k => g (14 + k)) (g 22)))) → (a0 = 6 → Q (nI n)) → (a0 = 7 → Q (nI nt)) → (¬ a0 = 0 → ¬ a0 = 1 → ¬ a0 = 2 → ¬ a0 = 3 → ¬ a0 = 4 → ¬ a0 = 5 → ¬ a0 = 6 → ¬ a0 = 7 → Q (-1000001)) → w_X7_count m a0 Q := by
    intro Q q0 q1 q2 q3 q4 q5 q6 q7 q8
    unfold w_X7_count
    refine ⟨fun h => ?_, fun h0 => ⟨fun h => ?_, fun h1 => ⟨fun h => ?_, fun h2 => ⟨fun h => ?_, fun h3 => ⟨fun h => ?_, fun h4 => ⟨fun h => ?_, fun h5 => ⟨fun h => ?_, fun h6 => ⟨fun h => ?_, fun h7 => q8 h0 h1 h2 h3 h4 h5 h6 h7⟩⟩⟩⟩⟩⟩⟩⟩
    · refine up_inv (fun n i (x : Int32) => wL_X7_count_52 m Q (fun x5 => Q x5) n x i) 8 (fun j x => x = nI (fb_sm c j)) ?_ ?_ 0 rfl
      · intro n2 x hx
        subst hx
        show wL_X7_count_52 _ _ _ _ _ _
        unfold wL_X7_count_52
        exact ⟨fun _ => q0 h, fun h => absurd (Int32.le_refl _) h⟩
      · intro n2 j x hj hx ih
        subst hx
        show wL_X7_count_52 _ _ _ _ _ _
        unfold wL_X7_count_52
        simp (disch := omega) only [nIcl]
        refine ⟨fun h => absurd h (by rw [show (8 : Int32) = nI 8 from rfl, nIle (by omega) (by omega)]; omega), fun _ => ⟨nIin (by omega) (by omega), fun h9 => ?_, fun h9 => ?_⟩⟩
        · rw [nI_1, nI_1]
          refine ih _ ?_
          rcases (hc j hj).2 with ⟨e, _⟩ | ⟨_, e⟩
          · show _ = nI (fb_sm c j + c j)
            rw [e]
          · exact absurd h9 e
        · rw [nI_1, show (0 : Int32) = nI 0 from rfl, nI_add]
          refine ih _ ?_
          rcases (hc j hj).2 with ⟨_, e⟩ | ⟨e, _⟩
          · exact absurd e h9
          · show _ = nI (fb_sm c j + c j)
            rw [e]
    · simp (disch := omega) only [liN, nIcl, hat]
      exact ⟨nIin (by omega) (by omega), q1 h⟩
    · simp (disch := omega) only [liN, nIcl, hat]
      exact ⟨nIin (by omega) (by omega), q2 h⟩
    · simp (disch := omega) only [liN, nIcl, hat]
      exact ⟨nIin (by omega) (by omega), q3 h⟩
    · exact p_restsIn (r := 0) hM hO (by omega) (q4 h)
    · exact p_earnedOfAll hM hO (q5 h)
    · rw [hAm.1]; exact q6 h
    · rw [et2]; exact q7 h
  unfold w_X6_count
  refine ⟨fun h => ?_, fun h0 => ⟨fun h => ?_, fun h1 => ⟨fun h => ?_, fun h2 => ⟨fun h => ?_, fun h3 => ⟨fun h => ?_, fun h4 => ⟨fun h => ?_, fun h5 => ⟨fun h => ?_, fun h6 => ⟨fun h => ?_, fun h7 => ?_⟩⟩⟩⟩⟩⟩⟩⟩
  · unfold w_X6_rowsThere
    refine p_there0 (hc 0 (by omega)).1 ?_
    refine p_there (hc 1 (by omega)).1 ?_
    refine p_there (hc 2 (by omega)).1 ?_
    refine p_there (hc 3 (by omega)).1 ?_
    refine p_there (hc 4 (by omega)).1 ?_
    refine p_there (hc 5 (by omega)).1 ?_
    refine p_there (hc 6 (by omega)).1 ?_
    refine p_there (hc 7 (by omega)).1 ?_
    subst h
    exact M _ (fun _ => hp _) (fun q => absurd q (by decide)) (fun q => absurd q (by decide)) (fun q => absurd q (by decide)) (fun q => absurd q (by decide)) (fun q => absurd q (by decide)) (fun q => absurd q (by decide)) (fun q => absurd q (by decide)) (fun q => absurd rfl q)
  · subst h
    rw [hA.1.1.1]
    exact M _ (fun q => absurd q (by decide)) (fun _ => hp _) (fun q => absurd q (by decide)) (fun q => absurd q (by decide)) (fun q => absurd q (by decide)) (fun q => absurd q (by decide)) (fun q => absurd q (by decide)) (fun q => absurd q (by decide)) (fun _ q => absurd rfl q)
  · subst h
    rw [hA.1.1.2.1]
    exact M _ (fun q => absurd q (by decide)) (fun q => absurd q (by decide)) (fun _ => hp _) (fun q => absurd q (by decide)) (fun q => absurd q (by decide)) (fun q => absurd q (by decide)) (fun q => absurd q (by decide)) (fun q => absurd q (by decide)) (fun _ _ q => absurd rfl q)
  · subst h
    rw [hA.1.1.2.2.2.2]
    exact M _ (fun q => absurd q (by decide)) (fun q => absurd q (by decide)) (fun q => absurd q (by decide)) (fun _ => hp _) (fun q => absurd q (by decide)) (fun q => absurd q (by decide)) (fun q => absurd q (by decide)) (fun q => absurd q (by decide)) (fun _ _ _ q => absurd rfl q)
  · subst h
    refine p_resting hA hO ?_
    exact M _ (fun q => absurd q (by decide)) (fun q => absurd q (by decide)) (fun q => absurd q (by decide)) (fun q => absurd q (by decide)) (fun _ => hp _) (fun q => absurd q (by decide)) (fun q => absurd q (by decide)) (fun q => absurd q (by decide)) (fun _ _ _ _ q => absurd rfl q)
  · subst h
    refine p_wagesTogether hA hO ?_
    exact M _ (fun q => absurd q (by decide)) (fun q => absurd q (by decide)) (fun q => absurd q (by decide)) (fun q => absurd q (by decide)) (fun q => absurd q (by decide)) (fun _ => hp _) (fun q => absurd q (by decide)) (fun q => absurd q (by decide)) (fun _ _ _ _ _ q => absurd rfl q)
  · subst h
    rw [hX.2.1]
    exact M _ (fun q => absurd q (by decide)) (fun q => absurd q (by decide)) (fun q => absurd q (by decide)) (fun q => absurd q (by decide)) (fun q => absurd q (by decide)) (fun q => absurd q (by decide)) (fun _ => hp _) (fun q => absurd q (by decide)) (fun _ _ _ _ _ _ q => absurd rfl q)
  · subst h
    rw [et1]
    exact M _ (fun q => absurd q (by decide)) (fun q => absurd q (by decide)) (fun q => absurd q (by decide)) (fun q => absurd q (by decide)) (fun q => absurd q (by decide)) (fun q => absurd q (by decide)) (fun q => absurd q (by decide)) (fun _ => hp _) (fun _ _ _ _ _ _ _ q => absurd rfl q)
  · exact M _ (fun q => absurd q h0) (fun q => absurd q h1) (fun q => absurd q h2) (fun q => absurd q h3) (fun q => absurd q h4) (fun q => absurd q h5) (fun q => absurd q h6) (fun q => absurd q h7) (fun _ _ _ _ _ _ _ _ => hp _)
end OPSI
