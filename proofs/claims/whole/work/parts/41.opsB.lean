section OPSB
variable {ux : BX6} {un ut : BX1} {up : BX5} {ua : BX0} {us : BX4} {uk : BX2} {rs : Nat → BX3} {ms : Nat → BX1} {m : BX7} {a0 a1 a2 a3 a4 : Int32}
theorem op_let (hR : RR ux un up ua uk rs ms m) {P : Int32 → BX1 → BX0 → Int32 → BX7 → Prop} (hp : ∀ r un' ua' m', RR ux un' up ua' uk rs ms m' → P r un' ua' r m') : w_X6_let ux un ua a0 a1 (fun r un' ua' => w_X7_let m a0 a1 (fun r2 m' => P r un' ua' r2 m')) := by
  have hR0 := hR
  obtain ⟨g, ⟨hA, hM, hO⟩, ⟨n, hs, hX, hAm, hok⟩, hI, hrest⟩ := hR
  obtain ⟨b1, b2, b3, b4, b5, b6⟩ := hO.1
  unfold w_X6_let w_X7_let wpJ
  refine p_hasWaker hA.1.1.2.1 b2 ?_
  by_cases h1 : 0 ≤ a0.toInt ∧ a0.toInt < g 22
  · rw [bi_t h1]
    obtain ⟨k, hk, rfl⟩ := nI_range h1 (by omega)
    have fin : ∀ v, (v < g 21 ∨ v = 5) → a1 = nI v → (vp_in (nI k) 4 ∧ ∀ x4 : Int32, x4 = (un.2.2.2.2.2.1 (nI k).toNatClampNeg) → (x4 = a1 → w_X7_let m (nI k) a1 (fun r2 m' => P (-1000002) un ua r2 m')) ∧ (¬ x4 = a1 → w_X0_keep ua un (fun u6 => vp_in (nI k) 4 ∧ w_X7_let m (nI k) a1 (fun r2 m' => P x4 (un.1, un.2.1, un.2.2.1, un.2.2.2.1, un.2.2.2.2.1, (upd un.2.2.2.2.2.1 (nI k).toNatClampNeg a1), un.2.2.2.2.2.2) u6 r2 m')))) := by
      intro v hv hva
      subst hva
      have eh : un.2.2.2.2.2.1 k = nI (g (10 + k)) := (hA.1.2.2 k hk).2.2.2
      have em : m.1 (10 + k) = nI (g (10 + k)) := by have := hM (10 + k) (by omega); rw [Nat.zero_add] at this; exact this
      -- the reference's way
      have mway : ∀ Q : Int32 → BX7 → Prop, (g (10 + k) = v → Q (-1000002) m) → (¬ g (10 + k) = v → w_X7_minds m (fun u5 => Q (nI (g (10 + k))) (upd u5.1 (10 + k) (nI v), u5.2))) → w_X7_let m (nI k) (nI v) Q := by
        intro Q q1 q2
        unfold w_X7_let wpJ
        refine p_isWaker hM hO ?_
        rw [bi_t h1]
        refine sel1 ?_
        have J : vp_in ((10 : Int32) + nI k) 144 ∧ ∀ x3 : Int32, x3 = (m.1 ((10 : Int32) + nI k).toNatClampNeg) → (x3 = nI v → Q (-1000002) m) ∧ (¬ x3 = nI v → w_X7_minds m (fun u5 => vp_in ((10 : Int32) + nI k) 144 ∧ Q x3 ((upd u5.1 ((10 : Int32) + nI k).toNatClampNeg (nI v)), u5.2))) := by
          simp (disch := omega) only [liN, nI_add, nIcl]
          refine ⟨nIin (by omega) (by omega), fun x3 hx3 => ?_⟩
          rw [em] at hx3
          subst hx3
          have ho := (hO.2.2.1 k hk).2.2.2.1
          rw [nIinj (by omega) (by omega)]
          refine ⟨q1, fun h => ?_⟩
          have := q2 h
          have e : (fun u5 : BX7 => vp_in (nI (10 + k)) 144 ∧ Q (nI (g (10 + k))) (upd u5.1 (10 + k) (nI v), u5.2)) = (fun u5 => Q (nI (g (10 + k))) (upd u5.1 (10 + k) (nI v), u5.2)) := by
            funext u5
            exact propext ⟨fun h => h.2, fun h => ⟨nIin (by omega) (by omega), h⟩⟩
          rw [e]
          exact this
        refine ⟨fun _ => J, fun h5 => p_isClient hM hO ?_⟩
        have : v < g 21 := by
          rcases hv with h | h
          · exact h
          · subst h; exact absurd rfl h5
        rw [bi_t (by rw [nIto (by omega)]; omega)]
        exact sel1 J
      have ho := (hO.2.2.1 k hk).2.2.2.1
      rw [nIcl (by omega), eh]
      refine ⟨nIin (by omega) (by omega), fun x4 hx4 => ?_⟩
      subst hx4
      rw [nIinj (by omega) (by omega)]
      refine ⟨fun h => mway _ (fun _ => hp _ _ _ _ hR0) (fun h2 => absurd h h2), fun h => p_keep hX (fun i hi => (hok i hi).1) hA hO (fun ua' hX' => ⟨nIin (by omega) (by omega), mway _ (fun h2 => absurd h2 h) (fun _ => p_minds hX.1 hAm hM (fun acts' acted' hAm' => hp _ _ _ _ ⟨gset g (10 + k) v, ⟨hA.setH hk b2 b1, hM.set (by omega), hO.set (Or.inr (Or.inr ⟨k, hk, rfl, hv⟩))⟩, act_push hok hO hX.1 hX' hAm' (fun j hj => gset_ne (by omega)), hI.out (fun j h1 h2 => ?_), hrest⟩))⟩)⟩
      show upd m.1 (10 + k) _ j = _
      rw [upd_at, if_neg (by omega)]
    refine sel1 (p_hasClient hA.1.1.1 b1 ?_)
    by_cases h2 : 0 ≤ a1.toInt ∧ a1.toInt < g 21
    · rw [bi_t h2]
      obtain ⟨c, hc, e⟩ := nI_range h2 (by omega)
      exact sel1 (fin c (Or.inl hc) e)
    · rw [bi_f h2]
      refine sel0 ⟨fun h5 => fin 5 (Or.inr rfl) h5, fun h5 => ?_⟩
      refine p_isWaker hM hO ?_
      rw [bi_t h1]
      refine sel1 ⟨fun h => absurd h h5, fun _ => p_isClient hM hO ?_⟩
      rw [bi_f h2]
      exact sel0 (hp _ _ _ _ hR0)
  · rw [bi_f h1]
    refine sel0 (p_isWaker hM hO ?_)
    rw [bi_f h1]
    exact sel0 (hp _ _ _ _ hR0)
theorem op_learn (hR : RR ux un up ua uk rs ms m) {P : Int32 → BX1 → BX0 → Int32 → BX7 → Prop} (hp : ∀ r un' ua' m', RR ux un' up ua' uk rs ms m' → P r un' ua' r m') : w_X6_learn ux un ua a0 a1 (fun r un' ua' => w_X7_learn m a0 a1 (fun r2 m' => P r un' ua' r2 m')) := by
  have hR0 := hR
  obtain ⟨g, ⟨hA, hM, hO⟩, ⟨n, hs, hX, hAm, hok⟩, hI, hrest⟩ := hR
  obtain ⟨b1, b2, b3, b4, b5, b6⟩ := hO.1
  unfold w_X6_learn w_X7_learn
  refine p_hasWaker hA.1.1.2.1 b2 ?_
  by_cases h1 : 0 ≤ a0.toInt ∧ a0.toInt < g 22
  · rw [bi_t h1]
    obtain ⟨k, hk, rfl⟩ := nI_range h1 (by omega)
    refine sel1 (p_isWithin ?_)
    rw [lit_toInt0, show (5 : Int32).toInt = (5 : Nat) from rfl]
    by_cases h2 : 0 ≤ a1.toInt ∧ a1.toInt ≤ (5 : Nat)
    · rw [bi_t h2]
      obtain ⟨v, hv, rfl⟩ := nI_range2 h2 (by decide)
      have eh : un.2.2.2.2.1 k = nI (g (6 + k)) := (hA.1.2.2 k hk).2.2.1
      have em : m.1 (6 + k) = nI (g (6 + k)) := by have := hM (6 + k) (by omega); rw [Nat.zero_add] at this; exact this
      rw [nIcl (by omega), eh]
      refine sel1 ⟨nIin (by omega) (by omega), fun x3 hx3 => ?_⟩
      subst hx3
      refine p_keep hX (fun i hi => (hok i hi).1) hA hO (fun ua' hX' => ⟨nIin (by omega) (by omega), p_isWaker hM hO ?_⟩)
      rw [bi_t h1]
      refine sel1 (p_in ?_)
      rw [t64, l64_0, show (5 : Int64).toInt = (5 : Nat) from rfl, bi_t h2]
      refine sel1 (p_minds hX.1 hAm hM (fun acts' acted' hAm' => ?_))
      simp (disch := omega) only [liN, nI_add, nIcl]
      refine ⟨nIin (by omega) (by omega), fun x5 hx5 => ⟨nIin (by omega) (by omega), ?_⟩⟩
      rw [em] at hx5
      subst hx5
      refine hp _ _ _ _ ⟨gset g (6 + k) v, ⟨hA.setF hk b2 b1, hM.set (by omega), hO.set (Or.inr (Or.inl ⟨k, hk, rfl, hv⟩))⟩, act_push hok hO hX.1 hX' hAm' (fun j hj => gset_ne (by omega)), hI.out (fun j h1 h2 => ?_), hrest⟩
      show upd m.1 (6 + k) _ j = _
      rw [upd_at, if_neg (by omega)]
    · rw [bi_f h2]
      refine sel0 (p_isWaker hM hO ?_)
      rw [bi_t h1]
      refine sel1 (p_in ?_)
      rw [t64, l64_0, show (5 : Int64).toInt = (5 : Nat) from rfl, bi_f h2]
      exact sel0 (hp _ _ _ _ hR0)
  · rw [bi_f h1]
    refine sel0 (p_isWaker hM hO ?_)
    rw [bi_f h1]
    exact sel0 (hp _ _ _ _ hR0)
theorem op_grow (hR : RR ux un up ua uk rs ms m) {P : Int32 → BX1 → BX0 → Int32 → BX7 → Prop} (hp : ∀ r un' ua' m', RR ux un' up ua' uk rs ms m' → P r un' ua' r m') : w_X6_grow ux un ua a0 a1 (fun r un' ua' => w_X7_grow m a0 a1 (fun r2 m' => P r un' ua' r2 m')) := by
  have hR0 := hR
  obtain ⟨g, ⟨hA, hM, hO⟩, ⟨n, hs, hX, hAm, hok⟩, hI, hrest⟩ := hR
  obtain ⟨b1, b2, b3, b4, b5, b6⟩ := hO.1
  unfold w_X6_grow w_X7_grow wpJ
  refine p_hasClient hA.1.1.1 b1 ?_
  by_cases h1 : 0 ≤ a0.toInt ∧ a0.toInt < g 21
  · rw [bi_t h1]
    obtain ⟨k, hk, rfl⟩ := nI_range h1 (by omega)
    refine sel1 (p_isWithin ?_)
    rw [show (1 : Int32).toInt = 1 from rfl, show (20 : Int32).toInt = (20 : Nat) from rfl]
    by_cases h2 : 1 ≤ a1.toInt ∧ a1.toInt ≤ (20 : Nat)
    · rw [bi_t h2]
      obtain ⟨v, hv, rfl⟩ := nI_range2 (c := a1) (N := 20) (by omega) (by decide)
      have eh : un.1 k = nI (g (1 + k)) := hA.2.1 k hk
      have em : m.1 (1 + k) = nI (g (1 + k)) := by have := hM (1 + k) (by omega); rw [Nat.zero_add] at this; exact this
      have hg := (hO.2.1 k hk).1
      obtain ⟨z, hz⟩ : ∃ z, z = if g (1 + k) + v < 99 then g (1 + k) + v else 99 := ⟨_, rfl⟩
      have hz99 : z ≤ 99 := by rw [hz]; by_cases h : g (1 + k) + v < 99 <;> simp only [h, if_true, if_false] <;> omega
      refine sel1 (p_keep hX (fun i hi => (hok i hi).1) hA hO (fun ua' hX' => ?_))
      unfold w_X1_makeHeavier
      refine p_hasClient hA.1.1.1 b1 ?_
      rw [bi_t h1, nIcl (by omega), eh]
      have ez : (if nI (g (1 + k)) + nI v < (99 : Int32) then nI (g (1 + k)) + nI v else 99) = nI z := by
        rw [hz]
        simp (disch := omega) only [liN, nI_add, nIlt]
        by_cases h : g (1 + k) + v < 99
        · rw [if_pos h, if_pos h]
        · rw [if_neg h, if_neg h]
      rw [ez]
      refine sel1 ⟨nIin (by omega) (by omega), nIin (by omega) (by omega), nIin (by omega) (by omega), p_isClient hM hO ?_⟩
      rw [bi_t h1]
      refine sel1 (p_in ?_)
      rw [t64, show (1 : Int64).toInt = 1 from rfl, show (20 : Int64).toInt = (20 : Nat) from rfl, bi_t h2]
      refine sel1 (p_minds hX.1 hAm hM (fun acts' acted' hAm' => ?_))
      have fin : P ((upd un.1 k (nI z), un.2).1 k) (upd un.1 k (nI z), un.2) ua' (upd m.1 (1 + k) (nI z) (1 + k)) (upd m.1 (1 + k) (nI z), m.2.1, acts', acted', m.2.2.2.2) := by
        have e1 : (upd un.1 k (nI z), un.2).1 k = nI z := by show upd un.1 k (nI z) k = _; rw [upd_at, if_pos rfl]
        have e2 : upd m.1 (1 + k) (nI z) (1 + k) = nI z := by rw [upd_at, if_pos rfl]
        rw [e1, e2]
        refine hp _ _ _ _ ⟨gset g (1 + k) z, ⟨hA.setW hk b2 b1, hM.set (by omega), hO.set (Or.inl ⟨k, hk, rfl, hz99⟩)⟩, act_push hok hO hX.1 hX' hAm' (fun j hj => gset_ne (by omega)), hI.out (fun j h1 h2 => ?_), hrest⟩
        show upd m.1 (1 + k) _ j = _
        rw [upd_at, if_neg (by omega)]
      have ea : (m.1, m.2.1, acts', acted', m.2.2.2.2).1 = m.1 := rfl
      simp (disch := omega) only [liN, nI_add, nIcl, em, nIle]
      have hi : vp_in (nI (1 + k)) 144 := nIin (by omega) (by omega)
      refine ⟨hi, fun h => ⟨hi, hi, hi, ?_⟩, fun h => ⟨hi, hi, ?_⟩⟩
      · have e : z = g (1 + k) + v := by
          rw [hz]
          by_cases h5 : g (1 + k) + v < 99
          · rw [if_pos h5]
          · rw [if_neg h5]; omega
        rw [← e]
        exact fin
      · have e : z = 99 := by rw [hz, if_neg (by omega)]
        rw [← e]
        exact fin
    · rw [bi_f h2]
      refine sel0 (p_isClient hM hO ?_)
      rw [bi_t h1]
      refine sel1 (p_in ?_)
      rw [t64, show (1 : Int64).toInt = 1 from rfl, show (20 : Int64).toInt = (20 : Nat) from rfl, bi_f h2]
      exact sel0 (hp _ _ _ _ hR0)
  · rw [bi_f h1]
    refine sel0 (p_isClient hM hO ?_)
    rw [bi_f h1]
    exact sel0 (hp _ _ _ _ hR0)
end OPSB
