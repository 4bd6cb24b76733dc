theorem nar_b1 : vp_nar .boolean (1 : Int32) = 1 := by decide
theorem pick_in (a : Int32) {N : Nat} (hN : 0 < N) : ∃ k, k < N ∧ (vp_in a N → a.toNatClampNeg = k) := by
  by_cases h : vp_in a N
  · exact ⟨a.toNatClampNeg, Nat.lt_of_not_le (fun q => h (Or.inr q)), fun _ => rfl⟩
  · exact ⟨0, hN, fun q => absurd q h⟩
section OPSE
variable {ux : BX6} {un ut : BX1} {up : BX5} {ua : BX0} {us : BX4} {uk : BX2} {rs : Nat → BX3} {ms : Nat → BX1} {m : BX7} {a0 a1 a2 a3 a4 : Int32}
theorem up_same {ms : Nat → BX1} {k : Nat} : va_up ms k (ms k) = ms := by
  funext i
  unfold va_up
  by_cases h : i = k
  · subst h; simp only [if_true]
  · simp only [h, if_false]
theorem op_image (hR : RR ux un up ua uk rs ms m) {P : Int32 → (Nat → BX1) → Int32 → BX7 → Prop} (hp : ∀ r ms' m', RR ux un up ua uk rs ms' m' → P r ms' r m') : W_X6_image ux un ms a0 (fun r ms' => w_X7_image m a0 (fun r2 m' => P r ms' r2 m')) := by
  have hR0 := hR
  obtain ⟨g, ⟨hA, hM, hO⟩, hact, hI, hrest⟩ := hR
  obtain ⟨b1, b2, b3, b4, b5, b6⟩ := hO.1
  unfold W_X6_image
  by_cases h1 : 0 ≤ a0.toInt ∧ a0.toInt ≤ (1 : Nat)
  · obtain ⟨k, hk, rfl⟩ := nI_range2 h1 (by decide)
    refine ⟨k, by omega, fun _ => nIcl (by omega), ?_⟩
    unfold w_X6_image w_X7_image
    refine p_isWithin ?_
    rw [lit_toInt0, show (1 : Int32).toInt = (1 : Nat) from rfl, bi_t h1]
    refine sel1 (p_isOpen hA.1.1.1 b1 ?_)
    by_cases h2 : 0 < g 21
    · rw [bi_t h2]
      refine sel1 ⟨nIin (by omega) (by omega), p_copyFrom hA hO (fun t' ht => p_in ?_)⟩
      rw [t64, l64_0, show (1 : Int64).toInt = (1 : Nat) from rfl, bi_t h1]
      refine sel1 (p_isAgency hM hO ?_)
      rw [bi_t h2]
      refine sel1 ?_
      have e : (36 : Int32) * ((1 : Int32) + nI k) = nI (36 * (1 + k)) := by
        simp (disch := omega) only [liN, nI_add, pk_mul]
      rw [e]
      refine p_copyAll (r1 := 0) (r2 := 36 * (1 + k)) (by omega) (by omega) (by omega) (fun w' h3 h4 => ?_)
      rw [nIcl (by omega), nar_b1]
      refine ⟨nIin (by omega) (by omega), hp _ _ _ ⟨g, ⟨hA, fun i hi => (h4 _ (by omega)).trans (hM i hi), hO⟩, hact, fun k2 hk2 => ?_, hrest⟩⟩
      show (upd m.2.1 k 1 k2 = 0 ∧ _) ∨ (upd m.2.1 k 1 k2 = 1 ∧ _)
      rw [upd_at]
      by_cases h5 : k2 = k
      · subst h5
        rw [if_pos rfl]
        refine Or.inr ⟨rfl, g, hO, h2, ?_, fun i hi => (h3 i hi).trans ?_⟩
        · unfold va_up
          simp only [if_true]
          exact ht
        · exact hM i hi
      · rw [if_neg h5]
        have e2 : va_up ms k t' k2 = ms k2 := by unfold va_up; simp only [h5, if_false]
        rw [e2]
        rcases hI k2 hk2 with h | ⟨q1, g2, q2, q3, q4, q5⟩
        · exact Or.inl h
        · exact Or.inr ⟨q1, g2, q2, q3, q4, fun i hi => (h4 _ (by omega)).trans (q5 i hi)⟩
    · rw [bi_f h2]
      refine sel0 (p_in ?_)
      rw [t64, l64_0, show (1 : Int64).toInt = (1 : Nat) from rfl, bi_t h1]
      refine sel1 (p_isAgency hM hO ?_)
      rw [bi_f h2]
      exact sel0 (hp _ _ _ (by rw [up_same]; exact hR0))
  · obtain ⟨k, hk, he⟩ := pick_in a0 (N := 2) (by omega)
    refine ⟨k, hk, he, ?_⟩
    unfold w_X6_image w_X7_image
    refine p_isWithin ?_
    rw [lit_toInt0, show (1 : Int32).toInt = (1 : Nat) from rfl, bi_f h1]
    refine sel0 (p_in ?_)
    rw [t64, l64_0, show (1 : Int64).toInt = (1 : Nat) from rfl, bi_f h1]
    exact sel0 (hp _ _ _ (by rw [up_same]; exact hR0))
theorem op_restore (hR : RR ux un up ua uk rs ms m) {P : Int32 → BX1 → BX0 → Int32 → BX7 → Prop} (hp : ∀ r un' ua' m', RR ux un' up ua' uk rs ms m' → P r un' ua' r m') : W_X6_restore ux un ua ms a0 (fun r un' ua' => w_X7_restore m a0 (fun r2 m' => P r un' ua' r2 m')) := by
  have hR0 := hR
  obtain ⟨g, ⟨hA, hM, hO⟩, ⟨n, hs, hX, hAm, hok⟩, hI, hrest⟩ := hR
  obtain ⟨b1, b2, b3, b4, b5, b6⟩ := hO.1
  unfold W_X6_restore
  by_cases h1 : 0 ≤ a0.toInt ∧ a0.toInt ≤ (1 : Nat)
  · obtain ⟨k, hk, rfl⟩ := nI_range2 h1 (by decide)
    refine ⟨k, by omega, fun _ => nIcl (by omega), ?_⟩
    have hv : vp_in (nI k) 2 := nIin (by omega) (by omega)
    unfold w_X6_restore w_X7_restore
    refine p_isWithin ?_
    rw [lit_toInt0, show (1 : Int32).toInt = (1 : Nat) from rfl, bi_t h1]
    rcases hI k (by omega) with ⟨q1, q2⟩ | ⟨q1, g2, q2, q3, q4, q5⟩
    · refine sel1 ⟨hv, p_isOpen q2 (by omega) ?_⟩
      rw [bi_f (by omega)]
      refine sel0 (p_in ?_)
      rw [t64, l64_0, show (1 : Int64).toInt = (1 : Nat) from rfl, bi_t h1, nIcl (by omega), q1]
      exact sel1 ⟨hv, sel0 (hp _ _ _ _ hR0)⟩
    · refine sel1 ⟨hv, p_isOpen q4.1.1.1 q2.1.1 ?_⟩
      rw [bi_t q3]
      refine sel1 ⟨hv, p_copyFrom q4 q2 (fun t' ht => ?_)⟩
      unfold w_X0_forgetAll
      refine p_in ?_
      rw [t64, l64_0, show (1 : Int64).toInt = (1 : Nat) from rfl, bi_t h1, nIcl (by omega), q1]
      refine sel1 ⟨hv, sel1 ?_⟩
      have e : (36 : Int32) * ((1 : Int32) + nI k) = nI (36 * (1 + k)) := by
        simp (disch := omega) only [liN, nI_add, pk_mul]
      rw [e]
      refine p_copyAll (r1 := 36 * (1 + k)) (r2 := 0) (by omega) (by omega) (by omega) (fun w' h3 h4 => ?_)
      obtain ⟨f1, f2, f, f3, f4, f5⟩ := hX
      exact hp _ _ _ _ ⟨g2, ⟨ht, fun i hi => (h3 i hi).trans (q5 i hi), q2⟩, ⟨0, hs, ⟨by omega, rfl, f, f3, f4, fun i hi => absurd hi (by omega)⟩, ⟨rfl, fun i hi => absurd hi (by omega)⟩, fun i hi => absurd hi (by omega)⟩, hI.out (fun j h1 h2 => h4 j (by omega)), hrest⟩
  · obtain ⟨k, hk, he⟩ := pick_in a0 (N := 2) (by omega)
    refine ⟨k, hk, he, ?_⟩
    unfold w_X6_restore w_X7_restore
    refine p_isWithin ?_
    rw [lit_toInt0, show (1 : Int32).toInt = (1 : Nat) from rfl, bi_f h1]
    refine sel0 (p_in ?_)
    rw [t64, l64_0, show (1 : Int64).toInt = (1 : Nat) from rfl, bi_f h1]
    exact sel0 (hp _ _ _ _ hR0)
end OPSE
