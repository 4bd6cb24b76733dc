section OPSG
variable {ux : BX6} {un ut : BX1} {up : BX5} {ua : BX0} {us : BX4} {uk : BX2} {rs : Nat → BX3} {ms : Nat → BX1} {m : BX7} {a0 a1 a2 a3 a4 : Int32}
theorem op_waker (hR : RR ux un up ua uk rs ms m) {P : Int32 → Int32 → Prop} (hp : ∀ r, P r r) : w_X6_waker ux un a0 a1 (fun r => w_X7_waker m a0 a1 (fun r2 => P r r2)) := by
  obtain ⟨g, ⟨hA, hM, hO⟩, _⟩ := hR
  obtain ⟨b1, b2, b3, b4, b5, b6⟩ := hO.1
  have hat : ∀ j, j < 36 → m.1 j = nI (g j) := fun j hj => by have := hM j hj; rw [Nat.zero_add] at this; exact this
  unfold w_X6_waker w_X7_waker
  refine p_hasWaker hA.1.1.2.1 b2 ?_
  by_cases h1 : 0 ≤ a0.toInt ∧ a0.toInt < g 22
  · rw [bi_t h1]
    obtain ⟨k, hk, rfl⟩ := nI_range h1 (by omega)
    obtain ⟨w1, w2, w3, w4⟩ := hA.1.2.2 k hk
    have w5 := hA.2.2 k hk
    have ho := (hO.2.2.1 k hk).2.2.2.1
    have hv : vp_in (nI k) 4 := nIin (by omega) (by omega)
    have M : ∀ Q : Int32 → Prop, (a1 = 0 → Q (nI (g (32 + k)))) → (a1 = 1 → Q (nI (g (6 + k)))) → (a1 = 2 → Q (nI (g (10 + k)))) → (a1 = 3 → Q (nI (glie g k))) → (a1 = 4 → Q (nI (g (14 + k)))) → (¬ a1 = 0 → ¬ a1 = 1 → ¬ a1 = 2 → ¬ a1 = 3 → ¬ a1 = 4 → Q (-1000001)) → w_X7_waker m (nI k) a1 Q := by
      intro Q q0 q1 q2 q3 q4 q5
      unfold w_X7_waker
      refine p_isWaker hM hO ?_
      rw [bi_t h1]
      refine sel1 ⟨fun h => ?_, fun h0 => ⟨fun h => ?_, fun hh1 => ⟨fun h => ?_, fun h2 => ⟨fun h => ?_, fun h3 => ⟨fun h => ?_, fun h4 => q5 h0 hh1 h2 h3 h4⟩⟩⟩⟩⟩
      · simp (disch := omega) only [liN, nI_add, nIcl, hat]
        exact ⟨nIin (by omega) (by omega), q0 h⟩
      · simp (disch := omega) only [liN, nI_add, nIcl, hat]
        exact ⟨nIin (by omega) (by omega), q1 h⟩
      · simp (disch := omega) only [liN, nI_add, nIcl, hat]
        exact ⟨nIin (by omega) (by omega), q2 h⟩
      · exact p_lies (r := 0) hM.n hO (by omega) hk (q3 h)
      · simp (disch := omega) only [liN, nI_add, nIcl, hat]
        exact ⟨nIin (by omega) (by omega), q4 h⟩
    rw [nIcl (by omega), w2, w3, w4, w5]
    refine sel1 ⟨fun h => ?_, fun h0 => ⟨fun h => ?_, fun hh1 => ⟨fun h => ?_, fun h2 => ⟨fun h => ?_, fun h3 => ⟨fun h => ?_, fun h4 => ?_⟩⟩⟩⟩⟩
    · subst h
      exact ⟨hv, M _ (fun _ => hp _) (fun q => absurd q (by decide)) (fun q => absurd q (by decide)) (fun q => absurd q (by decide)) (fun q => absurd q (by decide)) (fun q => absurd rfl q)⟩
    · subst h
      exact ⟨hv, M _ (fun q => absurd q (by decide)) (fun _ => hp _) (fun q => absurd q (by decide)) (fun q => absurd q (by decide)) (fun q => absurd q (by decide)) (fun _ q => absurd rfl q)⟩
    · subst h
      exact ⟨hv, M _ (fun q => absurd q (by decide)) (fun q => absurd q (by decide)) (fun _ => hp _) (fun q => absurd q (by decide)) (fun q => absurd q (by decide)) (fun _ _ q => absurd rfl q)⟩
    · subst h
      rw [hA.1.1.2.2.2.2]
      refine ⟨hv, p_lying hA.1 hO hk (by omega) (by omega) ?_⟩
      exact M _ (fun q => absurd q (by decide)) (fun q => absurd q (by decide)) (fun q => absurd q (by decide)) (fun _ => hp _) (fun q => absurd q (by decide)) (fun _ _ _ q => absurd rfl q)
    · subst h
      exact ⟨hv, M _ (fun q => absurd q (by decide)) (fun q => absurd q (by decide)) (fun q => absurd q (by decide)) (fun q => absurd q (by decide)) (fun _ => hp _) (fun _ _ _ _ q => absurd rfl q)⟩
    · exact M _ (fun q => absurd q h0) (fun q => absurd q hh1) (fun q => absurd q h2) (fun q => absurd q h3) (fun q => absurd q h4) (fun _ _ _ _ _ => hp _)
  · rw [bi_f h1]
    refine sel0 (p_isWaker hM hO ?_)
    rw [bi_f h1]
    exact sel0 (hp _)
end OPSG
