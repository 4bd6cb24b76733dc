section OPSF
variable {ux : BX6} {un ut : BX1} {up : BX5} {ua : BX0} {us : BX4} {uk : BX2} {rs : Nat → BX3} {ms : Nat → BX1} {m : BX7} {a0 a1 a2 a3 a4 : Int32}
theorem p_hiredM {g : Nat → Nat} {T c : Nat} (hM : AgM m.1 0 g) (hO : OKg T g) (hc : c ≤ 5) {post Kx : Int32 → Prop} (hp : Kx (nI (bits (fun k => decide (g (10 + k) = c)) (g 22)))) : ∃ n90, wL_X7_client_90 (nI c) m post Kx n90 0 0 := by
  obtain ⟨b1, b2, b3, b4, b5, b6⟩ := hO.1
  have e2 : m.1 22 = nI (g 22) := hM 22 (by omega)
  refine up_inv (fun n i (s : Int32) => wL_X7_client_90 (nI c) m post Kx n s i) (g 22) (fun j s => s = nI (bits (fun k => decide (g (10 + k) = c)) j)) ?_ ?_ 0 rfl
  · intro n s hs
    subst hs
    show wL_X7_client_90 _ _ _ _ _ _ _
    unfold wL_X7_client_90
    simp (disch := omega) only [liN, nIcl, e2]
    exact ⟨nIin (by omega) (by omega), fun _ => hp, fun h => absurd (Int32.le_refl _) h⟩
  · intro n j s hj hs ih
    subst hs
    show wL_X7_client_90 _ _ _ _ _ _ _
    unfold wL_X7_client_90
    have ho := (hO.2.2.1 j hj).2.2.2.1
    have w4 : m.1 (10 + j) = nI (g (10 + j)) := by have := hM (10 + j) (by omega); rw [Nat.zero_add] at this; exact this
    have hb := bits_lt (fun k => decide (g (10 + k) = c)) j
    have hb2 := pow4 (show j ≤ 4 by omega)
    simp (disch := omega) only [e2, liN, nIle, nIcl, w4, nIinj, nI_1, nI_add]
    refine ⟨nIin (by omega) (by omega), fun h => absurd h (by omega), fun _ => ⟨nIin (by omega) (by omega), fun h => fun x hx => ?_, fun h => fun x hx => ?_⟩⟩
    · rw [or_bit j (by omega) _ (by omega) hb] at hx
      subst hx
      refine ih _ ?_
      rw [bits_s, if_pos (by simp [h])]
    · refine ih _ ?_
      rw [bits_s, if_neg (by simp [h]), Nat.add_zero, hx]
      exact Int32.or_zero
theorem op_client (hR : RR ux un up ua uk rs ms m) {P : Int32 → Int32 → Prop} (hp : ∀ r, P r r) : w_X6_client ux un a0 a1 (fun r => w_X7_client m a0 a1 (fun r2 => P r r2)) := by
  obtain ⟨g, ⟨hA, hM, hO⟩, _⟩ := hR
  obtain ⟨b1, b2, b3, b4, b5, b6⟩ := hO.1
  have hat : ∀ j, j < 36 → m.1 j = nI (g j) := fun j hj => by have := hM j hj; rw [Nat.zero_add] at this; exact this
  unfold w_X6_client w_X7_client
  refine p_hasClient hA.1.1.1 b1 ?_
  by_cases h1 : 0 ≤ a0.toInt ∧ a0.toInt < g 21
  · rw [bi_t h1]
    obtain ⟨c, hc, rfl⟩ := nI_range h1 (by omega)
    have e1 : un.1 c = nI (g (1 + c)) := hA.2.1 c hc
    have e2 : un.2.1 c = nI (g (23 + c)) := hA.1.2.1 c hc
    have hv : vp_in (nI c) 5 := nIin (by omega) (by omega)
    have M : ∀ Q : Int32 → Prop, (a1 = 0 → Q (nI (g (1 + c)))) → (a1 = 1 → Q (nI (g (23 + c)))) → (a1 = 2 → Q (nI (grs g / 2 ^ c % 2))) → (a1 = 3 → Q (nI (bits (fun k => decide (g (10 + k) = c)) (g 22)))) → (a1 = 4 → Q (nI (gli g c aw1 (g 22)))) → (¬ a1 = 0 → ¬ a1 = 1 → ¬ a1 = 2 → ¬ a1 = 3 → ¬ a1 = 4 → Q (-1000001)) → w_X7_client m (nI c) a1 Q := by
      intro Q q0 q1 q2 q3 q4 q5
      unfold w_X7_client
      refine p_isClient hM hO ?_
      rw [bi_t h1]
      refine sel1 ⟨fun h => ?_, fun h0 => ⟨fun h => ?_, fun hh1 => ⟨fun h => ?_, fun h2 => ⟨fun h => ?_, fun h3 => ⟨fun h => ?_, fun h4 => q5 h0 hh1 h2 h3 h4⟩⟩⟩⟩⟩
      · simp (disch := omega) only [liN, nI_add, nIcl, hat]
        exact ⟨nIin (by omega) (by omega), q0 h⟩
      · simp (disch := omega) only [liN, nI_add, nIcl, hat]
        exact ⟨nIin (by omega) (by omega), q1 h⟩
      · have hg := grs_lt hO
        refine p_restsIn (r := 0) hM hO (by omega) (p_has (by omega) (by omega) ?_)
        have hq := q2 h
        by_cases hb : grs g / 2 ^ c % 2 = 1
        · rw [bi_t hb]
          rw [hb] at hq
          exact sel1 hq
        · rw [bi_f hb]
          rw [show grs g / 2 ^ c % 2 = 0 by omega] at hq
          exact sel0 hq
      · exact p_hiredM hM hO (by omega) (q3 h)
      · refine p_lighter (r := 0) (s := 0) hM.n hO (by omega) hc (by omega) ?_
        rw [gli_cong (T := 999) (g := g) (awn 0) aw1 (g 22) (fun k hk => awn_0 k (by omega))]
        exact q4 h
    refine sel1 ⟨fun h => ?_, fun h0 => ⟨fun h => ?_, fun hh1 => ⟨fun h => ?_, fun h2 => ⟨fun h => ?_, fun h3 => ⟨fun h => ?_, fun h4 => ?_⟩⟩⟩⟩⟩
    · rw [nIcl (by omega), e1]
      subst h
      exact ⟨hv, M _ (fun _ => hp _) (fun q => absurd q (by decide)) (fun q => absurd q (by decide)) (fun q => absurd q (by decide)) (fun q => absurd q (by decide)) (fun q => absurd rfl q)⟩
    · rw [nIcl (by omega), e2]
      subst h
      exact ⟨hv, M _ (fun q => absurd q (by decide)) (fun _ => hp _) (fun q => absurd q (by decide)) (fun q => absurd q (by decide)) (fun q => absurd q (by decide)) (fun _ q => absurd rfl q)⟩
    · subst h
      have hg := grs_lt hO
      refine p_resting hA hO ?_
      have eb : (nI (grs g) >>> (nI c &&& 31)) &&& (1 : Int32) = nI (grs g / 2 ^ c % 2) := get_bit c (by omega) _ (by omega)
      rw [eb]
      exact M _ (fun q => absurd q (by decide)) (fun q => absurd q (by decide)) (fun _ => hp _) (fun q => absurd q (by decide)) (fun q => absurd q (by decide)) (fun _ _ q => absurd rfl q)
    · subst h
      refine p_hiredBy hA.1 hO (by omega) ?_
      exact M _ (fun q => absurd q (by decide)) (fun q => absurd q (by decide)) (fun q => absurd q (by decide)) (fun _ => hp _) (fun q => absurd q (by decide)) (fun _ _ _ q => absurd rfl q)
    · subst h
      refine p_lighterBy (s := 15) hA.1 hO hc (by omega) ?_
      rw [gli_cong (T := 999) (g := g) (awb 15) aw1 (g 22) (fun k hk => awb_15 k (by omega))]
      exact M _ (fun q => absurd q (by decide)) (fun q => absurd q (by decide)) (fun q => absurd q (by decide)) (fun q => absurd q (by decide)) (fun _ => hp _) (fun _ _ _ _ q => absurd rfl q)
    · exact M _ (fun q => absurd q h0) (fun q => absurd q hh1) (fun q => absurd q h2) (fun q => absurd q h3) (fun q => absurd q h4) (fun _ _ _ _ _ => hp _)
  · rw [bi_f h1]
    refine sel0 (p_isClient hM hO ?_)
    rw [bi_f h1]
    exact sel0 (hp _)
end OPSF
