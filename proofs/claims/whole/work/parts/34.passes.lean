theorem p_passes_l2 {m : BX7} {g : Nat → Nat} {T r s : Nat} (hO : OKg T g) (hr : r ≤ 108) (hs : s < 16) {post Kx : BX7 → Prop} (hK : ∀ v, (fun j v => v.2 = m.2 ∧ (∀ i, (i < r ∨ r + 36 ≤ i) → v.1 i = m.1 i) ∧ ∀ k, k < 36 → v.1 (r + k) = nI (if (1 ≤ k ∧ k < 1 + g 21) ∨ (14 ≤ k ∧ k < 14 + j) then gpass g (awn s) k else g k)) (g 22) v → Kx v) (u : BX7) (hu : (fun j v => v.2 = m.2 ∧ (∀ i, (i < r ∨ r + 36 ≤ i) → v.1 i = m.1 i) ∧ ∀ k, k < 36 → v.1 (r + k) = nI (if (1 ≤ k ∧ k < 1 + g 21) ∨ (14 ≤ k ∧ k < 14 + j) then gpass g (awn s) k else g k)) 0 u) : ∃ n, wL_X7_passes_105 (nI r) (nI s) post Kx n (nI 0) u := by
  obtain ⟨b1, b2, b3, b4, b5, b6⟩ := hO.1
  refine up_inv (fun n i (v : BX7) => wL_X7_passes_105 (nI r) (nI s) post Kx n i v) (g 22) (fun j v => v.2 = m.2 ∧ (∀ i, (i < r ∨ r + 36 ≤ i) → v.1 i = m.1 i) ∧ ∀ k, k < 36 → v.1 (r + k) = nI (if (1 ≤ k ∧ k < 1 + g 21) ∨ (14 ≤ k ∧ k < 14 + j) then gpass g (awn s) k else g k)) ?_ ?_ u hu
  · intro n v hv
    have h22 := hv.2.2 22 (by omega)
    rw [if_neg (by omega)] at h22
    show wL_X7_passes_105 _ _ _ _ _ _ _
    unfold wL_X7_passes_105
    simp (disch := omega) only [liN, nI_add, nIcl, h22]
    exact ⟨nIin (by omega) (by omega), fun _ => hK v hv, fun h => absurd (Int32.le_refl _) h⟩
  · intro n j v hj hv ih
    obtain ⟨e2, ho2, hw2⟩ := hv
    have h22 := hw2 22 (by omega)
    rw [if_neg (by omega)] at h22
    have h14 := hw2 (14 + j) (by omega)
    rw [if_neg (by omega), ← Nat.add_assoc] at h14
    have hN : AgN v.1 r g := fun k hk h => by rw [hw2 k hk, if_neg (by omega)]
    have o5 := (hO.2.2.1 j hj).2.2.2.2
    have hl := glie_le hO hj
    show wL_X7_passes_105 _ _ _ _ _ _ _
    unfold wL_X7_passes_105
    simp (disch := omega) only [liN, nI_add, nIcl, h22, h14, nIle, nI_1]
    refine ⟨nIin (by omega) (by omega), fun h => absurd h (by omega), fun _ => ⟨nIin (by omega) (by omega), p_has (by omega) (by omega) ?_⟩⟩
    rw [← liN 0, bi_0]
    have fin : ∀ z, z = gpass g (awn s) (14 + j) → ∀ k, k < 36 → upd v.1 (r + 14 + j) (nI z) (r + k) = nI (if (1 ≤ k ∧ k < 1 + g 21) ∨ (14 ≤ k ∧ k < 14 + (j + 1)) then gpass g (awn s) k else g k) := by
      intro z hz k hk
      rw [upd_at]
      by_cases hkj : k = 14 + j
      · subst hkj
        rw [if_pos (by omega), if_pos (by omega), hz]
      · rw [if_neg (by omega), hw2 k hk]
        by_cases hc : (1 ≤ k ∧ k < 1 + g 21) ∨ (14 ≤ k ∧ k < 14 + j)
        · rw [if_pos hc, if_pos (by omega)]
        · rw [if_neg hc, if_neg (by omega)]
    have out : ∀ z, ∀ i, (i < r ∨ r + 36 ≤ i) → upd v.1 (r + 14 + j) z i = m.1 i := by
      intro z i hi
      rw [upd_at, if_neg (by omega)]
      exact ho2 i hi
    refine ⟨fun h1 => ?_, fun h1 => ?_⟩
    · refine p_lies hN hO hr hj ⟨nIin (by omega) (by omega), ih _ ⟨e2, out _, ?_⟩⟩
      rw [nI_add]
      exact fin _ (by rw [gp_e hO _ hj, if_pos (by unfold awn awb; simp [h1])])
    · refine ⟨nIin (by omega) (by omega), ih _ ⟨e2, out _, ?_⟩⟩
      exact fin _ (by rw [gp_e hO _ hj, if_neg (by unfold awn awb; simp; omega)])
theorem p_passes_l1 {m : BX7} {g : Nat → Nat} {T r s : Nat} (hO : OKg T g) (hr : r ≤ 108) (hs : s < 16) {post Kx : BX7 → Prop} (hK : ∀ v, (fun j u => u.2 = m.2 ∧ (∀ i, (i < r ∨ r + 36 ≤ i) → u.1 i = m.1 i) ∧ ∀ k, k < 36 → u.1 (r + k) = nI (if 1 ≤ k ∧ k < 1 + j then gpass g (awn s) k else g k)) (g 21) v → Kx v) (u : BX7) (hu : (fun j u => u.2 = m.2 ∧ (∀ i, (i < r ∨ r + 36 ≤ i) → u.1 i = m.1 i) ∧ ∀ k, k < 36 → u.1 (r + k) = nI (if 1 ≤ k ∧ k < 1 + j then gpass g (awn s) k else g k)) 0 u) : ∃ n, wL_X7_passes_2 (nI r) (nI s) post Kx n (nI 0) u := by
  obtain ⟨b1, b2, b3, b4, b5, b6⟩ := hO.1
  refine up_inv (fun n i (v : BX7) => wL_X7_passes_2 (nI r) (nI s) post Kx n i v) (g 21) (fun j u => u.2 = m.2 ∧ (∀ i, (i < r ∨ r + 36 ≤ i) → u.1 i = m.1 i) ∧ ∀ k, k < 36 → u.1 (r + k) = nI (if 1 ≤ k ∧ k < 1 + j then gpass g (awn s) k else g k)) ?_ ?_ u hu
  · intro n v hv
    have h21 := hv.2.2 21 (by omega)
    rw [if_neg (by omega)] at h21
    show wL_X7_passes_2 _ _ _ _ _ _ _
    unfold wL_X7_passes_2
    simp (disch := omega) only [liN, nI_add, nIcl, h21]
    exact ⟨nIin (by omega) (by omega), fun _ => hK v hv, fun h => absurd (Int32.le_refl _) h⟩
  · intro n j u hj hu ih
    obtain ⟨e, ho, hw⟩ := hu
    have h21 := hw 21 (by omega)
    rw [if_neg (by omega)] at h21
    have h1 := hw (1 + j) (by omega)
    rw [if_neg (by omega), ← Nat.add_assoc] at h1
    have o1 := (hO.2.1 j hj).1
    have hN : AgN u.1 r g := fun k hk h => by rw [hw k hk, if_neg (by omega)]
    have hl18 := gli_le hO (c := j) (aw := awn s) (g 22) (Nat.le_refl _)
    show wL_X7_passes_2 _ _ _ _ _ _ _
    unfold wL_X7_passes_2
    simp (disch := omega) only [liN, nI_add, nIcl, h21, h1, nIle, nI_1]
    refine ⟨nIin (by omega) (by omega), fun h => absurd h (by omega), fun _ => p_lighter hN hO hr hj hs ⟨nIin (by omega) (by omega), fun x18 hx => ?_⟩⟩
    subst hx
    have out : ∀ z, ∀ i, (i < r ∨ r + 36 ≤ i) → upd u.1 (r + 1 + j) z i = m.1 i := by
      intro z i hi
      rw [upd_at, if_neg (by omega)]
      exact ho i hi
    have fin : ∀ z, z = gpass g (awn s) (1 + j) → ∀ k, k < 36 → upd u.1 (r + 1 + j) (nI z) (r + k) = nI (if 1 ≤ k ∧ k < 1 + (j + 1) then gpass g (awn s) k else g k) := by
      intro z hz k hk
      rw [upd_at]
      by_cases hkj : k = 1 + j
      · subst hkj
        rw [if_pos (by omega), if_pos (by omega), hz]
      · rw [if_neg (by omega), hw k hk]
        by_cases hc : 1 ≤ k ∧ k < 1 + j
        · rw [if_pos hc, if_pos (by omega)]
        · rw [if_neg hc, if_neg (by omega)]
    have hgp := gp_w (awn s) hj
    unfold gnw at hgp
    unfold wpJ
    simp (disch := omega) only [nIle]
    refine ⟨fun h2 => ⟨fun h3 => ?_, fun h3 => ?_⟩, fun h2 => ?_⟩
    · rw [if_neg (by omega), if_neg (by omega)] at hgp
      try simp (disch := omega) only [nIle]
      refine ⟨fun _ => ⟨fun _ => ⟨nIin (by omega) (by omega), ih _ (by exact ⟨e, out _, fin _ hgp.symm⟩)⟩, fun h4 => absurd h4 (by omega)⟩, fun h4 => absurd h4 (by omega)⟩
    · rw [if_neg (by omega), if_pos (by omega)] at hgp
      simp (disch := omega) only [nI_add, nIle]
      refine ⟨fun _ => ⟨fun h4 => ⟨nIin (by omega) (by omega), ih _ (by exact ⟨e, out _, fin _ (by rw [hgp, if_neg (by omega)])⟩)⟩, fun h4 => ⟨nIin (by omega) (by omega), ih _ (by exact ⟨e, out _, fin _ (by rw [hgp, if_pos (by omega)])⟩)⟩⟩, fun h4 => absurd h4 (by omega)⟩
    · rw [if_pos (by omega)] at hgp
      by_cases hle : gli g j (awn s) (g 22) ≤ g (1 + j)
      · rw [nIsub hle]
        simp (disch := omega) only [nIle]
        refine ⟨fun _ => ⟨fun h4 => ⟨nIin (by omega) (by omega), ih _ (by exact ⟨e, out _, fin _ hgp.symm⟩)⟩, fun h4 => absurd h4 (by omega)⟩, fun h4 => absurd h4 (by omega)⟩
      · have hneg : ¬ nI 0 ≤ nI (g (1 + j)) - nI (gli g j (awn s) (g 22)) := by
          intro h5
          rw [i32_le, pk_sub_toInt (by omega) (by omega), nIto (by omega)] at h5
          omega
        refine ⟨fun h4 => absurd h4 hneg, fun _ => ⟨nIin (by omega) (by omega), ih _ (by exact ⟨e, out _, fin _ (by rw [hgp]; omega)⟩)⟩⟩
theorem p_passes {m : BX7} {g : Nat → Nat} {T r s : Nat} (hM : AgM m.1 r g) (hO : OKg T g) (hr : r ≤ 108) (hs : s < 16) {post : BX7 → Prop} (hp : ∀ w', AgM w' r (gpass g (awn s)) → (∀ j, (j < r ∨ r + 36 ≤ j) → w' j = m.1 j) → post (w', m.2)) : w_X7_passes m (nI r) (nI s) post := by
  obtain ⟨b1, b2, b3, b4, b5, b6⟩ := hO.1
  unfold w_X7_passes
  refine p_passes_l1 (m := m) hO hr hs (fun u hu => ?_) m ⟨rfl, fun _ _ => rfl, fun k hk => by rw [if_neg (by omega)]; exact hM k hk⟩
  obtain ⟨e, ho, hw⟩ := hu
  have hst : ∀ k, k < 36 → u.1 (r + k) = nI (if (1 ≤ k ∧ k < 1 + g 21) ∨ (14 ≤ k ∧ k < 14 + 0) then gpass g (awn s) k else g k) := by
    intro k hk
    rw [hw k hk]
    by_cases h1 : 1 ≤ k ∧ k < 1 + g 21
    · rw [if_pos h1, if_pos (Or.inl h1)]
    · rw [if_neg h1, if_neg (by omega)]
  refine p_passes_l2 (m := m) hO hr hs (fun v hv => ?_) u ⟨e, ho, hst⟩
  obtain ⟨e2, ho2, hw2⟩ := hv
  have h0 := hw2 0 (by omega)
  rw [if_neg (by omega)] at h0
  simp (disch := omega) only [liN, nI_add, nIcl]
  refine ⟨nIin (by omega) (by omega), nIin (by omega) (by omega), ?_⟩
  have h := hp (upd v.1 (r + 0) (v.1 (r + 0) + nI 1)) ?_ ?_
  · rw [← e2] at h
    exact h
  · intro k hk
    rw [upd_at]
    by_cases hk0 : k = 0
    · subst hk0
      rw [if_pos rfl, h0, nI_add, gp_0]
    · rw [if_neg (by omega), hw2 k hk]
      by_cases hc : (1 ≤ k ∧ k < 1 + g 21) ∨ (14 ≤ k ∧ k < 14 + g 22)
      · rw [if_pos hc]
      · rw [if_neg hc]
        unfold gpass
        rw [if_neg (by omega), if_neg (by omega), if_neg hk0]
  · intro j hj
    rw [upd_at, if_neg (by omega)]
    exact ho2 j hj
