theorem p_minds {m : BX7} {n : Nat} {hs : Nat → Nat → Nat} {g : Nat → Nat} (hn : n ≤ 24) (hM : ActM m.2.2.1 m.2.2.2.1 n hs) (hw : AgM m.1 0 g) {post : BX7 → Prop} (hp : ∀ acts' acted', ActM acts' acted' (pushn n) (pushh n hs g) → post (m.1, m.2.1, acts', acted', m.2.2.2.2)) : w_X7_minds m post := by
  obtain ⟨e0, hA⟩ := hM
  have half : ∀ (n2 : Nat) (hs2 : Nat → Nat → Nat) (acts : Nat → Int32), n2 < 24 → (∀ i, i < n2 → ∀ j, j < 18 → acts (18 * i + j) = nI (hs2 i j)) → (∀ acts', (∀ i, i < n2 + 1 → ∀ j, j < 18 → acts' (18 * i + j) = nI ((if i < n2 then hs2 i else g) j)) → post (m.1, m.2.1, acts', nI (n2 + 1), m.2.2.2.2)) → ∃ n51, wL_X7_minds_51 post (fun (u5 : BX7) => post (u5.1, u5.2.1, u5.2.2.1, (u5.2.2.2.1 + (1 : Int32)), u5.2.2.2.2)) n51 (0 : Int32) (m.1, m.2.1, acts, nI n2, m.2.2.2.2) := by
    intro n2 hs2 acts hn2 h1 h2
    refine up_inv (fun n i (u : BX7) => wL_X7_minds_51 post (fun (u5 : BX7) => post (u5.1, u5.2.1, u5.2.2.1, (u5.2.2.2.1 + (1 : Int32)), u5.2.2.2.2)) n i u) 18 (fun j u => u.1 = m.1 ∧ u.2.1 = m.2.1 ∧ u.2.2.2 = (nI n2, m.2.2.2.2) ∧ (∀ i, i < 18 * n2 → u.2.2.1 i = acts i) ∧ ∀ i, i < j → u.2.2.1 (18 * n2 + i) = nI (g i)) ?_ ?_ _ ⟨rfl, rfl, rfl, fun _ _ => rfl, fun i hi => absurd hi (by omega)⟩
    · intro n u hu
      obtain ⟨c1, c2, c3, c4, c5⟩ := hu
      show wL_X7_minds_51 _ _ _ _ _
      unfold wL_X7_minds_51
      refine ⟨fun _ => ?_, fun h => absurd (Int32.le_refl _) h⟩
      rw [c1, c2, c3]
      show post (m.1, m.2.1, u.2.2.1, nI n2 + 1, m.2.2.2.2)
      rw [nI_1]
      refine h2 _ (fun i hi j hj => ?_)
      by_cases hin : i < n2
      · rw [if_pos hin, c4 _ (by omega)]
        exact h1 i hin j hj
      · rw [if_neg hin, show i = n2 by omega]
        exact c5 j hj
    · intro n j u hj hu ih
      obtain ⟨c1, c2, c3, c4, c5⟩ := hu
      show wL_X7_minds_51 _ _ _ _ _
      unfold wL_X7_minds_51
      have c3a : u.2.2.2.1 = nI n2 := by rw [c3]
      rw [c3a]
      simp (disch := omega) only [liN, nI_add, pk_mul, nIcl, nIle, nI_1]
      refine ⟨fun h => absurd h (by omega), fun _ => ⟨nIin (by omega) (by omega), nIin (by omega) (by omega), ih _ ?_⟩⟩
      refine ⟨c1, c2, ?_, fun i hi => ?_, fun i hi => ?_⟩
      · rw [← c3, ← c3a]
      · show upd u.2.2.1 (18 * n2 + j) _ i = _
        rw [upd_at, if_neg (by omega)]
        exact c4 i hi
      · show upd u.2.2.1 (18 * n2 + j) _ (18 * n2 + i) = _
        rw [upd_at]
        by_cases hij : i = j
        · subst hij
          rw [if_pos rfl, c1]
          have := hw i (by omega)
          rw [Nat.zero_add] at this
          exact this
        · rw [if_neg (by omega)]
          exact c5 i (by omega)
  unfold w_X7_minds wpJ
  rw [e0, show (24 : Int32) = nI 24 from rfl, nIinj (by omega) (by omega)]
  refine ⟨fun h => ?_, fun h => ?_⟩
  · subst h
    refine up_inv (fun n i (u : BX7) => wL_X7_minds_11 post _ n i u) 414 (fun j u => u.1 = m.1 ∧ u.2.1 = m.2.1 ∧ u.2.2.2 = m.2.2.2 ∧ ∀ i, u.2.2.1 i = if i < j then m.2.2.1 (i + 18) else m.2.2.1 i) ?_ ?_ m ⟨rfl, rfl, rfl, fun i => by rw [if_neg (by omega)]⟩
    · intro n u hu
      obtain ⟨c1, c2, c3, c4⟩ := hu
      show wL_X7_minds_11 _ _ _ _ _
      unfold wL_X7_minds_11
      refine ⟨fun _ => ?_, fun h => absurd (Int32.le_refl _) h⟩
      have c3a : u.2.2.2.1 - 1 = nI 23 := by rw [c3, e0]; rfl
      show ∃ n51, wL_X7_minds_51 post _ n51 0 (u.1, u.2.1, u.2.2.1, u.2.2.2.1 - 1, u.2.2.2.2)
      rw [c3a, c1, c2, c3]
      refine half 23 (fun i => hs (i + 1)) u.2.2.1 (by omega) (fun i hi j hj => ?_) (fun acts' h => hp acts' _ ⟨rfl, fun i hi j hj => ?_⟩)
      · rw [c4, if_pos (by omega), show 18 * i + j + 18 = 18 * (i + 1) + j by omega]
        exact hA (i + 1) (by omega) j hj
      · exact h i hi j hj
    · intro n j u hj hu ih
      obtain ⟨c1, c2, c3, c4⟩ := hu
      show wL_X7_minds_11 _ _ _ _ _
      unfold wL_X7_minds_11
      simp (disch := omega) only [liN, nI_add, nIcl, nIle, nI_1]
      refine ⟨fun h => absurd h (by omega), fun _ => ⟨nIin (by omega) (by omega), nIin (by omega) (by omega), ih _ ?_⟩⟩
      refine ⟨c1, c2, c3, fun i => ?_⟩
      show upd u.2.2.1 j (u.2.2.1 (j + 18)) i = _
      rw [upd_at]
      by_cases hi : i = j
      · subst hi
        rw [if_pos rfl, if_pos (by omega), c4, if_neg (by omega)]
      · rw [if_neg hi, c4]
        by_cases h3 : i < j
        · rw [if_pos h3, if_pos (by omega)]
        · rw [if_neg h3, if_neg (by omega)]
  · have h3 := half n hs m.2.2.1 (by omega) hA (fun acts' h5 => ?_)
    · rw [← e0] at h3
      exact h3
    · have := hp acts' (nI (n + 1)) ?_
      · exact this
      · unfold pushn pushh
        rw [if_neg h]
        simp only [if_neg h]
        exact ⟨rfl, h5⟩
