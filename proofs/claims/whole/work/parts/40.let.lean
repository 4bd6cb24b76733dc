def gset (g : Nat → Nat) (j v : Nat) : Nat → Nat := fun i => if i = j then v else g i
theorem gset_at {g : Nat → Nat} {j v : Nat} : gset g j v j = v := if_pos rfl
theorem gset_ne {g : Nat → Nat} {j v i : Nat} (h : i ≠ j) : gset g j v i = g i := if_neg h
theorem act_push {ua' : BX0} {acts' : Nat → Int32} {acted' : Int32} {n : Nat} {hs : Nat → Nat → Nat} {g g' : Nat → Nat} (hok : ∀ i, i < n → OKg 999 (hs i) ∧ ∀ j, 18 ≤ j → hs i j = g j) (hO : OKg 999 g) (hn : n ≤ 24) (hX : ActX ua' (pushn n) (pushh n hs g)) (hM : ActM acts' acted' (pushn n) (pushh n hs g)) (hg : ∀ j, 18 ≤ j → g' j = g j) : ActR ua' acts' acted' g' := by
  refine ⟨_, _, hX, hM, fun i hi => ?_⟩
  have hq : ∀ h : Nat → Nat, (OKg 999 h ∧ ∀ j, 18 ≤ j → h j = g j) → OKg 999 h ∧ ∀ j, 18 ≤ j → h j = g' j := fun h hh => ⟨hh.1, fun j hj => (hh.2 j hj).trans (hg j hj).symm⟩
  refine hq _ ?_
  unfold pushn at hi
  unfold pushh
  by_cases h24 : n = 24
  · rw [if_pos h24] at hi
    rw [if_pos h24]
    by_cases h3 : i < 23
    · rw [if_pos h3]; exact hok _ (by omega)
    · rw [if_neg h3]; exact ⟨hO, fun _ _ => rfl⟩
  · rw [if_neg h24] at hi
    rw [if_neg h24]
    by_cases h3 : i < n
    · rw [if_pos h3]; exact hok _ h3
    · rw [if_neg h3]; exact ⟨hO, fun _ _ => rfl⟩
theorem AgM.set {w : Nat → Int32} {g : Nat → Nat} (h : AgM w 0 g) {j v : Nat} (hj : j < 36) : AgM (upd w j (nI v)) 0 (gset g j v) := by
  intro k hk
  rw [Nat.zero_add, upd_at]
  by_cases hkj : k = j
  · rw [if_pos hkj, hkj, gset_at]
  · rw [if_neg hkj, gset_ne hkj]
    have := h k hk
    rw [Nat.zero_add] at this
    exact this
theorem ImgR.out {ms : Nat → BX1} {w w' ik : Nat → Int32} (h : ImgR ms w ik) (hw : ∀ j, 36 ≤ j → j < 108 → w' j = w j) : ImgR ms w' ik := by
  intro k hk
  rcases h k hk with h | ⟨a, g2, b, c, d, e⟩
  · exact Or.inl h
  · exact Or.inr ⟨a, g2, b, c, d, fun j hj => (hw _ (by omega) (by omega)).trans (e j hj)⟩
theorem AgX.setF {a : BX1} {g : Nat → Nat} (h : AgX a g) {k v : Nat} (hk : k < g 22) (h4 : g 22 ≤ 4) (h5 : g 21 ≤ 5) : AgX (a.1, a.2.1, a.2.2.1, a.2.2.2.1, upd a.2.2.2.2.1 k (nI v), a.2.2.2.2.2) (gset g (6 + k) v) := by
  obtain ⟨⟨⟨e1, e2, e3, e4, e5⟩, hC, hW⟩, hwt, hwa⟩ := h
  have n21 : gset g (6 + k) v 21 = g 21 := gset_ne (by omega)
  have n22 : gset g (6 + k) v 22 = g 22 := gset_ne (by omega)
  unfold AgX AgS
  rw [n21, n22]
  refine ⟨⟨⟨e1, e2, ?_, ?_, ?_⟩, fun c hc => ?_, fun i hi => ⟨?_, ?_, ?_, ?_⟩⟩, fun c hc => ?_, fun i hi => ?_⟩
  · rw [gset_ne (by omega)]; exact e3
  · rw [gset_ne (by omega)]; exact e4
  · rw [gset_ne (by omega)]; exact e5
  · rw [gset_ne (by omega)]; exact hC c hc
  · rw [gset_ne (by omega)]; exact (hW i hi).1
  · rw [gset_ne (by omega)]; exact (hW i hi).2.1
  · show upd a.2.2.2.2.1 k (nI v) i = _
    rw [upd_at]
    by_cases hik : i = k
    · rw [if_pos hik, hik, gset_at]
    · rw [if_neg hik, gset_ne (by omega)]; exact (hW i hi).2.2.1
  · rw [gset_ne (by omega)]; exact (hW i hi).2.2.2
  · rw [gset_ne (by omega)]; exact hwt c hc
  · rw [gset_ne (by omega)]; exact hwa i hi
theorem AgX.setH {a : BX1} {g : Nat → Nat} (h : AgX a g) {k v : Nat} (hk : k < g 22) (h4 : g 22 ≤ 4) (h5 : g 21 ≤ 5) : AgX (a.1, a.2.1, a.2.2.1, a.2.2.2.1, a.2.2.2.2.1, upd a.2.2.2.2.2.1 k (nI v), a.2.2.2.2.2.2) (gset g (10 + k) v) := by
  obtain ⟨⟨⟨e1, e2, e3, e4, e5⟩, hC, hW⟩, hwt, hwa⟩ := h
  have n21 : gset g (10 + k) v 21 = g 21 := gset_ne (by omega)
  have n22 : gset g (10 + k) v 22 = g 22 := gset_ne (by omega)
  unfold AgX AgS
  rw [n21, n22]
  refine ⟨⟨⟨e1, e2, ?_, ?_, ?_⟩, fun c hc => ?_, fun i hi => ⟨?_, ?_, ?_, ?_⟩⟩, fun c hc => ?_, fun i hi => ?_⟩
  · rw [gset_ne (by omega)]; exact e3
  · rw [gset_ne (by omega)]; exact e4
  · rw [gset_ne (by omega)]; exact e5
  · rw [gset_ne (by omega)]; exact hC c hc
  · rw [gset_ne (by omega)]; exact (hW i hi).1
  · rw [gset_ne (by omega)]; exact (hW i hi).2.1
  · rw [gset_ne (by omega)]; exact (hW i hi).2.2.1
  · show upd a.2.2.2.2.2.1 k (nI v) i = _
    rw [upd_at]
    by_cases hik : i = k
    · rw [if_pos hik, hik, gset_at]
    · rw [if_neg hik, gset_ne (by omega)]; exact (hW i hi).2.2.2
  · rw [gset_ne (by omega)]; exact hwt c hc
  · rw [gset_ne (by omega)]; exact hwa i hi
theorem AgX.setW {a : BX1} {g : Nat → Nat} (h : AgX a g) {k v : Nat} (hk : k < g 21) (h4 : g 22 ≤ 4) (h5 : g 21 ≤ 5) : AgX (upd a.1 k (nI v), a.2) (gset g (1 + k) v) := by
  obtain ⟨⟨⟨e1, e2, e3, e4, e5⟩, hC, hW⟩, hwt, hwa⟩ := h
  have n21 : gset g (1 + k) v 21 = g 21 := gset_ne (by omega)
  have n22 : gset g (1 + k) v 22 = g 22 := gset_ne (by omega)
  unfold AgX AgS
  rw [n21, n22]
  refine ⟨⟨⟨e1, e2, ?_, ?_, ?_⟩, fun c hc => ?_, fun i hi => ⟨?_, ?_, ?_, ?_⟩⟩, fun c hc => ?_, fun i hi => ?_⟩
  · rw [gset_ne (by omega)]; exact e3
  · rw [gset_ne (by omega)]; exact e4
  · rw [gset_ne (by omega)]; exact e5
  · rw [gset_ne (by omega)]; exact hC c hc
  · rw [gset_ne (by omega)]; exact (hW i hi).1
  · rw [gset_ne (by omega)]; exact (hW i hi).2.1
  · rw [gset_ne (by omega)]; exact (hW i hi).2.2.1
  · rw [gset_ne (by omega)]; exact (hW i hi).2.2.2
  · show upd a.1 k (nI v) c = _
    rw [upd_at]
    by_cases hik : c = k
    · rw [if_pos hik, hik, gset_at]
    · rw [if_neg hik, gset_ne (by omega)]; exact hwt c hc
  · rw [gset_ne (by omega)]; exact hwa i hi
theorem OKg.set {T : Nat} {g : Nat → Nat} (hO : OKg T g) {j v : Nat} (hj : (∃ c, c < g 21 ∧ j = 1 + c ∧ v ≤ 99) ∨ (∃ k, k < g 22 ∧ j = 6 + k ∧ v ≤ 5) ∨ (∃ k, k < g 22 ∧ j = 10 + k ∧ (v < g 21 ∨ v = 5))) : OKg T (gset g j v) := by
  obtain ⟨⟨b1, b2, b3, b4, b5, b6⟩, hc, hk, h18, h0⟩ := hO
  have hr : 1 ≤ j ∧ j < 14 := by
    rcases hj with ⟨c, h1, h2, _⟩ | ⟨c, h1, h2, _⟩ | ⟨c, h1, h2, _⟩ <;> omega
  have n0 : gset g j v 0 = g 0 := gset_ne (by omega)
  have n18 : gset g j v 18 = g 18 := gset_ne (by omega)
  have n19 : gset g j v 19 = g 19 := gset_ne (by omega)
  have n20 : gset g j v 20 = g 20 := gset_ne (by omega)
  have n21 : gset g j v 21 = g 21 := gset_ne (by omega)
  have n22 : gset g j v 22 = g 22 := gset_ne (by omega)
  unfold OKg
  rw [n0, n18, n19, n20, n21, n22]
  refine ⟨⟨b1, b2, b3, b4, b5, b6⟩, fun c hcc => ⟨?_, ?_⟩, fun k hkk => ⟨?_, ?_, ?_, ?_, ?_⟩, h18, h0⟩
  · by_cases h : 1 + c = j
    · rw [h, gset_at]
      rcases hj with ⟨c, h1, h2, h3⟩ | ⟨c, h1, h2, h3⟩ | ⟨c, h1, h2, h3⟩ <;> omega
    · rw [gset_ne h]; exact (hc c hcc).1
  · rw [gset_ne (by omega)]; exact (hc c hcc).2
  · rw [gset_ne (by omega)]; exact (hk k hkk).1
  · rw [gset_ne (by omega)]; exact (hk k hkk).2.1
  · by_cases h : 6 + k = j
    · rw [h, gset_at]
      rcases hj with ⟨c, h1, h2, h3⟩ | ⟨c, h1, h2, h3⟩ | ⟨c, h1, h2, h3⟩ <;> omega
    · rw [gset_ne h]; exact (hk k hkk).2.2.1
  · by_cases h : 10 + k = j
    · rw [h, gset_at]
      rcases hj with ⟨c, h1, h2, h3⟩ | ⟨c, h1, h2, h3⟩ | ⟨c, h1, h2, h3⟩ <;> omega
    · rw [gset_ne h]; exact (hk k hkk).2.2.2.1
  · rw [gset_ne (by omega)]; exact (hk k hkk).2.2.2.2
