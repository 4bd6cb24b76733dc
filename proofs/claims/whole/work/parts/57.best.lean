section BESTX
variable {un : BX1} {g : Nat → Nat} {T d : Nat}
/-- a state of the search in which a way was tried -/
def TriedW (g : Nat → Nat) (d way : Nat) (u : BX4) : Prop := (∀ c, c < g 21 → ∀ s, s < 16 → u.1 (c * 16 + s) = nI (bhN g c s d)) ∧ (∀ c, c < 5 → u.2.2.1 c = nI (bits (fun k => decide (letB g way k = c)) (g 22)))
theorem p_wbW {u : BX4} {way c : Nat} (hO : OKg T g) (hd : T + d ≤ 5000) (hu : TriedW g d way u) (hc : c < g 21) {post : Int32 → Prop} (hp : post (nI (gwN g way d (1 + c)))) : w_X4_weightBehind u (nI c) post := by
  have b1 := hO.1.1
  have hS : bits (fun k => decide (letB g way k = c)) (g 22) < 16 := Nat.lt_of_lt_of_le (bits_lt _ _) (pow4 hO.1.2.1)
  rw [bh_gw hO way hc d hd] at hp
  exact p_weightBehind (by omega) hS (hu.2 c (by omega)) (hu.1 c hc _ hS) hp
theorem p_fb42 {u : BX4} {way : Nat} (hA : AgX un g) (hO : OKg T g) (hd : T + d ≤ 5000) (hu : TriedW g d way u) {y15 y16 : Int32} {post : BX4 → Prop} {Kx : Int32 → Int32 → Prop} (hp : Kx (nI (rsN g d way)) (nI (smN g d way))) : ∃ n42, wL_X4_findBest_42 y15 y16 u un post Kx n42 (0 : Int32) (0 : Int32) (0 : Int32) := by
  obtain ⟨b1, b2, b3, b4, b5, b6⟩ := hO.1
  have e1 := hA.1.1.1
  have e3 := hA.1.1.2.2.1
  have hOw := gwN_ok hO way hd
  have e21 : gwN g way d 21 = g 21 := gw_st hO way hd (by omega) (by omega)
  have e19 : gwN g way d 19 = g 19 := gw_st hO way hd (by omega) (by omega)
  refine up_inv (fun n i (s : Int32 × Int32) => wL_X4_findBest_42 y15 y16 u un post Kx n s.1 s.2 i) (g 21) (fun j s => s = (nI (fb_sm (fun c => if decide (gwN g way d (1 + c) ≤ gwN g way d 19) = true then 1 else 0) j), nI (fb_sm (fun c => gwN g way d (1 + c)) j))) ?_ ?_ (nI 0, nI 0) rfl
  · intro n s hs
    subst hs
    show wL_X4_findBest_42 _ _ _ _ _ _ _ _ _ _
    unfold wL_X4_findBest_42
    rw [e1]
    refine ⟨fun _ => ?_, fun h => absurd (Int32.le_refl _) h⟩
    unfold rsN smN grs at hp
    rw [e21, ones_bits _ b1] at hp
    exact hp
  · intro n j s hj hs ih
    subst hs
    have hw := (hOw.2.1 j (by omega)).1
    show wL_X4_findBest_42 _ _ _ _ _ _ _ _ _ _
    unfold wL_X4_findBest_42
    rw [e1, e3, nIle (by omega) (by omega), nI_1]
    refine ⟨fun h => absurd h (by omega), fun _ => p_wbW hO hd hu hj (fun x29 h29 => ?_)⟩
    have h29 : x29 = nI (fb_sm (fun c => gwN g way d (1 + c)) j) + nI (gwN g way d (1 + j)) := h29
    rw [nI_add] at h29
    rw [nIlt (by omega) (by omega)]
    refine ⟨fun h => ih (nI (fb_sm (fun c => if decide (gwN g way d (1 + c) ≤ gwN g way d 19) = true then 1 else 0) j) + 0, x29) ?_, fun h => ih (nI (fb_sm (fun c => if decide (gwN g way d (1 + c) ≤ gwN g way d 19) = true then 1 else 0) j) + 1, x29) ?_⟩
    · rw [h29, show (0 : Int32) = nI 0 from rfl, nI_add]
      show _ = (nI (fb_sm _ j + (if decide (gwN g way d (1 + j) ≤ gwN g way d 19) = true then 1 else 0)), nI (fb_sm _ j + gwN g way d (1 + j)))
      rw [if_neg (by simp only [decide_eq_true_eq]; omega)]
    · rw [h29, nI_1]
      show _ = (nI (fb_sm _ j + (if decide (gwN g way d (1 + j) ≤ gwN g way d 19) = true then 1 else 0)), nI (fb_sm _ j + gwN g way d (1 + j)))
      rw [if_pos (by simp only [decide_eq_true_eq]; omega)]
theorem p_choose {u : BX4} {post : BX4 → Prop} (hp : ∀ ch, (∀ k, k < 4 → ch k = u.2.2.2.1 k) → post (u.1, u.2.1, u.2.2.1, u.2.2.2.1, ch, u.2.2.2.2.2)) : w_X4_choose u post := by
  unfold w_X4_choose
  refine ⟨by decide, hp _ (fun k hk => ?_)⟩
  show va_cpy u.2.2.2.1 u.2.2.2.2.1 0 0 4 k = _
  rw [pk_cpy_in (by omega) (by omega), Nat.sub_zero, Nat.zero_add]
theorem m1_lt {n : Nat} (h : n < 1000) : (-1 : Int32) < nI n := by
  rw [i32_lt, nIto (by omega)]
  show (-1 : Int) < n
  omega
theorem p_findBest {u : BX4} (hA : AgX un g) (hO : OKg T g) (hT : T + 60 ≤ 5000) (hd : d ≤ 60) {post : BX4 → Prop} (hp : ∀ v : BX4, v.2.2.2.2.2.1 = nI (rsN g d (bsN g d ((g 21 + 1) ^ g 22 - 1))) → v.2.2.2.2.2.2.1 = nI (smN g d (bsN g d ((g 21 + 1) ^ g 22 - 1))) → (∀ k, k < g 22 → v.2.2.2.2.1 k = nI (letB g (bsN g d ((g 21 + 1) ^ g 22 - 1)) k)) → post v) : w_X4_findBest u un (nI d) post := by
  obtain ⟨b1, b2, b3, b4, b5, b6⟩ := hO.1
  have hways := ways_le hO
  have hway0 : 0 < (g 21 + 1) ^ g 22 := Nat.pow_pos (by omega)
  have hd' : T + d ≤ 5000 := by omega
  unfold w_X4_findBest
  refine p_foretellSets hA hO hT hd (fun bh tk hbh => p_waysToLet hA hO ?_)
  refine up_inv (fun n i (v : BX4) => wL_X4_findBest_19 (nI ((g 21 + 1) ^ g 22)) un post (fun u8 => post u8) n i v) ((g 21 + 1) ^ g 22) (fun j v => ∃ hb td ch re to hi, v = (bh, tk, hb, td, ch, re, to, hi) ∧ (j = 0 → re = -1) ∧ (∀ n, j = n + 1 → re = nI (rsN g d (bsN g d n)) ∧ to = nI (smN g d (bsN g d n)) ∧ ∀ k, k < g 22 → ch k = nI (letB g (bsN g d n) k))) ?_ ?_ _ ⟨u.2.2.1, u.2.2.2.1, u.2.2.2.2.1, -1, u.2.2.2.2.2.2.1, u.2.2.2.2.2.2.2, rfl, fun _ => rfl, fun n h => absurd h (by omega)⟩
  · intro n v hv
    obtain ⟨hb, td, ch, re, to, hi, rfl, h0, h1⟩ := hv
    show wL_X4_findBest_19 _ _ _ _ _ _ _
    unfold wL_X4_findBest_19
    obtain ⟨q1, q2, q3⟩ := h1 ((g 21 + 1) ^ g 22 - 1) (by omega)
    exact ⟨fun _ => hp _ q1 q2 q3, fun h => absurd (Int32.le_refl _) h⟩
  · intro n j v hj hv ih
    obtain ⟨hb, td, ch, re, to, hi, rfl, h0, h1⟩ := hv
    show wL_X4_findBest_19 _ _ _ _ _ _ _
    unfold wL_X4_findBest_19
    rw [nIle (by omega) (by omega), nI_1]
    refine ⟨fun h => absurd h (by omega), fun _ => p_tryWay hA hO (by omega) (fun hb2 td2 hh2 ht2 => ?_)⟩
    have hu : TriedW g d j (bh, tk, hb2, td2, ch, re, to, hi) := ⟨hbh, hh2⟩
    refine p_fb42 hA hO hd' hu ?_
    have hr5 := rsN_le hO hd' j
    have hs5 := smN_le hO hd' j
    unfold wpJ
    -- the way is taken, and it is not
    have take : bsN g d j = j → w_X4_choose (bh, tk, hb2, td2, ch, nI (rsN g d j), nI (smN g d j), hi) (fun u23 => wL_X4_findBest_19 (nI ((g 21 + 1) ^ g 22)) un post (fun u8 => post u8) n (nI (j + 1)) u23) := by
      intro e
      refine p_choose (fun ch2 hc2 => ih _ ⟨hb2, td2, ch2, nI (rsN g d j), nI (smN g d j), hi, rfl, fun q => absurd q (by omega), fun n2 hn2 => ?_⟩)
      obtain rfl : j = n2 := by omega
      rw [e]
      exact ⟨rfl, rfl, fun k hk => (hc2 k (by omega)).trans (ht2 k hk)⟩
    have leave : ∀ i, j = i + 1 → bsN g d j = bsN g d i → wL_X4_findBest_19 (nI ((g 21 + 1) ^ g 22)) un post (fun u8 => post u8) n (nI (j + 1)) (bh, tk, hb2, td2, ch, re, to, hi) := by
      intro i hi e
      refine ih _ ⟨hb2, td2, ch, re, to, _, rfl, fun q => absurd q (by omega), fun n2 hn2 => ?_⟩
      obtain rfl : j = n2 := by omega
      rw [e]
      exact h1 i hi
    by_cases hj0 : j = 0
    · subst hj0
      have e := h0 rfl
      subst e
      exact ⟨fun _ => take rfl, fun q => absurd (m1_lt (by omega)) q⟩
    · obtain ⟨i, rfl⟩ : ∃ i, j = i + 1 := ⟨j - 1, by omega⟩
      obtain ⟨q1, q2, q3⟩ := h1 i rfl
      subst q1
      subst q2
      have hr6 := rsN_le hO hd' (bsN g d i)
      have hs6 := smN_le hO hd' (bsN g d i)
      have i1 : (nI (rsN g d (bsN g d i)) < nI (rsN g d (i + 1))) = (rsN g d (bsN g d i) < rsN g d (i + 1)) := propext (nIlt (by omega) (by omega))
      have i2 : (nI (rsN g d (i + 1)) = nI (rsN g d (bsN g d i))) = (rsN g d (i + 1) = rsN g d (bsN g d i)) := propext (nIinj (by omega) (by omega))
      have i3 : (nI (smN g d (bsN g d i)) ≤ nI (smN g d (i + 1))) = (smN g d (bsN g d i) ≤ smN g d (i + 1)) := propext (nIle (by omega) (by omega))
      show (nI (rsN g d (bsN g d i)) < nI (rsN g d (i + 1)) → _) ∧ (¬ nI (rsN g d (bsN g d i)) < nI (rsN g d (i + 1)) → (nI (rsN g d (i + 1)) = nI (rsN g d (bsN g d i)) → (nI (smN g d (bsN g d i)) ≤ nI (smN g d (i + 1)) → _) ∧ (¬ nI (smN g d (bsN g d i)) ≤ nI (smN g d (i + 1)) → _)) ∧ (¬ nI (rsN g d (i + 1)) = nI (rsN g d (bsN g d i)) → _))
      rw [i1, i2, i3]
      have eb : bsN g d (i + 1) = if rsN g d (bsN g d i) < rsN g d (i + 1) ∨ (rsN g d (i + 1) = rsN g d (bsN g d i) ∧ smN g d (i + 1) < smN g d (bsN g d i)) then i + 1 else bsN g d i := rfl
      refine ⟨fun z => take (by rw [eb, if_pos (Or.inl z)]), fun z => ⟨fun z2 => ⟨fun z3 => leave i rfl (by rw [eb, if_neg (by omega)]), fun z3 => take (by rw [eb, if_pos (Or.inr ⟨z2, by omega⟩)])⟩, fun z2 => leave i rfl (by rw [eb, if_neg (by omega)])⟩⟩
end BESTX
section BESTM
variable {m : BX7} {g : Nat → Nat} {T d : Nat}
theorem p_bestM (hM : AgM m.1 0 g) (hO : OKg T g) (hT : T + 60 ≤ 5000) (hd : d ≤ 60) {y10 : Int32} {post : Int32 → BX7 → Prop} {Kx : Int32 → Int32 → Int32 → BX7 → Prop} (hp : ∀ w', (∀ j, j < 108 → w' j = m.1 j) → Kx (nI (bsN g d ((g 21 + 1) ^ g 22 - 1))) (nI (rsN g d (bsN g d ((g 21 + 1) ^ g 22 - 1)))) (nI (smN g d (bsN g d ((g 21 + 1) ^ g 22 - 1)))) (w', m.2)) : ∃ n45, wL_X7_best_45 (nI d) y10 post Kx n45 (0 : Int32) (-1 : Int32) (0 : Int32) (0 : Int32) m := by
  obtain ⟨b1, b2, b3, b4, b5, b6⟩ := hO.1
  have hways := ways_le hO
  have hway0 : 0 < (g 21 + 1) ^ g 22 := Nat.pow_pos (by omega)
  have hd' : T + d ≤ 5000 := by omega
  have hat : ∀ j, j < 36 → m.1 j = nI (g j) := fun j hj => by have := hM j hj; rw [Nat.zero_add] at this; exact this
  refine up_inv (fun n i (s : Int32 × Int32 × Int32 × BX7) => wL_X7_best_45 (nI d) y10 post Kx n s.1 s.2.1 s.2.2.1 i s.2.2.2) ((g 21 + 1) ^ g 22) (fun j s => ∃ be re to w', s = (be, re, to, w', m.2) ∧ (∀ i, i < 108 → w' i = m.1 i) ∧ (j = 0 → re = -1) ∧ (∀ n, j = n + 1 → be = nI (bsN g d n) ∧ re = nI (rsN g d (bsN g d n)) ∧ to = nI (smN g d (bsN g d n)))) ?_ ?_ (0, -1, 0, m) ⟨0, -1, 0, m.1, rfl, fun _ _ => rfl, fun _ => rfl, fun n h => absurd h (by omega)⟩
  · intro n s hs
    obtain ⟨be, re, to, w', rfl, hw, h0, h1⟩ := hs
    have e22 : w' 22 = nI (g 22) := by rw [hw 22 (by omega), hat 22 (by omega)]
    have e21 : w' 21 = nI (g 21) := by rw [hw 21 (by omega), hat 21 (by omega)]
    show wL_X7_best_45 _ _ _ _ _ _ _ _ _ _
    unfold wL_X7_best_45
    obtain ⟨q1, q2, q3⟩ := h1 ((g 21 + 1) ^ g 22 - 1) (by omega)
    subst q1
    subst q2
    subst q3
    exact p_allLets e22 e21 hO ⟨fun _ => hp w' hw, fun h => absurd (Int32.le_refl _) h⟩
  · intro n j s hj hs ih
    obtain ⟨be, re, to, w', rfl, hw, h0, h1⟩ := hs
    have e22 : w' 22 = nI (g 22) := by rw [hw 22 (by omega), hat 22 (by omega)]
    have e21 : w' 21 = nI (g 21) := by rw [hw 21 (by omega), hat 21 (by omega)]
    show wL_X7_best_45 _ _ _ _ _ _ _ _ _ _
    unfold wL_X7_best_45
    refine p_allLets e22 e21 hO ?_
    rw [nIle (by omega) (by omega), nI_1]
    refine ⟨fun h => absurd h (by omega), fun _ => p_triesLets hM hw hO hT hd (by omega) (fun w2 h2 h3 => ?_)⟩
    have hOw := gwN_ok hO j hd'
    have hr := grs_lt hOw
    have hr5 := rsN_le hO hd' j
    have hs5 := smN_le hO hd' j
    refine p_restsIn (r := 108) h2 hOw (by omega) (p_ones hr ?_)
    show wpJ _ _
    have er : onesN (grs (gwN g j d)) = rsN g d j := rfl
    rw [er]
    unfold wpJ
    have weigh : ∀ Q : Int32 → Prop, Q (nI (smN g d j)) → w_X7_weightsIn (w2, m.2) (108 : Int32) Q := fun Q q => p_weightsIn (m := (w2, m.2)) (r := 108) h2 hOw (by omega) q
    -- the way is taken, and it is not
    have take : bsN g d j = j → (((1 : Int32) = 0 → (((1 : Int32) = 0 → (((1 : Int32) = 0 → wL_X7_best_45 (nI d) y10 post Kx n be re to (nI (j + 1)) (w2, m.2)) ∧ (¬ (1 : Int32) = 0 → w_X7_weightsIn (w2, m.2) (108 : Int32) (fun r31 => wL_X7_best_45 (nI d) y10 post Kx n be re r31 (nI (j + 1)) (w2, m.2))))) ∧ (¬ (1 : Int32) = 0 → (((1 : Int32) = 0 → wL_X7_best_45 (nI d) y10 post Kx n be (nI (rsN g d j)) to (nI (j + 1)) (w2, m.2)) ∧ (¬ (1 : Int32) = 0 → w_X7_weightsIn (w2, m.2) (108 : Int32) (fun r31 => wL_X7_best_45 (nI d) y10 post Kx n be (nI (rsN g d j)) r31 (nI (j + 1)) (w2, m.2))))))) ∧ (¬ (1 : Int32) = 0 → (((1 : Int32) = 0 → (((1 : Int32) = 0 → wL_X7_best_45 (nI d) y10 post Kx n (nI j) re to (nI (j + 1)) (w2, m.2)) ∧ (¬ (1 : Int32) = 0 → w_X7_weightsIn (w2, m.2) (108 : Int32) (fun r31 => wL_X7_best_45 (nI d) y10 post Kx n (nI j) re r31 (nI (j + 1)) (w2, m.2))))) ∧ (¬ (1 : Int32) = 0 → (((1 : Int32) = 0 → wL_X7_best_45 (nI d) y10 post Kx n (nI j) (nI (rsN g d j)) to (nI (j + 1)) (w2, m.2)) ∧ (¬ (1 : Int32) = 0 → w_X7_weightsIn (w2, m.2) (108 : Int32) (fun r31 => wL_X7_best_45 (nI d) y10 post Kx n (nI j) (nI (rsN g d j)) r31 (nI (j + 1)) (w2, m.2)))))))) := by
      intro e
      refine sel1 (sel1 (sel1 (weigh _ (ih (nI j, nI (rsN g d j), nI (smN g d j), w2, m.2) ⟨nI j, nI (rsN g d j), nI (smN g d j), w2, rfl, h3, fun q => absurd q (by omega), fun n2 hn2 => ?_⟩))))
      obtain rfl : j = n2 := by omega
      rw [e]
      exact ⟨rfl, rfl, rfl⟩
    have leave : ∀ i, j = i + 1 → bsN g d j = bsN g d i → (((0 : Int32) = 0 → (((0 : Int32) = 0 → (((0 : Int32) = 0 → wL_X7_best_45 (nI d) y10 post Kx n be re to (nI (j + 1)) (w2, m.2)) ∧ (¬ (0 : Int32) = 0 → w_X7_weightsIn (w2, m.2) (108 : Int32) (fun r31 => wL_X7_best_45 (nI d) y10 post Kx n be re r31 (nI (j + 1)) (w2, m.2))))) ∧ (¬ (0 : Int32) = 0 → (((0 : Int32) = 0 → wL_X7_best_45 (nI d) y10 post Kx n be (nI (rsN g d j)) to (nI (j + 1)) (w2, m.2)) ∧ (¬ (0 : Int32) = 0 → w_X7_weightsIn (w2, m.2) (108 : Int32) (fun r31 => wL_X7_best_45 (nI d) y10 post Kx n be (nI (rsN g d j)) r31 (nI (j + 1)) (w2, m.2))))))) ∧ (¬ (0 : Int32) = 0 → (((0 : Int32) = 0 → (((0 : Int32) = 0 → wL_X7_best_45 (nI d) y10 post Kx n (nI j) re to (nI (j + 1)) (w2, m.2)) ∧ (¬ (0 : Int32) = 0 → w_X7_weightsIn (w2, m.2) (108 : Int32) (fun r31 => wL_X7_best_45 (nI d) y10 post Kx n (nI j) re r31 (nI (j + 1)) (w2, m.2))))) ∧ (¬ (0 : Int32) = 0 → (((0 : Int32) = 0 → wL_X7_best_45 (nI d) y10 post Kx n (nI j) (nI (rsN g d j)) to (nI (j + 1)) (w2, m.2)) ∧ (¬ (0 : Int32) = 0 → w_X7_weightsIn (w2, m.2) (108 : Int32) (fun r31 => wL_X7_best_45 (nI d) y10 post Kx n (nI j) (nI (rsN g d j)) r31 (nI (j + 1)) (w2, m.2)))))))) := by
      intro i hi e
      refine sel0 (sel0 (sel0 (ih (be, re, to, w2, m.2) ⟨be, re, to, w2, rfl, h3, fun q => absurd q (by omega), fun n2 hn2 => ?_⟩)))
      obtain rfl : j = n2 := by omega
      rw [e]
      exact h1 i hi
    by_cases hj0 : j = 0
    · subst hj0
      have e := h0 rfl
      subst e
      exact ⟨fun _ => take rfl, fun q => absurd (m1_lt (by omega)) q⟩
    · obtain ⟨i, rfl⟩ : ∃ i, j = i + 1 := ⟨j - 1, by omega⟩
      obtain ⟨q0, q1, q2⟩ := h1 i rfl
      subst q0
      subst q1
      subst q2
      have hr6 := rsN_le hO hd' (bsN g d i)
      have hs6 := smN_le hO hd' (bsN g d i)
      have i1 : (nI (rsN g d (bsN g d i)) < nI (rsN g d (i + 1))) = (rsN g d (bsN g d i) < rsN g d (i + 1)) := propext (nIlt (by omega) (by omega))
      have i2 : (nI (rsN g d (i + 1)) = nI (rsN g d (bsN g d i))) = (rsN g d (i + 1) = rsN g d (bsN g d i)) := propext (nIinj (by omega) (by omega))
      have i3 : (nI (smN g d (bsN g d i)) ≤ nI (smN g d (i + 1))) = (smN g d (bsN g d i) ≤ smN g d (i + 1)) := propext (nIle (by omega) (by omega))
      have eb : bsN g d (i + 1) = if rsN g d (bsN g d i) < rsN g d (i + 1) ∨ (rsN g d (i + 1) = rsN g d (bsN g d i) ∧ smN g d (i + 1) < smN g d (bsN g d i)) then i + 1 else bsN g d i := rfl
      refine ⟨fun z => take ?_, fun z => ⟨fun z2 => weigh _ ⟨fun z3 => leave i rfl ?_, fun z3 => take ?_⟩, fun z2 => leave i rfl ?_⟩⟩
      · rw [i1] at z
        rw [eb, if_pos (Or.inl z)]
      · rw [i1] at z
        rw [i2] at z2
        rw [i3] at z3
        rw [eb, if_neg (by omega)]
      · rw [i1] at z
        rw [i2] at z2
        rw [i3] at z3
        rw [eb, if_pos (Or.inr ⟨z2, by omega⟩)]
      · rw [i1] at z
        rw [i2] at z2
        rw [eb, if_neg (by omega)]
end BESTM
