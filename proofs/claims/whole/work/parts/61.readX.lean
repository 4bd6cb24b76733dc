theorem AgX.client {a : BX1} {g : Nat → Nat} (h : AgX a g) (h5 : g 21 < 5) (h22 : g 22 = 0) (v1 v2 : Nat) : AgX (upd a.1 (g 21) (nI v1), upd a.2.1 (g 21) (nI v2), a.2.2.1, a.2.2.2.1, a.2.2.2.2.1, a.2.2.2.2.2.1, a.2.2.2.2.2.2.1, nI (g 21) + 1, a.2.2.2.2.2.2.2.2) (clG g v1 v2) := by
  obtain ⟨⟨⟨e1, e2, e3, e4, e5⟩, hC, hW⟩, hwt, hwa⟩ := h
  have e : ∀ j, clG g v1 v2 j = if j = 21 then g 21 + 1 else if j = 23 + g 21 then v2 else if j = 1 + g 21 then v1 else g j := fun j => rfl
  have o : ∀ j, j ≠ 21 → j ≠ 23 + g 21 → j ≠ 1 + g 21 → clG g v1 v2 j = g j := fun j q1 q2 q3 => by rw [e, if_neg q1, if_neg q2, if_neg q3]
  have n21 : clG g v1 v2 21 = g 21 + 1 := by rw [e, if_pos rfl]
  have n22 : clG g v1 v2 22 = g 22 := o 22 (by omega) (by omega) (by omega)
  unfold AgX AgS
  rw [n21, n22, o 19 (by omega) (by omega) (by omega), o 20 (by omega) (by omega) (by omega), o 0 (by omega) (by omega) (by omega)]
  refine ⟨⟨⟨nI_1 _, e2, e3, e4, e5⟩, fun c hc => ?_, fun k hk => absurd hk (by omega)⟩, fun c hc => ?_, fun k hk => absurd hk (by omega)⟩
  · show upd a.2.1 (g 21) (nI v2) c = _
    rw [upd_at]
    by_cases hcc : c = g 21
    · rw [if_pos hcc, hcc, e, if_neg (by omega), if_pos rfl]
    · rw [if_neg hcc, o _ (by omega) (by omega) (by omega)]
      exact hC c (by omega)
  · show upd a.1 (g 21) (nI v1) c = _
    rw [upd_at]
    by_cases hcc : c = g 21
    · rw [if_pos hcc, hcc, e, if_neg (by omega), if_neg (by omega), if_pos rfl]
    · rw [if_neg hcc, o _ (by omega) (by omega) (by omega)]
      exact hwt c (by omega)
theorem AgX.waker {a : BX1} {g : Nat → Nat} (h : AgX a g) (hP : PG g) (h4 : g 22 < 4) (kd hh f v : Nat) : AgX (a.1, a.2.1, upd a.2.2.1 (g 22) (nI kd), upd a.2.2.2.1 (g 22) (nI hh), upd a.2.2.2.2.1 (g 22) (nI f), upd a.2.2.2.2.2.1 (g 22) (nI v), upd a.2.2.2.2.2.2.1 (g 22) (0 : Int32), a.2.2.2.2.2.2.2.1, nI (g 22) + 1, a.2.2.2.2.2.2.2.2.2) (wkG g kd hh f v) := by
  obtain ⟨⟨⟨e1, e2, e3, e4, e5⟩, hC, hW⟩, hwt, hwa⟩ := h
  have b1 := hP.1.1
  have e : ∀ j, wkG g kd hh f v j = if j = 22 then g 22 + 1 else if j = 10 + g 22 then v else if j = 6 + g 22 then f else if j = 32 + g 22 then hh else if j = 28 + g 22 then kd else g j := fun j => rfl
  have o : ∀ j, j ≠ 22 → j ≠ 10 + g 22 → j ≠ 6 + g 22 → j ≠ 32 + g 22 → j ≠ 28 + g 22 → wkG g kd hh f v j = g j := fun j q1 q2 q3 q4 q5 => by rw [e, if_neg q1, if_neg q2, if_neg q3, if_neg q4, if_neg q5]
  have n22 : wkG g kd hh f v 22 = g 22 + 1 := by rw [e, if_pos rfl]
  have n21 : wkG g kd hh f v 21 = g 21 := o 21 (by omega) (by omega) (by omega) (by omega) (by omega)
  unfold AgX AgS
  rw [n21, n22, o 19 (by omega) (by omega) (by omega) (by omega) (by omega), o 20 (by omega) (by omega) (by omega) (by omega) (by omega), o 0 (by omega) (by omega) (by omega) (by omega) (by omega)]
  refine ⟨⟨⟨e1, nI_1 _, e3, e4, e5⟩, fun c hc => ?_, fun k hk => ⟨?_, ?_, ?_, ?_⟩⟩, fun c hc => ?_, fun k hk => ?_⟩
  · rw [o _ (by omega) (by omega) (by omega) (by omega) (by omega)]
    exact hC c hc
  · show upd a.2.2.1 (g 22) (nI kd) k = _
    rw [upd_at]
    by_cases hkk : k = g 22
    · rw [if_pos hkk, hkk, e, if_neg (by omega), if_neg (by omega), if_neg (by omega), if_neg (by omega), if_pos rfl]
    · rw [if_neg hkk, o _ (by omega) (by omega) (by omega) (by omega) (by omega)]
      exact (hW k (by omega)).1
  · show upd a.2.2.2.1 (g 22) (nI hh) k = _
    rw [upd_at]
    by_cases hkk : k = g 22
    · rw [if_pos hkk, hkk, e, if_neg (by omega), if_neg (by omega), if_neg (by omega), if_pos rfl]
    · rw [if_neg hkk, o _ (by omega) (by omega) (by omega) (by omega) (by omega)]
      exact (hW k (by omega)).2.1
  · show upd a.2.2.2.2.1 (g 22) (nI f) k = _
    rw [upd_at]
    by_cases hkk : k = g 22
    · rw [if_pos hkk, hkk, e, if_neg (by omega), if_neg (by omega), if_pos rfl]
    · rw [if_neg hkk, o _ (by omega) (by omega) (by omega) (by omega) (by omega)]
      exact (hW k (by omega)).2.2.1
  · show upd a.2.2.2.2.2.1 (g 22) (nI v) k = _
    rw [upd_at]
    by_cases hkk : k = g 22
    · rw [if_pos hkk, hkk, e, if_neg (by omega), if_pos rfl]
    · rw [if_neg hkk, o _ (by omega) (by omega) (by omega) (by omega) (by omega)]
      exact (hW k (by omega)).2.2.2
  · rw [o _ (by omega) (by omega) (by omega) (by omega) (by omega)]
    exact hwt c hc
  · show upd a.2.2.2.2.2.2.1 (g 22) (0 : Int32) k = _
    rw [upd_at, o _ (by omega) (by omega) (by omega) (by omega) (by omega)]
    by_cases hkk : k = g 22
    · rw [if_pos hkk, hP.2.2.2 k (by omega)]
      rfl
    · rw [if_neg hkk]
      exact hwa k (by omega)
section RDX
variable {b : Nat → Nat} {L : Nat} {u : BX5} {a : BX1} {p : Nat} {g : Nat → Nat}
theorem p_readClient (hu : LiveT b L u p) (hA : AgX a g) (hP : PG g) (h22 : g 22 = 0) (h5 : g 21 = 5 → p < L ∧ b p = 119) {post : BX5 → BX1 → Prop} (hl : (p < L ∧ b p = 119) → (clN b L p g).1 = 0 → ∀ u' a', LiveT b L u' (clN b L p g).2.1 → AgX a' (clN b L p g).2.2 → post u' a') (hd : (p < L ∧ b p = 119) → ¬ (clN b L p g).1 = 0 → ∀ u' a', DeadT u' (clN b L p g).1 (clN b L p g).2.1 → post u' a') (hn : ¬ (p < L ∧ b p = 119) → ∀ u' a', DeadT u' 1 p → post u' a') : w_X5_readClient u a post := by
  have b1 := hP.1.1
  unfold w_X5_readClient
  rw [hA.1.1.1, hu.1.2.2.1]
  intro x1 hx1
  subst hx1
  rw [show (5 : Int32) = nI 5 from rfl, nIlt (by omega) (by omega)]
  by_cases h21 : g 21 = 5
  · refine ⟨fun q => absurd q (by omega), fun _ => p_failL hu (f := 3) (by omega) (fun u' h' => ?_)⟩
    have e : clN b L p g = (3, p, g) := by unfold clN; rw [if_pos h21]
    rw [e] at hd
    dsimp only at hd
    exact hd (h5 h21) (by simp) u' a h'
  · have hv : vp_in (nI (g 21)) 5 := nIin (by omega) (by omega)
    rw [nIcl (by omega)]
    refine ⟨fun _ => p_expL (a := 119) hu (by omega) (fun hc u1 hu1 => ?_) (fun hc u1 hu1 => ?_), fun q => absurd (by omega) q⟩
    · refine p_nsL (mx := 40) (a := 44) hu1 (by omega) (by omega) hv (fun hA0 u2 hu2 => ?_) (fun hA0 x u2 hu2 => ?_)
      · refine p_nsL (mx := 5) (a := 59) hu2 (by omega) (by omega) hv (fun hB0 u3 hu3 => ?_) (fun hB0 x u3 hu3 => ?_)
        · have e : clN b L p g = (0, (nsN b L (nsN b L (p + 1) 40 44).2.1 5 59).2.1, clG g (nsN b L (p + 1) 40 44).2.2 (nsN b L (nsN b L (p + 1) 40 44).2.1 5 59).2.2) := by unfold clN; rw [if_neg h21, if_pos hA0, if_pos hB0]
          rw [e] at hl
          dsimp only at hl
          exact hl hc rfl u3 _ hu3 (hA.client (by omega) h22 _ _)
        · have e : clN b L p g = ((nsN b L (nsN b L (p + 1) 40 44).2.1 5 59).1, (nsN b L (nsN b L (p + 1) 40 44).2.1 5 59).2.1, g) := by unfold clN; rw [if_neg h21, if_pos hA0, if_neg hB0]
          rw [e] at hd
          dsimp only at hd
          exact hd hc hB0 u3 _ hu3
      · have e : clN b L p g = ((nsN b L (p + 1) 40 44).1, (nsN b L (p + 1) 40 44).2.1, g) := by unfold clN; rw [if_neg h21, if_neg hA0]
        rw [e] at hd
        dsimp only at hd
        exact p_nsD (a := 59) hu2 (by omega) hv (hd hc hA0 u2 _ hu2)
    · exact p_nsD (a := 44) hu1 (by omega) hv (p_nsD (a := 59) hu1 (by omega) hv (hn hc u1 _ hu1))
theorem p_readWaker (hu : LiveT b L u p) (hA : AgX a g) (hP : PG g) (hk : ¬ kqN b L p = 0) {post : BX5 → BX1 → Prop} (hl : (wkN b L p (kqN b L p) g).1 = 0 → ∀ u' a', LiveT b L u' (wkN b L p (kqN b L p) g).2.1 → AgX a' (wkN b L p (kqN b L p) g).2.2 → post u' a') (hd : ¬ (wkN b L p (kqN b L p) g).1 = 0 → ∀ u' a', DeadT u' (wkN b L p (kqN b L p) g).1 (wkN b L p (kqN b L p) g).2.1 → post u' a') : w_X5_readWaker u a post := by
  obtain ⟨b1, b2, b3, b4, b5, b6⟩ := hP.1
  have hpL : p < L := by
    by_cases q : p < L
    · exact q
    · exact absurd (by unfold kqN; rw [if_neg q]) hk
  unfold w_X5_readWaker
  rw [hA.1.1.2.1, hu.1.2.2.1]
  intro x1 hx1
  subst hx1
  rw [show (4 : Int32) = nI 4 from rfl, nIlt (by omega) (by omega)]
  by_cases h22 : g 22 = 4
  · refine ⟨fun q => absurd q (by omega), fun _ => p_failL hu (f := 3) (by omega) (fun u' h' => ?_)⟩
    have e : wkN b L p (kqN b L p) g = (3, p, g) := by unfold wkN; rw [if_pos h22]
    rw [e] at hd
    dsimp only at hd
    exact hd (by simp) u' a h'
  · have hv : vp_in (nI (g 22)) 4 := nIin (by omega) (by omega)
    rw [nIcl (by omega), nI_1]
    refine ⟨fun _ => p_nextL hu (p_kindL hu.2.2.2 ⟨hv, ?_⟩), fun q => absurd (by omega) q⟩
    have hu1 : LiveT b L (u.1, u.2.1, nI (p + 1), u.2.2.2.1, u.2.2.2.2) (p + 1) := ⟨⟨hu.1.1, hu.1.2.1, rfl, hu.1.2.2.2⟩, by omega, hu.2.2⟩
    refine p_nsL (mx := 9) (a := 44) hu1 (by omega) (by omega) hv (fun hA0 u2 hu2 => ?_) (fun hA0 x u2 hu2 => ?_)
    · refine p_nsL (mx := 5) (a := 44) hu2 (by omega) (by omega) hv (fun hB0 u3 hu3 => ?_) (fun hB0 x u3 hu3 => ?_)
      · refine p_hsL hu3 (C := g 21) hA.1.1.1 b1 hv (fun hH0 u4 hu4 => ⟨hv, ?_⟩) (fun hH0 x u4 hu4 => ⟨hv, ?_⟩)
        · have e : wkN b L p (kqN b L p) g = (0, (hsN b L (nsN b L (nsN b L (p + 1) 9 44).2.1 5 44).2.1 (g 21)).2.1, wkG g (kqN b L p) (nsN b L (p + 1) 9 44).2.2 (nsN b L (nsN b L (p + 1) 9 44).2.1 5 44).2.2 (hsN b L (nsN b L (nsN b L (p + 1) 9 44).2.1 5 44).2.1 (g 21)).2.2) := by unfold wkN; rw [if_neg h22, if_pos hA0, if_pos hB0, if_pos hH0]
          rw [e] at hl
          dsimp only at hl
          exact hl rfl u4 _ hu4 (hA.waker hP (by omega) (kqN b L p) (nsN b L (p + 1) 9 44).2.2 (nsN b L (nsN b L (p + 1) 9 44).2.1 5 44).2.2 (hsN b L (nsN b L (nsN b L (p + 1) 9 44).2.1 5 44).2.1 (g 21)).2.2)
        · have e : wkN b L p (kqN b L p) g = ((hsN b L (nsN b L (nsN b L (p + 1) 9 44).2.1 5 44).2.1 (g 21)).1, (hsN b L (nsN b L (nsN b L (p + 1) 9 44).2.1 5 44).2.1 (g 21)).2.1, g) := by unfold wkN; rw [if_neg h22, if_pos hA0, if_pos hB0, if_neg hH0]
          rw [e] at hd
          dsimp only at hd
          exact hd hH0 u4 _ hu4
      · have e : wkN b L p (kqN b L p) g = ((nsN b L (nsN b L (p + 1) 9 44).2.1 5 44).1, (nsN b L (nsN b L (p + 1) 9 44).2.1 5 44).2.1, g) := by unfold wkN; rw [if_neg h22, if_pos hA0, if_neg hB0]
        rw [e] at hd
        dsimp only at hd
        exact p_hsD hu3 (C := g 21) hA.1.1.1 b1 hv ⟨hv, hd hB0 u3 _ hu3⟩
    · have e : wkN b L p (kqN b L p) g = ((nsN b L (p + 1) 9 44).1, (nsN b L (p + 1) 9 44).2.1, g) := by unfold wkN; rw [if_neg h22, if_neg hA0]
      rw [e] at hd
      dsimp only at hd
      exact p_nsD (a := 44) hu2 (by omega) hv (p_hsD hu2 (C := g 21) hA.1.1.1 b1 hv ⟨hv, hd hA0 u2 _ hu2⟩)
def FinT (post : BX5 → BX1 → Prop) (u12 : BX5) (u13 : BX1) : Prop := (u12.2.1 ≤ u12.2.2.1 → post (u12.1, (0 : Int32), u12.2.2.1, u12.2.2.2.1, u12.2.2.2.2) u13) ∧ (¬ u12.2.1 ≤ u12.2.2.1 → w_X5_fail u12 (1 : Int32) u12.2.2.1 (fun u16 => post (u16.1, (0 : Int32), u16.2.2.1, u16.2.2.2.1, u16.2.2.2.2) u13))
/-- what the class owes of a result -/
def RX (r : Nat × Nat × (Nat → Nat)) (post : BX5 → BX1 → Prop) : Prop := (¬ r.1 = 0 → ∀ (u : BX5) (a : BX1), u.2.1 = 0 → ¬ u.2.2.2.1 = 0 → u.2.2.2.1 = nI r.1 → u.2.2.2.2 = nI r.2.1 → post u a) ∧ (r.1 = 0 → ∀ (u : BX5) (a : BX1), u.2.1 = 0 → u.2.2.2.1 = 0 → AgX a r.2.2 → PG r.2.2 → 0 < r.2.2 21 → post u a)
theorem p_finD {f q : Nat} (hu : DeadT u f q) {gg : Nat → Nat} {post : BX5 → BX1 → Prop} (h : RX (f, q, gg) post) : FinT post u a := by
  have hne := dead_ne hu
  have hf : ¬ f = 0 := by have := hu.1; omega
  unfold FinT
  exact ⟨fun _ => h.1 hf _ _ rfl hne hu.2.1 hu.2.2, fun _ => p_failD hu (h.1 hf _ _ rfl hne hu.2.1 hu.2.2)⟩
theorem clG_21 (g : Nat → Nat) (v1 v2 : Nat) : clG g v1 v2 21 = g 21 + 1 := by
  unfold clG
  exact gset_at
theorem clG_22 (g : Nat → Nat) (v1 v2 : Nat) (h : g 21 ≤ 5) : clG g v1 v2 22 = g 22 := by
  unfold clG
  rw [gset_ne (by omega), gset_ne (by omega), gset_ne (by omega)]
theorem wkG_22 (g : Nat → Nat) (kd hh f v : Nat) : wkG g kd hh f v 22 = g 22 + 1 := by
  unfold wkG
  exact gset_at
theorem wkG_21 (g : Nat → Nat) (kd hh f v : Nat) (h : g 22 ≤ 4) : wkG g kd hh f v 21 = g 21 := by
  unfold wkG
  rw [gset_ne (by omega), gset_ne (by omega), gset_ne (by omega), gset_ne (by omega), gset_ne (by omega)]
theorem clN_g {b : Nat → Nat} {L p : Nat} {g : Nat → Nat} (hP : PG g) (h22 : g 22 = 0) (h : (clN b L p g).1 = 0) : PG (clN b L p g).2.2 ∧ (clN b L p g).2.2 21 = g 21 + 1 ∧ (clN b L p g).2.2 22 = 0 ∧ g 21 < 5 := by
  have b1 := hP.1.1
  unfold clN at h ⊢
  by_cases q1 : g 21 = 5
  · rw [if_pos q1] at h; exact absurd h (by simp)
  · rw [if_neg q1] at h ⊢
    by_cases q2 : (nsN b L (p + 1) 40 44).1 = 0
    · rw [if_pos q2] at h ⊢
      by_cases q3 : (nsN b L (nsN b L (p + 1) 40 44).2.1 5 59).1 = 0
      · rw [if_pos q3]
        refine ⟨hP.client (by omega) h22 (nsN_ok q2).1 (nsN_ok q3).1, ?_, ?_, by omega⟩
        · exact clG_21 g (nsN b L (p + 1) 40 44).2.2 (nsN b L (nsN b L (p + 1) 40 44).2.1 5 59).2.2
        · exact (clG_22 g (nsN b L (p + 1) 40 44).2.2 (nsN b L (nsN b L (p + 1) 40 44).2.1 5 59).2.2 (by omega)).trans h22
      · rw [if_neg q3] at h; exact absurd h q3
    · rw [if_neg q2] at h; exact absurd h q2
theorem wkN_g {b : Nat → Nat} {L p kd : Nat} {g : Nat → Nat} (hP : PG g) (h1 : 1 ≤ kd) (h5 : kd ≤ 5) (h : (wkN b L p kd g).1 = 0) : PG (wkN b L p kd g).2.2 ∧ (wkN b L p kd g).2.2 21 = g 21 ∧ (wkN b L p kd g).2.2 22 = g 22 + 1 ∧ g 22 < 4 := by
  have b1 := hP.1.1
  have b2 := hP.1.2.1
  unfold wkN at h ⊢
  by_cases q1 : g 22 = 4
  · rw [if_pos q1] at h; exact absurd h (by simp)
  · rw [if_neg q1] at h ⊢
    by_cases q2 : (nsN b L (p + 1) 9 44).1 = 0
    · rw [if_pos q2] at h ⊢
      by_cases q3 : (nsN b L (nsN b L (p + 1) 9 44).2.1 5 44).1 = 0
      · rw [if_pos q3] at h ⊢
        by_cases q4 : (hsN b L (nsN b L (nsN b L (p + 1) 9 44).2.1 5 44).2.1 (g 21)).1 = 0
        · rw [if_pos q4]
          exact ⟨hP.waker (by omega) h1 h5 (nsN_ok q2).1 (nsN_ok q3).1 (hsN_ok q4).1, wkG_21 g kd (nsN b L (p + 1) 9 44).2.2 (nsN b L (nsN b L (p + 1) 9 44).2.1 5 44).2.2 (hsN b L (nsN b L (nsN b L (p + 1) 9 44).2.1 5 44).2.1 (g 21)).2.2 (by omega), wkG_22 g kd (nsN b L (p + 1) 9 44).2.2 (nsN b L (nsN b L (p + 1) 9 44).2.1 5 44).2.2 (hsN b L (nsN b L (nsN b L (p + 1) 9 44).2.1 5 44).2.1 (g 21)).2.2, by omega⟩
        · rw [if_neg q4] at h; exact absurd h q4
      · rw [if_neg q3] at h; exact absurd h q3
    · rw [if_neg q2] at h; exact absurd h q2
theorem kq_ne {b : Nat → Nat} {L p : Nat} (h : ¬ kqN b L p = 0) : p < L ∧ ¬ b p = 119 := by
  unfold kqN at h
  by_cases q : p < L
  · rw [if_pos q] at h
    refine ⟨q, fun e => h ?_⟩
    rw [e]
    rfl
  · rw [if_neg q] at h; exact absurd rfl h
theorem p_wakD {f q : Nat} (hu : DeadT u f q) {post Kx : BX5 → BX1 → Prop} (h : Kx u a) {n : Nat} {x : Int32} : wL_X5_readWakers_2 post Kx (n + 1) x u a := by
  unfold wL_X5_readWakers_2
  refine ⟨fun _ => h, fun _ => p_nextD hu ?_⟩
  unfold w_X5_kindTold
  iterate 13 refine ⟨fun z => absurd z (by decide), fun _ => ?_⟩
  exact sel0 h
theorem p_cliD {f q : Nat} (hu : DeadT u f q) {post Kx : BX5 → BX1 → Prop} (h : Kx u a) {n : Nat} {x : Int32} : wL_X5_readClients_7 post Kx (n + 1) x u a := by
  unfold wL_X5_readClients_7
  exact ⟨fun _ => h, fun _ => p_nextD hu ⟨fun z => absurd z (by decide), fun _ => h⟩⟩
theorem p_wakers {post post0 Kx : BX5 → BX1 → Prop} (hK : ∀ u a, FinT post u a → Kx u a) : ∀ n p g u a, LiveT b L u p → AgX a g → PG g → 0 < g 21 → ¬ ((p < L ∧ b p = 119) ∧ g 22 = 0) → 5 ≤ n + 1 + g 22 → RX (moN b L (n + 1) p g) post → wL_X5_readWakers_2 post0 Kx (n + 2) (nI (g 22)) u a := by
  intro n
  induction n with
  | zero =>
    intro p g u a hu hA hP h21 hw hn hR
    have b2 := hP.1.2.1
    have e22 : g 22 = 4 := by omega
    unfold wL_X5_readWakers_2
    rw [show (4 : Int32) = nI 4 from rfl, nIlt (by omega) (by omega)]
    refine ⟨fun h => absurd h (by omega), fun _ => p_nextL hu (p_kindL hu.2.2.2 ?_)⟩
    rw [show (nI (kqN b L p) = (0 : Int32)) = (nI (kqN b L p) = nI 0) from rfl, nIinj (by have := kqN_le (b := b) (L := L) p; omega) (by omega)]
    refine ⟨fun h0 => hK u a ?_, fun h0 => p_readWaker hu hA hP h0 (fun hz => ?_) (fun hz u' a' hd => ?_)⟩
    · unfold FinT
      rw [hu.1.2.1, hu.1.2.2.1, nIle (by have := hu.2.2.1; omega) (by have := hu.2.1; have := hu.2.2.1; omega)]
      refine ⟨fun h => ?_, fun h => p_failL hu (f := 1) (by omega) (fun u' hd => ?_)⟩
      · rw [moN_s, if_neg (by omega)] at hR
        exact hR.2 rfl _ _ rfl hu.1.2.2.2 hA hP h21
      · have et : tmN b L p g = (1, p, g) := by unfold tmN; rw [if_neg hw, if_pos (Or.inl h0)]
        rw [moN_s, if_pos (by omega), et, if_neg (by simp)] at hR
        exact hR.1 (by simp) _ _ rfl (dead_ne hd) hd.2.1 hd.2.2
    · have := (wkN_g hP (by omega) (kqN_le p) hz).2.2.2
      omega
    · have hk := kq_ne h0
      have et : tmN b L p g = wkN b L p (kqN b L p) g := by unfold tmN; rw [if_neg hw, if_neg (by omega)]
      rw [moN_s, if_pos (Or.inl hk.1), et, if_neg hz] at hR
      exact p_wakD hd (hK u' a' (p_finD hd hR))
  | succ n ih =>
    intro p g u a hu hA hP h21 hw hn hR
    have b2 := hP.1.2.1
    unfold wL_X5_readWakers_2
    rw [show (4 : Int32) = nI 4 from rfl, nIlt (by omega) (by omega), nI_1]
    refine ⟨fun h => absurd h (by omega), fun _ => p_nextL hu (p_kindL hu.2.2.2 ?_)⟩
    rw [show (nI (kqN b L p) = (0 : Int32)) = (nI (kqN b L p) = nI 0) from rfl, nIinj (by have := kqN_le (b := b) (L := L) p; omega) (by omega)]
    refine ⟨fun h0 => hK u a ?_, fun h0 => p_readWaker hu hA hP h0 (fun hz u' a' hu' hA' => ?_) (fun hz u' a' hd => ?_)⟩
    · unfold FinT
      rw [hu.1.2.1, hu.1.2.2.1, nIle (by have := hu.2.2.1; omega) (by have := hu.2.1; have := hu.2.2.1; omega)]
      refine ⟨fun h => ?_, fun h => p_failL hu (f := 1) (by omega) (fun u' hd => ?_)⟩
      · rw [moN_s, if_neg (by omega)] at hR
        exact hR.2 rfl _ _ rfl hu.1.2.2.2 hA hP h21
      · have et : tmN b L p g = (1, p, g) := by unfold tmN; rw [if_neg hw, if_pos (Or.inl h0)]
        rw [moN_s, if_pos (by omega), et, if_neg (by simp)] at hR
        exact hR.1 (by simp) _ _ rfl (dead_ne hd) hd.2.1 hd.2.2
    · have hk := kq_ne h0
      obtain ⟨z1, z2, z3, z4⟩ := wkN_g hP (by omega) (kqN_le p) hz
      have et : tmN b L p g = wkN b L p (kqN b L p) g := by unfold tmN; rw [if_neg hw, if_neg (by omega)]
      rw [moN_s, if_pos (Or.inl hk.1), et, if_pos hz] at hR
      rw [← z3]
      exact ih _ _ u' a' hu' hA' z1 (by omega) (fun y => absurd y.2 (by omega)) (by omega) hR
    · have hk := kq_ne h0
      have et : tmN b L p g = wkN b L p (kqN b L p) g := by unfold tmN; rw [if_neg hw, if_neg (by omega)]
      rw [moN_s, if_pos (Or.inl hk.1), et, if_neg hz] at hR
      exact p_wakD hd (hK u' a' (p_finD hd hR))
theorem p_clients {post post0 Kx : BX5 → BX1 → Prop} (hK : ∀ u a, w_X5_readWakers u a (FinT post) → Kx u a) : ∀ n p g u a, LiveT b L u p → AgX a g → PG g → 0 < g 21 → g 22 = 0 → 10 ≤ n + 1 + g 21 → RX (moN b L (n + 1) p g) post → wL_X5_readClients_7 post0 Kx (n + 2) (nI (g 21 - 1)) u a := by
  intro n
  induction n with
  | zero =>
    intro p g u a hu hA hP h21 h22 hn hR
    have b1 := hP.1.1
    omega
  | succ n ih =>
    intro p g u a hu hA hP h21 h22 hn hR
    have b1 := hP.1.1
    unfold wL_X5_readClients_7
    rw [show (5 : Int32) = nI 5 from rfl, nIle (by omega) (by omega), nI_1]
    refine ⟨fun h => absurd h (by omega), fun _ => p_nextL hu ?_⟩
    rw [show (bvN b L p = (119 : Int32)) = (bvN b L p = nI 119) from rfl, bv_eq hu.2.2.2 (by omega)]
    refine ⟨fun h0 => p_readClient hu hA hP h22 (fun _ => h0) (fun _ hz u' a' hu' hA' => ?_) (fun _ hz u' a' hd => ?_) (fun q => absurd h0 q), fun h0 => hK u a ?_⟩
    · obtain ⟨z1, z2, z3, z4⟩ := clN_g hP h22 hz
      have et : tmN b L p g = clN b L p g := by unfold tmN; rw [if_pos ⟨h0, h22⟩]
      rw [moN_s, if_pos (Or.inl h0.1), et, if_pos hz] at hR
      have := ih _ _ u' a' hu' hA' z1 (by omega) z3 (by omega) hR
      rw [z2, show g 21 + 1 - 1 = g 21 - 1 + 1 by omega] at this
      exact this
    · have et : tmN b L p g = clN b L p g := by unfold tmN; rw [if_pos ⟨h0, h22⟩]
      rw [moN_s, if_pos (Or.inl h0.1), et, if_neg hz] at hR
      refine p_cliD hd (hK u' a' ?_)
      unfold w_X5_readWakers
      exact ⟨1, p_wakD hd (p_finD hd hR)⟩
    · unfold w_X5_readWakers
      have := p_wakers (post := post) (post0 := FinT post) (Kx := fun u4 u5 => FinT post u4 u5) (fun _ _ h => h) (n + 1) p g u a hu hA hP h21 (fun y => h0 y.1) (by omega) hR
      rw [h22] at this
      exact ⟨_, this⟩
theorem p_readInto {up : BX5} {ut : BX1} (h1 : ∀ k, k < L → up.1 k = nI (b k)) (h2 : up.2.1 = nI L) (hL : L ≤ 100) (hb : ∀ k, k < L → b k < 256) {post : BX5 → BX1 → Prop} (hR : RX (prN b L) post) : w_X5_readInto up ut post := by
  unfold w_X5_readInto w_X1_close w_X5_readLaw
  have hu : LiveT b L (up.1, up.2.1, (0 : Int32), (0 : Int32), up.2.2.2.2) 0 := ⟨⟨h1, h2, rfl, rfl⟩, by omega, hL, hb⟩
  -- behind a fault all runs out
  have out : ∀ (f q : Nat) (gg : Nat → Nat) (u4 : BX5) (u5 : BX1), DeadT u4 f q → RX (f, q, gg) post → (u5.2.2.2.2.2.2.2.1 = 0) → w_X5_readClients u4 u5 (fun u8 u9 => w_X5_readWakers u8 u9 (FinT post)) := by
    intro f q gg u4 u5 hd hq h0
    have wk : ∀ u5, w_X5_readWakers u4 u5 (FinT post) := fun u5 => by
      unfold w_X5_readWakers
      exact ⟨1, p_wakD hd (p_finD hd hq)⟩
    unfold w_X5_readClients w_X5_readClient
    rw [h0]
    intro x1 hx1
    subst hx1
    have hv : vp_in (0 : Int32) 5 := nIin (n := 0) (by omega) (by omega)
    exact ⟨fun _ => p_expD (a := 119) hd (by omega) (p_nsD (a := 44) hd (by omega) hv (p_nsD (a := 59) hd (by omega) hv ⟨1, p_cliD hd (wk _)⟩)), fun q => absurd (by decide) q⟩
  refine p_expL (a := 108) hu (by omega) (fun hc u1 hu1 => ?_) (fun hc u1 hd => ?_)
  · refine p_nsL0 (mx := 20) (a := 44) hu1 (by omega) (by omega) (fun hA0 u2 hu2 => ?_) (fun hA0 x u2 hd => ?_)
    · refine p_nsL0 (mx := 6) (a := 59) hu2 (by omega) (by omega) (fun hB0 u3 hu3 => ?_) (fun hB0 x u3 hd => ?_)
      · have e : prN b L = moN b L 10 (nsN b L (nsN b L (0 + 1) 20 44).2.1 6 59).2.1 (lwG (nsN b L (0 + 1) 20 44).2.2 (nsN b L (nsN b L (0 + 1) 20 44).2.1 6 59).2.2) := by unfold prN; rw [if_pos hc, if_pos hA0, if_pos hB0]
        rw [e] at hR
        have hP : PG (lwG (nsN b L (0 + 1) 20 44).2.2 (nsN b L (nsN b L (0 + 1) 20 44).2.1 6 59).2.2) := PG.law (nsN_ok hA0).1 (nsN_ok hB0).1
        generalize (nsN b L (0 + 1) 20 44).2.2 = v1 at *
        generalize (nsN b L (nsN b L (0 + 1) 20 44).2.1 6 59).2.2 = v2 at *
        generalize (nsN b L (nsN b L (0 + 1) 20 44).2.1 6 59).2.1 = p at *
        have e21 : lwG v1 v2 21 = 0 := rfl
        have e22 : lwG v1 v2 22 = 0 := rfl
        unfold w_X5_readClients
        have hAg : AgX (ut.1, ut.2.1, ut.2.2.1, ut.2.2.2.1, ut.2.2.2.2.1, ut.2.2.2.2.2.1, ut.2.2.2.2.2.2.1, (0 : Int32), (0 : Int32), nI v1, nI v2, (0 : Int32)) (lwG v1 v2) := ⟨⟨⟨rfl, rfl, rfl, rfl, rfl⟩, fun c hc => absurd hc (by rw [e21]; omega), fun c hc => absurd hc (by rw [e22]; omega)⟩, fun c hc => absurd hc (by rw [e21]; omega), fun c hc => absurd hc (by rw [e22]; omega)⟩
        refine p_readClient hu3 hAg hP e22 (fun q => absurd q (by rw [e21]; omega)) (fun h0 hz u' a' hu' hA' => ?_) (fun h0 hz u' a' hd => ?_) (fun h0 u' a' hd => ?_)
        · obtain ⟨z1, z2, z3, z4⟩ := clN_g hP e22 hz
          have et : tmN b L p (lwG v1 v2) = clN b L p (lwG v1 v2) := by unfold tmN; rw [if_pos ⟨h0, e22⟩]
          rw [moN_s, if_pos (Or.inl h0.1), et, if_pos hz] at hR
          have k0 := p_clients (post := post) (post0 := fun u8 u9 => w_X5_readWakers u8 u9 (FinT post)) (Kx := fun u8 u9 => w_X5_readWakers u8 u9 (FinT post)) (fun _ _ h => h) 8 _ _ u' a' hu' hA' z1 (by omega) z3 (by omega) hR
          rw [z2, e21] at k0
          exact ⟨_, k0⟩
        · have et : tmN b L p (lwG v1 v2) = clN b L p (lwG v1 v2) := by unfold tmN; rw [if_pos ⟨h0, e22⟩]
          rw [moN_s, if_pos (Or.inl h0.1), et, if_neg hz] at hR
          refine ⟨1, p_cliD hd ?_⟩
          unfold w_X5_readWakers
          exact ⟨1, p_wakD hd (p_finD hd hR)⟩
        · have et : tmN b L p (lwG v1 v2) = (1, p, lwG v1 v2) := by unfold tmN; rw [if_neg (fun y => h0 y.1), if_pos (Or.inr e21)]
          rw [moN_s, if_pos (Or.inr e21), et, if_neg (by simp)] at hR
          refine ⟨1, p_cliD hd ?_⟩
          unfold w_X5_readWakers
          exact ⟨1, p_wakD hd (p_finD hd hR)⟩
      · have e : prN b L = ((nsN b L (nsN b L (0 + 1) 20 44).2.1 6 59).1, (nsN b L (nsN b L (0 + 1) 20 44).2.1 6 59).2.1, g00) := by unfold prN; rw [if_pos hc, if_pos hA0, if_neg hB0]
        rw [e] at hR
        exact out _ _ _ u3 _ hd hR rfl
    · have e : prN b L = ((nsN b L (0 + 1) 20 44).1, (nsN b L (0 + 1) 20 44).2.1, g00) := by unfold prN; rw [if_pos hc, if_neg hA0]
      rw [e] at hR
      exact p_nsD0 (a := 59) hd (by omega) (out _ _ _ u2 _ hd hR rfl)
  · have e : prN b L = (1, 0, g00) := by unfold prN; rw [if_neg hc]
    rw [e] at hR
    exact p_nsD0 (a := 44) hd (by omega) (p_nsD0 (a := 59) hd (by omega) (out _ _ _ u1 _ hd hR rfl))
end RDX
