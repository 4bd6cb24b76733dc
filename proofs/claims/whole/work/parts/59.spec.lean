/-! the tape: what is read -/
def rnN (b : Nat → Nat) : Nat → Nat → Nat
  | 0, _ => 0
  | n + 1, p => if 48 ≤ b p ∧ b p ≤ 57 then rnN b n (p + 1) + 1 else 0
def rlN (b : Nat → Nat) (L p : Nat) : Nat := rnN b (L - p) p
def vlN (b : Nat → Nat) (L p : Nat) : Nat := if rlN b L p = 1 then b p - 48 else 10 * (b p - 48) + (b (p + 1) - 48)
def nmN (b : Nat → Nat) (L p mx : Nat) : Nat × Nat × Nat := if rlN b L p = 0 ∨ 2 < rlN b L p then (1, p, 0) else if mx < vlN b L p then (2, p, 0) else (0, p + rlN b L p, vlN b L p)
def sgN (b : Nat → Nat) (L q a v : Nat) : Nat × Nat × Nat := if q < L ∧ b q = a then (0, q + 1, v) else (1, q, 0)
def nsN (b : Nat → Nat) (L p mx a : Nat) : Nat × Nat × Nat := if (nmN b L p mx).1 = 0 then sgN b L (nmN b L p mx).2.1 a (nmN b L p mx).2.2 else nmN b L p mx
def hnN (b : Nat → Nat) (L p C : Nat) : Nat × Nat × Nat := if rlN b L p = 0 ∨ 2 < rlN b L p then (1, p, 0) else if vlN b L p ≠ 5 ∧ C ≤ vlN b L p then (2, p, 0) else (0, p + rlN b L p, vlN b L p)
def hsN (b : Nat → Nat) (L p C : Nat) : Nat × Nat × Nat := if (hnN b L p C).1 = 0 then sgN b L (hnN b L p C).2.1 59 (hnN b L p C).2.2 else hnN b L p C
def kdN (c : Nat) : Nat := if c = 111 then 1 else if c = 99 then 2 else if c = 109 then 3 else if c = 103 then 4 else if c = 110 then 5 else 0
def kqN (b : Nat → Nat) (L q : Nat) : Nat := if q < L then kdN (b q) else 0
def clG (g : Nat → Nat) (v1 v2 : Nat) : Nat → Nat := gset (gset (gset g (1 + g 21) v1) (23 + g 21) v2) 21 (g 21 + 1)
def clN (b : Nat → Nat) (L p : Nat) (g : Nat → Nat) : Nat × Nat × (Nat → Nat) := if g 21 = 5 then (3, p, g) else if (nsN b L (p + 1) 40 44).1 = 0 then (if (nsN b L (nsN b L (p + 1) 40 44).2.1 5 59).1 = 0 then (0, (nsN b L (nsN b L (p + 1) 40 44).2.1 5 59).2.1, clG g (nsN b L (p + 1) 40 44).2.2 (nsN b L (nsN b L (p + 1) 40 44).2.1 5 59).2.2) else ((nsN b L (nsN b L (p + 1) 40 44).2.1 5 59).1, (nsN b L (nsN b L (p + 1) 40 44).2.1 5 59).2.1, g)) else ((nsN b L (p + 1) 40 44).1, (nsN b L (p + 1) 40 44).2.1, g)
def wkG (g : Nat → Nat) (kd h f v : Nat) : Nat → Nat := gset (gset (gset (gset (gset g (28 + g 22) kd) (32 + g 22) h) (6 + g 22) f) (10 + g 22) v) 22 (g 22 + 1)
def wkN (b : Nat → Nat) (L p kd : Nat) (g : Nat → Nat) : Nat × Nat × (Nat → Nat) := if g 22 = 4 then (3, p, g) else if (nsN b L (p + 1) 9 44).1 = 0 then (if (nsN b L (nsN b L (p + 1) 9 44).2.1 5 44).1 = 0 then (if (hsN b L (nsN b L (nsN b L (p + 1) 9 44).2.1 5 44).2.1 (g 21)).1 = 0 then (0, (hsN b L (nsN b L (nsN b L (p + 1) 9 44).2.1 5 44).2.1 (g 21)).2.1, wkG g kd (nsN b L (p + 1) 9 44).2.2 (nsN b L (nsN b L (p + 1) 9 44).2.1 5 44).2.2 (hsN b L (nsN b L (nsN b L (p + 1) 9 44).2.1 5 44).2.1 (g 21)).2.2) else ((hsN b L (nsN b L (nsN b L (p + 1) 9 44).2.1 5 44).2.1 (g 21)).1, (hsN b L (nsN b L (nsN b L (p + 1) 9 44).2.1 5 44).2.1 (g 21)).2.1, g)) else ((nsN b L (nsN b L (p + 1) 9 44).2.1 5 44).1, (nsN b L (nsN b L (p + 1) 9 44).2.1 5 44).2.1, g)) else ((nsN b L (p + 1) 9 44).1, (nsN b L (p + 1) 9 44).2.1, g)
def tmN (b : Nat → Nat) (L p : Nat) (g : Nat → Nat) : Nat × Nat × (Nat → Nat) := if (p < L ∧ b p = 119) ∧ g 22 = 0 then clN b L p g else if kqN b L p = 0 ∨ g 21 = 0 then (1, p, g) else wkN b L p (kqN b L p) g
def moN (b : Nat → Nat) (L : Nat) : Nat → Nat → (Nat → Nat) → Nat × Nat × (Nat → Nat)
  | 0, p, g => (0, p, g)
  | n + 1, p, g => if p < L ∨ g 21 = 0 then (if (tmN b L p g).1 = 0 then moN b L n (tmN b L p g).2.1 (tmN b L p g).2.2 else tmN b L p g) else (0, p, g)
theorem moN_s (b : Nat → Nat) (L n p : Nat) (g : Nat → Nat) : moN b L (n + 1) p g = if p < L ∨ g 21 = 0 then (if (tmN b L p g).1 = 0 then moN b L n (tmN b L p g).2.1 (tmN b L p g).2.2 else tmN b L p g) else (0, p, g) := rfl
def g00 : Nat → Nat := fun j => if j = 18 then 1 else 0
def lwG (v1 v2 : Nat) : Nat → Nat := gset (gset g00 19 v1) 20 v2
def prN (b : Nat → Nat) (L : Nat) : Nat × Nat × (Nat → Nat) := if 0 < L ∧ b 0 = 108 then (if (nsN b L 1 20 44).1 = 0 then (if (nsN b L (nsN b L 1 20 44).2.1 6 59).1 = 0 then moN b L 10 (nsN b L (nsN b L 1 20 44).2.1 6 59).2.1 (lwG (nsN b L 1 20 44).2.2 (nsN b L (nsN b L 1 20 44).2.1 6 59).2.2) else ((nsN b L (nsN b L 1 20 44).2.1 6 59).1, (nsN b L (nsN b L 1 20 44).2.1 6 59).2.1, g00)) else ((nsN b L 1 20 44).1, (nsN b L 1 20 44).2.1, g00)) else (1, 0, g00)
section SPEC
variable {b : Nat → Nat} {L : Nat}
theorem rnN_fig : ∀ n p j, j < rnN b n p → 48 ≤ b (p + j) ∧ b (p + j) ≤ 57
  | 0, p, j, h => absurd h (Nat.not_lt_zero j)
  | n + 1, p, j, h => by
    unfold rnN at h
    by_cases q : 48 ≤ b p ∧ b p ≤ 57
    · rw [if_pos q] at h
      cases j with
      | zero => exact q
      | succ j =>
        have := rnN_fig n (p + 1) j (by omega)
        rw [show p + 1 + j = p + (j + 1) by omega] at this
        exact this
    · rw [if_neg q] at h
      exact absurd h (Nat.not_lt_zero j)
theorem rnN_le : ∀ n p, rnN b n p ≤ n
  | 0, p => Nat.le_refl _
  | n + 1, p => by
    have := rnN_le n (p + 1)
    unfold rnN
    split <;> omega
theorem rnN_end : ∀ n p, rnN b n p < n → ¬ (48 ≤ b (p + rnN b n p) ∧ b (p + rnN b n p) ≤ 57)
  | 0, p, h => absurd h (Nat.not_lt_zero _)
  | n + 1, p, h => by
    unfold rnN at h ⊢
    by_cases q : 48 ≤ b p ∧ b p ≤ 57
    · rw [if_pos q] at h ⊢
      have := rnN_end n (p + 1) (by omega)
      rw [show p + 1 + rnN b n (p + 1) = p + (rnN b n (p + 1) + 1) by omega] at this
      exact this
    · rw [if_neg q]
      exact q
theorem rl_le (p : Nat) : rlN b L p ≤ L - p := rnN_le _ _
theorem rl_fig {p j : Nat} (h : j < rlN b L p) : p + j < L ∧ 48 ≤ b (p + j) ∧ b (p + j) ≤ 57 := by
  have h1 := rl_le (b := b) (L := L) p
  exact ⟨by omega, rnN_fig _ _ j h⟩
theorem rl_end (p : Nat) : ¬ (p + rlN b L p < L ∧ 48 ≤ b (p + rlN b L p) ∧ b (p + rlN b L p) ≤ 57) := by
  intro h
  exact rnN_end (L - p) p (show rlN b L p < L - p by omega) h.2
theorem vl_lt (p : Nat) (hr : ¬ (rlN b L p = 0 ∨ 2 < rlN b L p)) : vlN b L p ≤ 99 := by
  have h0 := rl_fig (b := b) (L := L) (p := p) (j := 0) (by omega)
  rw [Nat.add_zero] at h0
  unfold vlN
  by_cases h : rlN b L p = 1
  · rw [if_pos h]; omega
  · have h1 := rl_fig (b := b) (L := L) (p := p) (j := 1) (by omega)
    rw [if_neg h]; omega
theorem nmN_ok {p mx : Nat} (h : (nmN b L p mx).1 = 0) : (nmN b L p mx).2.2 ≤ mx ∧ (nmN b L p mx).2.1 ≤ L := by
  have h1 := rl_le (b := b) (L := L) p
  unfold nmN at h ⊢
  by_cases q : rlN b L p = 0 ∨ 2 < rlN b L p
  · rw [if_pos q] at h; exact absurd h (by simp)
  · rw [if_neg q] at h ⊢
    by_cases q2 : mx < vlN b L p
    · rw [if_pos q2] at h; exact absurd h (by simp)
    · rw [if_neg q2]
      exact ⟨by show vlN b L p ≤ mx; omega, by show p + rlN b L p ≤ L; omega⟩
theorem nmN_f {p mx : Nat} (hp : p ≤ L) : (nmN b L p mx).1 ≤ 2 ∧ (nmN b L p mx).2.1 ≤ L := by
  have h1 := rl_le (b := b) (L := L) p
  unfold nmN
  repeat' split
  · exact ⟨by simp, hp⟩
  · exact ⟨by simp, hp⟩
  · exact ⟨by simp, by show p + rlN b L p ≤ L; omega⟩
theorem sgN_ok {q a v : Nat} (h : (sgN b L q a v).1 = 0) : (q < L ∧ b q = a) ∧ sgN b L q a v = (0, q + 1, v) := by
  unfold sgN at h ⊢
  by_cases c : q < L ∧ b q = a
  · rw [if_pos c]; exact ⟨c, rfl⟩
  · rw [if_neg c] at h; exact absurd h (by simp)
theorem nsN_ok {p mx a : Nat} (h : (nsN b L p mx a).1 = 0) : (nsN b L p mx a).2.2 ≤ mx ∧ (nsN b L p mx a).2.1 ≤ L := by
  unfold nsN at h ⊢
  by_cases q : (nmN b L p mx).1 = 0
  · rw [if_pos q] at h ⊢
    obtain ⟨c, e⟩ := sgN_ok h
    rw [e]
    exact ⟨(nmN_ok q).1, by show _ + 1 ≤ L; omega⟩
  · rw [if_neg q] at h
    exact absurd h q
theorem nsN_f {p mx a : Nat} (hp : p ≤ L) : (nsN b L p mx a).1 ≤ 2 ∧ (nsN b L p mx a).2.1 ≤ L := by
  have h := nmN_f (b := b) (mx := mx) hp
  unfold nsN
  by_cases q : (nmN b L p mx).1 = 0
  · rw [if_pos q]
    unfold sgN
    split
    · exact ⟨by simp, by show _ + 1 ≤ L; omega⟩
    · exact ⟨by simp, h.2⟩
  · rw [if_neg q]
    exact h
theorem hsN_ok {p C : Nat} (h : (hsN b L p C).1 = 0) : ((hsN b L p C).2.2 < C ∨ (hsN b L p C).2.2 = 5) ∧ (hsN b L p C).2.1 ≤ L := by
  unfold hsN at h ⊢
  by_cases q : (hnN b L p C).1 = 0
  · rw [if_pos q] at h ⊢
    obtain ⟨c, e⟩ := sgN_ok h
    rw [e]
    refine ⟨?_, by show _ + 1 ≤ L; omega⟩
    show (hnN b L p C).2.2 < C ∨ (hnN b L p C).2.2 = 5
    unfold hnN at q ⊢
    by_cases q1 : rlN b L p = 0 ∨ 2 < rlN b L p
    · rw [if_pos q1] at q; exact absurd q (by simp)
    · rw [if_neg q1] at q ⊢
      by_cases q2 : vlN b L p ≠ 5 ∧ C ≤ vlN b L p
      · rw [if_pos q2] at q; exact absurd q (by simp)
      · rw [if_neg q2]
        show vlN b L p < C ∨ vlN b L p = 5
        omega
  · rw [if_neg q] at h
    exact absurd h q
theorem hsN_f {p C : Nat} (hp : p ≤ L) : (hsN b L p C).1 ≤ 2 ∧ (hsN b L p C).2.1 ≤ L := by
  have h1 := rl_le (b := b) (L := L) p
  have h : (hnN b L p C).1 ≤ 2 ∧ (hnN b L p C).2.1 ≤ L := by
    unfold hnN
    repeat' split
    · exact ⟨by simp, hp⟩
    · exact ⟨by simp, hp⟩
    · exact ⟨by simp, by show p + rlN b L p ≤ L; omega⟩
  unfold hsN
  by_cases q : (hnN b L p C).1 = 0
  · rw [if_pos q]
    unfold sgN
    split
    · exact ⟨by simp, by show _ + 1 ≤ L; omega⟩
    · exact ⟨by simp, h.2⟩
  · rw [if_neg q]
    exact h
theorem kdN_le (c : Nat) : kdN c ≤ 5 := by
  unfold kdN
  repeat' split
  all_goals omega
theorem kqN_le (q : Nat) : kqN b L q ≤ 5 := by
  unfold kqN
  split
  · exact kdN_le _
  · omega
end SPEC
/-- an agency that is being read -/
def PG (g : Nat → Nat) : Prop := (g 21 ≤ 5 ∧ g 22 ≤ 4 ∧ g 19 ≤ 20 ∧ g 20 ≤ 6 ∧ g 0 = 0 ∧ g 18 = 1) ∧ (∀ c, c < g 21 → g (1 + c) ≤ 40 ∧ g (23 + c) ≤ 5) ∧ (∀ k, k < g 22 → (1 ≤ g (28 + k) ∧ g (28 + k) ≤ 5) ∧ g (32 + k) ≤ 9 ∧ g (6 + k) ≤ 5 ∧ (g (10 + k) < g 21 ∨ g (10 + k) = 5)) ∧ (∀ k, k < 4 → g (14 + k) = 0)
theorem PG.ok {g : Nat → Nat} (h : PG g) (h0 : 0 < g 21) : OKg 999 g := by
  obtain ⟨⟨b1, b2, b3, b4, b5, b6⟩, h1, h2, h3⟩ := h
  refine ⟨⟨b1, b2, b3, b4, by omega, by omega⟩, fun c hc => ⟨by have := (h1 c hc).1; omega, (h1 c hc).2⟩, fun k hk => ?_, ?_, fun q => absurd q (by omega)⟩
  · obtain ⟨q1, q2, q3, q4⟩ := h2 k hk
    exact ⟨q1, q2, q3, q4, by rw [h3 k (by omega)]; omega⟩
  · rw [if_neg (by omega)]; exact b6
theorem PG.law {v1 v2 : Nat} (h1 : v1 ≤ 20) (h2 : v2 ≤ 6) : PG (lwG v1 v2) := by
  have e : ∀ j, lwG v1 v2 j = if j = 20 then v2 else if j = 19 then v1 else if j = 18 then 1 else 0 := fun j => rfl
  refine ⟨⟨by rw [e]; exact Nat.zero_le 5, by rw [e]; exact Nat.zero_le 4, by rw [e]; exact h1, by rw [e]; exact h2, by rw [e]; rfl, by rw [e]; rfl⟩, fun c hc => absurd hc (by rw [e]; exact Nat.not_lt_zero c), fun c hc => absurd hc (by rw [e]; exact Nat.not_lt_zero c), fun k hk => ?_⟩
  rw [e, if_neg (by omega), if_neg (by omega), if_neg (by omega)]
theorem PG.client {g : Nat → Nat} (h : PG g) (h5 : g 21 < 5) (h22 : g 22 = 0) {v1 v2 : Nat} (hv1 : v1 ≤ 40) (hv2 : v2 ≤ 5) : PG (clG g v1 v2) := by
  obtain ⟨⟨b1, b2, b3, b4, b5, b6⟩, h1, h2, h3⟩ := h
  have e : ∀ j, clG g v1 v2 j = if j = 21 then g 21 + 1 else if j = 23 + g 21 then v2 else if j = 1 + g 21 then v1 else g j := fun j => rfl
  have o : ∀ j, j ≠ 21 → j ≠ 23 + g 21 → j ≠ 1 + g 21 → clG g v1 v2 j = g j := fun j q1 q2 q3 => by rw [e, if_neg q1, if_neg q2, if_neg q3]
  have e21 : clG g v1 v2 21 = g 21 + 1 := by rw [e, if_pos rfl]
  have e22 : clG g v1 v2 22 = g 22 := o 22 (by omega) (by omega) (by omega)
  unfold PG
  rw [e21, e22, o 19 (by omega) (by omega) (by omega), o 20 (by omega) (by omega) (by omega), o 0 (by omega) (by omega) (by omega), o 18 (by omega) (by omega) (by omega)]
  refine ⟨⟨by omega, b2, b3, b4, b5, b6⟩, fun c hc => ?_, fun k hk => absurd hk (by omega), fun k hk => ?_⟩
  · by_cases hcc : c = g 21
    · subst hcc
      refine ⟨?_, ?_⟩
      · rw [e, if_neg (by omega), if_neg (by omega), if_pos rfl]; exact hv1
      · rw [e, if_neg (by omega), if_pos rfl]; exact hv2
    · rw [o _ (by omega) (by omega) (by omega), o _ (by omega) (by omega) (by omega)]
      exact h1 c (by omega)
  · rw [o _ (by omega) (by omega) (by omega)]
    exact h3 k hk
theorem PG.waker {g : Nat → Nat} (h : PG g) (h4 : g 22 < 4) {kd hh f v : Nat} (hk1 : 1 ≤ kd) (hk5 : kd ≤ 5) (h9 : hh ≤ 9) (hf : f ≤ 5) (hv : v < g 21 ∨ v = 5) : PG (wkG g kd hh f v) := by
  obtain ⟨⟨b1, b2, b3, b4, b5, b6⟩, h1, h2, h3⟩ := h
  have e : ∀ j, wkG g kd hh f v j = if j = 22 then g 22 + 1 else if j = 10 + g 22 then v else if j = 6 + g 22 then f else if j = 32 + g 22 then hh else if j = 28 + g 22 then kd else g j := fun j => rfl
  have o : ∀ j, j ≠ 22 → j ≠ 10 + g 22 → j ≠ 6 + g 22 → j ≠ 32 + g 22 → j ≠ 28 + g 22 → wkG g kd hh f v j = g j := fun j q1 q2 q3 q4 q5 => by rw [e, if_neg q1, if_neg q2, if_neg q3, if_neg q4, if_neg q5]
  have e22 : wkG g kd hh f v 22 = g 22 + 1 := by rw [e, if_pos rfl]
  have e21 : wkG g kd hh f v 21 = g 21 := o 21 (by omega) (by omega) (by omega) (by omega) (by omega)
  unfold PG
  rw [e21, e22, o 19 (by omega) (by omega) (by omega) (by omega) (by omega), o 20 (by omega) (by omega) (by omega) (by omega) (by omega), o 0 (by omega) (by omega) (by omega) (by omega) (by omega), o 18 (by omega) (by omega) (by omega) (by omega) (by omega)]
  refine ⟨⟨b1, by omega, b3, b4, b5, b6⟩, fun c hc => ?_, fun k hk => ?_, fun k hk => ?_⟩
  · rw [o _ (by omega) (by omega) (by omega) (by omega) (by omega), o _ (by omega) (by omega) (by omega) (by omega) (by omega)]
    exact h1 c hc
  · by_cases hkk : k = g 22
    · subst hkk
      refine ⟨?_, ?_, ?_, ?_⟩
      · rw [e, if_neg (by omega), if_neg (by omega), if_neg (by omega), if_neg (by omega), if_pos rfl]; exact ⟨hk1, hk5⟩
      · rw [e, if_neg (by omega), if_neg (by omega), if_neg (by omega), if_pos rfl]; exact h9
      · rw [e, if_neg (by omega), if_neg (by omega), if_pos rfl]; exact hf
      · rw [e, if_neg (by omega), if_pos rfl]; exact hv
    · rw [o _ (by omega) (by omega) (by omega) (by omega) (by omega), o _ (by omega) (by omega) (by omega) (by omega) (by omega), o _ (by omega) (by omega) (by omega) (by omega) (by omega), o _ (by omega) (by omega) (by omega) (by omega) (by omega)]
      exact h2 k (by omega)
  · rw [o _ (by omega) (by omega) (by omega) (by omega) (by omega)]
    exact h3 k hk
