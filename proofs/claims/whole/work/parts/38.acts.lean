def pushn (n : Nat) : Nat := if n = 24 then 24 else n + 1
def pushh (n : Nat) (hs : Nat → Nat → Nat) (g : Nat → Nat) : Nat → Nat → Nat := fun i => if n = 24 then (if i < 23 then hs (i + 1) else g) else (if i < n then hs i else g)
/-- the log with an agency put at p -/
def putl (l : Nat → Int32) (p : Nat) (a : BX1) : Nat → Int32 := va_cpy a.2.2.2.2.2.2.1 (va_cpy a.2.2.2.2.2.1 (va_cpy a.2.2.2.2.1 (va_cpy a.1 (upd l p a.2.2.2.2.2.2.2.2.2.2.2) 0 (p + 1) 5) 0 (p + 6) 4) 0 (p + 10) 4) 0 (p + 14) 4
theorem putl_out {l : Nat → Int32} {p : Nat} {a : BX1} {x : Nat} (h : x < p ∨ p + 18 ≤ x) : putl l p a x = l x := by
  unfold putl
  rw [pk_cpy_out (by omega), pk_cpy_out (by omega), pk_cpy_out (by omega), pk_cpy_out (by omega), upd_at, if_neg (by omega)]
theorem putl_log {l : Nat → Int32} {p T : Nat} {a : BX1} {g : Nat → Nat} (hA : AgX a g) (hO : OKg T g) : LogX (putl l p a) p g := by
  obtain ⟨⟨⟨e1, e2, e3, e4, e5⟩, hC, hW⟩, hwt, hwa⟩ := hA
  obtain ⟨b1, b2, b3, b4, b5, b6⟩ := hO.1
  refine ⟨?_, fun c hc => ?_, fun k hk => ⟨?_, ?_, ?_⟩⟩
  · unfold putl
    rw [pk_cpy_out (by omega), pk_cpy_out (by omega), pk_cpy_out (by omega), pk_cpy_out (by omega), upd_at, if_pos rfl, e5]
  · unfold putl
    rw [pk_cpy_out (by omega), pk_cpy_out (by omega), pk_cpy_out (by omega), pk_cpy_in (by omega) (by omega), show 0 + (p + 1 + c - (p + 1)) = c by omega]
    exact hwt c hc
  · unfold putl
    rw [pk_cpy_out (by omega), pk_cpy_out (by omega), pk_cpy_in (by omega) (by omega), show 0 + (p + 6 + k - (p + 6)) = k by omega]
    exact (hW k hk).2.2.1
  · unfold putl
    rw [pk_cpy_out (by omega), pk_cpy_in (by omega) (by omega), show 0 + (p + 10 + k - (p + 10)) = k by omega]
    exact (hW k hk).2.2.2
  · unfold putl
    rw [pk_cpy_in (by omega) (by omega), show 0 + (p + 14 + k - (p + 14)) = k by omega]
    exact hwa k hk
theorem LogX.out {l l' : Nat → Int32} {p q T : Nat} {h : Nat → Nat} (hL : LogX l q h) (hO : OKg T h) (ho : ∀ x, q ≤ x → x < q + 18 → l' x = l x) : LogX l' q h := by
  obtain ⟨b1, b2, b3, b4, b5, b6⟩ := hO.1
  obtain ⟨h1, h2, h3⟩ := hL
  refine ⟨by rw [ho q (by omega) (by omega)]; exact h1, fun c hc => by rw [ho _ (by omega) (by omega)]; exact h2 c hc, fun k hk => ⟨?_, ?_, ?_⟩⟩
  · rw [ho _ (by omega) (by omega)]; exact (h3 k hk).1
  · rw [ho _ (by omega) (by omega)]; exact (h3 k hk).2.1
  · rw [ho _ (by omega) (by omega)]; exact (h3 k hk).2.2
theorem p_keep {ua : BX0} {un : BX1} {g : Nat → Nat} {hs : Nat → Nat → Nat} {n T : Nat} (hX : ActX ua n hs) (hok : ∀ i, i < n → OKg 999 (hs i)) (hA : AgX un g) (hO : OKg T g) {post : BX0 → Prop} (hp : ∀ ua', ActX ua' (pushn n) (pushh n hs g) → post ua') : w_X0_keep ua un post := by
  obtain ⟨hn, e1, f, hf, e2, hL⟩ := hX
  -- the second half, for a ring with room
  have half : ∀ (n2 f2 : Nat) (hs2 : Nat → Nat → Nat), n2 < 24 → f2 < 24 → (∀ i, i < n2 → OKg 999 (hs2 i)) → (∀ i, i < n2 → LogX ua.1 ((f2 + i) % 24 * 18) (hs2 i)) → (∀ ua', ActX ua' (n2 + 1) (fun i => if i < n2 then hs2 i else g) → post ua') → ∀ u2 : BX0, u2.1 = ua.1 → u2.2.1 = nI f2 → u2.2.2 = nI n2 → w_X0_startOf u2 u2.2.2 (fun r3 => vp_in r3 432 ∧ (((¬ (0 : Int32) < 0 ∧ ¬ (r3 + (1 : Int32)) < 0 ∧ ¬ (5 : Int32) < 0) ∧ (0 : Int32).toNatClampNeg + (5 : Int32).toNatClampNeg ≤ 5 ∧ (r3 + (1 : Int32)).toNatClampNeg + (5 : Int32).toNatClampNeg ≤ 432) ∧ (((¬ (0 : Int32) < 0 ∧ ¬ (r3 + (6 : Int32)) < 0 ∧ ¬ (4 : Int32) < 0) ∧ (0 : Int32).toNatClampNeg + (4 : Int32).toNatClampNeg ≤ 4 ∧ (r3 + (6 : Int32)).toNatClampNeg + (4 : Int32).toNatClampNeg ≤ 432) ∧ (((¬ (0 : Int32) < 0 ∧ ¬ ((r3 + (6 : Int32)) + (4 : Int32)) < 0 ∧ ¬ (4 : Int32) < 0) ∧ (0 : Int32).toNatClampNeg + (4 : Int32).toNatClampNeg ≤ 4 ∧ ((r3 + (6 : Int32)) + (4 : Int32)).toNatClampNeg + (4 : Int32).toNatClampNeg ≤ 432) ∧ (((¬ (0 : Int32) < 0 ∧ ¬ ((r3 + (6 : Int32)) + (8 : Int32)) < 0 ∧ ¬ (4 : Int32) < 0) ∧ (0 : Int32).toNatClampNeg + (4 : Int32).toNatClampNeg ≤ 4 ∧ ((r3 + (6 : Int32)) + (8 : Int32)).toNatClampNeg + (4 : Int32).toNatClampNeg ≤ 432) ∧ (post ((va_cpy un.2.2.2.2.2.2.1 (va_cpy un.2.2.2.2.2.1 (va_cpy un.2.2.2.2.1 (va_cpy un.1 (upd u2.1 r3.toNatClampNeg un.2.2.2.2.2.2.2.2.2.2.2) (0 : Int32).toNatClampNeg (r3 + (1 : Int32)).toNatClampNeg (5 : Int32).toNatClampNeg) (0 : Int32).toNatClampNeg (r3 + (6 : Int32)).toNatClampNeg (4 : Int32).toNatClampNeg) (0 : Int32).toNatClampNeg ((r3 + (6 : Int32)) + (4 : Int32)).toNatClampNeg (4 : Int32).toNatClampNeg) (0 : Int32).toNatClampNeg ((r3 + (6 : Int32)) + (8 : Int32)).toNatClampNeg (4 : Int32).toNatClampNeg), u2.2.1, (u2.2.2 + (1 : Int32))))))))) := by
    intro n2 f2 hs2 hn2 hf2 hok2 hL2 hq u2 c1 c2 c3
    obtain ⟨p, hpe⟩ : ∃ p, p = (f2 + n2) % 24 * 18 := ⟨_, rfl⟩
    have hpl : p + 18 ≤ 432 := by rw [hpe]; have := Nat.mod_lt (f2 + n2) (show 0 < 24 by decide); omega
    have hnl : ∀ z, z < 2147483648 → ¬ nI z < 0 := fun z hz => nI_pos hz
    show vp_in _ 432 ∧ _
    rw [c2, c3]
    simp (disch := omega) only [liN, nI_add, nIdiv, pk_mul, nIrem2, ← hpe, nIcl, nI_1]
    refine ⟨nIin (by omega) (by omega), ⟨⟨by decide, hnl _ (by omega), by decide⟩, by omega, by omega⟩, ⟨⟨by decide, hnl _ (by omega), by decide⟩, by omega, by omega⟩, ⟨⟨by decide, hnl _ (by omega), by decide⟩, by omega, by omega⟩, ⟨⟨by decide, hnl _ (by omega), by decide⟩, by omega, by omega⟩, ?_⟩
    refine hq _ ⟨by omega, rfl, f2, hf2, rfl, ?_⟩
    rw [c1]
    intro i hi
    show LogX (putl ua.1 p un) _ (if i < n2 then hs2 i else g)
    by_cases hin : i < n2
    · rw [if_pos hin]
      refine LogX.out (p := p) (hL2 i hin) (hok2 i hin) (fun x h1 h2 => putl_out ?_)
      have : (f2 + i) % 24 ≠ (f2 + n2) % 24 := by omega
      omega
    · rw [if_neg hin, show i = n2 by omega, ← hpe]
      exact putl_log hA hO
  unfold w_X0_keep wpJ
  rw [e1, e2, show (24 : Int32) = nI 24 from rfl, nIinj (by omega) (by omega)]
  refine ⟨fun h => ?_, fun h => ?_⟩
  · subst h
    refine half 23 ((f + 1) % 24) (fun i => hs (i + 1)) (by omega) (Nat.mod_lt _ (by decide)) (fun i hi => hok (i + 1) (by omega)) (fun i hi => ?_) (fun ua' hu => hp ua' ?_) _ rfl ?_ ?_
    · have := hL (i + 1) (by omega)
      rw [show (f + (i + 1)) % 24 = ((f + 1) % 24 + i) % 24 by omega] at this
      exact this
    · exact hu
    · show (nI f + 1) - (nI f + 1) / nI 24 * nI 24 = _
      rw [nI_1, nIdiv (by omega) (by omega) (by omega), pk_mul, nIrem2]
    · show nI 24 - 1 = nI 23
      rfl
  · refine half n f hs (by omega) hf hok hL (fun ua' hu => hp ua' ?_) ua rfl e2 e1
    unfold pushn pushh
    rw [if_neg h]
    simp only [if_neg h]
    exact hu
