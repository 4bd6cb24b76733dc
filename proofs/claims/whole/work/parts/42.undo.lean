theorem p_takeBack {ua : BX0} {un : BX1} {g : Nat → Nat} {hs : Nat → Nat → Nat} {n : Nat} (hX : ActX ua n hs) (hok : ∀ i, i < n → OKg 999 (hs i) ∧ ∀ j, 18 ≤ j → hs i j = g j) (hA : AgX un g) {post : Int32 → BX0 → BX1 → Prop} (h0 : n = 0 → post 0 ua un) (hp : ∀ n', n = n' + 1 → ∀ ua' un', ActX ua' n' hs → AgX un' (hs n') → post 1 ua' un') : w_X0_takeBack ua un post := by
  obtain ⟨hn, e1, f, hf, e2, hL⟩ := hX
  unfold w_X0_takeBack
  rw [e1, show (0 : Int32) = nI 0 from rfl, nIinj (by omega) (by omega)]
  refine ⟨h0, fun h => ?_⟩
  obtain ⟨n', rfl⟩ : ∃ n', n = n' + 1 := ⟨n - 1, by omega⟩
  obtain ⟨p, hpe⟩ : ∃ p, p = (f + n') % 24 * 18 := ⟨_, rfl⟩
  have hpl : p + 18 ≤ 432 := by rw [hpe]; have := Nat.mod_lt (f + n') (show 0 < 24 by decide); omega
  have hnl : ∀ z, z < 2147483648 → ¬ nI z < 0 := fun z hz => nI_pos hz
  have hnl2 : ∀ z, z < 2147483648 → ¬ nI z < nI 0 := fun z hz => nI_pos hz
  have es : nI (n' + 1) - 1 = nI n' := by rw [show (1 : Int32) = nI 1 from rfl, nIsub (by omega)]; rfl
  rw [es]
  unfold w_X0_startOf
  rw [e2]
  have hL2 := hL n' (by omega)
  rw [← hpe] at hL2
  obtain ⟨hO, hg⟩ := hok n' (by omega)
  obtain ⟨b1, b2, b3, b4, b5, b6⟩ := hO.1
  obtain ⟨l1, l2, l3⟩ := hL2
  obtain ⟨⟨⟨c1, c2, c3, c4, c5⟩, hC, hW⟩, hwt, hwa⟩ := hA
  simp (disch := omega) only [liN, nI_add, nIdiv, pk_mul, nIrem2, ← hpe, nIcl, nI_1]
  refine ⟨nIin (by omega) (by omega), ⟨⟨hnl2 _ (by omega), by decide, by decide⟩, by omega, by omega⟩, ⟨⟨hnl2 _ (by omega), by decide, by decide⟩, by omega, by omega⟩, ⟨⟨hnl2 _ (by omega), by decide, by decide⟩, by omega, by omega⟩, ⟨⟨hnl2 _ (by omega), by decide, by decide⟩, by omega, by omega⟩, ?_⟩
  refine hp n' rfl _ _ ⟨by omega, rfl, f, hf, rfl, fun i hi => hL i (by omega)⟩ ?_
  rw [← hg 21 (by omega)] at c1 hC hwt
  rw [← hg 22 (by omega)] at c2 hW hwa
  rw [← hg 19 (by omega)] at c3
  rw [← hg 20 (by omega)] at c4
  refine ⟨⟨⟨c1, c2, c3, c4, l1⟩, fun c hc => ?_, fun k hk => ⟨?_, ?_, ?_, ?_⟩⟩, fun c hc => ?_, fun k hk => ?_⟩
  · rw [hg _ (by omega)]; exact hC c hc
  · rw [hg _ (by omega)]; exact (hW k hk).1
  · rw [hg _ (by omega)]; exact (hW k hk).2.1
  · show va_cpy ua.1 un.2.2.2.2.1 (p + 6) 0 4 k = _
    rw [pk_cpy_in (by omega) (by omega), Nat.sub_zero]
    exact (l3 k hk).1
  · show va_cpy ua.1 un.2.2.2.2.2.1 (p + 10) 0 4 k = _
    rw [pk_cpy_in (by omega) (by omega), Nat.sub_zero]
    exact (l3 k hk).2.1
  · show va_cpy ua.1 un.1 (p + 1) 0 5 c = _
    rw [pk_cpy_in (by omega) (by omega), Nat.sub_zero]
    exact l2 c hc
  · show va_cpy ua.1 un.2.2.2.2.2.2.1 (p + 14) 0 4 k = _
    rw [pk_cpy_in (by omega) (by omega), Nat.sub_zero]
    exact (l3 k hk).2.2
section OPSC
variable {ux : BX6} {un ut : BX1} {up : BX5} {ua : BX0} {us : BX4} {uk : BX2} {rs : Nat → BX3} {ms : Nat → BX1} {m : BX7} {a0 a1 a2 a3 a4 : Int32}
theorem op_undo (hR : RR ux un up ua uk rs ms m) {P : Int32 → BX1 → BX0 → Int32 → BX7 → Prop} (hp : ∀ r un' ua' m', RR ux un' up ua' uk rs ms m' → P r un' ua' r m') : w_X6_undo ux un ua (fun r un' ua' => w_X7_undo m (fun r2 m' => P r un' ua' r2 m')) := by
  have hR0 := hR
  obtain ⟨g, ⟨hA, hM, hO⟩, ⟨n, hs, hX, hAm, hok⟩, hI, hrest⟩ := hR
  unfold w_X6_undo w_X7_undo
  refine p_takeBack hX hok hA (fun h => ?_) (fun n' h ua' un' hX' hA' => ?_)
  · refine sel0 ?_
    subst h
    rw [hAm.1]
    exact ⟨fun _ => hp _ _ _ _ hR0, fun h => absurd rfl h⟩
  · subst h
    have hn := hX.1
    obtain ⟨ea, hA2⟩ := hAm
    refine sel1 ?_
    rw [ea, show (0 : Int32) = nI 0 from rfl, nIinj (by omega) (by omega)]
    refine ⟨fun h => absurd h (by omega), fun _ => ?_⟩
    have es : nI (n' + 1) - 1 = nI n' := by rw [show (1 : Int32) = nI 1 from rfl, nIsub (by omega)]; rfl
    rw [es, hX'.2.1]
    obtain ⟨hO', hg⟩ := hok n' (by omega)
    refine up_inv (fun n i (u : BX7) => wL_X7_undo_22 (fun r2 m' => P (nI n') un' ua' r2 m') _ n i u) 18 (fun j u => u.2 = (m.2.1, m.2.2.1, nI n', m.2.2.2.2) ∧ ∀ i, u.1 i = if i < j then nI (hs n' i) else m.1 i) ?_ ?_ _ ⟨rfl, fun i => by rw [if_neg (by omega)]⟩
    · intro n u hu
      obtain ⟨c1, c2⟩ := hu
      show wL_X7_undo_22 _ _ _ _ _
      unfold wL_X7_undo_22
      refine ⟨fun _ => ?_, fun h => absurd (Int32.le_refl _) h⟩
      show P _ _ _ u.2.2.2.1 (u.1, u.2)
      rw [c1]
      refine hp _ _ _ _ ⟨hs n', ⟨hA', fun k hk => ?_, hO'⟩, ⟨n', hs, hX', ⟨rfl, fun i hi => hA2 i (by omega)⟩, fun i hi => ⟨(hok i (by omega)).1, fun j hj => ((hok i (by omega)).2 j hj).trans (hg j hj).symm⟩⟩, hI.out (fun j h1 h2 => ?_), hrest⟩
      · show u.1 _ = _
        rw [c2, Nat.zero_add]
        by_cases h18 : k < 18
        · rw [if_pos h18]
        · rw [if_neg h18, hg k (by omega)]
          have := hM k hk
          rw [Nat.zero_add] at this
          exact this
      · show u.1 j = _
        rw [c2, if_neg (by omega)]
    · intro n j u hj hu ih
      obtain ⟨c1, c2⟩ := hu
      show wL_X7_undo_22 _ _ _ _ _
      unfold wL_X7_undo_22
      have c3 : u.2.2.2.1 = nI n' := by rw [c1]
      have c4 : u.2.2.1 = m.2.2.1 := by rw [c1]
      rw [c3]
      simp (disch := omega) only [liN, nI_add, pk_mul, nIcl, nIle, nI_1]
      refine ⟨fun h => absurd h (by omega), fun _ => ⟨nIin (by omega) (by omega), nIin (by omega) (by omega), ih _ ?_⟩⟩
      refine ⟨?_, fun i => ?_⟩
      · rw [← c1, ← c3]
      · show upd u.1 j (u.2.2.1 (18 * n' + j)) i = _
        rw [upd_at, c4]
        by_cases hi : i = j
        · subst hi
          rw [if_pos rfl, if_pos (by omega)]
          exact hA2 n' (by omega) i hj
        · rw [if_neg hi, c2]
          by_cases h3 : i < j
          · rw [if_pos h3, if_pos (by omega)]
          · rw [if_neg h3, if_neg (by omega)]
end OPSC
