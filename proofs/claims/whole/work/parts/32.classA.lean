theorem pow4 {n : Nat} (h : n ≤ 4) : 2 ^ n ≤ 16 := Nat.pow_le_pow_right (by decide) h
theorem pow5 {n : Nat} (h : n ≤ 5) : 2 ^ n ≤ 32 := Nat.pow_le_pow_right (by decide) h
theorem p_hiredBy {a : BX1} {g : Nat → Nat} {T : Nat} (hA : AgS a g) (hO : OKg T g) {c : Nat} (hc : c ≤ 5) {post : Int32 → Prop} (hp : post (nI (bits (fun k => decide (g (10 + k) = c)) (g 22)))) : w_X1_hiredBy a (nI c) post := by
  obtain ⟨⟨e1, e2, e3, e4, e5⟩, hC, hW⟩ := hA
  obtain ⟨b1, b2, b3, b4, b5, b6⟩ := hO.1
  unfold w_X1_hiredBy
  refine up_inv (fun n i (s : Int32) => wL_X1_hiredBy_4 (nI c) a post (fun x => post x) n s i) (g 22) (fun j s => s = nI (bits (fun k => decide (g (10 + k) = c)) j)) ?_ ?_ 0 rfl
  · intro n s hs
    subst hs
    show wL_X1_hiredBy_4 _ _ _ _ _ _ _
    unfold wL_X1_hiredBy_4
    rw [e2]
    exact ⟨fun _ => hp, fun h => absurd (Int32.le_refl _) h⟩
  · intro n j s hj hs ih
    subst hs
    show wL_X1_hiredBy_4 _ _ _ _ _ _ _
    unfold wL_X1_hiredBy_4
    obtain ⟨w1, w2, w3, w4⟩ := hW j hj
    have ho := (hO.2.2.1 j hj).2.2.2.1
    have hb := bits_lt (fun k => decide (g (10 + k) = c)) j
    have hb2 := pow4 (show j ≤ 4 by omega)
    simp (disch := omega) only [e2, liN, nIle, nIcl, w4, nIinj, nI_1, nI_add]
    refine ⟨fun h => absurd h (by omega), fun _ => ⟨nIin (by omega) (by omega), fun h => fun x hx => ?_, fun h => ?_⟩⟩
    · rw [or_bit j (by omega) _ (by omega) hb] at hx
      subst hx
      refine ih _ ?_
      rw [bits_s, if_pos (by simp [h])]
    · refine ih _ ?_
      rw [bits_s, if_neg (by simp [h]), Nat.add_zero]
/-- who is awake, as bits -/
def awb (s k : Nat) : Bool := decide (s / 2 ^ k % 2 = 1)
theorem p_lighterBy {a : BX1} {g : Nat → Nat} {T : Nat} (hA : AgS a g) (hO : OKg T g) {c s : Nat} (hc : c < g 21) (hs : s < 16) {post : Int32 → Prop} (hp : post (nI (gli g c (awb s) (g 22)))) : w_X1_lighterBy a (nI c) (nI s) post := by
  have hA0 := hA
  obtain ⟨⟨e1, e2, e3, e4, e5⟩, hC, hW⟩ := hA
  obtain ⟨b1, b2, b3, b4, b5, b6⟩ := hO.1
  unfold w_X1_lighterBy
  refine p_hiredBy hA0 hO (by omega) ?_
  intro x2 hx2
  rw [nIand] at hx2
  have hbl := bits_lt (fun k => decide (g (10 + k) = c)) (g 22)
  have hb2 := pow4 b2
  refine up_inv (fun n i (m : Int32) => wL_X1_lighterBy_14 (nI c) x2 a post (fun x => post x) n m i) (g 22) (fun j m => m = nI (gli g c (awb s) j)) ?_ ?_ 0 rfl
  · intro n m hm
    subst hm
    show wL_X1_lighterBy_14 _ _ _ _ _ _ _ _
    unfold wL_X1_lighterBy_14
    rw [e2]
    exact ⟨fun _ => hp, fun h => absurd (Int32.le_refl _) h⟩
  · intro n j m hj hm ih
    subst hm
    show wL_X1_lighterBy_14 _ _ _ _ _ _ _ _
    unfold wL_X1_lighterBy_14
    have hand := and_lt (bits (fun k => decide (g (10 + k) = c)) (g 22)) (by omega) s hs
    have hbit : (bits (fun k => decide (g (10 + k) = c)) (g 22) &&& s) / 2 ^ j % 2 = 1 ↔ (g (10 + j) = c ∧ awb s j = true) := by
      rw [and_bit _ (by omega) s hs j (by omega), bits_bit _ _ j hj]
      unfold awb
      by_cases h1 : g (10 + j) = c
      · simp [h1]
      · simp [h1]
    have hm9 : ∀ n, n ≤ g 22 → gli g c (awb s) n ≤ 18 := by
      intro n
      induction n with
      | zero => intro _; exact Nat.zero_le _
      | succ n ih =>
        intro hn
        have h1 := ih (by omega)
        have h2 := gl_le hO (c := c) (t := g 0) (show n < g 22 by omega)
        have h3 : gtk g n c (g 0) ≤ 18 := by unfold gtk; split <;> omega
        rw [gli_s]
        repeat' split
        all_goals omega
    have hmj := hm9 j (by omega)
    have h3 : gtk g j c (g 0) ≤ 18 := by
      have h2 := gl_le hO (c := c) (t := g 0) hj
      unfold gtk; split <;> omega
    subst hx2
    have hlt2 : ∀ z, z < 16 → (nI z >>> (nI j &&& nI 31)) &&& nI 1 = nI (z / 2 ^ j % 2) := fun z hz => get_bit j (by omega) z (by omega)
    simp (disch := omega) only [e2, e5, liN, nIle, nI_1, nI_add, hlt2 _ hand]
    have hm2 : (bits (fun k => decide (g (10 + k) = c)) (g 22) &&& s) / 2 ^ j % 2 < 2 := Nat.mod_lt _ (by decide)
    simp (disch := omega) only [nIinj]
    refine ⟨fun h => absurd h (by omega), fun _ => ⟨fun h => ?_, fun h => ?_⟩⟩
    · refine p_takenBy hA0 hO hj hc (by omega) ?_
      intro x hx
      subst hx
      refine ih _ ?_
      rw [gli_s, if_pos (hbit.mp h)]
      simp (disch := omega) only [nIlt]
      split <;> rfl
    · refine ih _ ?_
      rw [gli_s, if_neg (fun q => h (hbit.mpr q))]
theorem if_cut {w x : Nat} (hw : w ≤ 99) (hx : x ≤ 99) : (if (0 : Int32) < (nI w - nI x) then (nI w - nI x) else (0 : Int32)) = nI (w - x) := by
  by_cases h3 : x ≤ w
  · rw [nIsub h3]
    by_cases h4 : 0 < w - x
    · exact if_pos ((nIlt (a := 0) (by omega) (by omega)).mpr h4)
    · have e : ¬ (0 : Int32) < nI (w - x) := fun h => h4 ((nIlt (a := 0) (by omega) (by omega)).mp h)
      rw [if_neg e, show w - x = 0 by omega]; rfl
  · have e1 : ¬ (0 : Int32) < nI w - nI x := by
      intro h5
      rw [i32_lt, pk_sub_toInt (by omega) (by omega)] at h5
      change (0 : Int) < _ at h5
      omega
    rw [if_neg e1, show w - x = 0 by omega]; rfl
theorem if_99 {w : Nat} (hw : w ≤ 99) : (if (nI w + (1 : Int32)) < (99 : Int32) then (nI w + (1 : Int32)) else (99 : Int32)) = nI (if 99 < w + 1 then 99 else w + 1) := by
  rw [nI_1]
  by_cases h3 : w + 1 < 99
  · have e : nI (w + 1) < (99 : Int32) := (nIlt (b := 99) (by omega) (by omega)).mpr h3
    rw [if_pos e, if_neg (by omega)]
  · have e : ¬ nI (w + 1) < (99 : Int32) := fun h => h3 ((nIlt (b := 99) (by omega) (by omega)).mp h)
    rw [if_neg e]
    by_cases h4 : 99 < w + 1
    · rw [if_pos h4]; rfl
    · rw [if_neg h4, show w + 1 = 99 by omega]; rfl
theorem p_nextWeight {w x : Nat} (hw : w ≤ 99) (hx : x ≤ 99) {post : Int32 → Prop} (hp : post (nI (gnw w x))) : w_X1_nextWeight (nI w) (nI x) post := by
  unfold w_X1_nextWeight
  unfold gnw at hp
  rw [if_cut hw hx, if_99 hw]
  simp (disch := omega) only [liN, nIle]
  refine ⟨fun h => ⟨fun h2 => ?_, fun h2 => ?_⟩, fun h => ?_⟩
  · rw [if_neg (by omega), if_neg (by omega)] at hp; exact hp
  · rw [if_neg (by omega), if_pos (by omega)] at hp; exact hp
  · rw [if_pos (by omega)] at hp; exact hp
theorem p_resting {a : BX1} {g : Nat → Nat} {T : Nat} (hA : AgX a g) (hO : OKg T g) {post : Int32 → Prop} (hp : post (nI (grs g))) : w_X1_resting a post := by
  obtain ⟨⟨⟨e1, e2, e3, e4, e5⟩, hC, hW⟩, hwt, hwa⟩ := hA
  obtain ⟨b1, b2, b3, b4, b5, b6⟩ := hO.1
  unfold w_X1_resting
  refine up_inv (fun n i (s : Int32) => wL_X1_resting_4 a post (fun x => post x) n s i) (g 21) (fun j s => s = nI (bits (fun c => decide (g (1 + c) ≤ g 19)) j)) ?_ ?_ 0 rfl
  · intro n s hs
    subst hs
    show wL_X1_resting_4 _ _ _ _ _ _
    unfold wL_X1_resting_4
    rw [e1]
    exact ⟨fun _ => hp, fun h => absurd (Int32.le_refl _) h⟩
  · intro n j s hj hs ih
    subst hs
    show wL_X1_resting_4 _ _ _ _ _ _
    unfold wL_X1_resting_4
    have w1 := hwt j hj
    have o1 := (hO.2.1 j hj).1
    have hb := bits_lt (fun c => decide (g (1 + c) ≤ g 19)) j
    have hb2 := pow5 (show j ≤ 5 by omega)
    simp (disch := omega) only [e1, e3, liN, nIle, nIlt, nIcl, w1, nI_1, nI_add]
    refine ⟨fun h => absurd h (by omega), fun _ => ⟨nIin (by omega) (by omega), fun h => ?_, fun h => fun x hx => ?_⟩⟩
    · refine ih _ ?_
      rw [bits_s, if_neg (by simp; omega), Nat.add_zero]
    · rw [or_bit j (by omega) _ (by omega) hb] at hx
      subst hx
      refine ih _ ?_
      rw [bits_s, if_pos (by simp; omega)]
theorem gli_le {T : Nat} {g : Nat → Nat} (hO : OKg T g) {c : Nat} {aw : Nat → Bool} : ∀ n, n ≤ g 22 → gli g c aw n ≤ 18
  | 0, _ => Nat.zero_le _
  | n + 1, hn => by
    have h1 := gli_le hO (c := c) (aw := aw) n (by omega)
    have h2 := gl_le hO (c := c) (t := g 0) (show n < g 22 by omega)
    have h3 : gtk g n c (g 0) ≤ 18 := by unfold gtk; split <;> omega
    rw [gli_s]
    repeat' split
    all_goals omega
theorem gnw_le {w x : Nat} (hw : w ≤ 99) : gnw w x ≤ 99 := by
  unfold gnw
  repeat' split
  all_goals omega
theorem p_weightsTogether {a : BX1} {g : Nat → Nat} {T : Nat} (hA : AgX a g) (hO : OKg T g) {post : Int32 → Prop} (hp : post (nI (fb_sm (fun c => g (1 + c)) (g 21)))) : w_X1_weightsTogether a post := by
  obtain ⟨⟨⟨e1, e2, e3, e4, e5⟩, hC, hW⟩, hwt, hwa⟩ := hA
  obtain ⟨b1, b2, b3, b4, b5, b6⟩ := hO.1
  unfold w_X1_weightsTogether
  refine up_inv (fun n i (s : Int32) => wL_X1_weightsTogether_4 a post (fun x => post x) n s i) (g 21) (fun j s => s = nI (fb_sm (fun c => g (1 + c)) j)) ?_ ?_ 0 rfl
  · intro n s hs
    subst hs
    show wL_X1_weightsTogether_4 _ _ _ _ _ _
    unfold wL_X1_weightsTogether_4
    rw [e1]
    exact ⟨fun _ => hp, fun h => absurd (Int32.le_refl _) h⟩
  · intro n j s hj hs ih
    subst hs
    show wL_X1_weightsTogether_4 _ _ _ _ _ _
    unfold wL_X1_weightsTogether_4
    have w1 := hwt j hj
    simp (disch := omega) only [e1, liN, nIle, nIcl, w1, nI_1, nI_add]
    refine ⟨fun h => absurd h (by omega), fun _ => ⟨nIin (by omega) (by omega), fun x hx => ?_⟩⟩
    subst hx
    exact ih _ rfl
theorem p_wagesTogether {a : BX1} {g : Nat → Nat} {T : Nat} (hA : AgX a g) (hO : OKg T g) {post : Int32 → Prop} (hp : post (nI (fb_sm (fun k => g (14 + k)) (g 22)))) : w_X1_wagesTogether a post := by
  obtain ⟨⟨⟨e1, e2, e3, e4, e5⟩, hC, hW⟩, hwt, hwa⟩ := hA
  obtain ⟨b1, b2, b3, b4, b5, b6⟩ := hO.1
  unfold w_X1_wagesTogether
  refine up_inv (fun n i (s : Int32) => wL_X1_wagesTogether_4 a post (fun x => post x) n s i) (g 22) (fun j s => s = nI (fb_sm (fun k => g (14 + k)) j)) ?_ ?_ 0 rfl
  · intro n s hs
    subst hs
    show wL_X1_wagesTogether_4 _ _ _ _ _ _
    unfold wL_X1_wagesTogether_4
    rw [e2]
    exact ⟨fun _ => hp, fun h => absurd (Int32.le_refl _) h⟩
  · intro n j s hj hs ih
    subst hs
    show wL_X1_wagesTogether_4 _ _ _ _ _ _
    unfold wL_X1_wagesTogether_4
    have w1 := hwa j hj
    simp (disch := omega) only [e2, liN, nIle, nIcl, w1, nI_1, nI_add]
    refine ⟨fun h => absurd h (by omega), fun _ => ⟨nIin (by omega) (by omega), fun x hx => ?_⟩⟩
    subst hx
    exact ih _ rfl
theorem gp_st {T : Nat} {g : Nat → Nat} (hO : OKg T g) (aw : Nat → Bool) {j : Nat} (h : 6 ≤ j) (h2 : j < 14 ∨ 18 ≤ j) : gpass g aw j = g j := by
  obtain ⟨b1, b2, b3, b4, b5, b6⟩ := hO.1
  unfold gpass
  rw [if_neg (by omega), if_neg (by omega), if_neg (by omega)]
theorem gp_w {g : Nat → Nat} (aw : Nat → Bool) {c : Nat} (h : c < g 21) : gpass g aw (1 + c) = gnw (g (1 + c)) (gli g c aw (g 22)) := by
  unfold gpass
  rw [if_pos (by omega), show 1 + c - 1 = c by omega]
theorem gp_e {T : Nat} {g : Nat → Nat} (hO : OKg T g) (aw : Nat → Bool) {k : Nat} (h : k < g 22) : gpass g aw (14 + k) = g (14 + k) + (if aw k = true then glie g k else 0) := by
  obtain ⟨b1, b2, b3, b4, b5, b6⟩ := hO.1
  unfold gpass
  rw [if_neg (by omega), if_pos (by omega), show 14 + k - 14 = k by omega]
theorem gp_0 {g : Nat → Nat} (aw : Nat → Bool) : gpass g aw 0 = g 0 + 1 := by
  unfold gpass
  rw [if_neg (by omega), if_neg (by omega), if_pos rfl]
theorem glie_le {T : Nat} {g : Nat → Nat} (hO : OKg T g) {k : Nat} (hk : k < g 22) : glie g k ≤ 18 := by
  unfold glie
  split
  · exact gl_le hO hk
  · omega
theorem gp_ok {T : Nat} {g : Nat → Nat} (hO : OKg T g) (aw : Nat → Bool) (hT : T + 1 ≤ 5000) : OKg (T + 1) (gpass g aw) := by
  have hO0 := hO
  obtain ⟨⟨b1, b2, b3, b4, b5, b6⟩, h2, h3, h4, h5⟩ := hO
  refine ⟨?_, ?_, ?_, ?_, ?_⟩
  · rw [gp_st hO0 aw (by omega) (by omega), gp_st hO0 aw (by omega) (by omega), gp_st hO0 aw (by omega) (by omega), gp_st hO0 aw (by omega) (by omega), gp_0]
    omega
  · intro c hc
    rw [gp_st hO0 aw (by omega) (by omega)] at hc
    rw [gp_w aw hc, gp_st hO0 aw (by omega) (by omega)]
    exact ⟨gnw_le (h2 c hc).1, (h2 c hc).2⟩
  · intro k hk
    rw [gp_st hO0 aw (by omega) (by omega)] at hk
    obtain ⟨o0, o2, o3, o4, o5⟩ := h3 k hk
    have hl := glie_le hO0 hk
    rw [gp_st hO0 aw (by omega) (by omega), gp_st hO0 aw (by omega) (by omega), gp_st hO0 aw (by omega) (by omega), gp_st hO0 aw (by omega) (by omega), gp_st hO0 aw (show 6 ≤ 21 by omega) (by omega), gp_e hO0 aw hk, gp_0]
    refine ⟨o0, o2, o3, o4, ?_⟩
    split <;> omega
  · rw [gp_st hO0 aw (by omega) (by omega), gp_st hO0 aw (by omega) (by omega)]
    exact h4
  · rw [gp_st hO0 aw (by omega) (by omega), gp_st hO0 aw (by omega) (by omega)]
    exact h5
theorem p_passNight {a : BX1} {g : Nat → Nat} {T s : Nat} (hA : AgX a g) (hO : OKg T g) (hs : s < 16) {post : BX1 → Prop} (hp : ∀ a', AgX a' (gpass g (awb s)) → post a') : w_X1_passNight a (nI s) post := by
  obtain ⟨b1, b2, b3, b4, b5, b6⟩ := hO.1
  unfold w_X1_passNight
  refine up_inv (fun n i (u : BX1) => wL_X1_passNight_2 (nI s) post _ n i u) (g 21) (fun j u => AgS u g ∧ (∀ c, c < g 21 → u.1 c = nI (if c < j then gpass g (awb s) (1 + c) else g (1 + c))) ∧ (∀ k, k < g 22 → u.2.2.2.2.2.2.1 k = nI (g (14 + k)))) ?_ ?_ a ⟨hA.1, fun c hc => by rw [if_neg (by omega)]; exact hA.2.1 c hc, hA.2.2⟩
  · intro n u hu
    obtain ⟨hS, hwt, hwa⟩ := hu
    show wL_X1_passNight_2 _ _ _ _ _ _
    unfold wL_X1_passNight_2
    rw [hS.1.1]
    refine ⟨fun _ => ?_, fun h => absurd (Int32.le_refl _) h⟩
    refine up_inv (fun n i (v : BX1) => wL_X1_passNight_39 (nI s) post _ n i v) (g 22) (fun j v => AgS v g ∧ (∀ c, c < g 21 → v.1 c = nI (gpass g (awb s) (1 + c))) ∧ (∀ k, k < g 22 → v.2.2.2.2.2.2.1 k = nI (if k < j then gpass g (awb s) (14 + k) else g (14 + k)))) ?_ ?_ u ⟨hS, fun c hc => by rw [hwt c hc, if_pos hc], fun k hk => by rw [if_neg (by omega)]; exact hwa k hk⟩
    · intro n v hv
      obtain ⟨hS2, hwt2, hwa2⟩ := hv
      show wL_X1_passNight_39 _ _ _ _ _ _
      unfold wL_X1_passNight_39
      rw [hS2.1.2.1]
      refine ⟨fun _ => ?_, fun h => absurd (Int32.le_refl _) h⟩
      refine hp _ ⟨⟨⟨?_, ?_, ?_, ?_, ?_⟩, ?_, ?_⟩, ?_, ?_⟩
      · rw [gp_st hO _ (by omega) (by omega)] <;> exact hS2.1.1
      · rw [gp_st hO _ (by omega) (by omega)] <;> exact hS2.1.2.1
      · rw [gp_st hO _ (by omega) (by omega)] <;> exact hS2.1.2.2.1
      · rw [gp_st hO _ (by omega) (by omega)] <;> exact hS2.1.2.2.2.1
      · rw [gp_0, ← nI_1]; exact congrArg (fun z => z + 1) hS2.1.2.2.2.2
      · intro c hc
        rw [gp_st hO _ (by omega) (by omega)] at hc
        rw [gp_st hO _ (by omega) (by omega)]
        exact hS2.2.1 c hc
      · intro k hk
        rw [gp_st hO _ (by omega) (by omega)] at hk
        rw [gp_st hO _ (by omega) (by omega), gp_st hO _ (by omega) (by omega), gp_st hO _ (by omega) (by omega), gp_st hO _ (by omega) (by omega)]
        exact hS2.2.2 k hk
      · intro c hc
        rw [gp_st hO _ (by omega) (by omega)] at hc
        exact hwt2 c hc
      · intro k hk
        rw [gp_st hO _ (by omega) (by omega)] at hk
        have h := hwa2 k hk
        rw [if_pos hk] at h
        exact h
    · intro n j v hj hv ih
      obtain ⟨hS2, hwt2, hwa2⟩ := hv
      show wL_X1_passNight_39 _ _ _ _ _ _
      unfold wL_X1_passNight_39
      obtain ⟨w1, w2, w3, w4⟩ := hS2.2.2 j hj
      have o4 := (hO.2.2.1 j hj).2.2.2.1
      have o5 := (hO.2.2.1 j hj).2.2.2.2
      have hwj := hwa2 j hj
      rw [if_neg (by omega)] at hwj
      have hbit := get_bit j (by omega) s (by omega)
      have hm2 : s / 2 ^ j % 2 < 2 := Nat.mod_lt _ (by decide)
      have hl18 := glie_le hO hj
      simp (disch := omega) only [hS2.1.2.1, hS2.1.2.2.2.2, liN, nIle, nIcl, w4, hwj, hbit, nIinj, nI_1, nI_add]
      refine ⟨fun h => absurd h (by omega), fun _ => ⟨fun h => ⟨nIin (by omega) (by omega), nIin (by omega) (by omega), ?_⟩, fun h => ?_⟩⟩
      · refine p_lying hS2 hO hj (by omega) (by omega) ?_
        refine ⟨nIin (by omega) (by omega), ih _ ⟨(by obtain ⟨⟨q1, q2, q3, q4, q5⟩, q6, q7⟩ := hS2; exact ⟨⟨by first | rfl | exact q1, by first | rfl | exact q2, by first | rfl | exact q3, by first | rfl | exact q4, by first | rfl | exact q5⟩, q6, q7⟩), hwt2, ?_⟩⟩
        intro k hk
        show upd _ j _ k = _
        rw [upd_at, show (if g (10 + j) < g 21 then gl g j (g (10 + j)) (g 0) else 0) = glie g j from rfl]
        by_cases hkj : k = j
        · subst hkj
          rw [if_pos rfl, if_pos (show k < k + 1 by omega), gp_e hO _ hk, if_pos (by unfold awb; simp [h]), nI_add]
        · rw [if_neg hkj, hwa2 k hk]
          by_cases hlt : k < j
          · rw [if_pos hlt, if_pos (by omega)]
          · rw [if_neg hlt, if_neg (by omega)]
      · refine ih _ ⟨hS2, hwt2, ?_⟩
        intro k hk
        rw [hwa2 k hk]
        by_cases hkj : k = j
        · subst hkj
          rw [if_neg (by omega), if_pos (by omega), gp_e hO _ hk, if_neg (by unfold awb; simp [h]), Nat.add_zero]
        · by_cases hlt : k < j
          · rw [if_pos hlt, if_pos (by omega)]
          · rw [if_neg hlt, if_neg (by omega)]
  · intro n j u hj hu ih
    obtain ⟨hS, hwt, hwa⟩ := hu
    show wL_X1_passNight_2 _ _ _ _ _ _
    unfold wL_X1_passNight_2
    have hwj := hwt j hj
    rw [if_neg (by omega)] at hwj
    have o1 := (hO.2.1 j hj).1
    have hl18 := gli_le hO (c := j) (aw := awb s) (g 22) (Nat.le_refl _)
    simp (disch := omega) only [hS.1.1, liN, nIle, nIcl, hwj, nI_1, nI_add]
    refine ⟨fun h => absurd h (by omega), fun _ => ⟨nIin (by omega) (by omega), ?_⟩⟩
    refine p_lighterBy hS hO hj hs ?_
    refine p_nextWeight o1 (by omega) ?_
    refine ⟨nIin (by omega) (by omega), ih _ ⟨(by obtain ⟨⟨q1, q2, q3, q4, q5⟩, q6, q7⟩ := hS; exact ⟨⟨by first | rfl | exact q1, by first | rfl | exact q2, by first | rfl | exact q3, by first | rfl | exact q4, by first | rfl | exact q5⟩, q6, q7⟩), ?_, hwa⟩⟩
    intro c hc
    show upd _ j _ c = _
    rw [upd_at]
    by_cases hcj : c = j
    · subst hcj
      rw [if_pos rfl, if_pos (by omega), gp_w _ hc]
    · rw [if_neg hcj, hwt c hc]
      by_cases hlt : c < j
      · rw [if_pos hlt, if_pos (by omega)]
      · rw [if_neg hlt, if_neg (by omega)]
