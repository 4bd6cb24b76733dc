section SEARCH
variable {un : BX1} {g : Nat → Nat} {T : Nat}
theorem p_fs13 {u : BX4} {c : Nat} (hA : AgX un g) (hO : OKg T g) (hc : c < g 21) {y9 : Int32} {post Kx : BX4 → Prop} (hp : ∀ bh', (∀ i, i < c * 16 → bh' i = u.1 i) → (∀ s, s < 16 → bh' (c * 16 + s) = nI (g (1 + c))) → Kx (bh', u.2)) : ∃ n13, wL_X4_foretellSets_13 y9 (nI c) un post Kx n13 (0 : Int32) u := by
  have b1 := hO.1.1
  have ew := hA.2.1 c hc
  refine up_inv (fun n i (v : BX4) => wL_X4_foretellSets_13 y9 (nI c) un post Kx n i v) 16 (fun j v => ∃ bh', v = (bh', u.2) ∧ (∀ i, i < c * 16 → bh' i = u.1 i) ∧ ∀ s, s < j → bh' (c * 16 + s) = nI (g (1 + c))) ?_ ?_ u ⟨u.1, rfl, fun _ _ => rfl, fun s hs => absurd hs (by omega)⟩
  · intro n v hv
    obtain ⟨bh', rfl, h1, h2⟩ := hv
    show wL_X4_foretellSets_13 _ _ _ _ _ _ _ _
    unfold wL_X4_foretellSets_13
    exact ⟨fun _ => hp bh' h1 h2, fun h => absurd (Int32.le_refl _) h⟩
  · intro n j v hj hv ih
    obtain ⟨bh', rfl, h1, h2⟩ := hv
    show wL_X4_foretellSets_13 _ _ _ _ _ _ _ _
    unfold wL_X4_foretellSets_13
    simp (disch := omega) only [liN, nI_add, pk_mul, nIcl, nIle, nI_1, ew]
    refine ⟨fun h => absurd h (by omega), fun _ => ⟨nIin (by omega) (by omega), nIin (by omega) (by omega), ih _ ⟨_, rfl, fun i hi => ?_, fun s hs => ?_⟩⟩⟩
    · rw [upd_at, if_neg (by omega)]; exact h1 i hi
    · rw [upd_at]
      by_cases hsj : s = j
      · rw [if_pos (by omega)]
      · rw [if_neg (by omega)]; exact h2 s (by omega)
theorem p_fs69 {u : BX4} {c k : Nat} (hO : OKg T g) (hc : c < g 21) (htk : ∀ s, s < 16 → u.2.1 s = nI (tkN g c (g 0 + k) s)) (hbh : ∀ s, s < 16 → u.1 (c * 16 + s) = nI (bhN g c s k)) {y24 y26 : Int32} {post Kx : BX4 → Prop} (hp : ∀ bh', (∀ i, i < c * 16 → bh' i = u.1 i) → (∀ s, s < 16 → bh' (c * 16 + s) = nI (bhN g c s (k + 1))) → Kx (bh', u.2)) : ∃ n69, wL_X4_foretellSets_69 y24 (nI c) y26 un post Kx n69 (0 : Int32) u := by
  have b1 := hO.1.1
  refine up_inv (fun n i (v : BX4) => wL_X4_foretellSets_69 y24 (nI c) y26 un post Kx n i v) 16 (fun j v => ∃ bh', v = (bh', u.2) ∧ (∀ i, i < c * 16 → bh' i = u.1 i) ∧ ∀ s, s < 16 → bh' (c * 16 + s) = nI (if s < j then bhN g c s (k + 1) else bhN g c s k)) ?_ ?_ u ⟨u.1, rfl, fun _ _ => rfl, fun s hs => by rw [if_neg (by omega)]; exact hbh s hs⟩
  · intro n v hv
    obtain ⟨bh', rfl, h1, h2⟩ := hv
    show wL_X4_foretellSets_69 _ _ _ _ _ _ _ _ _
    unfold wL_X4_foretellSets_69
    exact ⟨fun _ => hp bh' h1 (fun s hs => by rw [h2 s hs, if_pos hs]), fun h => absurd (Int32.le_refl _) h⟩
  · intro n j v hj hv ih
    obtain ⟨bh', rfl, h1, h2⟩ := hv
    show wL_X4_foretellSets_69 _ _ _ _ _ _ _ _ _
    unfold wL_X4_foretellSets_69
    have e2 := h2 j hj
    rw [if_neg (by omega)] at e2
    have l1 := bhN_le hO hc j k
    have l2 := tkN_le hO c (g 0 + k) j
    simp (disch := omega) only [liN, nI_add, pk_mul, nIcl, nIle, nI_1, htk j hj]
    refine ⟨fun h => absurd h (by omega), fun _ x30 h30 => ?_⟩
    subst h30
    rw [nIcl (by omega), e2]
    refine ⟨nIin (by omega) (by omega), nIin (by omega) (by omega), p_nextWeight l1 (by omega) ⟨nIin (by omega) (by omega), ih _ ⟨_, rfl, fun i hi => ?_, fun s hs => ?_⟩⟩⟩
    · rw [upd_at, if_neg (by omega)]; exact h1 i hi
    · rw [upd_at]
      by_cases hsj : s = j
      · rw [if_pos (by omega), hsj, if_pos (by omega)]
        rfl
      · rw [if_neg (by omega), h2 s hs]
        by_cases h3 : s < j
        · rw [if_pos h3, if_pos (by omega)]
        · rw [if_neg h3, if_neg (by omega)]
theorem p_fs47 {u : BX4} {c d : Nat} (hA : AgX un g) (hO : OKg T g) (hT : T + 60 ≤ 5000) (hd : d ≤ 60) (hc : c < g 21) (hbh : ∀ s, s < 16 → u.1 (c * 16 + s) = nI (g (1 + c))) {post Kx : BX4 → Prop} (hp : ∀ bh' tk', (∀ i, i < c * 16 → bh' i = u.1 i) → (∀ s, s < 16 → bh' (c * 16 + s) = nI (bhN g c s d)) → Kx (bh', tk', u.2.2)) : ∃ n47, wL_X4_foretellSets_47 (nI d) (nI c) un post Kx n47 (0 : Int32) u := by
  obtain ⟨b1, b2, b3, b4, b5, b6⟩ := hO.1
  have e0 := hA.1.1.2.2.2.2
  refine up_inv (fun n i (v : BX4) => wL_X4_foretellSets_47 (nI d) (nI c) un post Kx n i v) d (fun j v => ∃ bh' tk', v = (bh', tk', u.2.2) ∧ (∀ i, i < c * 16 → bh' i = u.1 i) ∧ ∀ s, s < 16 → bh' (c * 16 + s) = nI (bhN g c s j)) ?_ ?_ u ⟨u.1, u.2.1, rfl, fun _ _ => rfl, hbh⟩
  · intro n v hv
    obtain ⟨bh', tk', rfl, h1, h2⟩ := hv
    show wL_X4_foretellSets_47 _ _ _ _ _ _ _ _
    unfold wL_X4_foretellSets_47
    exact ⟨fun _ => hp bh' tk' h1 h2, fun h => absurd (Int32.le_refl _) h⟩
  · intro n j v hj hv ih
    obtain ⟨bh', tk', rfl, h1, h2⟩ := hv
    show wL_X4_foretellSets_47 _ _ _ _ _ _ _ _
    unfold wL_X4_foretellSets_47
    rw [nIle (by omega) (by omega), e0, nI_add, nI_1]
    refine ⟨fun h => absurd h (by omega), fun _ => p_findTaken hA hO hc (by omega) (fun tk2 ht => p_fs69 (u := (bh', tk2, u.2.2)) hO hc ht h2 (fun bh3 h3 h4 => ih _ ⟨bh3, tk2, rfl, fun i hi => (h3 i hi).trans (h1 i hi), h4⟩))⟩
theorem p_foretellSets {u : BX4} {d : Nat} (hA : AgX un g) (hO : OKg T g) (hT : T + 60 ≤ 5000) (hd : d ≤ 60) {post : BX4 → Prop} (hp : ∀ bh' tk', (∀ c, c < g 21 → ∀ s, s < 16 → bh' (c * 16 + s) = nI (bhN g c s d)) → post (bh', tk', u.2.2)) : w_X4_foretellSets u un (nI d) post := by
  have b1 := hO.1.1
  have e1 := hA.1.1.1
  unfold w_X4_foretellSets
  refine up_inv (fun n i (v : BX4) => wL_X4_foretellSets_2 (nI d) un post (fun u5 => post u5) n i v) (g 21) (fun j v => ∃ bh' tk', v = (bh', tk', u.2.2) ∧ ∀ c, c < j → ∀ s, s < 16 → bh' (c * 16 + s) = nI (bhN g c s d)) ?_ ?_ u ⟨u.1, u.2.1, rfl, fun c hc => absurd hc (by omega)⟩
  · intro n v hv
    obtain ⟨bh', tk', rfl, h1⟩ := hv
    show wL_X4_foretellSets_2 _ _ _ _ _ _ _
    unfold wL_X4_foretellSets_2
    rw [e1]
    exact ⟨fun _ => hp bh' tk' h1, fun h => absurd (Int32.le_refl _) h⟩
  · intro n j v hj hv ih
    obtain ⟨bh', tk', rfl, h1⟩ := hv
    show wL_X4_foretellSets_2 _ _ _ _ _ _ _
    unfold wL_X4_foretellSets_2
    rw [e1, nIle (by omega) (by omega), nI_1]
    refine ⟨fun h => absurd h (by omega), fun _ => p_fs13 hA hO hj (fun bh2 h2 h3 => p_fs47 (u := (bh2, tk', u.2.2)) hA hO hT hd hj h3 (fun bh3 tk3 h4 h5 => ih _ ⟨bh3, tk3, rfl, fun c hc s hs => ?_⟩))⟩
    by_cases hcj : c = j
    · rw [hcj]; exact h5 s hs
    · rw [h4 _ (by show c * 16 + s < j * 16; omega)]
      show bh2 (c * 16 + s) = _
      rw [h2 _ (by omega)]
      exact h1 c (by omega) s hs
theorem p_weightBehind {u : BX4} {c S v : Nat} (hc : c < 5) (hS : S < 16) (e1 : u.2.2.1 c = nI S) (e2 : u.1 (c * 16 + S) = nI v) {post : Int32 → Prop} (hp : post (nI v)) : w_X4_weightBehind u (nI c) post := by
  unfold w_X4_weightBehind
  simp (disch := omega) only [liN, nI_add, pk_mul, nIcl, e1, e2]
  exact ⟨nIin hc (by omega), nIin (by omega) (by omega), hp⟩
/-- as bits, from the highest on -/
def hoN (p : Nat → Bool) : Nat → Nat → Nat
  | _, 0 => 0
  | j, d + 1 => hoN p (j + 1) d ||| (if p j = true then 2 ^ j else 0)
def sdN (f : Nat → Nat) : Nat → Nat → Nat
  | _, 0 => 0
  | j, d + 1 => sdN f (j + 1) d + f j
theorem hoN_bits (p : Nat → Bool) {W : Nat} (h : W ≤ 4) : hoN p 0 W = bits p W := by
  rcases (show W = 0 ∨ W = 1 ∨ W = 2 ∨ W = 3 ∨ W = 4 by omega) with rfl | rfl | rfl | rfl | rfl <;> simp only [hoN, bits] <;> cases p 0 <;> cases p 1 <;> cases p 2 <;> cases p 3 <;> rfl
theorem sdN_sm (f : Nat → Nat) {W : Nat} (h : W ≤ 4) : sdN f 0 W = fb_sm f W := by
  rcases (show W = 0 ∨ W = 1 ∨ W = 2 ∨ W = 3 ∨ W = 4 by omega) with rfl | rfl | rfl | rfl | rfl <;> simp only [sdN, fb_sm, Nat.zero_add, Nat.reduceAdd] <;> omega
theorem p_tw2 {u : BX4} {y3 : Int32} {post : Int32 → BX4 → Prop} {Kx : BX4 → Prop} (hp : ∀ hb, (∀ c, c < 5 → hb c = nI 0) → Kx (u.1, u.2.1, hb, u.2.2.2)) : ∃ n2, wL_X4_tryWay_2 y3 un post Kx n2 (0 : Int32) u := by
  refine up_inv (fun n i (v : BX4) => wL_X4_tryWay_2 y3 un post Kx n i v) 5 (fun j v => ∃ hb, v = (u.1, u.2.1, hb, u.2.2.2) ∧ ∀ c, c < j → hb c = nI 0) ?_ ?_ u ⟨u.2.2.1, rfl, fun c hc => absurd hc (by omega)⟩
  · intro n v hv
    obtain ⟨hb, rfl, h⟩ := hv
    show wL_X4_tryWay_2 _ _ _ _ _ _ _
    unfold wL_X4_tryWay_2
    exact ⟨fun _ => hp hb h, fun h => absurd (Int32.le_refl _) h⟩
  · intro n j v hj hv ih
    obtain ⟨hb, rfl, h⟩ := hv
    show wL_X4_tryWay_2 _ _ _ _ _ _ _
    unfold wL_X4_tryWay_2
    simp (disch := omega) only [liN, nI_add, nIcl, nIle, nI_1]
    refine ⟨fun h => absurd h (by omega), fun _ => ⟨nIin (by omega) (by omega), ih _ ⟨upd hb j (nI 0), rfl, fun c hc => ?_⟩⟩⟩
    rw [upd_at]
    by_cases hcj : c = j
    · rw [if_pos hcj]
    · rw [if_neg hcj]; exact h c (by omega)
theorem nI_m1 (n : Nat) : nI n + (-1 : Int32) = nI n - 1 := (Int32.sub_eq_add_neg _ _).symm
theorem nI_p1 (n : Nat) : nI (n + 1) - (1 : Int32) = nI n := by
  rw [show (1 : Int32) = nI 1 from rfl, nIsub (by omega)]
  rfl
theorem p_tryWay {u : BX4} {way : Nat} (hA : AgX un g) (hO : OKg T g) (hw : way < 100000) {post : Int32 → BX4 → Prop} (hp : ∀ hb td, (∀ c, c < 5 → hb c = nI (bits (fun k => decide (letB g way k = c)) (g 22))) → (∀ k, k < g 22 → td k = nI (letB g way k)) → post (nI (cntN g way)) (u.1, u.2.1, hb, td, u.2.2.2.2)) : w_X4_tryWay u un (nI way) post := by
  obtain ⟨b1, b2, b3, b4, b5, b6⟩ := hO.1
  have e1 := hA.1.1.1
  have e2 := hA.1.1.2.1
  unfold w_X4_tryWay
  refine p_tw2 (fun hb hh => ?_)
  rw [e1, e2, nI_1, mx1b (by omega) (by omega)]
  intro x6 h6 x7 h7
  subst h6
  subst h7
  have key : ∀ j, j ≤ g 22 → ∀ hb td, (∀ c, c < 5 → hb c = nI (hoN (fun k => decide (letB g way k = c)) j (g 22 - j))) → (∀ k, j ≤ k → k < g 22 → td k = nI (letB g way k)) → wL_X4_tryWay_45 (nI (g 21 + 1)) un post (fun (x14 : Int32) (u15 : BX4) => post x14 u15) (j + 1) (nI (way / (g 21 + 1) ^ (g 22 - j))) (nI (sdN (fun k => if letB g way k = 5 then 0 else 1) j (g 22 - j))) (nI j - 1) (u.1, u.2.1, hb, td, u.2.2.2.2) := by
    intro j
    induction j with
    | zero =>
      intro _ hb td h1 h2
      unfold wL_X4_tryWay_45
      refine ⟨fun _ => ?_, fun q => absurd (by decide) q⟩
      rw [Nat.sub_zero, sdN_sm _ b2]
      refine hp hb td (fun c hc => ?_) (fun k hk => h2 k (by omega) hk)
      rw [h1 c hc, Nat.sub_zero, hoN_bits _ b2]
    | succ j ih =>
      intro hj hb td h1 h2
      unfold wL_X4_tryWay_45
      have hpw : 0 < (g 21 + 1) ^ (g 22 - (j + 1)) := Nat.pow_pos (by omega)
      have hr : way / (g 21 + 1) ^ (g 22 - (j + 1)) ≤ way := Nat.div_le_self _ _
      have hz : ¬ nI (g 21 + 1) = (0 : Int32) := by
        rw [show (0 : Int32) = nI 0 from rfl, nIinj (by omega) (by omega)]
        omega
      have hdig : way / (g 21 + 1) ^ (g 22 - (j + 1)) % (g 21 + 1) = digN g way j := by
        unfold digN
        rw [show g 22 - 1 - j = g 22 - (j + 1) by omega]
      have hdiv : way / (g 21 + 1) ^ (g 22 - (j + 1)) / (g 21 + 1) = way / (g 21 + 1) ^ (g 22 - j) := by
        rw [Nat.div_div_eq_div_mul, ← Nat.pow_succ, show (g 22 - (j + 1)).succ = g 22 - j by omega]
      have hdl := digN_lt g way j
      have hd : g 22 - j = (g 22 - (j + 1)) + 1 := by omega
      rw [nI_p1, nIrem (by omega) (by omega) (by omega), nIdiv (by omega) (by omega) (by omega), hdig, hdiv]
      refine ⟨fun q => absurd q (nI_pos (by omega)), fun _ => ⟨hz, fun x17 h17 => ⟨hz, fun x18 h18 => ⟨nIin (by omega) (by omega), ?_⟩⟩⟩⟩
      subst h17
      subst h18
      refine p_hasClient e1 b1 ?_
      have hsh : (1 : Int32) <<< (nI j &&& 31) = nI (2 ^ j) := shl_1 j (by omega)
      rw [nIcl (show digN g way j < _ by omega), nIcl (show j < _ by omega), hsh, nI_m1, nI_1, nIto (by omega)]
      by_cases hcl : digN g way j < g 21
      · rw [bi_t (by omega)]
        have hlet : letB g way j = digN g way j := by unfold letB; rw [if_neg (by omega)]
        have ecnt : sdN (fun k => if letB g way k = 5 then 0 else 1) (j + 1) (g 22 - (j + 1)) + 1 = sdN (fun k => if letB g way k = 5 then 0 else 1) j (g 22 - j) := by
          rw [hd]
          show _ = sdN _ (j + 1) (g 22 - (j + 1)) + (if letB g way j = 5 then 0 else 1)
          rw [if_neg (by omega)]
        rw [ecnt]
        refine sel1 ⟨nIin (by omega) (by omega), nIin (by omega) (by omega), nIin (by omega) (by omega), ih (by omega) _ _ (fun c hc => ?_) (fun k hk1 hk2 => ?_)⟩
        · show upd hb (digN g way j) (hb (digN g way j) ||| nI (2 ^ j)) c = _
          rw [upd_at, hd]
          show _ = nI (hoN _ (j + 1) (g 22 - (j + 1)) ||| (if decide (letB g way j = c) = true then 2 ^ j else 0))
          by_cases hcd : c = digN g way j
          · rw [if_pos hcd, if_pos (by simp only [decide_eq_true_eq]; omega), ← hcd, h1 c hc, nIor]
          · rw [if_neg hcd, if_neg (by simp only [decide_eq_true_eq]; omega), Nat.or_zero]
            exact h1 c hc
        · show upd (upd td j (5 : Int32)) j (nI (digN g way j)) k = _
          rw [upd_at]
          by_cases hkj : k = j
          · rw [if_pos hkj, hkj, hlet]
          · rw [if_neg hkj, upd_at, if_neg hkj]
            exact h2 k (by omega) hk2
      · rw [bi_f (by omega)]
        have hlet : letB g way j = 5 := by unfold letB; rw [if_pos (by omega)]
        have ecnt : sdN (fun k => if letB g way k = 5 then 0 else 1) (j + 1) (g 22 - (j + 1)) = sdN (fun k => if letB g way k = 5 then 0 else 1) j (g 22 - j) := by
          rw [hd]
          show _ = sdN _ (j + 1) (g 22 - (j + 1)) + (if letB g way j = 5 then 0 else 1)
          rw [if_pos hlet]
          rfl
        rw [ecnt]
        refine sel0 (ih (by omega) hb _ (fun c hc => ?_) (fun k hk1 hk2 => ?_))
        · rw [hd]
          show _ = nI (hoN _ (j + 1) (g 22 - (j + 1)) ||| (if decide (letB g way j = c) = true then 2 ^ j else 0))
          rw [if_neg (by simp only [decide_eq_true_eq]; omega), Nat.or_zero]
          exact h1 c hc
        · show upd td j (5 : Int32) k = _
          rw [upd_at]
          by_cases hkj : k = j
          · rw [if_pos hkj, hkj, hlet]; rfl
          · rw [if_neg hkj]
            exact h2 k (by omega) hk2
  have k0 := key (g 22) (Nat.le_refl _) hb u.2.2.2.1 (fun c hc => by rw [Nat.sub_self]; exact hh c hc) (fun k h1 h2 => absurd h1 (by omega))
  rw [Nat.sub_self, Nat.pow_zero, Nat.div_one] at k0
  exact ⟨_, k0⟩
theorem p_waysToLet (hA : AgX un g) (hO : OKg T g) {post : Int32 → Prop} (hp : post (nI ((g 21 + 1) ^ g 22))) : w_X4_waysToLet un post := by
  obtain ⟨b1, b2, b3, b4, b5, b6⟩ := hO.1
  have e1 := hA.1.1.1
  have e2 := hA.1.1.2.1
  unfold w_X4_waysToLet
  refine up_inv (fun n i (x : Int32) => wL_X4_waysToLet_4 un post (fun x4 => post x4) n x i) (g 22) (fun j x => x = nI ((g 21 + 1) ^ j)) ?_ ?_ 1 rfl
  · intro n x hx
    subst hx
    show wL_X4_waysToLet_4 _ _ _ _ _ _
    unfold wL_X4_waysToLet_4
    rw [e2]
    exact ⟨fun _ => hp, fun h => absurd (Int32.le_refl _) h⟩
  · intro n j x hj hx ih
    subst hx
    show wL_X4_waysToLet_4 _ _ _ _ _ _
    unfold wL_X4_waysToLet_4
    rw [e1, e2, nIle (by omega) (by omega), nI_1, pk_mul, nI_1]
    exact ⟨fun h => absurd h (by omega), fun _ x6 h6 => ih x6 h6⟩
theorem ways_le (hO : OKg T g) : (g 21 + 1) ^ g 22 ≤ 1296 := by
  have b1 := hO.1.1
  have b2 := hO.1.2.1
  exact Nat.le_trans (Nat.pow_le_pow_left (show g 21 + 1 ≤ 6 by omega) (g 22)) (Nat.pow_le_pow_right (n := 6) (by decide) b2)
end SEARCH
