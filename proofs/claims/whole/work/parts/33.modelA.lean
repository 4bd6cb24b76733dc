theorem p_in {a b c : Int64} {post : Int32 → Prop} (hp : post (bi (b.toInt ≤ a.toInt ∧ a.toInt ≤ c.toInt))) : w_X7_in a b c post := by
  unfold w_X7_in
  rw [lg_cmp_lt, lg_cmp_gt, Int64.lt_iff_toInt_lt, Int64.lt_iff_toInt_lt]
  refine ⟨fun h => ?_, fun h => ⟨fun h2 => ?_, fun h2 => ?_⟩⟩
  · rw [bi_f (by omega)] at hp; exact hp
  · rw [bi_f (by omega)] at hp; exact hp
  · rw [bi_t (by omega)] at hp; exact hp
theorem t64 (a : Int32) : a.toInt64.toInt = a.toInt := Int32.toInt_toInt64 a
def AgM (w : Nat → Int32) (r : Nat) (g : Nat → Nat) : Prop := ∀ k, k < 36 → w (r + k) = nI (g k)
theorem AgM.at {w : Nat → Int32} {r : Nat} {g : Nat → Nat} (h : AgM w r g) (b k : Nat) (hb : b + k < 36) : w (r + b + k) = nI (g (b + k)) := by
  rw [Nat.add_assoc]; exact h _ hb
/-- without weights and what is earned -/
def AgN (w : Nat → Int32) (r : Nat) (g : Nat → Nat) : Prop := ∀ k, k < 36 → (k = 0 ∨ (6 ≤ k ∧ (k < 14 ∨ 18 ≤ k))) → w (r + k) = nI (g k)
theorem AgM.n {w : Nat → Int32} {r : Nat} {g : Nat → Nat} (h : AgM w r g) : AgN w r g := fun k hk _ => h k hk
theorem AgN.at {w : Nat → Int32} {r : Nat} {g : Nat → Nat} (h : AgN w r g) (b k : Nat) (hb : b + k < 36) (h2 : b + k = 0 ∨ (6 ≤ b + k ∧ (b + k < 14 ∨ 18 ≤ b + k))) : w (r + b + k) = nI (g (b + k)) := by
  rw [Nat.add_assoc]; exact h _ hb h2
theorem p_isClient {m : BX7} {g : Nat → Nat} {T : Nat} (hM : AgM m.1 0 g) (hO : OKg T g) {c : Int32} {post : Int32 → Prop} (hp : post (bi (0 ≤ c.toInt ∧ c.toInt < g 21))) : w_X7_isClient m c post := by
  obtain ⟨b1, b2, b3, b4, b5, b6⟩ := hO.1
  have e : m.1 21 = nI (g 21) := by have h := hM 21 (by omega); rw [Nat.zero_add] at h; exact h
  unfold w_X7_isClient
  simp (disch := omega) only [liN, nIcl, e]
  refine ⟨nIin (by omega) (by omega), p_in ⟨bi_bz, ?_⟩⟩
  rw [t64, t64, pk_sub_toInt (by omega) (by omega)]
  have e2 : bi ((0 : Int64).toInt ≤ c.toInt ∧ c.toInt ≤ (g 21 : Int) - (1 : Nat)) = bi (0 ≤ c.toInt ∧ c.toInt < g 21) := by
    show bi ((0 : Int) ≤ c.toInt ∧ c.toInt ≤ (g 21 : Int) - (1 : Nat)) = _
    by_cases h : 0 ≤ c.toInt ∧ c.toInt < g 21
    · rw [bi_t h, bi_t (by omega)]
    · rw [bi_f h, bi_f (by omega)]
  rw [e2]
  exact hp
theorem p_isWaker {m : BX7} {g : Nat → Nat} {T : Nat} (hM : AgM m.1 0 g) (hO : OKg T g) {c : Int32} {post : Int32 → Prop} (hp : post (bi (0 ≤ c.toInt ∧ c.toInt < g 22))) : w_X7_isWaker m c post := by
  obtain ⟨b1, b2, b3, b4, b5, b6⟩ := hO.1
  have e : m.1 22 = nI (g 22) := by have h := hM 22 (by omega); rw [Nat.zero_add] at h; exact h
  unfold w_X7_isWaker
  simp (disch := omega) only [liN, nIcl, e]
  refine ⟨nIin (by omega) (by omega), p_in ⟨bi_bz, ?_⟩⟩
  rw [t64, t64, pk_sub_toInt (by omega) (by omega)]
  have e2 : bi ((0 : Int64).toInt ≤ c.toInt ∧ c.toInt ≤ (g 22 : Int) - (1 : Nat)) = bi (0 ≤ c.toInt ∧ c.toInt < g 22) := by
    show bi ((0 : Int) ≤ c.toInt ∧ c.toInt ≤ (g 22 : Int) - (1 : Nat)) = _
    by_cases h : 0 ≤ c.toInt ∧ c.toInt < g 22
    · rw [bi_t h, bi_t (by omega)]
    · rw [bi_f h, bi_f (by omega)]
  rw [e2]
  exact hp
theorem p_isAgency {m : BX7} {g : Nat → Nat} {T : Nat} (hM : AgM m.1 0 g) (hO : OKg T g) {post : Int32 → Prop} (hp : post (bi (0 < g 21))) : w_X7_isAgency m post := by
  have e : m.1 18 = nI (g 18) := by have h := hM 18 (by omega); rw [Nat.zero_add] at h; exact h
  have h4 := hO.2.2.2.1
  unfold w_X7_isAgency
  have hb : g 18 ≤ 1 := by rw [h4]; split <;> omega
  simp (disch := omega) only [liN, nIcl, e, nIinj]
  refine ⟨nIin (by omega) (by omega), fun h => ?_, fun h => ?_⟩
  · rw [bi_t (by rw [h] at h4; by_cases q : g 21 = 0; · rw [if_pos q] at h4; omega
                 · omega)] at hp; exact hp
  · rw [bi_f (by by_cases q : g 21 = 0; · omega
                 · rw [if_neg q] at h4; omega)] at hp; exact hp
theorem p_has {s k : Nat} (hs : s < 64) (hk : k < 6) {post : Int32 → Prop} (hp : post (bi (s / 2 ^ k % 2 = 1))) : w_X7_has (nI s) (nI k) post := by
  unfold w_X7_has
  have hm2 : s / 2 ^ k % 2 < 2 := Nat.mod_lt _ (by decide)
  simp (disch := omega) only [liN, get_bit k hk s hs, nIinj]
  refine ⟨fun h => ?_, fun h => ?_⟩
  · rw [bi_t h] at hp; exact hp
  · rw [bi_f h] at hp; exact hp
theorem p_isFit {m : BX7} {g : Nat → Nat} {T r k : Nat} (hM : AgN m.1 r g) (hO : OKg T g) (hr : r ≤ 108) (hk : k < g 22) (hf : g (10 + k) < g 21) {post : Int32 → Prop} (hp : post (bi (g (6 + k) = g (23 + g (10 + k))))) : w_X7_isFit m (nI r) (nI k) post := by
  obtain ⟨b1, b2, b3, b4, b5, b6⟩ := hO.1
  obtain ⟨⟨o0, o1⟩, o2, o3, o4, o5⟩ := hO.2.2.1 k hk
  have h6 := hM.at 6 k (by omega) (by omega)
  have h10 := hM.at 10 k (by omega) (by omega)
  have h23 := hM.at 23 (g (10 + k)) (by omega) (by omega)
  have hw := (hO.2.1 _ hf).2
  unfold w_X7_isFit
  simp (disch := omega) only [liN, nI_add, nIcl, h6, h10, h23, nIinj]
  refine ⟨nIin (by omega) (by omega), nIin (by omega) (by omega), nIin (by omega) (by omega), fun h => ?_, fun h => ?_⟩
  · rw [bi_t h] at hp; exact hp
  · rw [bi_f h] at hp; exact hp
theorem p_guards {h t : Nat} {post : Int32 → Prop} (hh : h < 100) (ht : t < 100000) (hp : post (nI (if t % 3 = 2 then 0 else h))) : w_X7_guards (nI h) (nI t) post := p_guarding hh ht hp
theorem p_lies {m : BX7} {g : Nat → Nat} {T r k : Nat} (hM : AgN m.1 r g) (hO : OKg T g) (hr : r ≤ 108) (hk : k < g 22) {post : Int32 → Prop} (hp : post (nI (glie g k))) : w_X7_lies m (nI r) (nI k) post := by
  obtain ⟨b1, b2, b3, b4, b5, b6⟩ := hO.1
  obtain ⟨⟨o0, o1⟩, o2, o3, o4, o5⟩ := hO.2.2.1 k hk
  have h0 := hM 0 (by omega) (by omega)
  have h10 := hM.at 10 k (by omega) (by omega)
  have h28 := hM.at 28 k (by omega) (by omega)
  have h32 := hM.at 32 k (by omega) (by omega)
  have h20 := hM 20 (by omega) (by omega)
  unfold w_X7_lies
  simp (disch := omega) only [liN, nI_add, nIcl, h0, h10, h28, h32, h20, nIinj]
  refine ⟨nIin (by omega) (by omega), fun x1 e1 => ⟨nIin (by omega) (by omega), fun x2 e2 => ⟨nIin (by omega) (by omega), fun h => ?_, fun h => ⟨nIin (by omega) (by omega), fun x3 e3 => ?_⟩⟩⟩⟩
  · unfold glie at hp
    rw [if_neg (by omega)] at hp; exact hp
  · have hf : g (10 + k) < g 21 := by omega
    unfold glie at hp
    rw [if_pos hf] at hp
    subst e1 e2 e3
    simp (disch := omega) only [nIinj, nIrem2, nIdiv, pk_mul]
    unfold gl at hp
    refine ⟨fun h1 => ⟨nIin (by omega) (by omega), ?_⟩, fun h1 => ⟨fun h2 => ?_, fun h2 => ⟨fun h3 => ?_, fun h3 => ⟨fun h4 => ?_, fun h4 => ?_⟩⟩⟩⟩
    · rw [if_pos h1] at hp
      refine ⟨fun h5 => ?_, fun h5 => ?_⟩
      · rw [if_pos h5] at hp; exact hp
      · rw [if_neg h5] at hp; exact hp
    · rw [if_neg h1, if_pos h2] at hp
      refine p_isFit hM hO hr hk hf ?_
      rw [← liN 0, bi_0]
      refine ⟨fun h5 => ?_, fun h5 => ?_⟩
      · rw [if_neg h5] at hp; exact hp
      · rw [if_pos (Decidable.not_not.mp h5)] at hp; exact hp
    · rw [if_neg h1, if_neg h2, if_pos h3] at hp
      exact p_guards (by omega) (by omega) hp
    · rw [if_neg h1, if_neg h2, if_neg h3, if_pos h4] at hp
      refine p_guards (by omega) (by omega) ?_
      generalize hz : (if g 0 % 3 = 2 then 0 else g (32 + k)) = z at hp ⊢
      have hzb : z ≤ 9 := by rw [← hz]; split <;> omega
      intro x hx
      rw [nI_add] at hx
      subst hx
      simp (disch := omega) only [nIle]
      refine ⟨fun h5 => ?_, fun h5 => ?_⟩
      · rw [if_neg (by omega)] at hp; exact hp
      · rw [if_pos (by omega)] at hp; exact hp
    · rw [if_neg h1, if_neg h2, if_neg h3, if_neg h4] at hp
      exact hp
/-- who is awake, by who nods -/
def awn (s k : Nat) : Bool := !awb s k
theorem p_lighter {m : BX7} {g : Nat → Nat} {T r c s : Nat} (hM : AgN m.1 r g) (hO : OKg T g) (hr : r ≤ 108) (hc : c < g 21) (hs : s < 16) {post : Int32 → Prop} (hp : post (nI (gli g c (awn s) (g 22)))) : w_X7_lighter m (nI r) (nI c) (nI s) post := by
  obtain ⟨b1, b2, b3, b4, b5, b6⟩ := hO.1
  have h22 := hM 22 (by omega) (by omega)
  unfold w_X7_lighter
  refine up_inv (fun n i (x : Int32) => wL_X7_lighter_6 (nI r) (nI c) (nI s) m post (fun x => post x) n x i) (g 22) (fun j x => x = nI (gli g c (awn s) j)) ?_ ?_ 0 rfl
  · intro n x hx
    subst hx
    show wL_X7_lighter_6 _ _ _ _ _ _ _ _ _
    unfold wL_X7_lighter_6
    simp (disch := omega) only [liN, nI_add, nIcl, h22]
    exact ⟨nIin (by omega) (by omega), fun _ => hp, fun h => absurd (Int32.le_refl _) h⟩
  · intro n j x hj hx ih
    subst hx
    show wL_X7_lighter_6 _ _ _ _ _ _ _ _ _
    unfold wL_X7_lighter_6
    obtain ⟨⟨o0, o1⟩, o2, o3, o4, o5⟩ := hO.2.2.1 j hj
    have h10 := hM.at 10 j (by omega) (by omega)
    have hmj := gli_le hO (c := c) (aw := awn s) j (by omega)
    have hl := glie_le hO hj
    simp (disch := omega) only [liN, nI_add, nIcl, h22, h10, nIle, nIinj, nI_1]
    refine ⟨nIin (by omega) (by omega), fun h => absurd h (by omega), fun _ => ⟨nIin (by omega) (by omega), fun h => ?_, fun h => ?_⟩⟩
    · have hf : g (10 + j) < g 21 := by omega
      refine p_has (by omega) (by omega) ?_
      rw [← liN 0, bi_0]
      have hgl : glie g j = gl g j c (g 0) := by unfold glie; rw [if_pos hf, h]
      refine ⟨fun h1 => ?_, fun h1 => ?_⟩
      · have haw : awn s j = true := by unfold awn awb; simp [h1]
        have key : ∀ v, v = gtk g j c (g 0) → (nI v ≤ nI (gli g c (awn s) j) → wL_X7_lighter_6 (nI r) (nI c) (nI s) m post (fun x => post x) n (nI (gli g c (awn s) j)) (nI (j + 1))) ∧ (¬ nI v ≤ nI (gli g c (awn s) j) → wL_X7_lighter_6 (nI r) (nI c) (nI s) m post (fun x => post x) n (nI v) (nI (j + 1))) := by
          intro v hv
          have hv18 : v ≤ 18 := by rw [hv]; unfold gtk; rw [← hgl]; split <;> omega
          rw [nIle (by omega) (by omega)]
          refine ⟨fun h2 => ih _ ?_, fun h2 => ih _ ?_⟩
          · rw [gli_s, if_pos ⟨h, haw⟩, ← hv, if_neg (by omega)]
          · rw [gli_s, if_pos ⟨h, haw⟩, ← hv, if_pos (by omega)]
        refine p_isFit hM hO hr hj hf ?_
        rw [bi_0]
        unfold wpJ
        refine ⟨fun h2 => ?_, fun h2 => ?_⟩
        · refine p_lies hM hO hr hj ?_
          rw [nIdiv (by omega) (by omega) (by omega)]
          exact key _ (by unfold gtk; rw [if_neg (by rw [← h]; exact h2), hgl])
        · refine p_lies hM hO hr hj ?_
          exact key _ (by unfold gtk; rw [if_pos (by rw [← h]; exact Decidable.not_not.mp h2), hgl])
      · refine ih _ ?_
        rw [gli_s, if_neg (fun q => by have := q.2; unfold awn awb at this; simp at this; omega)]
    · refine ih _ ?_
      rw [gli_s, if_neg (fun q => h q.1)]
theorem p_restsIn {m : BX7} {g : Nat → Nat} {T r : Nat} (hM : AgM m.1 r g) (hO : OKg T g) (hr : r ≤ 108) {post : Int32 → Prop} (hp : post (nI (grs g))) : w_X7_restsIn m (nI r) post := by
  obtain ⟨b1, b2, b3, b4, b5, b6⟩ := hO.1
  have h21 := hM 21 (by omega)
  have h19 := hM 19 (by omega)
  unfold w_X7_restsIn
  refine up_inv (fun n i (x : Int32) => wL_X7_restsIn_4 (nI r) m post (fun x => post x) n x i) (g 21) (fun j x => x = nI (bits (fun c => decide (g (1 + c) ≤ g 19)) j)) ?_ ?_ 0 rfl
  · intro n x hx
    subst hx
    show wL_X7_restsIn_4 _ _ _ _ _ _ _
    unfold wL_X7_restsIn_4
    simp (disch := omega) only [liN, nI_add, nIcl, h21]
    exact ⟨nIin (by omega) (by omega), fun _ => hp, fun h => absurd (Int32.le_refl _) h⟩
  · intro n j x hj hx ih
    subst hx
    show wL_X7_restsIn_4 _ _ _ _ _ _ _
    unfold wL_X7_restsIn_4
    have h1 := hM.at 1 j (by omega)
    have o1 := (hO.2.1 j hj).1
    have hb := bits_lt (fun c => decide (g (1 + c) ≤ g 19)) j
    have hb2 := pow5 (show j ≤ 5 by omega)
    simp (disch := omega) only [liN, nI_add, nIcl, h21, h19, h1, nIle, nIlt, nI_1]
    refine ⟨nIin (by omega) (by omega), fun h => absurd h (by omega), fun _ => ⟨nIin (by omega) (by omega), nIin (by omega) (by omega), fun h => fun x hx => ?_, fun h => fun x hx => ?_⟩⟩
    · refine ih _ ?_
      rw [bits_s, if_neg (by simp; omega), Nat.add_zero, hx]
      show nI _ ||| 0 = _
      exact Int32.or_zero
    · rw [or_bit j (by omega) _ (by omega) hb] at hx
      subst hx
      refine ih _ ?_
      rw [bits_s, if_pos (by simp; omega)]
theorem p_weightsIn {m : BX7} {g : Nat → Nat} {T r : Nat} (hM : AgM m.1 r g) (hO : OKg T g) (hr : r ≤ 108) {post : Int32 → Prop} (hp : post (nI (fb_sm (fun c => g (1 + c)) (g 21)))) : w_X7_weightsIn m (nI r) post := by
  obtain ⟨b1, b2, b3, b4, b5, b6⟩ := hO.1
  have h21 := hM 21 (by omega)
  unfold w_X7_weightsIn
  refine up_inv (fun n i (x : Int32) => wL_X7_weightsIn_4 (nI r) m post (fun x => post x) n x i) (g 21) (fun j x => x = nI (fb_sm (fun c => g (1 + c)) j)) ?_ ?_ 0 rfl
  · intro n x hx
    subst hx
    show wL_X7_weightsIn_4 _ _ _ _ _ _ _
    unfold wL_X7_weightsIn_4
    simp (disch := omega) only [liN, nI_add, nIcl, h21]
    exact ⟨nIin (by omega) (by omega), fun _ => hp, fun h => absurd (Int32.le_refl _) h⟩
  · intro n j x hj hx ih
    subst hx
    show wL_X7_weightsIn_4 _ _ _ _ _ _ _
    unfold wL_X7_weightsIn_4
    have h1 := hM.at 1 j (by omega)
    simp (disch := omega) only [liN, nI_add, nIcl, h21, h1, nIle, nI_1]
    refine ⟨nIin (by omega) (by omega), fun h => absurd h (by omega), fun _ => ⟨nIin (by omega) (by omega), fun x hx => ?_⟩⟩
    subst hx
    exact ih _ rfl
theorem p_earnedOfAll {m : BX7} {g : Nat → Nat} {T : Nat} (hM : AgM m.1 0 g) (hO : OKg T g) {post : Int32 → Prop} (hp : post (nI (fb_sm (fun k => g (14 + k)) (g 22)))) : w_X7_earnedOfAll m post := by
  obtain ⟨b1, b2, b3, b4, b5, b6⟩ := hO.1
  have h22 := hM 22 (by omega)
  rw [Nat.zero_add] at h22
  unfold w_X7_earnedOfAll
  refine up_inv (fun n i (x : Int32) => wL_X7_earnedOfAll_4 m post (fun x => post x) n x i) (g 22) (fun j x => x = nI (fb_sm (fun k => g (14 + k)) j)) ?_ ?_ 0 rfl
  · intro n x hx
    subst hx
    show wL_X7_earnedOfAll_4 _ _ _ _ _ _
    unfold wL_X7_earnedOfAll_4
    simp (disch := omega) only [liN, nI_add, nIcl, h22]
    exact ⟨nIin (by omega) (by omega), fun _ => hp, fun h => absurd (Int32.le_refl _) h⟩
  · intro n j x hj hx ih
    subst hx
    show wL_X7_earnedOfAll_4 _ _ _ _ _ _
    unfold wL_X7_earnedOfAll_4
    have h1 := hM.at 14 j (by omega)
    rw [Nat.zero_add] at h1
    simp (disch := omega) only [liN, nI_add, nIcl, h22, h1, nIle, nI_1]
    refine ⟨nIin (by omega) (by omega), fun h => absurd h (by omega), fun _ => ⟨nIin (by omega) (by omega), fun x hx => ?_⟩⟩
    subst hx
    exact ih _ rfl
theorem gli_cong {T : Nat} {g : Nat → Nat} (aw aw' : Nat → Bool) {c : Nat} : ∀ n, (∀ k, k < n → aw k = aw' k) → gli g c aw n = gli g c aw' n
  | 0, _ => rfl
  | n + 1, h => by rw [gli_s, gli_s, gli_cong (T := T) aw aw' n (fun k hk => h k (by omega)), h n (by omega)]
theorem gpass_cong {T : Nat} {g : Nat → Nat} (hO : OKg T g) {aw aw' : Nat → Bool} (h : ∀ k, k < 4 → aw k = aw' k) : gpass g aw = gpass g aw' := by
  obtain ⟨b1, b2, b3, b4, b5, b6⟩ := hO.1
  funext j
  unfold gpass
  rw [gli_cong (T := T) aw aw' (g 22) (fun k hk => h k (by omega))]
  by_cases h1 : 14 ≤ j ∧ j < 14 + g 22
  · rw [h (j - 14) (by omega)]
  · rw [if_neg h1, if_neg h1]
/-- the law's own night: all awake -/
def aw1 : Nat → Bool := fun _ => true
theorem awb_15 : ∀ k, k < 4 → awb 15 k = aw1 k := by decide
theorem awn_0 : ∀ k, k < 4 → awn 0 k = aw1 k := by decide
theorem p_copyAll {m : BX7} {r1 r2 : Nat} (h1 : r1 ≤ 108) (h2 : r2 ≤ 108) (hd : r1 + 36 ≤ r2 ∨ r2 + 36 ≤ r1) {post : BX7 → Prop} (hp : ∀ w', (∀ k, k < 36 → w' (r2 + k) = m.1 (r1 + k)) → (∀ j, (j < r2 ∨ r2 + 36 ≤ j) → w' j = m.1 j) → post (w', m.2)) : w_X7_copyAll m (nI r1) (nI r2) post := by
  unfold w_X7_copyAll
  refine up_inv (fun n i (u : BX7) => wL_X7_copyAll_2 (nI r1) (nI r2) post (fun u => post u) n i u) 36 (fun j u => u.2 = m.2 ∧ ∀ i, u.1 i = if r2 ≤ i ∧ i < r2 + j then m.1 (r1 + (i - r2)) else m.1 i) ?_ ?_ m ⟨rfl, fun i => by rw [if_neg (by omega)]⟩
  · intro n u hu
    obtain ⟨e, hw⟩ := hu
    show wL_X7_copyAll_2 _ _ _ _ _ _ _
    unfold wL_X7_copyAll_2
    refine ⟨fun _ => ?_, fun h => absurd (Int32.le_refl _) h⟩
    have h := hp u.1 (fun k hk => by rw [hw, if_pos (by omega), show r1 + (r2 + k - r2) = r1 + k by omega]) (fun j hj => by rw [hw, if_neg (by omega)])
    rw [← e] at h
    exact h
  · intro n j u hj hu ih
    obtain ⟨e, hw⟩ := hu
    show wL_X7_copyAll_2 _ _ _ _ _ _ _
    unfold wL_X7_copyAll_2
    simp (disch := omega) only [liN, nI_add, nIcl, nIle, nI_1]
    refine ⟨fun h => absurd h (by omega), fun _ => ⟨nIin (by omega) (by omega), nIin (by omega) (by omega), ih _ ⟨e, ?_⟩⟩⟩
    intro i
    show upd u.1 (r2 + j) (u.1 (r1 + j)) i = _
    rw [upd_at]
    by_cases hi : i = r2 + j
    · subst hi
      rw [if_pos rfl, if_pos (by omega), hw, if_neg (by omega), show r1 + (r2 + j - r2) = r1 + j by omega]
    · rw [if_neg hi, hw]
      by_cases h3 : r2 ≤ i ∧ i < r2 + j
      · rw [if_pos h3, if_pos (by omega)]
      · rw [if_neg h3, if_neg (by omega)]
