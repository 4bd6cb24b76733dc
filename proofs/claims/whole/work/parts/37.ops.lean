theorem pow_clients {N : Nat} (h : N ≤ 5) : 2 ^ N ≤ 32 := pow5 h
theorem p_hasAll {a : BX1} {N : Nat} {c : Int32} (ha : a.2.2.2.2.2.2.2.1 = nI N) (hN : N ≤ 5) {post : Int32 → Prop} (hp : post (bi (0 ≤ c.toInt ∧ c.toInt < (2 ^ N : Nat)))) : w_X1_hasAll a c post := by
  have h32 := pow_clients hN
  have hs : (1 : Int32) <<< (nI N &&& 31) = nI (2 ^ N) := shl_1 N (by omega)
  unfold w_X1_hasAll
  rw [ha, hs, i32_lt, i32_le, nIto (by omega), lit_toInt0]
  refine ⟨fun h => ?_, fun h => ⟨fun h2 => ?_, fun h2 => ?_⟩⟩
  · rw [bi_f (by omega)] at hp; exact hp
  · rw [bi_f (by omega)] at hp; exact hp
  · rw [bi_t (by omega)] at hp; exact hp
theorem p_isSet {m : BX7} {g : Nat → Nat} {T : Nat} {c : Int32} (hM : AgM m.1 0 g) (hO : OKg T g) {post : Int32 → Prop} (hp : post (bi (0 ≤ c.toInt ∧ c.toInt < (2 ^ g 21 : Nat)))) : w_X7_isSet m c post := by
  have b1 := hO.1.1
  have h32 := pow_clients b1
  have h1 : 0 < 2 ^ g 21 := Nat.two_pow_pos _
  have e : m.1 21 = nI (g 21) := by have h := hM 21 (by omega); rw [Nat.zero_add] at h; exact h
  have hs : nI 1 <<< (nI (g 21) &&& nI 31) = nI (2 ^ g 21) := shl_1 (g 21) (by omega)
  unfold w_X7_isSet
  simp (disch := omega) only [liN, nIcl, e, hs]
  refine ⟨nIin (by omega) (by omega), p_in ⟨bi_bz, ?_⟩⟩
  rw [t64, t64, pk_sub_toInt (by omega) (by omega), l64_0]
  have e2 : bi ((0 : Int) ≤ c.toInt ∧ c.toInt ≤ ((2 ^ g 21 : Nat) : Int) - (1 : Nat)) = bi (0 ≤ c.toInt ∧ c.toInt < (2 ^ g 21 : Nat)) := by
    by_cases h : 0 ≤ c.toInt ∧ c.toInt < (2 ^ g 21 : Nat)
    · rw [bi_t h, bi_t (by omega)]
    · rw [bi_f h, bi_f (by omega)]
  rw [e2]
  exact hp
section OPS
variable {ux : BX6} {un ut : BX1} {up : BX5} {ua : BX0} {us : BX4} {uk : BX2} {rs : Nat → BX3} {ms : Nat → BX1} {m : BX7} {a0 a1 a2 a3 a4 : Int32}
theorem op_all (hR : RR ux un up ua uk rs ms m) {P : Int32 → BX1 → Int32 → BX7 → Prop} (hp : ∀ r t' m', RR ux un up ua uk rs ms m' → P r t' r m') : w_X6_all ux un ut a0 (fun r t' => w_X7_all m a0 (fun r2 m' => P r t' r2 m')) := by
  have hR0 := hR
  obtain ⟨g, ⟨hA, hM, hO⟩, _⟩ := hR
  obtain ⟨b1, b2, b3, b4, b5, b6⟩ := hO.1
  have h32 := pow_clients b1
  unfold w_X6_all w_X7_all
  refine p_isOpen hA.1.1.1 b1 ?_
  by_cases h1 : 0 < g 21
  · rw [bi_t h1]
    refine sel1 (p_hasAll hA.1.1.1 b1 ?_)
    by_cases h2 : 0 ≤ a0.toInt ∧ a0.toInt < (2 ^ g 21 : Nat)
    · rw [bi_t h2]
      obtain ⟨s, hs, rfl⟩ := nI_range h2 (by omega)
      refine sel1 (p_firstRest hA hO (by omega) (by omega) (fun t' => p_isAgency hM hO ?_))
      rw [bi_t h1]
      refine sel1 (p_isSet hM hO ?_)
      rw [bi_t h2]
      exact sel1 (p_firstOf hM hO (by omega) (by omega) (fun w' h4 => hp _ _ _ (hR0.trial h4)))
    · rw [bi_f h2]
      refine sel0 (p_isAgency hM hO ?_)
      rw [bi_t h1]
      refine sel1 (p_isSet hM hO ?_)
      rw [bi_f h2]
      exact sel0 (hp _ _ _ hR0)
  · rw [bi_f h1]
    refine sel0 (p_isAgency hM hO ?_)
    rw [bi_f h1]
    exact sel0 (hp _ _ _ hR0)
theorem op_kind (hR : RR ux un up ua uk rs ms m) {P : Int32 → Int32 → Prop} (hp : ∀ r, P r r) : w_X6_kind ux un a0 (fun r => w_X7_kind m a0 (fun r2 => P r r2)) := by
  obtain ⟨g, ⟨hA, hM, hO⟩, _⟩ := hR
  obtain ⟨b1, b2, b3, b4, b5, b6⟩ := hO.1
  unfold w_X6_kind w_X7_kind
  refine p_hasWaker hA.1.1.2.1 b2 ?_
  by_cases h1 : 0 ≤ a0.toInt ∧ a0.toInt < g 22
  · rw [bi_t h1]
    obtain ⟨k, hk, rfl⟩ := nI_range h1 (by omega)
    refine sel1 ⟨nIin (by omega) (by omega), p_isWaker hM hO ?_⟩
    rw [bi_t h1]
    have e1 := (hA.1.2.2 k hk).1
    have e2 := hM.at 28 k (by omega)
    rw [Nat.zero_add] at e2
    simp (disch := omega) only [liN, nI_add, nIcl, e1]
    refine ⟨fun h => absurd h (by rw [nIinj (by omega) (by omega)]; omega), fun _ => ⟨nIin (by omega) (by omega), ?_⟩⟩
    rw [e2]
    exact hp _
  · rw [bi_f h1]
    refine sel0 (p_isWaker hM hO ?_)
    rw [bi_f h1]
    exact sel0 (hp _)
theorem op_trace (hR : RR ux un up ua uk rs ms m) {P : Int32 → Int32 → Prop} (hp : ∀ r, P r r) : w_X6_trace ux uk a0 (fun r => w_X7_trace m a0 (fun r2 => P r r2)) := by
  obtain ⟨g, _, _, _, _, _, ⟨n, hn, e1, e2, hk⟩, _⟩ := hR
  unfold w_X6_trace w_X7_trace
  rw [e1, e2]
  refine p_isWithin ?_
  rw [lit_toInt0, show nI n - (1 : Int32) = nI n - nI 1 from rfl, pk_sub_toInt (by omega) (by omega)]
  by_cases h : (0 : Int) ≤ a0.toInt ∧ a0.toInt ≤ (n : Int) - (1 : Nat)
  · rw [bi_t h]
    obtain ⟨k, hk2, rfl⟩ := nI_range (c := a0) (N := n) (by omega) (by omega)
    refine sel1 ⟨nIin (by omega) (by omega), p_in ?_⟩
    rw [t64, t64, l64_0, pk_sub_toInt (by omega) (by omega), bi_t h]
    refine sel1 ⟨nIin (by omega) (by omega), ?_⟩
    rw [nIcl (by omega), hk k hk2]
    exact hp _
  · rw [bi_f h]
    refine sel0 (p_in ?_)
    rw [t64, t64, l64_0, pk_sub_toInt (by omega) (by omega), bi_f h]
    exact sel0 (hp _)
theorem op_feed (hR : RR ux un up ua uk rs ms m) {P : Int32 → BX5 → Int32 → BX7 → Prop} (hp : ∀ r up' m', RR ux un up' ua uk rs ms m' → P r up' r m') : w_X6_feed ux up a0 (fun r t' => w_X7_feed m a0 (fun r2 m' => P r t' r2 m')) := by
  have hR0 := hR
  obtain ⟨g, h1, h2, h3, h4, ⟨n, hn, e1, e2, hk⟩, h6⟩ := hR
  unfold w_X6_feed w_X7_feed
  refine p_isWithin ?_
  rw [lit_toInt0, l32_255]
  by_cases h : (0 : Int) ≤ a0.toInt ∧ a0.toInt ≤ 255
  · rw [bi_t h]
    obtain ⟨b, hb, rfl⟩ := nI_range2 (c := a0) (N := 255) (by omega) (by decide)
    refine sel1 ?_
    unfold w_X5_append
    rw [e1, show (100 : Int32) = nI 100 from rfl, nIlt (by omega) (by omega), nI_1]
    refine ⟨fun h5 => ⟨nIin (by omega) (by omega), sel1 (p_in ?_)⟩, fun h5 => sel0 (p_in ?_)⟩
    · rw [t64, l64_0, l64_255, bi_t h, e2, nIinj (by omega) (by omega), nI_1, nIcl (by omega)]
      refine sel1 ⟨fun h7 => absurd h7 (by omega), fun _ => ⟨nIin (by omega) (by omega), hp _ _ _ ⟨g, h1, h2, h3, h4, ⟨n + 1, by omega, rfl, rfl, fun k hk2 => ?_⟩, h6⟩⟩⟩
      show ∃ b', b' < 256 ∧ upd up.1 n (nI b) k = nI b' ∧ upd m.2.2.2.2.2.2.2.2.1 n (nI b) k = nI b'
      rw [upd_at, upd_at]
      by_cases hkn : k = n
      · rw [if_pos hkn, if_pos hkn]; exact ⟨b, by omega, rfl, rfl⟩
      · rw [if_neg hkn, if_neg hkn]; exact hk k (by omega)
    · rw [t64, l64_0, l64_255, bi_t h, e2, nIinj (by omega) (by omega)]
      exact sel1 ⟨fun _ => hp _ _ _ hR0, fun h7 => absurd (by omega) h7⟩
  · rw [bi_f h]
    refine sel0 (p_in ?_)
    rw [t64, l64_0, l64_255, bi_f h]
    exact sel0 (hp _ _ _ hR0)
end OPS
