/-! the relation between the class's state and the reference's -/
def TapeR (up : BX5) (tape : Nat → Int32) (taped : Int32) : Prop := ∃ n, n ≤ 100 ∧ up.2.1 = nI n ∧ taped = nI n ∧ ∀ k, k < n → ∃ b, b < 256 ∧ up.1 k = nI b ∧ tape k = nI b
def TraceR (uk : BX2) (trace : Nat → Int32) (traced : Int32) : Prop := ∃ n, n ≤ 16 ∧ uk.2 = nI n ∧ traced = nI n ∧ ∀ k, k < n → uk.1 k = trace k
def RowR (rs : Nat → BX3) (rows rowSize rowLane : Nat → Int32) : Prop := ∀ r, r < 8 → ((rs r).2.2 = -1 ∧ rowSize r = -1) ∨ (∃ n l, n ≤ 40 ∧ l ≤ 2 ∧ (rs r).2.2 = nI n ∧ rowSize r = nI n ∧ (rs r).2.1 = nI l ∧ rowLane r = nI l ∧ ∀ i, i < 40 → (rs r).1 i = rows (40 * r + i))
def ImgR (ms : Nat → BX1) (w isKept : Nat → Int32) : Prop := ∀ k, k < 2 → (isKept k = 0 ∧ (ms k).2.2.2.2.2.2.2.1 = nI 0) ∨ (isKept k = 1 ∧ ∃ g, OKg 999 g ∧ 0 < g 21 ∧ AgX (ms k) g ∧ AgM w (36 * (1 + k)) g)
def LogX (log : Nat → Int32) (p : Nat) (h : Nat → Nat) : Prop := log p = nI (h 0) ∧ (∀ c, c < h 21 → log (p + 1 + c) = nI (h (1 + c))) ∧ ∀ k, k < h 22 → log (p + 6 + k) = nI (h (6 + k)) ∧ log (p + 10 + k) = nI (h (10 + k)) ∧ log (p + 14 + k) = nI (h (14 + k))
/-- the acts kept, oldest first -/
def ActX (ua : BX0) (n : Nat) (hs : Nat → Nat → Nat) : Prop := n ≤ 24 ∧ ua.2.2 = nI n ∧ ∃ f, f < 24 ∧ ua.2.1 = nI f ∧ ∀ i, i < n → LogX ua.1 ((f + i) % 24 * 18) (hs i)
def ActM (acts : Nat → Int32) (acted : Int32) (n : Nat) (hs : Nat → Nat → Nat) : Prop := acted = nI n ∧ ∀ i, i < n → ∀ j, j < 18 → acts (18 * i + j) = nI (hs i j)
def ActR (ua : BX0) (acts : Nat → Int32) (acted : Int32) (g : Nat → Nat) : Prop := ∃ n hs, ActX ua n hs ∧ ActM acts acted n hs ∧ ∀ i, i < n → OKg 999 (hs i) ∧ ∀ j, 18 ≤ j → hs i j = g j
def RR (ux : BX6) (un : BX1) (up : BX5) (ua : BX0) (uk : BX2) (rs : Nat → BX3) (ms : Nat → BX1) (m : BX7) : Prop :=
  ∃ g, (AgX un g ∧ AgM m.1 0 g ∧ OKg 999 g) ∧ ActR ua m.2.2.1 m.2.2.2.1 g ∧ ImgR ms m.1 m.2.1 ∧ RowR rs m.2.2.2.2.1 m.2.2.2.2.2.1 m.2.2.2.2.2.2.1 ∧ TapeR up m.2.2.2.2.2.2.2.2.1 m.2.2.2.2.2.2.2.2.2.1 ∧ TraceR uk m.2.2.2.2.2.2.2.2.2.2.2.1 m.2.2.2.2.2.2.2.2.2.2.2.2.1 ∧ ux.1 = m.2.2.2.2.2.2.2.2.2.2.1 ∧ ux.2 = m.2.2.2.2.2.2.2.1
theorem RR.trial {ux : BX6} {un : BX1} {up : BX5} {ua : BX0} {uk : BX2} {rs : Nat → BX3} {ms : Nat → BX1} {m : BX7} (h : RR ux un up ua uk rs ms m) {w' : Nat → Int32} (hw : ∀ j, j < 108 → w' j = m.1 j) : RR ux un up ua uk rs ms (w', m.2) := by
  obtain ⟨g, ⟨h1, h2, h3⟩, h4, h5, h6⟩ := h
  refine ⟨g, ⟨h1, fun k hk => (hw _ (by omega)).trans (h2 k hk), h3⟩, h4, fun k hk => ?_, h6⟩
  rcases h5 k hk with h | ⟨a, g2, b, c, d, e⟩
  · exact Or.inl h
  · exact Or.inr ⟨a, g2, b, c, d, fun j hj => (hw _ (by omega)).trans (e j hj)⟩
theorem p_isWithin {a b c : Int32} {post : Int32 → Prop} (hp : post (bi (b.toInt ≤ a.toInt ∧ a.toInt ≤ c.toInt))) : w_X6_isWithin a b c post := by
  unfold w_X6_isWithin
  rw [i32_lt, i32_lt]
  refine ⟨fun h => ?_, fun h => ⟨fun h2 => ?_, fun h2 => ?_⟩⟩
  · rw [bi_f (by omega)] at hp; exact hp
  · rw [bi_f (by omega)] at hp; exact hp
  · rw [bi_t (by omega)] at hp; exact hp
theorem nI_range2 {c : Int32} {N : Nat} (h : 0 ≤ c.toInt ∧ c.toInt ≤ N) (hN : N < 2147483647) : ∃ k, k ≤ N ∧ c = nI k := by
  obtain ⟨k, hk, e⟩ := nI_range (c := c) (N := N + 1) (by omega) (by omega)
  exact ⟨k, by omega, e⟩
theorem l64_0 : (0 : Int64).toInt = 0 := rfl
theorem l64_60 : (60 : Int64).toInt = 60 := rfl
theorem l64_255 : (255 : Int64).toInt = 255 := rfl
theorem l32_60 : (60 : Int32).toInt = 60 := rfl
theorem l32_255 : (255 : Int32).toInt = 255 := rfl
section OPS
variable {ux : BX6} {un ut : BX1} {up : BX5} {ua : BX0} {us : BX4} {uk : BX2} {rs : Nat → BX3} {ms : Nat → BX1} {m : BX7} {a0 a1 a2 a3 a4 : Int32}
theorem op_status (hR : RR ux un up ua uk rs ms m) {P : Int32 → Int32 → Prop} (hp : ∀ r, P r r) : w_X6_status ux (fun r => w_X7_status m (fun r2 => P r r2)) := by
  obtain ⟨g, _, _, _, _, _, _, _, h⟩ := hR
  show P ux.2 _
  rw [h]
  exact hp _
theorem op_fault (hR : RR ux un up ua uk rs ms m) {P : Int32 → Int32 → Prop} (hp : ∀ r, P r r) : w_X6_fault ux (fun r => w_X7_fault m (fun r2 => P r r2)) := by
  obtain ⟨g, _, _, _, _, _, _, h, _⟩ := hR
  show P ux.1 _
  rw [h]
  exact hp _
theorem sel1 {A B : Prop} (h : B) : ((1 : Int32) = 0 → A) ∧ (¬ (1 : Int32) = 0 → B) := ⟨fun q => absurd q (by decide), fun _ => h⟩
theorem sel0 {A B : Prop} (h : A) : ((0 : Int32) = 0 → A) ∧ (¬ (0 : Int32) = 0 → B) := ⟨fun _ => h, fun q => absurd rfl q⟩
theorem p_isSpan {a : Int32} {post : Int32 → Prop} (hp : post (bi (0 ≤ a.toInt ∧ a.toInt ≤ (60 : Nat)))) : w_X7_isSpan a post := by
  unfold w_X7_isSpan
  refine p_in ⟨bi_bz, ?_⟩
  rw [t64, l64_0, l64_60]
  exact hp
theorem p_isWithin60 {a : Int32} {post : Int32 → Prop} (hp : post (bi (0 ≤ a.toInt ∧ a.toInt ≤ (60 : Nat)))) : w_X6_isWithin a 0 60 post := by
  refine p_isWithin ?_
  rw [lit_toInt0, l32_60]
  exact hp
theorem git_st {T : Nat} {g : Nat → Nat} (hO : OKg T g) {j : Nat} (h : 6 ≤ j) (h2 : j < 14 ∨ 18 ≤ j) : ∀ d, T + d ≤ 5000 → git g d j = g j
  | 0, _ => rfl
  | d + 1, hd => by rw [git_s, gp_st (git_ok hO d (by omega)) _ h h2]; exact git_st hO h h2 d (by omega)
theorem op_weight (hR : RR ux un up ua uk rs ms m) {P : Int32 → BX1 → Int32 → BX7 → Prop} (hp : ∀ r t' m', RR ux un up ua uk rs ms m' → P r t' r m') : w_X6_weight ux un ut a0 a1 (fun r t' => w_X7_weight m a0 a1 (fun r2 m' => P r t' r2 m')) := by
  have hR0 := hR
  obtain ⟨g, ⟨hA, hM, hO⟩, _⟩ := hR
  obtain ⟨b1, b2, b3, b4, b5, b6⟩ := hO.1
  unfold w_X6_weight w_X7_weight
  refine p_hasClient hA.1.1.1 b1 ?_
  by_cases h1 : 0 ≤ a0.toInt ∧ a0.toInt < g 21
  · rw [bi_t h1]
    refine sel1 (p_isWithin60 ?_)
    by_cases h2 : 0 ≤ a1.toInt ∧ a1.toInt ≤ (60 : Nat)
    · rw [bi_t h2]
      obtain ⟨d, hd, rfl⟩ := nI_range2 h2 (by decide)
      refine sel1 (p_foretell hA hO (by omega) hd (fun t' ht => ?_))
      obtain ⟨c, hc, rfl⟩ := nI_range h1 (by omega)
      refine ⟨nIin (by omega) (by omega), p_isClient hM hO ?_⟩
      rw [bi_t h1]
      refine sel1 (p_isSpan ?_)
      rw [bi_t h2]
      refine sel1 (p_triesFrom hM hO (by omega) hd (fun w' h3 h4 => ?_))
      have hcd : c < git g d 21 := by rw [git_st hO (by omega) (by omega) d (by omega)]; exact hc
      have e1 := ht.2.1 c hcd
      have e2 := h3 (1 + c) (by omega)
      simp (disch := omega) only [liN, nI_add, nIcl]
      refine ⟨nIin (by omega) (by omega), ?_⟩
      rw [e1]
      have e3 : w' (109 + c) = nI (git g d (1 + c)) := by rw [← e2]; congr 1; omega
      show P _ _ (w' (109 + c)) _
      rw [e3]
      exact hp _ _ _ (hR0.trial h4)
    · rw [bi_f h2]
      refine sel0 (p_isClient hM hO ?_)
      rw [bi_t h1]
      refine sel1 (p_isSpan ?_)
      rw [bi_f h2]
      exact sel0 (hp _ _ _ hR0)
  · rw [bi_f h1]
    refine sel0 (p_isClient hM hO ?_)
    rw [bi_f h1]
    exact sel0 (hp _ _ _ hR0)
theorem op_earned (hR : RR ux un up ua uk rs ms m) {P : Int32 → BX1 → Int32 → BX7 → Prop} (hp : ∀ r t' m', RR ux un up ua uk rs ms m' → P r t' r m') : w_X6_earned ux un ut a0 a1 (fun r t' => w_X7_earned m a0 a1 (fun r2 m' => P r t' r2 m')) := by
  have hR0 := hR
  obtain ⟨g, ⟨hA, hM, hO⟩, _⟩ := hR
  obtain ⟨b1, b2, b3, b4, b5, b6⟩ := hO.1
  unfold w_X6_earned w_X7_earned
  refine p_hasWaker hA.1.1.2.1 b2 ?_
  by_cases h1 : 0 ≤ a0.toInt ∧ a0.toInt < g 22
  · rw [bi_t h1]
    refine sel1 (p_isWithin60 ?_)
    by_cases h2 : 0 ≤ a1.toInt ∧ a1.toInt ≤ (60 : Nat)
    · rw [bi_t h2]
      obtain ⟨d, hd, rfl⟩ := nI_range2 h2 (by decide)
      refine sel1 (p_foretell hA hO (by omega) hd (fun t' ht => ?_))
      obtain ⟨c, hc, rfl⟩ := nI_range h1 (by omega)
      refine ⟨nIin (by omega) (by omega), p_isWaker hM hO ?_⟩
      rw [bi_t h1]
      refine sel1 (p_isSpan ?_)
      rw [bi_t h2]
      refine sel1 (p_triesFrom hM hO (by omega) hd (fun w' h3 h4 => ?_))
      have hcd : c < git g d 22 := by rw [git_st hO (by omega) (by omega) d (by omega)]; exact hc
      have e1 := ht.2.2 c hcd
      have e2 := h3 (14 + c) (by omega)
      simp (disch := omega) only [liN, nI_add, nIcl]
      refine ⟨nIin (by omega) (by omega), ?_⟩
      rw [e1]
      have e3 : w' (122 + c) = nI (git g d (14 + c)) := by rw [← e2]; congr 1; omega
      show P _ _ (w' (122 + c)) _
      rw [e3]
      exact hp _ _ _ (hR0.trial h4)
    · rw [bi_f h2]
      refine sel0 (p_isWaker hM hO ?_)
      rw [bi_t h1]
      refine sel1 (p_isSpan ?_)
      rw [bi_f h2]
      exact sel0 (hp _ _ _ hR0)
  · rw [bi_f h1]
    refine sel0 (p_isWaker hM hO ?_)
    rw [bi_f h1]
    exact sel0 (hp _ _ _ hR0)
theorem p_isOpen {a : BX1} {N : Nat} (ha : a.2.2.2.2.2.2.2.1 = nI N) (hN : N ≤ 5) {post : Int32 → Prop} (hp : post (bi (0 < N))) : w_X1_isOpen a post := by
  unfold w_X1_isOpen
  rw [ha]
  simp (disch := omega) only [liN, nIle]
  refine ⟨fun h => ?_, fun h => ?_⟩
  · rw [bi_f (by omega)] at hp; exact hp
  · rw [bi_t (by omega)] at hp; exact hp
theorem op_rests (hR : RR ux un up ua uk rs ms m) {P : Int32 → BX1 → Int32 → BX7 → Prop} (hp : ∀ r t' m', RR ux un up ua uk rs ms m' → P r t' r m') : w_X6_rests ux un ut a0 (fun r t' => w_X7_rests m a0 (fun r2 m' => P r t' r2 m')) := by
  have hR0 := hR
  obtain ⟨g, ⟨hA, hM, hO⟩, _⟩ := hR
  obtain ⟨b1, b2, b3, b4, b5, b6⟩ := hO.1
  unfold w_X6_rests w_X7_rests
  refine p_isOpen hA.1.1.1 b1 ?_
  by_cases h1 : 0 < g 21
  · rw [bi_t h1]
    refine sel1 (p_isWithin60 ?_)
    by_cases h2 : 0 ≤ a0.toInt ∧ a0.toInt ≤ (60 : Nat)
    · rw [bi_t h2]
      obtain ⟨d, hd, rfl⟩ := nI_range2 h2 (by decide)
      have hOd := git_ok hO d (by omega)
      refine sel1 (p_foretell hA hO (by omega) hd (fun t' ht => p_resting ht hOd (p_isAgency hM hO ?_)))
      rw [bi_t h1]
      refine sel1 (p_isSpan ?_)
      rw [bi_t h2]
      exact sel1 (p_triesFrom hM hO (by omega) hd (fun w' h3 h4 => p_restsIn (r := 108) h3 hOd (by omega) (hp _ _ _ (hR0.trial h4))))
    · rw [bi_f h2]
      refine sel0 (p_isAgency hM hO ?_)
      rw [bi_t h1]
      refine sel1 (p_isSpan ?_)
      rw [bi_f h2]
      exact sel0 (hp _ _ _ hR0)
  · rw [bi_f h1]
    refine sel0 (p_isAgency hM hO ?_)
    rw [bi_f h1]
    exact sel0 (hp _ _ _ hR0)
theorem op_when (hR : RR ux un up ua uk rs ms m) {P : Int32 → BX1 → Int32 → BX7 → Prop} (hp : ∀ r t' m', RR ux un up ua uk rs ms m' → P r t' r m') : w_X6_when ux un ut a0 (fun r t' => w_X7_when m a0 (fun r2 m' => P r t' r2 m')) := by
  have hR0 := hR
  obtain ⟨g, ⟨hA, hM, hO⟩, _⟩ := hR
  obtain ⟨b1, b2, b3, b4, b5, b6⟩ := hO.1
  unfold w_X6_when w_X7_when
  refine p_hasClient hA.1.1.1 b1 ?_
  by_cases h1 : 0 ≤ a0.toInt ∧ a0.toInt < g 21
  · rw [bi_t h1]
    obtain ⟨c, hc, rfl⟩ := nI_range h1 (by omega)
    have hs : (1 : Int32) <<< (nI c &&& 31) = nI (2 ^ c) := shl_1 c (by omega)
    have h2 : 2 ^ c < 32 := Nat.lt_of_le_of_lt (Nat.pow_le_pow_right (by decide) (show c ≤ 4 by omega)) (by decide)
    rw [hs]
    refine sel1 (p_firstRest hA hO (by omega) h2 (fun t' => p_isClient hM hO ?_))
    rw [bi_t h1]
    exact sel1 (p_firstOf hM hO (by omega) h2 (fun w' h4 => hp _ _ _ (hR0.trial h4)))
  · rw [bi_f h1]
    refine sel0 (p_isClient hM hO ?_)
    rw [bi_f h1]
    exact sel0 (hp _ _ _ hR0)
end OPS
