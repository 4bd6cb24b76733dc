theorem up_from {σ : Type} (Wl : Nat → Int32 → σ → Prop) (N j0 : Nat) (hj0 : j0 ≤ N) (I : Nat → σ → Prop) (hx : ∀ n s, I N s → Wl (n + 1) (nI N) s) (hs : ∀ n j s, j0 ≤ j → j < N → I j s → (∀ s', I (j + 1) s' → Wl n (nI (j + 1)) s') → Wl (n + 1) (nI j) s) (s0 : σ) (h0 : I j0 s0) : ∃ n, Wl n (nI j0) s0 := by
  have key : ∀ d j s, j0 ≤ j → j + d = N → I j s → Wl (d + 1) (nI j) s := by
    intro d
    induction d with
    | zero => intro j s _ hj hI; obtain rfl : j = N := by omega
              exact hx 0 s hI
    | succ d ih => intro j s hj0 hj hI; exact hs (d + 1) j s hj0 (by omega) hI (fun s' h' => ih (j + 1) s' (by omega) (by omega) h')
  exact ⟨N - j0 + 1, key (N - j0) j0 s0 (Nat.le_refl _) (by omega) h0⟩
theorem nIor (a b : Nat) : nI a ||| nI b = nI (a ||| b) := by
  unfold nI
  apply Int32.toBitVec_inj.mp
  simp [Int32.toBitVec_or]
theorem or_pow {w a : Nat} (hw : w < 6) (ha : a < 2 ^ w) : nI a ||| nI (2 ^ w) = nI (a + 2 ^ w) := by
  have h6 : 2 ^ w ≤ 32 := Nat.pow_le_pow_right (by decide) (show w ≤ 5 by omega)
  have h := or_bit w hw a (by omega) ha
  rw [shl_1 w hw] at h
  exact h
/-- all who rested behind some of so many nights -/
def orr (g : Nat → Nat) : Nat → Nat
  | 0 => 0
  | n + 1 => orr g n ||| grs (git g n)
theorem orr_lt {T : Nat} {g : Nat → Nat} (hO : OKg T g) : ∀ n, T + n ≤ 5000 → orr g n < 32
  | 0, _ => (show (0 : Nat) < 32 by decide)
  | n + 1, h => Nat.or_lt_two_pow (n := 5) (orr_lt hO n (by omega)) (grs_lt (git_ok hO n (by omega)))
theorem or_bit0 : ∀ a, a < 32 → ∀ b, b < 32 → ∀ c, c < 5 → ((a ||| b) / 2 ^ c % 2 = 0 ↔ a / 2 ^ c % 2 = 0 ∧ b / 2 ^ c % 2 = 0) := by decide +kernel
theorem and_pow : ∀ a, a < 32 → ∀ c, c < 5 → ((a &&& 2 ^ c) = 2 ^ c ↔ ¬ a / 2 ^ c % 2 = 0) := by decide +kernel
theorem orr_bit {T : Nat} {g : Nat → Nat} (hO : OKg T g) {c : Nat} (hc : c < 5) : ∀ n, T + n ≤ 5000 → (orr g n / 2 ^ c % 2 = 0 ↔ ∀ d, d < n → ¬ (grs (git g d) &&& 2 ^ c) = 2 ^ c)
  | 0, _ => ⟨fun _ d h => absurd h (by omega), fun _ => by show 0 / 2 ^ c % 2 = 0; rw [Nat.zero_div]⟩
  | n + 1, h => by
    have hr := grs_lt (git_ok hO n (by omega))
    have ih := orr_bit hO hc n (by omega)
    show (orr g n ||| grs (git g n)) / 2 ^ c % 2 = 0 ↔ _
    rw [or_bit0 _ (orr_lt hO n (by omega)) _ hr c hc, ih]
    refine ⟨fun q d hd => ?_, fun q => ⟨fun d hd => q d (by omega), ?_⟩⟩
    · by_cases hdn : d < n
      · exact q.1 d hdn
      · rw [show d = n by omega, and_pow _ hr c hc]
        exact fun z => z q.2
    · have z := q n (by omega)
      rw [and_pow _ hr c hc] at z
      omega
theorem nI_none {d : Nat} (hd : d < 1000) : ¬ nI d = (-1000000 : Int32) := by
  intro h
  have h2 := congrArg Int32.toInt h
  rw [nIto (by omega)] at h2
  change (d : Int) = -1000000 at h2
  omega
theorem gfr_none {g : Nat → Nat} {s : Nat} : ∀ n d, n + d ≤ 100 → (gfr g s n d = -1000000 ↔ ∀ e, d ≤ e → e < d + n → ¬ (grs (git g e) &&& s) = s)
  | 0, d, _ => ⟨fun _ e h1 h2 => absurd h1 (by omega), fun _ => rfl⟩
  | n + 1, d, h => by
    have ih := gfr_none (g := g) (s := s) n (d + 1) (by omega)
    unfold gfr
    by_cases q : (grs (git g d) &&& s) = s
    · rw [if_pos q]
      exact ⟨fun z => absurd z (nI_none (by omega)), fun z => absurd q (z d (by omega) (by omega))⟩
    · rw [if_neg q, ih]
      refine ⟨fun z e h1 h2 => ?_, fun z e h1 h2 => z e (by omega) (by omega)⟩
      by_cases hed : e = d
      · rw [hed]; exact q
      · exact z e (by omega) (by omega)
theorem never_bits : ∀ C, C < 6 → ∀ r, r < 32 → (((1 : Int32) <<< (nI C &&& 31)) - (1 : Int32)) &&& (nI r ^^^ (-1 : Int32)) = nI (bits (fun c => decide (r / 2 ^ c % 2 = 0)) C) := by decide +kernel
section OPSJ
variable {ux : BX6} {un ut : BX1} {up : BX5} {ua : BX0} {us : BX4} {uk : BX2} {rs : Nat → BX3} {ms : Nat → BX1} {m : BX7} {a0 a1 a2 a3 a4 : Int32}
theorem p_neverX {g : Nat → Nat} {T : Nat} {t : BX1} (hA : AgX t g) (hO : OKg T g) (hT : T + 61 ≤ 5000) {post Kx : Int32 → BX1 → Prop} (hp : ∀ t', Kx (nI (orr g 61)) t') : ∃ n34, wL_X6_never_34 ux un post Kx n34 (nI (grs g)) (1 : Int32) t := by
  refine up_from (fun n i (s : Int32 × BX1) => wL_X6_never_34 ux un post Kx n s.1 i s.2) 61 1 (by omega) (fun j s => s.1 = nI (orr g j) ∧ AgX s.2 (git g (j - 1))) ?_ ?_ (nI (grs g), t) ⟨?_, hA⟩
  · intro n s hs
    obtain ⟨e1, e2⟩ := hs
    show wL_X6_never_34 _ _ _ _ _ _ _ _
    unfold wL_X6_never_34
    rw [e1]
    exact ⟨fun _ => hp _, fun h => absurd (by decide) h⟩
  · intro n j s hj1 hj hs ih
    obtain ⟨e1, e2⟩ := hs
    show wL_X6_never_34 _ _ _ _ _ _ _ _
    unfold wL_X6_never_34
    rw [e1, show (60 : Int32) = nI 60 from rfl, nIlt (by omega) (by omega), nI_1]
    refine ⟨fun h => absurd h (by omega), fun _ => p_night e2 (git_ok hO (j - 1) (by omega)) (fun a' h2 => ?_)⟩
    rw [← git_s, show j - 1 + 1 = j by omega] at h2
    refine p_resting h2 (git_ok hO j (by omega)) (fun x hx => ?_)
    rw [nIor] at hx
    subst hx
    exact ih (nI (orr g j ||| grs (git g j)), a') ⟨rfl, h2⟩
  · show nI (grs g) = nI (0 ||| grs (git g 0))
    rw [Nat.zero_or]
    rfl
theorem p_neverM {g : Nat → Nat} {T : Nat} (hM : AgM m.1 0 g) (hO : OKg T g) (hT : T + 61 ≤ 5000) {post Kx : Int32 → BX7 → Prop} (hp : ∀ w', (∀ j, j < 108 → w' j = m.1 j) → Kx (nI (bits (fun c => decide (gfr g (2 ^ c) 61 0 = -1000000)) (g 21))) (w', m.2)) : ∃ n14, wL_X7_never_14 post Kx n14 (0 : Int32) (0 : Int32) m := by
  obtain ⟨b1, b2, b3, b4, b5, b6⟩ := hO.1
  refine up_inv (fun n i (s : Int32 × BX7) => wL_X7_never_14 post Kx n s.1 i s.2) (g 21) (fun j s => ∃ w', s = (nI (bits (fun c => decide (gfr g (2 ^ c) 61 0 = -1000000)) j), w', m.2) ∧ ∀ i, i < 108 → w' i = m.1 i) ?_ ?_ (nI 0, m) ⟨m.1, rfl, fun _ _ => rfl⟩
  · intro n s hs
    obtain ⟨w', rfl, h⟩ := hs
    have e : w' 21 = nI (g 21) := by rw [h 21 (by omega)]; have := hM 21 (by omega); rw [Nat.zero_add] at this; exact this
    show wL_X7_never_14 _ _ _ _ _ _
    unfold wL_X7_never_14
    simp (disch := omega) only [liN, nIcl, e]
    exact ⟨nIin (by omega) (by omega), fun _ => hp w' h, fun h => absurd (Int32.le_refl _) h⟩
  · intro n j s hj hs ih
    obtain ⟨w', rfl, h⟩ := hs
    have e : w' 21 = nI (g 21) := by rw [h 21 (by omega)]; have := hM 21 (by omega); rw [Nat.zero_add] at this; exact this
    have hsh : (1 : Int32) <<< (nI j &&& 31) = nI (2 ^ j) := shl_1 j (by omega)
    have h32 : 2 ^ j < 32 := Nat.lt_of_le_of_lt (Nat.pow_le_pow_right (by decide) (show j ≤ 4 by omega)) (by decide)
    have hbl := bits_lt (fun c => decide (gfr g (2 ^ c) 61 0 = -1000000)) j
    show wL_X7_never_14 _ _ _ _ _ _
    unfold wL_X7_never_14
    rw [hsh, show (21 : Int32).toNatClampNeg = 21 from rfl]
    show vp_in (21 : Int32) 144 ∧ ((w' 21 ≤ nI j → _) ∧ (¬ w' 21 ≤ nI j → _))
    rw [e, nIle (by omega) (by omega), nI_1]
    refine ⟨nIin (n := 21) (by omega) (by omega), fun h => absurd h (by omega), fun _ => p_firstOf (m := (w', m.2)) (g := g) (T := T) (fun k hk => (h _ (by omega)).trans (hM k hk)) hO hT h32 (fun w2 h2 => ⟨fun h3 x hx => ?_, fun h3 x hx => ?_⟩)⟩
    · rw [or_pow (by omega) hbl] at hx
      subst hx
      refine ih (nI (bits (fun c => decide (gfr g (2 ^ c) 61 0 = -1000000)) j + 2 ^ j), w2, m.2) ⟨w2, ?_, fun i hi => (h2 i hi).trans (h i hi)⟩
      rw [bits_s, if_pos (by simp [h3])]
    · have hx2 : x = nI (bits (fun c => decide (gfr g (2 ^ c) 61 0 = -1000000)) j) := by rw [hx]; exact Int32.or_zero
      subst hx2
      refine ih (nI (bits (fun c => decide (gfr g (2 ^ c) 61 0 = -1000000)) j), w2, m.2) ⟨w2, ?_, fun i hi => (h2 i hi).trans (h i hi)⟩
      rw [bits_s, if_neg (by simp [h3]), Nat.add_zero]
theorem op_never (hR : RR ux un up ua uk rs ms m) {P : Int32 → BX1 → Int32 → BX7 → Prop} (hp : ∀ r t' m', RR ux un up ua uk rs ms m' → P r t' r m') : w_X6_never ux un ut (fun r t' => w_X7_never m (fun r2 m' => P r t' r2 m')) := by
  have hR0 := hR
  obtain ⟨g, ⟨hA, hM, hO⟩, _⟩ := hR
  obtain ⟨b1, b2, b3, b4, b5, b6⟩ := hO.1
  unfold w_X6_never
  refine p_isOpen hA.1.1.1 b1 ?_
  by_cases h1 : 0 < g 21
  · rw [bi_t h1]
    refine sel1 (p_copyFrom hA hO (fun t' ht => p_resting ht hO (p_neverX ht hO (by omega) (fun t2 => ?_))))
    rw [hA.1.1.1, never_bits _ (by omega) _ (orr_lt hO 61 (by omega))]
    unfold w_X7_never
    refine p_isAgency hM hO ?_
    rw [bi_t h1]
    refine sel1 (p_neverM hM hO (by omega) (fun w' h4 => ?_))
    have e : bits (fun c => decide (orr g 61 / 2 ^ c % 2 = 0)) (g 21) = bits (fun c => decide (gfr g (2 ^ c) 61 0 = -1000000)) (g 21) := by
      refine bits_cong (fun c hc => ?_)
      have e1 := orr_bit hO (c := c) (by omega) 61 (by omega)
      have e2 := gfr_none (g := g) (s := 2 ^ c) 61 0 (by omega)
      refine decide_eq_decide.mpr ?_
      rw [e1, e2]
      exact ⟨fun z e _ h => z e (by omega), fun z d h => z d (by omega) (by omega)⟩
    rw [e]
    exact hp _ _ _ (hR0.trial h4)
  · rw [bi_f h1]
    refine sel0 (p_isAgency hM hO ?_)
    rw [bi_f h1]
    exact sel0 (hp _ _ _ hR0)
end OPSJ
/-! kinds -/
def parN (k : Nat) : Nat := if k = 2 then 1 else if k = 3 then 1 else if k = 5 then 4 else 0
theorem stP_n : ∀ k, k < 6 → stP k = nI (parN k) := by decide
theorem parN_le (k : Nat) : parN k ≤ 5 := by
  unfold parN
  repeat' split
  all_goals omega
theorem p_parentOf {k : Nat} (hk : k ≤ 5) {post : Int32 → Prop} (hp : post (nI (parN k))) : w_X2_parentOf (nI k) post := by
  unfold w_X2_parentOf
  rw [nIcl (by omega), stP_n k (by omega)]
  refine ⟨fun h => absurd h (nI_pos (by omega)), fun _ => ⟨fun h => ?_, fun _ => ⟨nIin (by omega) (by omega), hp⟩⟩⟩
  rw [show (6 : Int32) = nI 6 from rfl, nIle (by omega) (by omega)] at h
  omega
def fK (w : Nat) : Nat → Nat → Nat
  | 0, k => k
  | n + 1, k => if k = 0 then k else if k = w then k else fK w n (parN k)
theorem p_isOfKind {k w : Nat} (hk : k ≤ 5) (hw : w ≤ 5) {post : Int32 → Prop} (hp : post (bi (fK w 5 k = w))) : w_X2_isOfKind (nI k) (nI w) post := by
  unfold w_X2_isOfKind
  have key : ∀ n s k, n + s = 5 → k ≤ 5 → post (bi (fK w n k = w)) → wL_X2_isOfKind_4 (nI w) post (fun (x4 : Int32) => (x4 = nI w → post (1 : Int32)) ∧ (¬ x4 = nI w → post (0 : Int32))) (n + 1) (nI k) (nI s) := by
    have done : ∀ k, k ≤ 5 → post (bi (k = w)) → (nI k = nI w → post (1 : Int32)) ∧ (¬ nI k = nI w → post (0 : Int32)) := by
      intro k hk h
      rw [nIinj (by omega) (by omega)]
      refine ⟨fun q => ?_, fun q => ?_⟩
      · rw [bi_t q] at h; exact h
      · rw [bi_f q] at h; exact h
    have done2 : ∀ k, k ≤ 5 → post (bi (k = w)) → (k = w → post (1 : Int32)) ∧ (¬ k = w → post (0 : Int32)) := by
      intro k hk h
      refine ⟨fun q => ?_, fun q => ?_⟩
      · rw [bi_t q] at h; exact h
      · rw [bi_f q] at h; exact h
    intro n
    induction n with
    | zero =>
      intro s k hs hk hq
      unfold wL_X2_isOfKind_4
      rw [show s = 5 by omega]
      exact ⟨fun _ => done k hk hq, fun h => absurd (Int32.le_refl _) h⟩
    | succ n ih =>
      intro s k hs hk hq
      unfold wL_X2_isOfKind_4
      unfold fK at hq
      rw [show (5 : Int32) = nI 5 from rfl, nIle (by omega) (by omega), show (nI k ≤ (0 : Int32)) = (nI k ≤ nI 0) from rfl, nIle (by omega) (by omega), nIinj (by omega) (by omega), nI_1]
      refine ⟨fun h => absurd h (by omega), fun _ => ⟨fun h => ?_, fun h => ⟨fun h2 => ?_, fun h2 => p_parentOf hk ?_⟩⟩⟩
      · rw [if_pos (by omega)] at hq
        exact done2 k hk hq
      · rw [if_neg (by omega), if_pos h2] at hq
        exact done2 k hk hq
      · rw [if_neg (by omega), if_neg h2] at hq
        exact ih (s + 1) (parN k) (by omega) (parN_le k) hq
  exact ⟨6, key 5 0 k rfl hk hp⟩
theorem fK_tab1 : ∀ k, k < 5 → ∀ w, w < 6 → (fK w 5 (k + 1) = w ↔ (w = 0 ∨ w = k + 1 ∨ (w = 1 ∧ k + 1 < 4) ∨ (w = 4 ∧ k + 1 = 5))) := by decide
theorem fK_tab (k : Nat) (hk : k < 6) (w : Nat) (hw : w < 6) (h1 : 1 ≤ k) : fK w 5 k = w ↔ (w = 0 ∨ w = k ∨ (w = 1 ∧ k < 4) ∨ (w = 4 ∧ k = 5)) := by
  obtain ⟨j, rfl⟩ : ∃ j, k = j + 1 := ⟨k - 1, by omega⟩
  exact fK_tab1 j (by omega) w hw
section OPSK
variable {ux : BX6} {un ut : BX1} {up : BX5} {ua : BX0} {us : BX4} {uk : BX2} {rs : Nat → BX3} {ms : Nat → BX1} {m : BX7} {a0 a1 a2 a3 a4 : Int32}
theorem op_as (hR : RR ux un up ua uk rs ms m) {P : Int32 → BX6 → Int32 → BX7 → Prop} (hp : ∀ r ux' m', RR ux' un up ua uk rs ms m' → P r ux' r m') : w_X6_as ux un a0 a1 (fun r ux' => w_X7_as m a0 a1 (fun r2 m' => P r ux' r2 m')) := by
  have hR0 := hR
  obtain ⟨g, ⟨hA, hM, hO⟩, _⟩ := hR
  obtain ⟨b1, b2, b3, b4, b5, b6⟩ := hO.1
  unfold w_X6_as
  refine p_hasWaker hA.1.1.2.1 b2 ?_
  by_cases h1 : 0 ≤ a0.toInt ∧ a0.toInt < g 22
  · rw [bi_t h1]
    obtain ⟨k, hk, rfl⟩ := nI_range h1 (by omega)
    obtain ⟨⟨o0, o1⟩, _⟩ := hO.2.2.1 k hk
    refine sel1 (p_isWithin ?_)
    rw [lit_toInt0, show (5 : Int32).toInt = (5 : Nat) from rfl]
    by_cases h2 : 0 ≤ a1.toInt ∧ a1.toInt ≤ (5 : Nat)
    · rw [bi_t h2]
      obtain ⟨w, hw, rfl⟩ := nI_range2 h2 (by decide)
      have e1 := (hA.1.2.2 k hk).1
      have e2 : m.1 (28 + k) = nI (g (28 + k)) := by have := hM (28 + k) (by omega); rw [Nat.zero_add] at this; exact this
      rw [nIcl (by omega), e1]
      refine sel1 ⟨nIin (by omega) (by omega), p_isOfKind o1 hw ?_⟩
      rw [bi_iff (fK_tab (g (28 + k)) (by omega) w (by omega) o0)]
      have M : ∀ Q : Int32 → BX7 → Prop, ((w = 0 ∨ w = g (28 + k) ∨ (w = 1 ∧ g (28 + k) < 4) ∨ (w = 4 ∧ g (28 + k) = 5)) → w_X7_good m (nI k) (fun r8 u9 => Q r8 u9)) → (¬ (w = 0 ∨ w = g (28 + k) ∨ (w = 1 ∧ g (28 + k) < 4) ∨ (w = 4 ∧ g (28 + k) = 5)) → w_X7_found m (3 : Int32) (fun r8 u9 => Q r8 u9)) → w_X7_as m (nI k) (nI w) Q := by
        intro Q q1 q2
        unfold w_X7_as
        refine p_isWaker hM hO ?_
        rw [bi_t h1]
        refine sel1 (p_in ?_)
        rw [t64, l64_0, show (5 : Int64).toInt = (5 : Nat) from rfl, bi_t h2]
        have e3 : (28 : Int32) + nI k = nI (28 + k) := by simp (disch := omega) only [liN, nI_add]
        rw [e3, nIcl (by omega), e2]
        refine sel1 ⟨nIin (by omega) (by omega), fun x hx => ?_⟩
        subst hx
        generalize hkd : g (28 + k) = kd at *
        unfold wpJ
        have y : (w = 0 ∨ w = kd ∨ (w = 1 ∧ kd < 4) ∨ (w = 4 ∧ kd = 5)) → ((1 : Int32) = 0 → w_X7_found m (3 : Int32) (fun r6 u7 => Q r6 u7)) ∧ (¬ (1 : Int32) = 0 → w_X7_good m (nI k) (fun r8 u9 => Q r8 u9)) := fun z => sel1 (q1 z)
        have n : ¬ (w = 0 ∨ w = kd ∨ (w = 1 ∧ kd < 4) ∨ (w = 4 ∧ kd = 5)) → ((0 : Int32) = 0 → w_X7_found m (3 : Int32) (fun r6 u7 => Q r6 u7)) ∧ (¬ (0 : Int32) = 0 → w_X7_good m (nI k) (fun r8 u9 => Q r8 u9)) := fun z => sel0 (q2 z)
        have i0 : (nI w = (0 : Int32)) = (w = 0) := propext (nIinj (b := 0) (by omega) (by omega))
        have i1 : (nI w = (1 : Int32)) = (w = 1) := propext (nIinj (b := 1) (by omega) (by omega))
        have i4 : (nI w = (4 : Int32)) = (w = 4) := propext (nIinj (b := 4) (by omega) (by omega))
        have i5 : (nI kd = (5 : Int32)) = (kd = 5) := propext (nIinj (b := 5) (by omega) (by omega))
        have i6 : (nI kd < (4 : Int32)) = (kd < 4) := propext (nIlt (b := 4) (by omega) (by omega))
        have i7 : (nI w = nI kd) = (w = kd) := propext (nIinj (by omega) (by omega))
        rw [i0, i1, i4, i5, i6, i7]
        refine ⟨fun z0 => y (by omega), fun z0 => ⟨fun z1 => y (by omega), fun z1 => ⟨fun z2 => ⟨fun z3 => y (by omega), fun z3 => ⟨fun z4 => ⟨fun z5 => y (by omega), fun z5 => n (by omega)⟩, fun z4 => n (by omega)⟩⟩, fun z2 => ⟨fun z4 => ⟨fun z5 => y (by omega), fun z5 => n (by omega)⟩, fun z4 => n (by omega)⟩⟩⟩⟩
      by_cases h3 : w = 0 ∨ w = g (28 + k) ∨ (w = 1 ∧ g (28 + k) < 4) ∨ (w = 4 ∧ g (28 + k) = 5)
      · rw [bi_t h3]
        exact sel1 (M _ (fun _ => hp _ _ _ (hR0.stat 0)) (fun q => absurd h3 q))
      · rw [bi_f h3]
        exact sel0 (M _ (fun q => absurd q h3) (fun _ => hp _ _ _ (hR0.stat 3)))
    · rw [bi_f h2]
      refine sel0 (p_isWaker hM hO ?_)
      rw [bi_t h1]
      refine sel1 (p_in ?_)
      rw [t64, l64_0, show (5 : Int64).toInt = (5 : Nat) from rfl, bi_f h2]
      exact sel0 (hp _ _ _ hR0)
  · rw [bi_f h1]
    refine sel0 (p_isWaker hM hO ?_)
    rw [bi_f h1]
    exact sel0 (hp _ _ _ hR0)
end OPSK
