theorem liN (n : Nat) : (OfNat.ofNat n : Int32) = nI n := rfl
/-! an agency as numbers: 0 night, 1.. weights, 6.. fits, 10.. for, 14.. earned, 18 is, 19 bears, 20 moon, 21 clients, 22 wakers, 23.. worries, 28.. sorts, 32.. hours -/
def gl (g : Nat → Nat) (k c t : Nat) : Nat :=
  if g (28 + k) = 2 then (if t % 7 = g 20 then 0 else g (32 + k)) else if g (28 + k) = 3 then (if g (6 + k) = g (23 + c) then 2 * g (32 + k) else g (32 + k)) else if g (28 + k) = 4 then (if t % 3 = 2 then 0 else g (32 + k)) else if g (28 + k) = 5 then (if 9 < (if t % 3 = 2 then 0 else g (32 + k)) + t / 2 then 9 else (if t % 3 = 2 then 0 else g (32 + k)) + t / 2) else g (32 + k)
def gtk (g : Nat → Nat) (k c t : Nat) : Nat := if g (6 + k) = g (23 + c) then gl g k c t else gl g k c t / 2
def gli (g : Nat → Nat) (c : Nat) (aw : Nat → Bool) : Nat → Nat
  | 0 => 0
  | n + 1 => if g (10 + n) = c ∧ aw n = true then (if gli g c aw n < gtk g n c (g 0) then gtk g n c (g 0) else gli g c aw n) else gli g c aw n
def gnw (w x : Nat) : Nat := if 0 < x then w - x else if 0 < w then (if 99 < w + 1 then 99 else w + 1) else 0
def glie (g : Nat → Nat) (k : Nat) : Nat := if g (10 + k) < g 21 then gl g k (g (10 + k)) (g 0) else 0
def gpass (g : Nat → Nat) (aw : Nat → Bool) : Nat → Nat := fun j =>
  if 1 ≤ j ∧ j < 1 + g 21 then gnw (g j) (gli g (j - 1) aw (g 22)) else if 14 ≤ j ∧ j < 14 + g 22 then g j + (if aw (j - 14) = true then glie g (j - 14) else 0) else if j = 0 then g 0 + 1 else g j
/-- a set as bits -/
def bits (p : Nat → Bool) : Nat → Nat
  | 0 => 0
  | n + 1 => bits p n + (if p n = true then 2 ^ n else 0)
def grs (g : Nat → Nat) : Nat := bits (fun c => decide (g (1 + c) ≤ g 19)) (g 21)
/-- the agency's parts that a night doesn't change, but its number -/
def AgS (a : BX1) (g : Nat → Nat) : Prop :=
  (a.2.2.2.2.2.2.2.1 = nI (g 21) ∧ a.2.2.2.2.2.2.2.2.1 = nI (g 22) ∧ a.2.2.2.2.2.2.2.2.2.1 = nI (g 19) ∧ a.2.2.2.2.2.2.2.2.2.2.1 = nI (g 20) ∧ a.2.2.2.2.2.2.2.2.2.2.2 = nI (g 0)) ∧
  (∀ c, c < g 21 → a.2.1 c = nI (g (23 + c))) ∧
  (∀ k, k < g 22 → a.2.2.1 k = nI (g (28 + k)) ∧ a.2.2.2.1 k = nI (g (32 + k)) ∧ a.2.2.2.2.1 k = nI (g (6 + k)) ∧ a.2.2.2.2.2.1 k = nI (g (10 + k)))
def AgX (a : BX1) (g : Nat → Nat) : Prop := AgS a g ∧ (∀ c, c < g 21 → a.1 c = nI (g (1 + c))) ∧ (∀ k, k < g 22 → a.2.2.2.2.2.2.1 k = nI (g (14 + k)))
def OKg (T : Nat) (g : Nat → Nat) : Prop :=
  (g 21 ≤ 5 ∧ g 22 ≤ 4 ∧ g 19 ≤ 20 ∧ g 20 ≤ 6 ∧ g 0 ≤ T ∧ T ≤ 5000) ∧ (∀ c, c < g 21 → g (1 + c) ≤ 99 ∧ g (23 + c) ≤ 5) ∧
  (∀ k, k < g 22 → (1 ≤ g (28 + k) ∧ g (28 + k) ≤ 5) ∧ g (32 + k) ≤ 9 ∧ g (6 + k) ≤ 5 ∧ (g (10 + k) < g 21 ∨ g (10 + k) = 5) ∧ g (14 + k) ≤ 18 * g 0) ∧ g 18 = (if g 21 = 0 then 0 else 1) ∧ (g 21 = 0 → g 22 = 0)
theorem gl_le {T : Nat} {g : Nat → Nat} (hO : OKg T g) {k c t : Nat} (hk : k < g 22) : gl g k c t ≤ 18 := by
  have h := (hO.2.2.1 k hk).2.1
  unfold gl
  repeat' split
  all_goals omega
theorem nIrem2 {a d : Nat} : nI a - nI (a / d * d) = nI (a % d) := by
  rw [nIsub (Nat.div_mul_le_self a d)]
  congr 1
  have h := Nat.div_add_mod a d
  rw [Nat.mul_comm] at h
  omega
theorem up_inv {σ : Type} (Wl : Nat → Int32 → σ → Prop) (N : Nat) (I : Nat → σ → Prop) (hx : ∀ n s, I N s → Wl (n + 1) (nI N) s) (hs : ∀ n j s, j < N → I j s → (∀ s', I (j + 1) s' → Wl n (nI (j + 1)) s') → Wl (n + 1) (nI j) s) (s0 : σ) (h0 : I 0 s0) : ∃ n, Wl n (nI 0) s0 := by
  have key : ∀ d j s, j + d = N → I j s → Wl (d + 1) (nI j) s := by
    intro d
    induction d with
    | zero => intro j s hj hI; obtain rfl : j = N := by omega
              exact hx 0 s hI
    | succ d ih => intro j s hj hI; exact hs (d + 1) j s (by omega) hI (fun s' h' => ih (j + 1) s' (by omega) h')
  exact ⟨N + 1, key N 0 s0 (by omega) h0⟩
theorem or_bit : ∀ w, w < 6 → ∀ a, a < 64 → a < 2 ^ w → nI a ||| (nI 1 <<< (nI w &&& nI 31)) = nI (a + 2 ^ w) := by decide +kernel
theorem get_bit : ∀ w, w < 6 → ∀ a, a < 64 → (nI a >>> (nI w &&& nI 31)) &&& nI 1 = nI (a / 2 ^ w % 2) := by decide +kernel
theorem shl_1 : ∀ w, w < 6 → nI 1 <<< (nI w &&& nI 31) = nI (2 ^ w) := by decide +kernel
theorem nIand (a b : Nat) : nI a &&& nI b = nI (a &&& b) := by
  unfold nI
  apply Int32.toBitVec_inj.mp
  simp [Int32.toBitVec_and]
theorem p_lying {a : BX1} {g : Nat → Nat} {T : Nat} (hA : AgS a g) (hO : OKg T g) {k c t : Nat} (hk : k < g 22) (hc : c ≤ 5) (ht : t < 100000) {post : Int32 → Prop} (hp : post (nI (if c < g 21 then gl g k c t else 0))) : w_X1_lying a (nI k) (nI c) (nI t) post := by
  obtain ⟨⟨e1, e2, e3, e4, e5⟩, hC, hW⟩ := hA
  obtain ⟨b1, b2, b3, b4, b5, b6⟩ := hO.1
  obtain ⟨w1, w2, w3, w4⟩ := hW k hk
  obtain ⟨⟨o0, o1⟩, o2, o3, o4, o5⟩ := hO.2.2.1 k hk
  unfold w_X1_lying
  refine p_hasWaker e2 b2 ?_
  rw [bi_t (by rw [nIto (by omega)]; omega)]
  refine ⟨fun h => absurd h (by decide), fun _ => ?_⟩
  refine p_hasClient e1 b1 ?_
  by_cases hcc : c < g 21
  · rw [bi_t (by rw [nIto (by omega)]; omega)]
    refine ⟨fun h => absurd h (by decide), fun _ => ?_⟩
    rw [if_pos hcc] at hp
    have c2 := hC c hcc
    have hO2 := (hO.2.1 c hcc).2
    simp (disch := omega) only [nIcl, w1, w2, w3, e4, c2, liN]
    refine ⟨nIin (by omega) (by omega), fun x3 e3 => ⟨nIin (by omega) (by omega), fun x4 e4 => ?_⟩⟩
    subst e3 e4
    simp (disch := omega) only [nIinj, nIrem2, nIdiv, pk_mul, nI_add]
    unfold gl at hp
    refine ⟨fun h1 => ?_, fun h1 => ⟨fun h2 => ?_, fun h2 => ⟨fun h3 => ?_, fun h3 => ⟨fun h4 => ?_, fun h4 => ?_⟩⟩⟩⟩
    · rw [if_pos h1] at hp
      refine ⟨fun h5 => ?_, fun h5 => ?_⟩
      · rw [if_pos h5] at hp; exact hp
      · rw [if_neg h5] at hp; exact hp
    · rw [if_neg h1, if_pos h2] at hp
      refine ⟨nIin (by omega) (by omega), nIin (by omega) (by omega), fun h5 => ?_, fun h5 => ?_⟩
      · rw [if_pos h5] at hp; exact hp
      · rw [if_neg h5] at hp; exact hp
    · rw [if_neg h1, if_neg h2, if_pos h3] at hp
      exact p_guarding (by omega) (by omega) hp
    · rw [if_neg h1, if_neg h2, if_neg h3, if_pos h4] at hp
      refine p_guarding (by omega) (by omega) ?_
      generalize hz : (if t % 3 = 2 then 0 else g (32 + k)) = z at hp ⊢
      have hzb : z ≤ 9 := by rw [← hz]; split <;> omega
      simp (disch := omega) only [nI_add, nIlt]
      by_cases h5 : 9 < z + t / 2
      · rw [if_pos h5] at hp
        rw [if_neg (by omega)]
        exact hp
      · rw [if_neg h5] at hp
        by_cases h6 : z + t / 2 < 9
        · rw [if_pos h6]; exact hp
        · rw [if_neg h6, show 9 = z + t / 2 by omega]; exact hp
    · rw [if_neg h1, if_neg h2, if_neg h3, if_neg h4] at hp
      exact hp
  · rw [bi_f (by rw [nIto (by omega)]; omega)]
    rw [if_neg hcc] at hp
    exact ⟨fun _ => hp, fun h => absurd rfl h⟩
theorem p_takenBy {a : BX1} {g : Nat → Nat} {T : Nat} (hA : AgS a g) (hO : OKg T g) {k c t : Nat} (hk : k < g 22) (hc : c < g 21) (ht : t < 100000) {post : Int32 → Prop} (hp : post (nI (gtk g k c t))) : w_X1_takenBy a (nI k) (nI c) (nI t) post := by
  have hA0 := hA
  obtain ⟨⟨e1, e2, e3, e4, e5⟩, hC, hW⟩ := hA
  obtain ⟨b1, b2, b3, b4, b5, b6⟩ := hO.1
  obtain ⟨w1, w2, w3, w4⟩ := hW k hk
  obtain ⟨⟨o0, o1⟩, o2, o3, o4, o5⟩ := hO.2.2.1 k hk
  have c2 := hC c hc
  have hO2 := (hO.2.1 c hc).2
  have hle := gl_le hO (c := c) (t := t) hk
  unfold w_X1_takenBy
  refine p_hasWaker e2 b2 ?_
  rw [bi_t (by rw [nIto (by omega)]; omega)]
  refine ⟨fun h => absurd h (by decide), fun _ => ?_⟩
  refine p_hasClient e1 b1 ?_
  rw [bi_t (by rw [nIto (by omega)]; omega)]
  refine ⟨fun h => absurd h (by decide), fun _ => ?_⟩
  refine p_lying hA0 hO hk (by omega) ht ?_
  rw [if_pos hc]
  unfold gtk at hp
  simp (disch := omega) only [nIcl, w3, c2, liN, nIinj, nIdiv]
  refine ⟨nIin (by omega) (by omega), nIin (by omega) (by omega), fun h => ?_, fun h => ?_⟩
  · rw [if_pos h] at hp; exact hp
  · rw [if_neg h] at hp; exact hp
def fb_sm (f : Nat → Nat) : Nat → Nat
  | 0 => 0
  | n + 1 => fb_sm f n + f n
theorem bits_s (p : Nat → Bool) (n : Nat) : bits p (n + 1) = bits p n + (if p n = true then 2 ^ n else 0) := rfl
theorem gli_s (g : Nat → Nat) (c : Nat) (aw : Nat → Bool) (n : Nat) : gli g c aw (n + 1) = if g (10 + n) = c ∧ aw n = true then (if gli g c aw n < gtk g n c (g 0) then gtk g n c (g 0) else gli g c aw n) else gli g c aw n := rfl
theorem bits_lt (p : Nat → Bool) : ∀ n, bits p n < 2 ^ n
  | 0 => by simp [bits]
  | n + 1 => by
    have h := bits_lt p n
    have e : 2 ^ (n + 1) = 2 ^ n + 2 ^ n := by rw [Nat.pow_succ]; omega
    unfold bits
    split <;> omega
theorem bits_bit (p : Nat → Bool) : ∀ n w, w < n → bits p n / 2 ^ w % 2 = if p w = true then 1 else 0
  | 0, w, h => absurd h (Nat.not_lt_zero w)
  | n + 1, w, h => by
    unfold bits
    by_cases hw : w = n
    · subst hw
      have hl := bits_lt p w
      have hp : 0 < 2 ^ w := Nat.two_pow_pos w
      split
      · rw [Nat.add_div_right _ hp, Nat.div_eq_of_lt hl]
      · rw [Nat.add_zero, Nat.div_eq_of_lt hl]
    · have hlt : w < n := by omega
      have ih := bits_bit p n w hlt
      split
      · rw [← ih]
        have e : 2 ^ n = 2 ^ w * (2 * 2 ^ (n - w - 1)) := by
          rw [← Nat.mul_assoc, ← Nat.pow_succ, ← Nat.pow_add]
          congr 1
          omega
        rw [e, Nat.add_mul_div_left _ _ (Nat.two_pow_pos w)]
        omega
      · rw [Nat.add_zero]; exact ih
theorem bits_cong {p q : Nat → Bool} : ∀ {n : Nat}, (∀ k, k < n → p k = q k) → bits p n = bits q n
  | 0, _ => rfl
  | n + 1, h => by
    unfold bits
    rw [bits_cong (fun k hk => h k (by omega)), h n (by omega)]
theorem and_bit : ∀ x, x < 16 → ∀ y, y < 16 → ∀ w, w < 4 → (x &&& y) / 2 ^ w % 2 = (x / 2 ^ w % 2) * (y / 2 ^ w % 2) := by decide +kernel
theorem and_lt : ∀ x, x < 16 → ∀ y, y < 16 → (x &&& y) < 16 := by decide +kernel
