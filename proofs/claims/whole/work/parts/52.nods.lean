/-! who nods off -/
def wya (c : Nat) (aw : Nat → Bool) : Nat → Nat
  | 0 => 1
  | n + 1 => wya c aw n * (if aw n = true then 10 - c else c)
theorem wya_le {c : Nat} (hc : c ≤ 10) (aw : Nat → Bool) : ∀ n, wya c aw n ≤ 10 ^ n
  | 0 => Nat.le_refl _
  | n + 1 => by
    show wya c aw n * (if aw n = true then 10 - c else c) ≤ 10 ^ n * 10
    refine Nat.mul_le_mul (wya_le hc aw n) ?_
    split <;> omega
theorem pow10 {n : Nat} (h : n ≤ 4) : 10 ^ n ≤ 10000 := Nat.pow_le_pow_right (by decide) h
theorem wya_cong {c : Nat} {aw aw' : Nat → Bool} : ∀ n, (∀ k, k < n → aw k = aw' k) → wya c aw n = wya c aw' n
  | 0, _ => rfl
  | n + 1, h => by
    show wya c aw n * _ = wya c aw' n * _
    rw [wya_cong n (fun k hk => h k (by omega)), h n (by omega)]
theorem gpass_congW {g : Nat → Nat} {aw aw' : Nat → Bool} (h : ∀ k, k < g 22 → aw k = aw' k) : gpass g aw = gpass g aw' := by
  funext j
  unfold gpass
  rw [gli_cong (T := 0) aw aw' (g 22) h]
  by_cases h1 : 14 ≤ j ∧ j < 14 + g 22
  · rw [h (j - 14) (by omega)]
  · rw [if_neg h1, if_neg h1]
def tmn (g : Nat → Nat) (mm c : Nat) (aw : Nat → Bool) : Nat := if onesN (grs (gpass g aw)) < mm then 0 else wya c aw (g 22)
theorem tmn_cong {g : Nat → Nat} {mm c : Nat} {aw aw' : Nat → Bool} (h : ∀ k, k < g 22 → aw k = aw' k) : tmn g mm c aw = tmn g mm c aw' := by
  unfold tmn
  rw [gpass_congW h, wya_cong (g 22) h]
theorem tmn_le {g : Nat → Nat} {T mm c : Nat} (hO : OKg T g) (hc : c ≤ 10) (aw : Nat → Bool) : tmn g mm c aw ≤ 10000 := by
  have h1 := wya_le hc aw (g 22)
  have h2 := pow10 hO.1.2.1
  unfold tmn
  split <;> omega
theorem sm_head (f : Nat → Nat) : ∀ n, fb_sm f (n + 1) = f 0 + fb_sm (fun k => f (k + 1)) n
  | 0 => by show 0 + f 0 = f 0 + 0; omega
  | n + 1 => by
    show fb_sm f (n + 1) + f (n + 1) = f 0 + (fb_sm (fun k => f (k + 1)) n + f (n + 1))
    rw [sm_head f n]
    omega
theorem sm_cong {f f' : Nat → Nat} : ∀ n, (∀ k, k < n → f k = f' k) → fb_sm f n = fb_sm f' n
  | 0, _ => rfl
  | n + 1, h => by
    show fb_sm f n + f n = fb_sm f' n + f' n
    rw [sm_cong n (fun k hk => h k (by omega)), h n (by omega)]
theorem sm_rev (f : Nat → Nat) : ∀ n, fb_sm f n = fb_sm (fun k => f (n - 1 - k)) n
  | 0 => rfl
  | n + 1 => by
    rw [sm_head (fun k => f (n + 1 - 1 - k)) n]
    show fb_sm f n + f n = f (n + 1 - 1 - 0) + fb_sm (fun k => f (n + 1 - 1 - (k + 1))) n
    rw [sm_rev f n, sm_cong n (f := fun k => f (n + 1 - 1 - (k + 1))) (f' := fun k => f (n - 1 - k)) (fun k hk => by show f _ = f _; congr 1; omega), show n + 1 - 1 - 0 = n by omega]
    omega
theorem sm_le {f : Nat → Nat} {B : Nat} (h : ∀ k, f k ≤ B) : ∀ n, fb_sm f n ≤ n * B
  | 0 => Nat.zero_le _
  | n + 1 => by
    have h1 := sm_le h n
    have h2 := h n
    show fb_sm f n + f n ≤ (n + 1) * B
    rw [Nat.succ_mul]
    omega
theorem rev_bits : ∀ W, W < 5 → ∀ n, n < 2 ^ W → ∀ k, k < W → (2 ^ W - 1 - n) / 2 ^ k % 2 = 1 - n / 2 ^ k % 2 := by decide +kernel
theorem nods_sum {g : Nat → Nat} {T mm c : Nat} (hO : OKg T g) : fb_sm (fun s => tmn g mm c (awb s)) (2 ^ g 22) = fb_sm (fun s => tmn g mm c (awn s)) (2 ^ g 22) := by
  have b2 := hO.1.2.1
  rw [sm_rev]
  refine sm_cong _ (fun n hn => tmn_cong (fun k hk => ?_))
  have h := rev_bits (g 22) (by omega) n hn k hk
  unfold awn awb
  rw [h]
  have h2 : n / 2 ^ k % 2 < 2 := Nat.mod_lt _ (by decide)
  rcases (show n / 2 ^ k % 2 = 0 ∨ n / 2 ^ k % 2 = 1 by omega) with e | e
  · rw [e]; rfl
  · rw [e]; rfl
/-! Euclid -/
def eu : Nat → Nat → Nat → Nat
  | 0, a, _ => a
  | n + 1, a, b => if b = 0 then a else eu n b (a % b)
def euE : Nat → Nat → Nat → Prop
  | 0, _, b => b = 0
  | n + 1, a, b => b = 0 ∨ euE n b (a % b)
theorem half_mod {b r : Nat} (h0 : 0 < r) (hr : r < b) : 2 * (b % r) < b := by
  have h1 := Nat.mod_lt b h0
  have h2 := Nat.div_add_mod b r
  have h3 : 0 < b / r := Nat.div_pos (by omega) h0
  have h4 : r ≤ r * (b / r) := Nat.le_mul_of_pos_right r h3
  omega
theorem eu_ends : ∀ k a b, b < 2 ^ k → euE (2 * k) a b
  | 0, a, b, h => by
    show b = 0
    have : b < 1 := h
    omega
  | k + 1, a, b, h => by
    show b = 0 ∨ (a % b = 0 ∨ euE (2 * k) (a % b) (b % (a % b)))
    by_cases hb : b = 0
    · exact Or.inl hb
    · refine Or.inr ?_
      by_cases hr : a % b = 0
      · exact Or.inl hr
      · refine Or.inr (eu_ends k _ _ ?_)
        have h1 := half_mod (b := b) (r := a % b) (by omega) (Nat.mod_lt _ (by omega))
        have h2 : b < 2 ^ k * 2 := h
        omega
theorem eu_pos : ∀ n a b, euE n a b → (0 < a ∨ 0 < b) → 0 < eu n a b
  | 0, a, b, h, h1 => by
    have : b = 0 := h
    show 0 < a
    omega
  | n + 1, a, b, h, h1 => by
    unfold eu
    by_cases hb : b = 0
    · rw [if_pos hb]; omega
    · rw [if_neg hb]
      rcases h with h | h
      · exact absurd h hb
      · exact eu_pos n _ _ h (Or.inl (by omega))
theorem eu_le : ∀ n a b, eu n a b ≤ a + b
  | 0, a, b => by show a ≤ a + b; omega
  | n + 1, a, b => by
    unfold eu
    by_cases hb : b = 0
    · rw [if_pos hb]; omega
    · rw [if_neg hb]
      have h := eu_le n b (a % b)
      have h2 := Nat.mod_le a b
      omega
theorem eu_cls {post Kx : Int32 → Prop} : ∀ n s a b, n + s ≤ 64 → a < 1000000 → b < 1000000 → euE n a b → Kx (nI (eu n a b)) → wL_X6_commonDivisor_7 post Kx (n + 1) (nI a) (nI b) (nI s)
  | 0, s, a, b, hs, ha, hb, hE, hq => by
    have hb0 : b = 0 := hE
    subst hb0
    unfold wL_X6_commonDivisor_7
    exact ⟨fun _ => hq, fun _ => ⟨fun _ => hq, fun h => absurd rfl h⟩⟩
  | n + 1, s, a, b, hs, ha, hb, hE, hq => by
    unfold wL_X6_commonDivisor_7
    unfold eu at hq
    rw [show (64 : Int32) = nI 64 from rfl, nIle (by omega) (by omega), show (nI b = (0 : Int32)) = (nI b = nI 0) from rfl, nIinj (by omega) (by omega), nI_1]
    refine ⟨fun h => absurd h (by omega), fun _ => ⟨fun h => ?_, fun h => ⟨h, fun x hx => ?_⟩⟩⟩
    · rw [if_pos h] at hq; exact hq
    · rw [if_neg h] at hq
      rw [nIrem (by omega) (by omega) (by omega)] at hx
      subst hx
      have h2 := Nat.mod_lt a (show 0 < b by omega)
      exact eu_cls n (s + 1) b (a % b) (by omega) hb (by omega) (hE.resolve_left h) hq
theorem eu_mod {y24 y25 y26 : Int32} {b27 : BX7} {post : Int32 → BX7 → Prop} {Kx : Int32 → Prop} : ∀ n a b, a < 1000000 → b < 1000000 → euE n a b → Kx (nI (eu n a b)) → wL_X7_nods_198 y24 y25 y26 b27 post Kx (n + 1) (nI a) (nI b)
  | 0, a, b, ha, hb, hE, hq => by
    have hb0 : b = 0 := hE
    subst hb0
    unfold wL_X7_nods_198
    exact ⟨fun _ => hq, fun h => absurd rfl h⟩
  | n + 1, a, b, ha, hb, hE, hq => by
    unfold wL_X7_nods_198
    unfold eu at hq
    rw [show (nI b = (0 : Int32)) = (nI b = nI 0) from rfl, nIinj (by omega) (by omega)]
    refine ⟨fun h => ?_, fun h => ⟨h, fun x hx => ?_⟩⟩
    · rw [if_pos h] at hq; exact hq
    · rw [if_neg h] at hq
      rw [nIrem (by omega) (by omega) (by omega)] at hx
      subst hx
      have h2 := Nat.mod_lt a (show 0 < b by omega)
      exact eu_mod n b (a % b) hb (by omega) (hE.resolve_left h) hq
theorem mx1b {N : Nat} (h0 : 0 < N) (hN : N < 2147483648) : (if (1 : Int32) < nI N then nI N else (1 : Int32)) = nI N := by
  by_cases h : (1 : Int32) < nI N
  · rw [if_pos h]
  · rw [if_neg h]
    rw [show (1 : Int32) = nI 1 from rfl, nIlt (by omega) (by omega)] at h
    rw [show N = 1 by omega]
    rfl
section OPSN
variable {ux : BX6} {un ut : BX1} {up : BX5} {ua : BX0} {us : BX4} {uk : BX2} {rs : Nat → BX3} {ms : Nat → BX1} {m : BX7} {a0 a1 a2 a3 a4 : Int32}
theorem p_waysToBe {g : Nat → Nat} {T s c : Nat} (hA : AgX un g) (hO : OKg T g) (hs : s < 16) (hc : c ≤ 10) {post : Int32 → Prop} (hp : post (nI (wya c (awb s) (g 22)))) : w_X6_waysToBe ux un (nI s) (nI c) post := by
  obtain ⟨b1, b2, b3, b4, b5, b6⟩ := hO.1
  have e2 := hA.1.1.2.1
  unfold w_X6_waysToBe
  refine up_inv (fun n i (x : Int32) => wL_X6_waysToBe_5 (nI s) (nI c) ux un post (fun x7 => post x7) n x i) (g 22) (fun j x => x = nI (wya c (awb s) j)) ?_ ?_ 1 rfl
  · intro n x hx
    subst hx
    show wL_X6_waysToBe_5 _ _ _ _ _ _ _ _ _
    unfold wL_X6_waysToBe_5
    rw [e2]
    exact ⟨fun _ => hp, fun h => absurd (Int32.le_refl _) h⟩
  · intro n j x hj hx ih
    subst hx
    show wL_X6_waysToBe_5 _ _ _ _ _ _ _ _ _
    unfold wL_X6_waysToBe_5
    have hb : (nI s >>> (nI j &&& 31)) &&& (1 : Int32) = nI (s / 2 ^ j % 2) := get_bit j (by omega) s (by omega)
    have hm2 : s / 2 ^ j % 2 < 2 := Nat.mod_lt _ (by decide)
    have hw : ∀ z, z = (if awb s j = true then 10 - c else c) → wya c (awb s) (j + 1) = wya c (awb s) j * z := by intro z hz; rw [hz]; rfl
    rw [e2, nIle (by omega) (by omega), hb, show (nI (s / 2 ^ j % 2) = (1 : Int32)) = (nI (s / 2 ^ j % 2) = nI 1) from rfl, nIinj (by omega) (by omega), show (10 : Int32) = nI 10 from rfl, nIsub hc, pk_mul, pk_mul, nI_1]
    refine ⟨fun h => absurd h (by omega), fun _ => ⟨fun h x10 h10 => ih x10 ?_, fun h x9 h9 => ih x9 ?_⟩⟩
    · rw [h10, hw (10 - c) (by unfold awb; simp [h])]
    · rw [h9, hw c (by unfold awb; simp [h])]
theorem p_below {g : Nat → Nat} {T : Nat} (hA : AgX un g) (hO : OKg T g) {y7 y8 y9 y10 : Int32} {b11 : BX6} {b13 : BX1} {post : Int32 → BX1 → Prop} {Kx : Int32 → Prop} (hp : Kx (nI (10 ^ g 22))) : ∃ n53, wL_X6_nods_53 y7 y8 y9 y10 b11 un b13 post Kx n53 (1 : Int32) (0 : Int32) := by
  obtain ⟨b1, b2, b3, b4, b5, b6⟩ := hO.1
  have e2 := hA.1.1.2.1
  refine up_inv (fun n i (x : Int32) => wL_X6_nods_53 y7 y8 y9 y10 b11 un b13 post Kx n x i) (g 22) (fun j x => x = nI (10 ^ j)) ?_ ?_ 1 rfl
  · intro n x hx
    subst hx
    show wL_X6_nods_53 _ _ _ _ _ _ _ _ _ _ _ _
    unfold wL_X6_nods_53
    rw [e2]
    exact ⟨fun _ => hp, fun h => absurd (Int32.le_refl _) h⟩
  · intro n j x hj hx ih
    subst hx
    show wL_X6_nods_53 _ _ _ _ _ _ _ _ _ _ _ _
    unfold wL_X6_nods_53
    rw [e2, nIle (by omega) (by omega), show (10 : Int32) = nI 10 from rfl, pk_mul, nI_1]
    exact ⟨fun h => absurd h (by omega), fun _ x40 h40 => ih x40 h40⟩
theorem p_belowM {g : Nat → Nat} {T : Nat} (hM : AgM m.1 0 g) (hO : OKg T g) {y7 y8 y9 y10 : Int32} {post : Int32 → BX7 → Prop} {Kx : Int32 → Prop} (hp : Kx (nI (10 ^ g 22))) : ∃ n56, wL_X7_nods_56 y7 y8 y9 y10 m post Kx n56 (1 : Int32) (0 : Int32) := by
  obtain ⟨b1, b2, b3, b4, b5, b6⟩ := hO.1
  have e2 : m.1 (22 : Int32).toNatClampNeg = nI (g 22) := by have := hM 22 (by omega); rw [Nat.zero_add] at this; exact this
  refine up_inv (fun n i (x : Int32) => wL_X7_nods_56 y7 y8 y9 y10 m post Kx n x i) (g 22) (fun j x => x = nI (10 ^ j)) ?_ ?_ 1 rfl
  · intro n x hx
    subst hx
    show wL_X7_nods_56 _ _ _ _ _ _ _ _ _ _
    unfold wL_X7_nods_56
    rw [e2]
    exact ⟨nIin (n := 22) (by omega) (by omega), fun _ => hp, fun h => absurd (Int32.le_refl _) h⟩
  · intro n j x hj hx ih
    subst hx
    show wL_X7_nods_56 _ _ _ _ _ _ _ _ _ _
    unfold wL_X7_nods_56
    rw [e2, nIle (by omega) (by omega), show (10 : Int32) = nI 10 from rfl, pk_mul, nI_1]
    exact ⟨nIin (n := 22) (by omega) (by omega), fun h => absurd h (by omega), fun _ x40 h40 => ih x40 h40⟩
theorem p_nodsX {g : Nat → Nat} {T mm c : Nat} (hA : AgX un g) (hO : OKg T g) (hT : T + 1 ≤ 5000) (hm : mm ≤ 5) (hc : c ≤ 10) {y20 y21 : Int32} {post Kx : Int32 → BX1 → Prop} (hp : ∀ t', Kx (nI (fb_sm (fun s => tmn g mm c (awb s)) (2 ^ g 22))) t') : ∃ n81, wL_X6_nods_81 (nI mm) (nI c) y20 y21 ux un post Kx n81 (0 : Int32) (0 : Int32) ut := by
  obtain ⟨b1, b2, b3, b4, b5, b6⟩ := hO.1
  have h16 := pow4 b2
  have hs : (1 : Int32) <<< (un.2.2.2.2.2.2.2.2.1 &&& 31) = nI (2 ^ g 22) := by rw [hA.1.1.2.1]; exact shl_1 (g 22) (by omega)
  refine up_inv (fun n i (s : Int32 × BX1) => wL_X6_nods_81 (nI mm) (nI c) y20 y21 ux un post Kx n s.1 i s.2) (2 ^ g 22) (fun j s => s.1 = nI (fb_sm (fun s => tmn g mm c (awb s)) j)) ?_ ?_ (nI 0, ut) rfl
  · intro n s h
    show wL_X6_nods_81 _ _ _ _ _ _ _ _ _ _ _ _
    unfold wL_X6_nods_81
    rw [hs, h]
    exact ⟨fun _ => hp _, fun h => absurd (Int32.le_refl _) h⟩
  · intro n j s hj h ih
    show wL_X6_nods_81 _ _ _ _ _ _ _ _ _ _ _ _
    unfold wL_X6_nods_81
    rw [hs, h, nIle (by omega) (by omega), nI_1]
    have hO1 := gp_ok hO (awb j) hT
    have hr := grs_lt hO1
    have h5 := onesN_le _ hr
    refine ⟨fun h => absurd h (by omega), fun _ => p_copyFrom hA hO (fun t' ht => p_passNight (s := j) ht hO (by omega) (fun a' ha => p_resting ha hO1 (p_bitCount hr ?_)))⟩
    rw [nIlt (by omega) (by omega)]
    refine ⟨fun h2 => ih (nI (fb_sm (fun s => tmn g mm c (awb s)) j), a') ?_, fun h2 => p_waysToBe hA hO (by omega) hc (fun x36 h36 => ih (x36, a') ?_)⟩
    · show _ = nI (fb_sm (fun s => tmn g mm c (awb s)) j + tmn g mm c (awb j))
      have e : tmn g mm c (awb j) = 0 := by unfold tmn; rw [if_pos h2]
      rw [e]
      rfl
    · show x36 = nI (fb_sm (fun s => tmn g mm c (awb s)) j + tmn g mm c (awb j))
      have e : tmn g mm c (awb j) = wya c (awb j) (g 22) := by unfold tmn; rw [if_neg h2]
      rw [e, h36, nI_add]
theorem p_waysM {w : Nat → Int32} {g : Nat → Nat} {T s c : Nat} (e2 : w 22 = nI (g 22)) (hO : OKg T g) (hs : s < 16) (hc : c ≤ 10) {y36 y38 y39 y40 : Int32} {post : Int32 → BX7 → Prop} {Kx : Int32 → Prop} (hp : Kx (nI (wya c (awn s) (g 22)))) : ∃ n104, wL_X7_nods_104 y36 (nI c) y38 y39 y40 (nI s) (w, m.2) post Kx n104 (1 : Int32) (0 : Int32) := by
  obtain ⟨b1, b2, b3, b4, b5, b6⟩ := hO.1
  have e2 : (w, m.2).1 (22 : Int32).toNatClampNeg = nI (g 22) := e2
  refine up_inv (fun n i (x : Int32) => wL_X7_nods_104 y36 (nI c) y38 y39 y40 (nI s) (w, m.2) post Kx n x i) (g 22) (fun j x => x = nI (wya c (awn s) j)) ?_ ?_ 1 rfl
  · intro n x hx
    subst hx
    show wL_X7_nods_104 _ _ _ _ _ _ _ _ _ _ _ _
    unfold wL_X7_nods_104
    rw [e2]
    exact ⟨nIin (n := 22) (by omega) (by omega), fun _ => hp, fun h => absurd (Int32.le_refl _) h⟩
  · intro n j x hj hx ih
    subst hx
    show wL_X7_nods_104 _ _ _ _ _ _ _ _ _ _ _ _
    unfold wL_X7_nods_104
    have hw : ∀ z, z = (if awn s j = true then 10 - c else c) → wya c (awn s) (j + 1) = wya c (awn s) j * z := by intro z hz; rw [hz]; rfl
    rw [e2, nIle (by omega) (by omega), show (10 : Int32) = nI 10 from rfl, nIsub hc, pk_mul, pk_mul, nI_1]
    refine ⟨nIin (n := 22) (by omega) (by omega), fun h => absurd h (by omega), fun _ => p_has (by omega) (by omega) ?_⟩
    rw [bi_0]
    refine ⟨fun h x10 h10 => ih x10 ?_, fun h x9 h9 => ih x9 ?_⟩
    · rw [h10, hw (10 - c) (by unfold awn awb; simp [h])]
    · rw [h9, hw c (by unfold awn awb; simp [Decidable.not_not.mp h])]
theorem p_nodsM {g : Nat → Nat} {T mm c : Nat} (hM : AgM m.1 0 g) (hO : OKg T g) (hT : T + 1 ≤ 5000) (hm : mm ≤ 5) (hc : c ≤ 10) {y18 y19 : Int32} {post Kx : Int32 → BX7 → Prop} (hp : ∀ w', (∀ j, j < 108 → w' j = m.1 j) → Kx (nI (fb_sm (fun s => tmn g mm c (awn s)) (2 ^ g 22))) (w', m.2)) : ∃ n84, wL_X7_nods_84 (nI mm) (nI c) y18 y19 post Kx n84 (0 : Int32) (0 : Int32) m := by
  obtain ⟨b1, b2, b3, b4, b5, b6⟩ := hO.1
  have h16 := pow4 b2
  refine up_inv (fun n i (s : Int32 × BX7) => wL_X7_nods_84 (nI mm) (nI c) y18 y19 post Kx n s.1 i s.2) (2 ^ g 22) (fun j s => ∃ w', s = (nI (fb_sm (fun s => tmn g mm c (awn s)) j), w', m.2) ∧ ∀ i, i < 108 → w' i = m.1 i) ?_ ?_ (nI 0, m) ⟨m.1, rfl, fun _ _ => rfl⟩
  · intro n s h
    obtain ⟨w', rfl, h⟩ := h
    have e2 : w' 22 = nI (g 22) := by rw [h 22 (by omega)]; have := hM 22 (by omega); rw [Nat.zero_add] at this; exact this
    have hs : (1 : Int32) <<< (w' 22 &&& 31) = nI (2 ^ g 22) := by rw [e2]; exact shl_1 (g 22) (by omega)
    show wL_X7_nods_84 _ _ _ _ _ _ _ _ _ _
    unfold wL_X7_nods_84
    show vp_in (22 : Int32) 144 ∧ (((1 : Int32) <<< (w' 22 &&& 31) ≤ nI (2 ^ g 22) → _) ∧ (¬ (1 : Int32) <<< (w' 22 &&& 31) ≤ nI (2 ^ g 22) → _))
    rw [hs]
    exact ⟨nIin (n := 22) (by omega) (by omega), fun _ => hp w' h, fun h => absurd (Int32.le_refl _) h⟩
  · intro n j s hj h ih
    obtain ⟨w', rfl, h⟩ := h
    have e2 : w' 22 = nI (g 22) := by rw [h 22 (by omega)]; have := hM 22 (by omega); rw [Nat.zero_add] at this; exact this
    have hs : (1 : Int32) <<< (w' 22 &&& 31) = nI (2 ^ g 22) := by rw [e2]; exact shl_1 (g 22) (by omega)
    show wL_X7_nods_84 _ _ _ _ _ _ _ _ _ _
    unfold wL_X7_nods_84
    show vp_in (22 : Int32) 144 ∧ (((1 : Int32) <<< (w' 22 &&& 31) ≤ nI j → _) ∧ (¬ (1 : Int32) <<< (w' 22 &&& 31) ≤ nI j → _))
    rw [hs, nIle (by omega) (by omega)]
    have hO1 := gp_ok hO (awn j) hT
    have hr := grs_lt hO1
    have h5 := onesN_le _ hr
    refine ⟨nIin (n := 22) (by omega) (by omega), fun h => absurd h (by omega), fun _ => p_waysM (m := m) e2 hO (by omega) hc (p_copyAll (m := (w', m.2)) (r1 := 0) (r2 := 108) (by omega) (by omega) (by omega) (fun w2 h3 h4 => p_passes (m := (w2, m.2)) (r := 108) (s := j) (g := g) (fun k hk => (h3 k hk).trans ((h _ (by omega)).trans (hM k hk))) hO (by omega) (by omega) (fun w3 h6 h7 => p_restsIn (r := 108) h6 hO1 (by omega) (p_ones hr ?_))))⟩
    have hall : ∀ i, i < 108 → w3 i = m.1 i := fun i hi => (h7 i (by omega)).trans ((h4 i (by omega)).trans (h i hi))
    rw [nIlt (by omega) (by omega), nI_1]
    refine ⟨fun h2 => ih (nI (fb_sm (fun s => tmn g mm c (awn s)) j) + 0, w3, m.2) ⟨w3, ?_, hall⟩, fun h2 x36 h36 => ih (x36, w3, m.2) ⟨w3, ?_, hall⟩⟩
    · have e : tmn g mm c (awn j) = 0 := by unfold tmn; rw [if_pos h2]
      have e9 : nI (fb_sm (fun s => tmn g mm c (awn s)) j) + 0 = nI (fb_sm (fun s => tmn g mm c (awn s)) j + tmn g mm c (awn j)) := by
        rw [e, show (0 : Int32) = nI 0 from rfl, nI_add]
      rw [e9]
      rfl
    · have e : tmn g mm c (awn j) = wya c (awn j) (g 22) := by unfold tmn; rw [if_neg h2]
      have e9 : x36 = nI (fb_sm (fun s => tmn g mm c (awn s)) j + tmn g mm c (awn j)) := by
        rw [e, h36]
        show nI _ + nI _ = _
        rw [nI_add]
      rw [e9]
      rfl
theorem op_nods (hR : RR ux un up ua uk rs ms m) {P : Int32 → BX1 → Int32 → BX7 → Prop} (hp : ∀ r t' m', RR ux un up ua uk rs ms m' → P r t' r m') : w_X6_nods ux un ut a0 a1 a2 (fun r t' => w_X7_nods m a0 a1 a2 (fun r2 m' => P r t' r2 m')) := by
  have hR0 := hR
  obtain ⟨g, ⟨hA, hM, hO⟩, _⟩ := hR
  obtain ⟨b1, b2, b3, b4, b5, b6⟩ := hO.1
  unfold w_X6_nods
  refine p_isOpen hA.1.1.1 b1 ?_
  by_cases h1 : 0 < g 21
  · rw [bi_t h1]
    have M : ∀ Q : Int32 → BX7 → Prop, (¬ ((0 ≤ a0.toInt ∧ a0.toInt ≤ (5 : Nat)) ∧ (0 ≤ a1.toInt ∧ a1.toInt ≤ (10 : Nat)) ∧ (0 ≤ a2.toInt ∧ a2.toInt ≤ (1 : Nat))) → Q (-1000001) m) → ((0 ≤ a0.toInt ∧ a0.toInt ≤ (5 : Nat)) → (0 ≤ a1.toInt ∧ a1.toInt ≤ (10 : Nat)) → (0 ≤ a2.toInt ∧ a2.toInt ≤ (1 : Nat)) → ∃ n56, wL_X7_nods_56 a0 a1 a2 (0 : Int32) m Q (fun (x12 : Int32) => ∃ n84, wL_X7_nods_84 a0 a1 a2 x12 Q (fun (x20 : Int32) (u21 : BX7) => ∃ n198, wL_X7_nods_198 a2 x20 x12 u21 Q (fun (x28 : Int32) => (a2 = 0 → ¬ x28 = 0 ∧ (Q (x20 / x28) u21)) ∧ (¬ a2 = 0 → ¬ x28 = 0 ∧ (Q (x12 / x28) u21))) n198 x20 x12) n84 (0 : Int32) (0 : Int32) m) n56 (1 : Int32) (0 : Int32)) → w_X7_nods m a0 a1 a2 Q := by
      intro Q q1 q2
      unfold w_X7_nods
      refine p_isAgency hM hO ?_
      rw [bi_t h1]
      refine sel1 (p_in ?_)
      rw [t64, l64_0, show (5 : Int64).toInt = (5 : Nat) from rfl]
      by_cases c1 : 0 ≤ a0.toInt ∧ a0.toInt ≤ (5 : Nat)
      · rw [bi_t c1]
        refine sel1 (p_in ?_)
        rw [t64, l64_0, show (10 : Int64).toInt = (10 : Nat) from rfl]
        by_cases c2 : 0 ≤ a1.toInt ∧ a1.toInt ≤ (10 : Nat)
        · rw [bi_t c2]
          refine sel1 (p_in ?_)
          rw [t64, l64_0, show (1 : Int64).toInt = (1 : Nat) from rfl]
          by_cases c3 : 0 ≤ a2.toInt ∧ a2.toInt ≤ (1 : Nat)
          · rw [bi_t c3]
            exact sel1 (q2 c1 c2 c3)
          · rw [bi_f c3]
            exact sel0 (q1 (fun q => c3 q.2.2))
        · rw [bi_f c2]
          exact sel0 (q1 (fun q => c2 q.2.1))
      · rw [bi_f c1]
        exact sel0 (q1 (fun q => c1 q.1))
    refine sel1 (p_isWithin ?_)
    rw [lit_toInt0, show (5 : Int32).toInt = (5 : Nat) from rfl]
    by_cases c1 : 0 ≤ a0.toInt ∧ a0.toInt ≤ (5 : Nat)
    · rw [bi_t c1]
      refine sel1 (p_isWithin ?_)
      rw [lit_toInt0, show (10 : Int32).toInt = (10 : Nat) from rfl]
      by_cases c2 : 0 ≤ a1.toInt ∧ a1.toInt ≤ (10 : Nat)
      · rw [bi_t c2]
        refine sel1 (p_isWithin ?_)
        rw [lit_toInt0, show (1 : Int32).toInt = (1 : Nat) from rfl]
        by_cases c3 : 0 ≤ a2.toInt ∧ a2.toInt ≤ (1 : Nat)
        · rw [bi_t c3]
          obtain ⟨mm, hmm, rfl⟩ := nI_range2 c1 (by decide)
          obtain ⟨c, hc, rfl⟩ := nI_range2 c2 (by decide)
          obtain ⟨w, hw, rfl⟩ := nI_range2 c3 (by decide)
          obtain ⟨S, hS⟩ : ∃ S, S = fb_sm (fun s => tmn g mm c (awb s)) (2 ^ g 22) := ⟨_, rfl⟩
          have hSb : S ≤ 160000 := by
            have q1 := sm_le (f := fun s => tmn g mm c (awb s)) (B := 10000) (fun s => tmn_le hO hc (awb s)) (2 ^ g 22)
            have q2 := Nat.mul_le_mul_right 10000 (pow4 b2)
            omega
          have hS2 : S = fb_sm (fun s => tmn g mm c (awn s)) (2 ^ g 22) := by rw [hS]; exact nods_sum hO
          obtain ⟨B, hB⟩ : ∃ B, B = 10 ^ g 22 := ⟨_, rfl⟩
          have hB1 : 0 < B := by rw [hB]; exact Nat.pow_pos (by decide)
          have hB2 : B ≤ 10000 := by rw [hB]; exact pow10 b2
          have hE : euE 28 S B := eu_ends 14 S B (by omega)
          obtain ⟨d, hd⟩ : ∃ d, d = eu 28 S B := ⟨_, rfl⟩
          have hd0 : 0 < d := by rw [hd]; exact eu_pos 28 S B hE (Or.inr hB1)
          have hdb : d ≤ S + B := by rw [hd]; exact eu_le 28 S B
          have hz : ¬ nI d = (0 : Int32) := by
            rw [show (0 : Int32) = nI 0 from rfl, nIinj (by omega) (by omega)]
            omega
          have N : ∀ Q : Int32 → BX7 → Prop, (w = 0 → ∀ m', RR ux un up ua uk rs ms m' → Q (nI S / nI d) m') → (w = 1 → ∀ m', RR ux un up ua uk rs ms m' → Q (nI B / nI d) m') → w_X7_nods m (nI mm) (nI c) (nI w) Q := by
            intro Q q0 q1
            refine M Q (fun q => absurd ⟨c1, c2, c3⟩ q) (fun _ _ _ => p_belowM hM hO (p_nodsM hM hO (by omega) hmm hc (fun w' h4 => ?_)))
            rw [← hS2, ← hB]
            refine ⟨29, eu_mod 28 S B (by omega) (by omega) hE ?_⟩
            rw [← hd]
            rcases (show w = 0 ∨ w = 1 by omega) with rfl | rfl
            · exact ⟨fun _ => ⟨hz, q0 rfl _ (hR0.trial h4)⟩, fun q => absurd rfl q⟩
            · exact ⟨fun q => absurd q (by decide), fun _ => ⟨hz, q1 rfl _ (hR0.trial h4)⟩⟩
          refine sel1 (p_below hA hO (p_nodsX hA hO (by omega) hmm hc (fun t' => ?_)))
          rw [← hS, ← hB]
          unfold w_X6_commonDivisor
          refine ⟨29, eu_cls 28 0 S B (by omega) (by omega) (by omega) hE ?_⟩
          rw [← hd]
          dsimp only
          rw [mx1b hd0 (by omega)]
          rcases (show w = 0 ∨ w = 1 by omega) with rfl | rfl
          · exact ⟨fun _ => ⟨hz, N _ (fun _ m' h => hp _ _ _ h) (fun q => absurd q (by decide))⟩, fun q => absurd rfl q⟩
          · exact ⟨fun q => absurd q (by decide), fun _ => ⟨hz, N _ (fun q => absurd q (by decide)) (fun _ m' h => hp _ _ _ h)⟩⟩
        · rw [bi_f c3]
          exact sel0 (M _ (fun _ => hp _ _ _ hR0) (fun _ _ q => absurd q c3))
      · rw [bi_f c2]
        exact sel0 (M _ (fun _ => hp _ _ _ hR0) (fun _ q => absurd q c2))
    · rw [bi_f c1]
      exact sel0 (M _ (fun _ => hp _ _ _ hR0) (fun q => absurd q c1))
  · rw [bi_f h1]
    refine sel0 (p_isAgency hM hO ?_)
    rw [bi_f h1]
    exact sel0 (hp _ _ _ hR0)
end OPSN
