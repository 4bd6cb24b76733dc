section LETM
variable {m : BX7} {g : Nat → Nat} {T : Nat}
theorem p_letBy {w : Nat → Int32} {way k : Nat} (e22 : w 22 = nI (g 22)) (e21 : w 21 = nI (g 21)) (hO : OKg T g) (hk : k < g 22) (hw : way < 100000) {post : Int32 → Prop} (hp : post (nI (letB g way k))) : w_X7_letBy (w, m.2) (nI way) (nI k) post := by
  obtain ⟨b1, b2, b3, b4, b5, b6⟩ := hO.1
  have e22 : (w, m.2).1 (22 : Int32).toNatClampNeg = nI (g 22) := e22
  have e21 : (w, m.2).1 (21 : Int32).toNatClampNeg = nI (g 21) := e21
  have hz : ¬ nI (g 21 + 1) = (0 : Int32) := by
    rw [show (0 : Int32) = nI 0 from rfl, nIinj (by omega) (by omega)]
    omega
  unfold w_X7_letBy
  rw [e22, e21, nI_1]
  refine ⟨nIin (n := 22) (by omega) (by omega), fun x1 h1 => ?_⟩
  have key : ∀ e, k + e < g 22 → ∀ Kx : Int32 → Prop, Kx (nI (way / (g 21 + 1) ^ (g 22 - 1 - k))) → wL_X7_letBy_13 (nI k) (w, m.2) post Kx (e + 1) (nI (way / (g 21 + 1) ^ (g 22 - 1 - k - e))) (nI (k + e)) := by
    intro e
    induction e with
    | zero =>
      intro _ Kx hq
      unfold wL_X7_letBy_13
      exact ⟨fun _ => hq, fun h => absurd (Int32.le_refl _) h⟩
    | succ e ih =>
      intro he Kx hq
      have hr : way / (g 21 + 1) ^ (g 22 - 1 - k - (e + 1)) ≤ way := Nat.div_le_self _ _
      have hdiv : way / (g 21 + 1) ^ (g 22 - 1 - k - (e + 1)) / (g 21 + 1) = way / (g 21 + 1) ^ (g 22 - 1 - k - e) := by
        rw [Nat.div_div_eq_div_mul, ← Nat.pow_succ, show (g 22 - 1 - k - (e + 1)).succ = g 22 - 1 - k - e by omega]
      unfold wL_X7_letBy_13
      rw [e21, nI_1, nIle (by omega) (by omega), nIdiv (by omega) (by omega) (by omega), hdiv, nI_m1, show k + (e + 1) = k + e + 1 from rfl, nI_p1]
      refine ⟨fun h => absurd h (by omega), fun _ => ⟨nIin (n := 21) (by omega) (by omega), hz, fun x10 h10 => ?_⟩⟩
      subst h10
      exact ih (by omega) Kx hq
  have hx : x1 = nI (k + (g 22 - 1 - k)) := by
    rw [h1, show g 22 = (k + (g 22 - 1 - k)) + 1 by omega, nI_p1, show k + (g 22 - 1 - k) + 1 = g 22 by omega]
  subst hx
  have hr : way / (g 21 + 1) ^ (g 22 - 1 - k) ≤ way := Nat.div_le_self _ _
  have hdl := digN_lt g way k
  have k0 := key (g 22 - 1 - k) (by omega) (fun x6 => vp_in (21 : Int32) 144 ∧ (¬ nI (g 21 + 1) = 0 ∧ (∀ x7 : Int32, x7 = (x6 - x6 / nI (g 21 + 1) * nI (g 21 + 1)) → vp_in (21 : Int32) 144 ∧ ((x7 = nI (g 21) → post (5 : Int32)) ∧ (¬ x7 = nI (g 21) → post x7))))) ?_
  · rw [show g 22 - 1 - k - (g 22 - 1 - k) = 0 by omega, Nat.pow_zero, Nat.div_one] at k0
    exact ⟨_, k0⟩
  · refine ⟨nIin (n := 21) (by omega) (by omega), hz, fun x7 h7 => ⟨nIin (n := 21) (by omega) (by omega), ?_⟩⟩
    rw [nIrem (by omega) (by omega) (by omega)] at h7
    have h7 : x7 = nI (digN g way k) := h7
    subst h7
    unfold letB at hp
    rw [nIinj (by omega) (by omega)]
    refine ⟨fun h => ?_, fun h => ?_⟩
    · rw [if_pos h] at hp; exact hp
    · rw [if_neg h] at hp; exact hp
theorem p_allLets {w : Nat → Int32} (e22 : w 22 = nI (g 22)) (e21 : w 21 = nI (g 21)) (hO : OKg T g) {post : Int32 → Prop} (hp : post (nI ((g 21 + 1) ^ g 22))) : w_X7_allLets (w, m.2) post := by
  obtain ⟨b1, b2, b3, b4, b5, b6⟩ := hO.1
  have e22 : (w, m.2).1 (22 : Int32).toNatClampNeg = nI (g 22) := e22
  have e21 : (w, m.2).1 (21 : Int32).toNatClampNeg = nI (g 21) := e21
  unfold w_X7_allLets
  refine up_inv (fun n i (x : Int32) => wL_X7_allLets_4 (w, m.2) post (fun x4 => post x4) n x i) (g 22) (fun j x => x = nI ((g 21 + 1) ^ j)) ?_ ?_ 1 rfl
  · intro n x hx
    subst hx
    show wL_X7_allLets_4 _ _ _ _ _ _
    unfold wL_X7_allLets_4
    rw [e22]
    exact ⟨nIin (n := 22) (by omega) (by omega), fun _ => hp, fun h => absurd (Int32.le_refl _) h⟩
  · intro n j x hj hx ih
    subst hx
    show wL_X7_allLets_4 _ _ _ _ _ _
    unfold wL_X7_allLets_4
    rw [e21, e22, nIle (by omega) (by omega), nI_1, pk_mul, nI_1]
    exact ⟨nIin (n := 22) (by omega) (by omega), fun h => absurd h (by omega), fun _ => ⟨nIin (n := 21) (by omega) (by omega), fun x6 h6 => ih x6 h6⟩⟩
theorem p_triesLets {w : Nat → Int32} {way d : Nat} (hM : AgM m.1 0 g) (hb : ∀ j, j < 108 → w j = m.1 j) (hO : OKg T g) (hT : T + 60 ≤ 5000) (hd : d ≤ 60) (hw : way < 100000) {post : Int32 → BX7 → Prop} (hp : ∀ w', AgM w' 108 (gwN g way d) → (∀ j, j < 108 → w' j = m.1 j) → post (nI (cntN g way)) (w', m.2)) : w_X7_triesLets (w, m.2) (nI way) (nI d) post := by
  obtain ⟨b1, b2, b3, b4, b5, b6⟩ := hO.1
  have hat : ∀ j, j < 36 → m.1 j = nI (g j) := fun j hj => by have := hM j hj; rw [Nat.zero_add] at this; exact this
  unfold w_X7_triesLets
  refine p_copyAll (m := (w, m.2)) (r1 := 0) (r2 := 108) (by omega) (by omega) (by omega) (fun w1 h3 h4 => ?_)
  refine up_inv (fun n i (s : Int32 × BX7) => wL_X7_triesLets_12 (nI way) (nI d) post (fun (x8 : Int32) (u9 : BX7) => w_X7_tries u9 (nI d) (fun u11 => post x8 u11)) n s.1 i s.2) (g 22) (fun j s => ∃ w', s = (nI (fb_sm (fun k => if letB g way k = 5 then 0 else 1) j), w', m.2) ∧ AgM w' 108 (gletN g way j) ∧ ∀ i, i < 108 → w' i = m.1 i) ?_ ?_ (nI 0, w1, m.2) ⟨w1, rfl, fun k hk => ?_, fun i hi => (h4 i (by omega)).trans (hb i hi)⟩
  · intro n s hs
    obtain ⟨w', rfl, h1, h2⟩ := hs
    have e22 : w' 22 = nI (g 22) := by rw [h2 22 (by omega), hat 22 (by omega)]
    have e22 : (w', m.2).1 (22 : Int32).toNatClampNeg = nI (g 22) := e22
    show wL_X7_triesLets_12 _ _ _ _ _ _ _ _
    unfold wL_X7_triesLets_12
    rw [e22]
    exact ⟨nIin (n := 22) (by omega) (by omega), fun _ => p_tries (m := (w', m.2)) h1 (glet_ok hO way (g 22) (Nat.le_refl _)) hT hd (fun w2 h5 h6 => hp w2 h5 (fun j hj => (h6 j hj).trans (h2 j hj))), fun h => absurd (Int32.le_refl _) h⟩
  · intro n j s hj hs ih
    obtain ⟨w', rfl, h1, h2⟩ := hs
    have e22 : w' 22 = nI (g 22) := by rw [h2 22 (by omega), hat 22 (by omega)]
    have e21 : w' 21 = nI (g 21) := by rw [h2 21 (by omega), hat 21 (by omega)]
    have f22 : (w', m.2).1 (22 : Int32).toNatClampNeg = nI (g 22) := e22
    have eix : (118 : Int32) + nI j = nI (108 + (10 + j)) := by
      simp (disch := omega) only [liN, nI_add]
      congr 1
      omega
    have hl5 := letB_le hO way j
    show wL_X7_triesLets_12 _ _ _ _ _ _ _ _
    unfold wL_X7_triesLets_12
    rw [f22, nIle (by omega) (by omega), eix, nIcl (by omega), nI_1, nI_1]
    refine ⟨nIin (n := 22) (by omega) (by omega), fun h => absurd h (by omega), fun _ => p_letBy e22 e21 hO hj hw ⟨nIin (by omega) (by omega), ?_⟩⟩
    have hM2 : AgM (upd w' (108 + (10 + j)) (nI (letB g way j))) 108 (gletN g way (j + 1)) := by
      rw [← glet_s]
      exact h1.setr (by omega)
    have hup : ∀ i, i < 108 → upd w' (108 + (10 + j)) (nI (letB g way j)) i = m.1 i := fun i hi => by
      rw [upd_at, if_neg (by omega)]
      exact h2 i hi
    refine p_letBy (w := upd w' (108 + (10 + j)) (nI (letB g way j))) ?_ ?_ hO hj hw ?_
    · rw [hup 22 (by omega), hat 22 (by omega)]
    · rw [hup 21 (by omega), hat 21 (by omega)]
    · rw [show (5 : Int32) = nI 5 from rfl, nIinj (by omega) (by omega)]
      refine ⟨fun h5 => ih (nI (fb_sm (fun k => if letB g way k = 5 then 0 else 1) j) + 0, upd w' (108 + (10 + j)) (nI (letB g way j)), m.2) ⟨_, ?_, hM2, hup⟩, fun h5 => ih (nI (fb_sm (fun k => if letB g way k = 5 then 0 else 1) j + 1), upd w' (108 + (10 + j)) (nI (letB g way j)), m.2) ⟨_, ?_, hM2, hup⟩⟩
      · have e9 : nI (fb_sm (fun k => if letB g way k = 5 then 0 else 1) j) + 0 = nI (fb_sm (fun k => if letB g way k = 5 then 0 else 1) (j + 1)) := by
          show _ = nI (fb_sm (fun k => if letB g way k = 5 then 0 else 1) j + (if letB g way j = 5 then 0 else 1))
          rw [if_pos h5, show (0 : Int32) = nI 0 from rfl, nI_add]
        rw [e9]
      · have e9 : nI (fb_sm (fun k => if letB g way k = 5 then 0 else 1) j + 1) = nI (fb_sm (fun k => if letB g way k = 5 then 0 else 1) (j + 1)) := by
          show _ = nI (fb_sm (fun k => if letB g way k = 5 then 0 else 1) j + (if letB g way j = 5 then 0 else 1))
          rw [if_neg h5]
        rw [e9]
  · rw [h3 k hk]
    show w (0 + k) = _
    rw [hb _ (by omega), glet_out g way (by omega)]
    exact hM k hk
end LETM
/-! how many rest, and the weights, by a way -/
theorem sm_more {f : Nat → Nat} {n : Nat} (h : ∀ k, n ≤ k → f k = 0) : ∀ e, fb_sm f (n + e) = fb_sm f n
  | 0 => rfl
  | e + 1 => by
    show fb_sm f (n + e) + f (n + e) = _
    rw [h (n + e) (by omega), sm_more h e, Nat.add_zero]
theorem ones_bits (p : Nat → Bool) {n : Nat} (hn : n ≤ 5) : onesN (bits p n) = fb_sm (fun c => if p c = true then 1 else 0) n := by
  have h1 := sm_more (f := fun k => bits p n / 2 ^ k % 2) (n := n) (fun k hk => by
    have h2 := bits_lt p n
    have h3 : 2 ^ n ≤ 2 ^ k := Nat.pow_le_pow_right (by decide) hk
    show bits p n / 2 ^ k % 2 = 0
    rw [Nat.div_eq_of_lt (by omega)]) (5 - n)
  rw [show n + (5 - n) = 5 by omega] at h1
  unfold onesN
  rw [h1]
  exact sm_cong n (fun k hk => bits_bit p n k hk)
def rsN (g : Nat → Nat) (d way : Nat) : Nat := onesN (grs (gwN g way d))
def smN (g : Nat → Nat) (d way : Nat) : Nat := fb_sm (fun c => gwN g way d (1 + c)) (gwN g way d 21)
def bsN (g : Nat → Nat) (d : Nat) : Nat → Nat
  | 0 => 0
  | n + 1 => if rsN g d (bsN g d n) < rsN g d (n + 1) ∨ (rsN g d (n + 1) = rsN g d (bsN g d n) ∧ smN g d (n + 1) < smN g d (bsN g d n)) then n + 1 else bsN g d n
theorem bsN_le (g : Nat → Nat) (d : Nat) : ∀ n, bsN g d n ≤ n
  | 0 => Nat.le_refl _
  | n + 1 => by
    have h := bsN_le g d n
    unfold bsN
    split <;> omega
section BOUNDS
variable {g : Nat → Nat} {T d : Nat}
theorem rsN_le (hO : OKg T g) (hd : T + d ≤ 5000) (way : Nat) : rsN g d way ≤ 5 := onesN_le _ (grs_lt (gwN_ok hO way hd))
theorem smN_le (hO : OKg T g) (hd : T + d ≤ 5000) (way : Nat) : smN g d way ≤ 500 := by
  have hOw := gwN_ok hO way hd
  have b1 := hOw.1.1
  have key : ∀ n, n ≤ gwN g way d 21 → fb_sm (fun c => gwN g way d (1 + c)) n ≤ n * 99 := by
    intro n
    induction n with
    | zero => intro _; exact Nat.zero_le _
    | succ n ih =>
      intro hn
      have h1 := ih (by omega)
      have h2 := (hOw.2.1 n (by omega)).1
      show fb_sm (fun c => gwN g way d (1 + c)) n + gwN g way d (1 + n) ≤ _
      omega
  have h := key (gwN g way d 21) (Nat.le_refl _)
  unfold smN
  omega
theorem cntN_le (hO : OKg T g) (way : Nat) : cntN g way ≤ 4 := by
  have b2 := hO.1.2.1
  have h := sm_le (f := fun k => if letB g way k = 5 then 0 else 1) (B := 1) (fun k => by show (if letB g way k = 5 then 0 else 1) ≤ 1; split <;> omega) (g 22)
  unfold cntN
  omega
end BOUNDS
