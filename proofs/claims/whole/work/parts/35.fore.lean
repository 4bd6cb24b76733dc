/-- so many nights later -/
def git (g : Nat → Nat) : Nat → Nat → Nat
  | 0 => g
  | n + 1 => gpass (git g n) aw1
theorem git_s (g : Nat → Nat) (n : Nat) : git g (n + 1) = gpass (git g n) aw1 := rfl
theorem git_ok {T : Nat} {g : Nat → Nat} (hO : OKg T g) : ∀ d, T + d ≤ 5000 → OKg (T + d) (git g d)
  | 0, _ => hO
  | d + 1, h => gp_ok (git_ok hO d (by omega)) aw1 (by omega)
theorem p_night {a : BX1} {g : Nat → Nat} {T : Nat} (hA : AgX a g) (hO : OKg T g) {post : BX1 → Prop} (hp : ∀ a', AgX a' (gpass g aw1) → post a') : w_X1_passNight a (15 : Int32) post :=
  p_passNight (s := 15) hA hO (by decide) (fun a' h => hp a' (by rw [gpass_cong hO awb_15] at h; exact h))
theorem p_passes0 {m : BX7} {g : Nat → Nat} {T r : Nat} (hM : AgM m.1 r g) (hO : OKg T g) (hr : r ≤ 108) {post : BX7 → Prop} (hp : ∀ w', AgM w' r (gpass g aw1) → (∀ j, (j < r ∨ r + 36 ≤ j) → w' j = m.1 j) → post (w', m.2)) : w_X7_passes m (nI r) (0 : Int32) post :=
  p_passes (s := 0) hM hO hr (by decide) (fun w' h1 h2 => hp w' (by rw [gpass_cong hO awn_0] at h1; exact h1) h2)
theorem p_copyFrom {t a : BX1} {g : Nat → Nat} {T : Nat} (hA : AgX a g) (hO : OKg T g) {post : BX1 → Prop} (hp : ∀ t', AgX t' g → post t') : w_X1_copyFrom t a post := by
  obtain ⟨⟨⟨e1, e2, e3, e4, e5⟩, hC, hW⟩, hwt, hwa⟩ := hA
  obtain ⟨b1, b2, b3, b4, b5, b6⟩ := hO.1
  unfold w_X1_copyFrom
  refine ⟨by decide, by decide, by decide, by decide, by decide, by decide, by decide, hp _ ⟨⟨⟨e1, e2, e3, e4, e5⟩, ?_, ?_⟩, ?_, ?_⟩⟩
  · intro c hc
    show va_cpy _ _ 0 0 5 c = _
    rw [pk_cpy_in (by omega) (by omega)]
    simpa using hC c hc
  · intro k hk
    refine ⟨?_, ?_, ?_, ?_⟩
    · show va_cpy _ _ 0 0 4 k = _
      rw [pk_cpy_in (by omega) (by omega)]
      simpa using (hW k hk).1
    · show va_cpy _ _ 0 0 4 k = _
      rw [pk_cpy_in (by omega) (by omega)]
      simpa using (hW k hk).2.1
    · show va_cpy _ _ 0 0 4 k = _
      rw [pk_cpy_in (by omega) (by omega)]
      simpa using (hW k hk).2.2.1
    · show va_cpy _ _ 0 0 4 k = _
      rw [pk_cpy_in (by omega) (by omega)]
      simpa using (hW k hk).2.2.2
  · intro c hc
    show va_cpy _ _ 0 0 5 c = _
    rw [pk_cpy_in (by omega) (by omega)]
    simpa using hwt c hc
  · intro k hk
    show va_cpy _ _ 0 0 4 k = _
    rw [pk_cpy_in (by omega) (by omega)]
    simpa using hwa k hk
theorem p_foretell {ux : BX6} {un ut : BX1} {g : Nat → Nat} {T d : Nat} (hA : AgX un g) (hO : OKg T g) (hT : T + 60 ≤ 5000) (hd : d ≤ 60) {post : BX1 → Prop} (hp : ∀ t', AgX t' (git g d) → post t') : w_X6_foretell ux un ut (nI d) post := by
  unfold w_X6_foretell
  refine p_copyFrom hA hO (fun t' ht => ?_)
  refine up_inv (fun n i (u : BX1) => wL_X6_foretell_13 (nI d) ux un post (fun u => post u) n i u) d (fun j u => AgX u (git g j)) ?_ ?_ t' ht
  · intro n u hu
    show wL_X6_foretell_13 _ _ _ _ _ _ _ _
    unfold wL_X6_foretell_13
    exact ⟨fun _ => hp u hu, fun h => absurd (Int32.le_refl _) h⟩
  · intro n j u hj hu ih
    show wL_X6_foretell_13 _ _ _ _ _ _ _ _
    unfold wL_X6_foretell_13
    simp (disch := omega) only [nIle, nI_1]
    exact ⟨fun h => absurd h (by omega), fun _ => p_night hu (git_ok hO j (by omega)) (fun a' h => ih a' h)⟩
theorem p_tries {m : BX7} {g : Nat → Nat} {T d : Nat} (hM : AgM m.1 108 g) (hO : OKg T g) (hT : T + 60 ≤ 5000) (hd : d ≤ 60) {post : BX7 → Prop} (hp : ∀ w', AgM w' 108 (git g d) → (∀ j, j < 108 → w' j = m.1 j) → post (w', m.2)) : w_X7_tries m (nI d) post := by
  unfold w_X7_tries
  refine up_inv (fun n i (u : BX7) => wL_X7_tries_2 (nI d) post (fun u => post u) n i u) d (fun j u => u.2 = m.2 ∧ AgM u.1 108 (git g j) ∧ ∀ i, i < 108 → u.1 i = m.1 i) ?_ ?_ m ⟨rfl, hM, fun _ _ => rfl⟩
  · intro n u hu
    obtain ⟨e, h1, h2⟩ := hu
    show wL_X7_tries_2 _ _ _ _ _ _
    unfold wL_X7_tries_2
    refine ⟨fun _ => ?_, fun h => absurd (Int32.le_refl _) h⟩
    have h := hp u.1 h1 h2
    rw [← e] at h
    exact h
  · intro n j u hj hu ih
    obtain ⟨e, h1, h2⟩ := hu
    show wL_X7_tries_2 _ _ _ _ _ _
    unfold wL_X7_tries_2
    simp (disch := omega) only [nIle, nI_1]
    refine ⟨fun h => absurd h (by omega), fun _ => p_passes0 (r := 108) h1 (git_ok hO j (by omega)) (by omega) (fun w' h3 h4 => ih _ ⟨e, h3, fun i hi => (h4 i (by omega)).trans (h2 i hi)⟩)⟩
theorem p_triesFrom {m : BX7} {g : Nat → Nat} {T d : Nat} (hM : AgM m.1 0 g) (hO : OKg T g) (hT : T + 60 ≤ 5000) (hd : d ≤ 60) {post : BX7 → Prop} (hp : ∀ w', AgM w' 108 (git g d) → (∀ j, j < 108 → w' j = m.1 j) → post (w', m.2)) : w_X7_triesFrom m (nI d) post := by
  unfold w_X7_triesFrom
  refine p_copyAll (r1 := 0) (r2 := 108) (by omega) (by omega) (by omega) (fun w' h1 h2 => ?_)
  refine p_tries (g := g) (fun k hk => (h1 k hk).trans (hM k hk)) hO hT hd (fun w2 h3 h4 => hp w2 h3 (fun j hj => (h4 j hj).trans (h2 j (by omega))))
/-- how many nights until all of a set rest -/
def gfr (g : Nat → Nat) (s : Nat) : Nat → Nat → Int32
  | 0, _ => -1000000
  | n + 1, d => if (grs (git g d) &&& s) = s then nI d else gfr g s n (d + 1)
theorem and_eq : ∀ r, r < 32 → ∀ s, s < 32 → ((nI r &&& nI s) = nI s ↔ (r &&& s) = s) := by decide +kernel
theorem and_not : ∀ r, r < 32 → ∀ s, s < 32 → ((nI s &&& (nI r ^^^ (-1 : Int32))) = 0 ↔ (r &&& s) = s) := by decide +kernel
theorem grs_lt {T : Nat} {g : Nat → Nat} (hO : OKg T g) : grs g < 32 := Nat.lt_of_lt_of_le (bits_lt _ _) (pow5 hO.1.1)
theorem p_firstRest {ux : BX6} {un ut : BX1} {g : Nat → Nat} {T s : Nat} (hA : AgX un g) (hO : OKg T g) (hT : T + 61 ≤ 5000) (hs : s < 32) {post : Int32 → BX1 → Prop} (hp : ∀ t', post (gfr g s 61 0) t') : w_X6_firstRest ux un ut (nI s) post := by
  unfold w_X6_firstRest
  refine p_copyFrom hA hO (fun t' ht => ?_)
  have key : ∀ n d u, n + d = 61 → AgX u (git g d) → (∀ t', post (gfr g s n d) t') → wL_X6_firstRest_13 (nI s) ux un post (fun x8 u9 => post x8 u9) (n + 1) (nI d) u := by
    intro n
    induction n with
    | zero =>
      intro d u hd hu hq
      unfold wL_X6_firstRest_13
      simp (disch := omega) only [liN, nIlt]
      exact ⟨fun _ => hq u, fun h => absurd h (by omega)⟩
    | succ n ih =>
      intro d u hd hu hq
      have hOd := git_ok hO d (by omega)
      have hr := grs_lt hOd
      unfold wL_X6_firstRest_13
      simp (disch := omega) only [liN, nIlt, nI_add]
      refine ⟨fun h => absurd h (by omega), fun _ => p_resting hu hOd ?_⟩
      rw [and_eq _ hr s hs]
      unfold gfr at hq
      refine ⟨fun h => ?_, fun h => ?_⟩
      · have := hq u; rw [if_pos h] at this; exact this
      · refine p_night hu hOd (fun a' h2 => ih (d + 1) a' (by omega) h2 (fun t2 => ?_))
        have := hq t2; rw [if_neg h] at this; exact this
  exact ⟨62, key 61 0 t' rfl ht hp⟩
theorem p_firstOf {m : BX7} {g : Nat → Nat} {T s : Nat} (hM : AgM m.1 0 g) (hO : OKg T g) (hT : T + 61 ≤ 5000) (hs : s < 32) {post : Int32 → BX7 → Prop} (hp : ∀ w', (∀ j, j < 108 → w' j = m.1 j) → post (gfr g s 61 0) (w', m.2)) : w_X7_firstOf m (nI s) post := by
  unfold w_X7_firstOf
  refine p_copyAll (r1 := 0) (r2 := 108) (by omega) (by omega) (by omega) (fun w' h1 h2 => ?_)
  have key : ∀ n d (u : BX7), n + d = 61 → u.2 = m.2 → AgM u.1 108 (git g d) → (∀ j, j < 108 → u.1 j = m.1 j) → (∀ w', (∀ j, j < 108 → w' j = m.1 j) → post (gfr g s n d) (w', m.2)) → wL_X7_firstOf_9 (nI s) post (fun x6 u7 => post x6 u7) (n + 1) (nI d) u := by
    intro n
    induction n with
    | zero =>
      intro d u hd e hu h3 hq
      unfold wL_X7_firstOf_9
      simp (disch := omega) only [liN, nIlt]
      refine ⟨fun _ => ?_, fun h => absurd h (by omega)⟩
      have h := hq u.1 h3
      rw [← e] at h
      exact h
    | succ n ih =>
      intro d u hd e hu h3 hq
      have hOd := git_ok hO d (by omega)
      have hr := grs_lt hOd
      unfold wL_X7_firstOf_9
      rw [show (60 : Int32) = nI 60 from rfl, nIlt (by omega) (by omega), nI_1]
      refine ⟨fun h => absurd h (by omega), fun _ => p_restsIn (r := 108) hu hOd (by omega) ?_⟩
      rw [and_not _ hr s hs]
      unfold gfr at hq
      refine ⟨fun h => ?_, fun h => ?_⟩
      · have h4 := hq u.1 h3
        rw [if_pos h, ← e] at h4
        exact h4
      · refine p_passes0 (r := 108) hu hOd (by omega) (fun w2 h5 h6 => ih (d + 1) _ (by omega) e h5 (fun j hj => (h6 j (by omega)).trans (h3 j hj)) (fun w3 h7 => ?_))
        have h4 := hq w3 h7
        rw [if_neg h] at h4
        exact h4
  exact ⟨62, key 61 0 (w', m.2) rfl rfl (fun k hk => (h1 k hk).trans (hM k hk)) (fun j hj => h2 j (by omega)) hp⟩
