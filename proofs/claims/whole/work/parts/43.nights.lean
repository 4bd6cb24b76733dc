theorem OKg.tight {T : Nat} {g : Nat → Nat} (h : OKg T g) : OKg (g 0) g := by
  obtain ⟨⟨b1, b2, b3, b4, b5, b6⟩, hr⟩ := h
  exact ⟨⟨b1, b2, b3, b4, Nat.le_refl _, by omega⟩, hr⟩
theorem OKg.mono {T T' : Nat} {g : Nat → Nat} (h : OKg T g) (h1 : T ≤ T') (h2 : T' ≤ 5000) : OKg T' g := by
  obtain ⟨⟨b1, b2, b3, b4, b5, b6⟩, hr⟩ := h
  exact ⟨⟨b1, b2, b3, b4, by omega, h2⟩, hr⟩
def pitn (n : Nat) : Nat → Nat
  | 0 => n
  | i + 1 => pushn (pitn n i)
def pith (n : Nat) (hs : Nat → Nat → Nat) (g : Nat → Nat) : Nat → Nat → Nat → Nat
  | 0 => hs
  | i + 1 => pushh (pitn n i) (pith n hs g i) (git g i)
theorem pushn_le {n : Nat} (h : n ≤ 24) : pushn n ≤ 24 := by
  unfold pushn
  by_cases h2 : n = 24
  · rw [if_pos h2]; omega
  · rw [if_neg h2]; omega
theorem pitn_le {n : Nat} (h : n ≤ 24) : ∀ i, pitn n i ≤ 24
  | 0 => h
  | i + 1 => pushn_le (pitn_le h i)
theorem push_ok {n : Nat} {hs : Nat → Nat → Nat} {g g' : Nat → Nat} (hok : ∀ i, i < n → OKg 999 (hs i) ∧ ∀ j, 18 ≤ j → hs i j = g' j) (hO : OKg 999 g) (hn : n ≤ 24) (hg : ∀ j, 18 ≤ j → g j = g' j) : ∀ i, i < pushn n → OKg 999 (pushh n hs g i) ∧ ∀ j, 18 ≤ j → pushh n hs g i j = g' j := by
  intro i hi
  unfold pushn at hi
  unfold pushh
  by_cases h24 : n = 24
  · rw [if_pos h24] at hi
    rw [if_pos h24]
    by_cases h3 : i < 23
    · rw [if_pos h3]; exact hok _ (by omega)
    · rw [if_neg h3]; exact ⟨hO, hg⟩
  · rw [if_neg h24] at hi
    rw [if_neg h24]
    by_cases h3 : i < n
    · rw [if_pos h3]; exact hok _ h3
    · rw [if_neg h3]; exact ⟨hO, hg⟩
theorem pith_ok {n : Nat} {hs : Nat → Nat → Nat} {g : Nat → Nat} (hok : ∀ i, i < n → OKg 999 (hs i) ∧ ∀ j, 18 ≤ j → hs i j = g j) (hO : OKg 999 g) (hn : n ≤ 24) : ∀ d, g 0 + d ≤ 1000 → ∀ i, i < pitn n d → OKg 999 (pith n hs g d i) ∧ ∀ j, 18 ≤ j → pith n hs g d i j = g j
  | 0, _ => hok
  | d + 1, hd => push_ok (pith_ok hok hO hn d (by omega)) ((git_ok hO.tight d (by omega)).mono (by omega) (by omega)) (pitn_le hn d) (fun j hj => git_st hO.tight (by omega) (by omega) d (by omega))
section OPSD
variable {ux : BX6} {un ut : BX1} {up : BX5} {ua : BX0} {us : BX4} {uk : BX2} {rs : Nat → BX3} {ms : Nat → BX1} {m : BX7} {a0 a1 a2 a3 a4 : Int32}
theorem p_nightsX {g : Nat → Nat} {n : Nat} {hs : Nat → Nat → Nat} (hA : AgX un g) (hO : OKg 999 g) (hX : ActX ua n hs) (hok : ∀ i, i < n → OKg 999 (hs i) ∧ ∀ j, 18 ≤ j → hs i j = g j) {D : Nat} (hD : g 0 + D ≤ 999) {post : Int32 → BX1 → BX0 → Prop} {Kx : BX1 → BX0 → Prop} (hp : ∀ un' ua', AgX un' (git g D) → ActX ua' (pitn n D) (pith n hs g D) → Kx un' ua') : ∃ n46, wL_X6_nights_46 (nI D) ux post Kx n46 (0 : Int32) un ua := by
  refine up_inv (fun n i (u : BX1 × BX0) => wL_X6_nights_46 (nI D) ux post Kx n i u.1 u.2) D (fun j u => AgX u.1 (git g j) ∧ ActX u.2 (pitn n j) (pith n hs g j)) ?_ ?_ (un, ua) ⟨hA, hX⟩
  · intro n u hu
    show wL_X6_nights_46 _ _ _ _ _ _ _ _
    unfold wL_X6_nights_46
    exact ⟨fun _ => hp _ _ hu.1 hu.2, fun h => absurd (Int32.le_refl _) h⟩
  · intro n j u hj hu ih
    show wL_X6_nights_46 _ _ _ _ _ _ _ _
    unfold wL_X6_nights_46
    have hOj := git_ok hO.tight j (by omega)
    rw [nIle (by omega) (by omega)]
    refine ⟨fun h => absurd h (by omega), fun _ => p_keep hu.2 (fun i hi => (pith_ok hok hO hX.1 j (by omega) i hi).1) hu.1 hOj (fun ua' h1 => p_night hu.1 hOj (fun un' h2 => ?_))⟩
    rw [nI_1]
    exact ih (un', ua') ⟨h2, h1⟩
theorem p_nightsM {g : Nat → Nat} {n : Nat} {hs : Nat → Nat → Nat} (hM : AgM m.1 0 g) (hO : OKg 999 g) (hn : n ≤ 24) (hAm : ActM m.2.2.1 m.2.2.2.1 n hs) {D : Nat} (hD : g 0 + D ≤ 999) {post : Int32 → BX7 → Prop} {Kx : BX7 → Prop} (hp : ∀ w' acts' acted', AgM w' 0 (git g D) → (∀ j, 36 ≤ j → w' j = m.1 j) → ActM acts' acted' (pitn n D) (pith n hs g D) → Kx (w', m.2.1, acts', acted', m.2.2.2.2)) : ∃ n44, wL_X7_nights_44 (nI D) post Kx n44 (0 : Int32) m := by
  refine up_inv (fun n i (u : BX7) => wL_X7_nights_44 (nI D) post Kx n i u) D (fun j u => AgM u.1 0 (git g j) ∧ (∀ j, 36 ≤ j → u.1 j = m.1 j) ∧ ActM u.2.2.1 u.2.2.2.1 (pitn n j) (pith n hs g j) ∧ u.2.1 = m.2.1 ∧ u.2.2.2.2 = m.2.2.2.2) ?_ ?_ m ⟨hM, fun _ _ => rfl, hAm, rfl, rfl⟩
  · intro n u hu
    obtain ⟨c1, c2, c3, c4, c5⟩ := hu
    show wL_X7_nights_44 _ _ _ _ _ _
    unfold wL_X7_nights_44
    refine ⟨fun _ => ?_, fun h => absurd (Int32.le_refl _) h⟩
    have := hp u.1 u.2.2.1 u.2.2.2.1 c1 c2 c3
    rw [← c4, ← c5] at this
    exact this
  · intro n j u hj hu ih
    obtain ⟨c1, c2, c3, c4, c5⟩ := hu
    show wL_X7_nights_44 _ _ _ _ _ _
    unfold wL_X7_nights_44
    have hOj := git_ok hO.tight j (by omega)
    rw [nIle (by omega) (by omega)]
    refine ⟨fun h => absurd h (by omega), fun _ => p_minds (pitn_le hn j) c3 c1 (fun acts' acted' h1 => p_passes0 (m := (u.1, u.2.1, acts', acted', u.2.2.2.2)) (r := 0) c1 hOj (by omega) (fun w' h2 h3 => ?_))⟩
    rw [nI_1]
    exact ih _ ⟨h2, fun i hi => (h3 i (by omega)).trans (c2 i hi), h1, c4, c5⟩
theorem op_nights (hR : RR ux un up ua uk rs ms m) {P : Int32 → BX1 → BX0 → Int32 → BX7 → Prop} (hp : ∀ r un' ua' m', RR ux un' up ua' uk rs ms m' → P r un' ua' r m') : w_X6_nights ux un ua a0 (fun r un' ua' => w_X7_nights m a0 (fun r2 m' => P r un' ua' r2 m')) := by
  have hR0 := hR
  obtain ⟨g, ⟨hA, hM, hO⟩, ⟨n, hs, hX, hAm, hok⟩, hI, hrest⟩ := hR
  obtain ⟨b1, b2, b3, b4, b5, b6⟩ := hO.1
  have em : m.1 0 = nI (g 0) := hM 0 (by omega)
  unfold w_X6_nights w_X7_nights
  refine p_isOpen hA.1.1.1 b1 ?_
  by_cases h1 : 0 < g 21
  · rw [bi_t h1]
    refine sel1 (p_isWithin ?_)
    rw [show (1 : Int32).toInt = 1 from rfl, show (24 : Int32).toInt = (24 : Nat) from rfl]
    by_cases h2 : 1 ≤ a0.toInt ∧ a0.toInt ≤ (24 : Nat)
    · rw [bi_t h2]
      obtain ⟨d, hd, rfl⟩ := nI_range2 (c := a0) (N := 24) (by omega) (by decide)
      have mway : ∀ Q : Int32 → BX7 → Prop, (vp_in (0 : Int32) 144 ∧ (((m.1 (0 : Int32).toNatClampNeg) + nI d) ≤ (999 : Int32) → ∃ n44, wL_X7_nights_44 (nI d) Q (fun (u6 : BX7) => w_X7_restsIn u6 (0 : Int32) (fun r7 => Q r7 u6)) n44 (0 : Int32) m) ∧ (¬ ((m.1 (0 : Int32).toNatClampNeg) + nI d) ≤ (999 : Int32) → Q (-1000003 : Int32) m)) → w_X7_nights m (nI d) Q := by
        intro Q h
        unfold w_X7_nights
        refine p_isAgency hM hO ?_
        rw [bi_t h1]
        refine sel1 (p_in ?_)
        rw [t64, show (1 : Int64).toInt = 1 from rfl, show (24 : Int64).toInt = (24 : Nat) from rfl, bi_t h2]
        exact sel1 h
      have e0 : m.1 (0 : Int32).toNatClampNeg = nI (g 0) := em
      have hle : (nI (g 0) + nI d ≤ (999 : Int32)) ↔ g 0 + d ≤ 999 := by
        rw [nI_add, show (999 : Int32) = nI 999 from rfl, nIle (by omega) (by omega)]
      have hv0 : vp_in (0 : Int32) 144 := nIin (n := 0) (by omega) (by omega)
      rw [hA.1.1.2.2.2.2]
      refine sel1 ⟨fun h => ?_, fun h => mway _ ⟨hv0, fun h3 => ?_, fun _ => hp _ _ _ _ hR0⟩⟩
      · rw [hle] at h
        refine p_nightsX hA hO hX hok h (fun un' ua' hA' hX' => ?_)
        have hOd := git_ok hO.tight d (by omega)
        refine p_resting hA' hOd (mway _ ⟨hv0, fun _ => ?_, fun h3 => ?_⟩)
        · refine p_nightsM hM hO hX.1 hAm h (fun w' acts' acted' c1 c2 c3 => p_restsIn (r := 0) c1 hOd (by omega) (hp _ _ _ _ ⟨git g d, ⟨hA', c1, hOd.mono (by omega) (by omega)⟩, ⟨_, _, hX', c3, fun i hi => ?_⟩, hI.out (fun j h1 h2 => c2 j h1), hrest⟩))
          obtain ⟨q1, q2⟩ := pith_ok hok hO hX.1 d (by omega) i hi
          exact ⟨q1, fun j hj => (q2 j hj).trans (git_st hO.tight (by omega) (by omega) d (by omega)).symm⟩
        · rw [e0, hle] at h3
          exact absurd h h3
      · rw [e0] at h3
        exact absurd h3 h
    · rw [bi_f h2]
      refine sel0 (p_isAgency hM hO ?_)
      rw [bi_t h1]
      refine sel1 (p_in ?_)
      rw [t64, show (1 : Int64).toInt = 1 from rfl, show (24 : Int64).toInt = (24 : Nat) from rfl, bi_f h2]
      exact sel0 (hp _ _ _ _ hR0)
  · rw [bi_f h1]
    refine sel0 (p_isAgency hM hO ?_)
    rw [bi_f h1]
    exact sel0 (hp _ _ _ _ hR0)
end OPSD
