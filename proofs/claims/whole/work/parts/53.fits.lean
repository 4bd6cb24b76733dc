/-! by lit windows -/
def shoN (g : Nat → Nat) (f : Nat → Int32) : Nat → Bool
  | 0 => true
  | n + 1 => shoN g f n && decide (nI (grs (git g (n + 1))) = f n)
theorem shoN_s (g : Nat → Nat) (f : Nat → Int32) (n : Nat) : shoN g f (n + 1) = (shoN g f n && decide (nI (grs (git g (n + 1))) = f n)) := rfl
theorem shoN_no {g : Nat → Nat} {f : Nat → Int32} {j : Nat} (h : shoN g f j = false) : ∀ d, shoN g f (j + d) = false
  | 0 => h
  | d + 1 => by
    show shoN g f (j + d + 1) = false
    rw [shoN_s, shoN_no h d]
    rfl
theorem shoN_cong {g : Nat → Nat} {f f' : Nat → Int32} : ∀ n, (∀ j, j < n → f j = f' j) → shoN g f n = shoN g f' n
  | 0, _ => rfl
  | n + 1, h => by rw [shoN_s, shoN_s, shoN_cong n (fun j hj => h j (by omega)), h n (by omega)]
def fldN (what : Nat) : Nat := if what = 0 then 10 else if what = 1 then 28 else 6
def mayN (g : Nat → Nat) (what v : Nat) : Bool := if what = 0 then decide (v < g 21 ∨ v = 5) else if what = 1 then decide (1 ≤ v) else true
theorem AgX.setS {a : BX1} {g : Nat → Nat} (h : AgX a g) {k v : Nat} (hk : k < g 22) (h4 : g 22 ≤ 4) (h5 : g 21 ≤ 5) : AgX (a.1, a.2.1, upd a.2.2.1 k (nI v), a.2.2.2) (gset g (28 + k) v) := by
  obtain ⟨⟨⟨e1, e2, e3, e4, e5⟩, hC, hW⟩, hwt, hwa⟩ := h
  have n21 : gset g (28 + k) v 21 = g 21 := gset_ne (by omega)
  have n22 : gset g (28 + k) v 22 = g 22 := gset_ne (by omega)
  unfold AgX AgS
  rw [n21, n22]
  refine ⟨⟨⟨e1, e2, ?_, ?_, ?_⟩, fun c hc => ?_, fun i hi => ⟨?_, ?_, ?_, ?_⟩⟩, fun c hc => ?_, fun i hi => ?_⟩
  · rw [gset_ne (by omega)]; exact e3
  · rw [gset_ne (by omega)]; exact e4
  · rw [gset_ne (by omega)]; exact e5
  · rw [gset_ne (by omega)]; exact hC c hc
  · show upd a.2.2.1 k (nI v) i = _
    rw [upd_at]
    by_cases hik : i = k
    · rw [if_pos hik, hik, gset_at]
    · rw [if_neg hik, gset_ne (by omega)]; exact (hW i hi).1
  · rw [gset_ne (by omega)]; exact (hW i hi).2.1
  · rw [gset_ne (by omega)]; exact (hW i hi).2.2.1
  · rw [gset_ne (by omega)]; exact (hW i hi).2.2.2
  · rw [gset_ne (by omega)]; exact hwt c hc
  · rw [gset_ne (by omega)]; exact hwa i hi
theorem OKg.setS {T : Nat} {g : Nat → Nat} (hO : OKg T g) {k v : Nat} (hk : k < g 22) (h1 : 1 ≤ v) (h5 : v ≤ 5) : OKg T (gset g (28 + k) v) := by
  obtain ⟨⟨b1, b2, b3, b4, b5, b6⟩, hc, hkk, h18, h0⟩ := hO
  have n0 : gset g (28 + k) v 0 = g 0 := gset_ne (by omega)
  have n18 : gset g (28 + k) v 18 = g 18 := gset_ne (by omega)
  have n19 : gset g (28 + k) v 19 = g 19 := gset_ne (by omega)
  have n20 : gset g (28 + k) v 20 = g 20 := gset_ne (by omega)
  have n21 : gset g (28 + k) v 21 = g 21 := gset_ne (by omega)
  have n22 : gset g (28 + k) v 22 = g 22 := gset_ne (by omega)
  unfold OKg
  rw [n0, n18, n19, n20, n21, n22]
  refine ⟨⟨b1, b2, b3, b4, b5, b6⟩, fun c hcc => ⟨?_, ?_⟩, fun i hi => ⟨?_, ?_, ?_, ?_, ?_⟩, h18, h0⟩
  · rw [gset_ne (by omega)]; exact (hc c hcc).1
  · rw [gset_ne (by omega)]; exact (hc c hcc).2
  · by_cases h : 28 + i = 28 + k
    · rw [h, gset_at]; exact ⟨h1, h5⟩
    · rw [gset_ne h]; exact (hkk i hi).1
  · rw [gset_ne (by omega)]; exact (hkk i hi).2.1
  · rw [gset_ne (by omega)]; exact (hkk i hi).2.2.1
  · rw [gset_ne (by omega)]; exact (hkk i hi).2.2.2.1
  · rw [gset_ne (by omega)]; exact (hkk i hi).2.2.2.2
theorem fit_ok {T : Nat} {g : Nat → Nat} (hO : OKg T g) {k v what : Nat} (hk : k < g 22) (hw : what ≤ 2) (hv : v ≤ 5) (hm : mayN g what v = true) : OKg T (gset g (fldN what + k) v) := by
  rcases (show what = 0 ∨ what = 1 ∨ what = 2 by omega) with rfl | rfl | rfl
  · exact hO.set (Or.inr (Or.inr ⟨k, hk, rfl, of_decide_eq_true hm⟩))
  · exact hO.setS hk (of_decide_eq_true hm) hv
  · exact hO.set (Or.inr (Or.inl ⟨k, hk, rfl, hv⟩))
section OPSP
variable {ux : BX6} {un ut : BX1} {up : BX5} {ua : BX0} {us : BX4} {uk : BX2} {ur : BX3} {rs : Nat → BX3} {ms : Nat → BX1} {m : BX7} {a0 a1 a2 a3 a4 : Int32}
theorem p_isGuess {g : Nat → Nat} {T v what : Nat} (hA : AgX un g) (hO : OKg T g) (hv : v ≤ 5) (hw : what ≤ 2) {post : Int32 → Prop} (hp : post (bi (mayN g what v = true))) : w_X6_isGuess ux un (nI v) (nI what) post := by
  have b1 := hO.1.1
  unfold w_X6_isGuess
  rcases (show what = 0 ∨ what = 1 ∨ what = 2 by omega) with rfl | rfl | rfl
  · refine ⟨fun _ => p_hasClient hA.1.1.1 b1 ?_, fun q => absurd rfl q⟩
    have hp : post (bi (decide (v < g 21 ∨ v = 5) = true)) := hp
    rw [bi_iff (show decide (v < g 21 ∨ v = 5) = true ↔ (v < g 21 ∨ v = 5) from decide_eq_true_iff)] at hp
    rw [nIto (by omega)]
    by_cases h : v < g 21
    · rw [bi_t (by omega)]
      rw [bi_t (Or.inl h)] at hp
      exact sel1 hp
    · rw [bi_f (by omega)]
      refine sel0 ?_
      rw [show (5 : Int32) = nI 5 from rfl, nIinj (by omega) (by omega)]
      refine ⟨fun h5 => ?_, fun h5 => ?_⟩
      · rw [bi_t (Or.inr h5)] at hp; exact hp
      · rw [bi_f (by omega)] at hp; exact hp
  · refine ⟨fun q => absurd q (by decide), fun _ => ⟨fun q => absurd q (by decide), fun _ => ?_⟩⟩
    have hp : post (bi (decide (1 ≤ v) = true)) := hp
    rw [bi_iff (show decide (1 ≤ v) = true ↔ (1 ≤ v) from decide_eq_true_iff)] at hp
    rw [show (1 : Int32) = nI 1 from rfl, nIlt (by omega) (by omega)]
    refine ⟨fun h5 => ?_, fun h5 => ?_⟩
    · rw [bi_f (by omega)] at hp; exact hp
    · rw [bi_t (by omega)] at hp; exact hp
  · refine ⟨fun q => absurd q (by decide), fun _ => ⟨fun _ => ?_, fun q => absurd rfl q⟩⟩
    have hp : post (bi (true = true)) := hp
    rw [bi_t rfl] at hp
    exact hp
theorem p_wsLoop {u : BX1} {g : Nat → Nat} {T i n : Nat} (hA : AgX u g) (hO : OKg T g) (hT : T + 20 ≤ 5000) (hn : n ≤ 16) (hi : i + n ≤ 40) {post : Int32 → BX1 → Prop} (hp : ∀ t', post (bi (shoN g (fun j => ur.1 (i + j)) n = true)) t') : ∃ n59, wL_X6_wouldShow_59 (nI i) (nI n) ux un ur post (fun (u12 : BX1) => post (0 : Int32) u12) n59 (0 : Int32) u := by
  refine up_inv (fun n2 x (v : BX1) => wL_X6_wouldShow_59 (nI i) (nI n) ux un ur post (fun (u12 : BX1) => post (0 : Int32) u12) n2 x v) n (fun j v => AgX v (git g j) ∧ shoN g (fun j => ur.1 (i + j)) j = true) ?_ ?_ u ⟨hA, rfl⟩
  · intro n2 v hv
    show wL_X6_wouldShow_59 _ _ _ _ _ _ _ _ _ _
    unfold wL_X6_wouldShow_59
    refine ⟨fun _ => ?_, fun h => absurd (Int32.le_refl _) h⟩
    have := hp v
    rw [bi_t hv.2] at this
    exact this
  · intro n2 j v hj hv ih
    obtain ⟨h1, h2⟩ := hv
    show wL_X6_wouldShow_59 _ _ _ _ _ _ _ _ _ _
    unfold wL_X6_wouldShow_59
    have hO1 := git_ok hO j (by omega)
    have hO2 := git_ok hO (j + 1) (by omega)
    rw [nIle (by omega) (by omega), nI_add, nIcl (by omega), nI_1]
    refine ⟨fun h => absurd h (by omega), fun _ => p_night h1 hO1 (fun a' ha => p_resting (g := git g (j + 1)) ha hO2 ⟨nIin (by omega) (by omega), fun h3 => ?_, fun h3 => ?_⟩)⟩
    · refine ih a' ⟨ha, ?_⟩
      rw [shoN_s, h2]
      simp [h3]
    · have hno : shoN g (fun j => ur.1 (i + j)) (j + 1) = false := by
        rw [shoN_s, h2]
        simp [h3]
      have hno2 := shoN_no hno (n - (j + 1))
      rw [show j + 1 + (n - (j + 1)) = n by omega] at hno2
      have := hp a'
      rw [bi_f (by rw [hno2]; exact Bool.false_ne_true)] at this
      exact this
theorem p_wouldShow {g : Nat → Nat} {T k v what i n : Nat} (hA : AgX un g) (hO : OKg T g) (hT : T + 20 ≤ 5000) (hk : k < g 22) (hv : v ≤ 5) (hw : what ≤ 2) (hm : mayN g what v = true) (hn : n ≤ 16) (hi : i + n ≤ 40) {post : Int32 → BX1 → Prop} (hp : ∀ t', post (bi (shoN (gset g (fldN what + k) v) (fun j => ur.1 (i + j)) n = true)) t') : w_X6_wouldShow ux un ut ur (nI k) (nI what) (nI v) (nI i) (nI n) post := by
  obtain ⟨b1, b2, b3, b4, b5, b6⟩ := hO.1
  have hO2 := fit_ok hO hk hw hv hm
  have hvp : vp_in (nI k) 4 := nIin (by omega) (by omega)
  unfold w_X6_wouldShow
  refine p_copyFrom hA hO (fun t' ht => ?_)
  unfold wpJ
  rw [nIcl (by omega)]
  rcases (show what = 0 ∨ what = 1 ∨ what = 2 by omega) with rfl | rfl | rfl
  · exact ⟨fun _ => ⟨hvp, p_wsLoop (ht.setH hk b2 b1) hO2 hT hn hi hp⟩, fun q => absurd rfl q⟩
  · exact ⟨fun q => absurd q (by decide), fun _ => ⟨fun _ => ⟨hvp, p_wsLoop (ht.setS hk b2 b1) hO2 hT hn hi hp⟩, fun q => absurd rfl q⟩⟩
  · exact ⟨fun q => absurd q (by decide), fun _ => ⟨fun q => absurd q (by decide), fun _ => ⟨hvp, p_wsLoop (ht.setF hk b2 b1) hO2 hT hn hi hp⟩⟩⟩
theorem p_isSo {w : Nat → Int32} {g : Nat → Nat} {T p n : Nat} (hM : AgM w 108 g) (hO : OKg T g) (hT : T + 20 ≤ 5000) (hn : n ≤ 16) (hi : p + n ≤ 320) {post : Int32 → BX7 → Prop} (hp : ∀ w', (∀ j, j < 108 → w' j = w j) → post (bi (shoN g (fun j => m.2.2.2.2.1 (p + j)) n = true)) (w', m.2)) : w_X7_isSo (w, m.2) (nI p) (nI n) post := by
  unfold w_X7_isSo
  refine up_inv (fun n2 x (s : Int32 × BX7) => wL_X7_isSo_5 (nI p) (nI n) post (fun (x6 : Int32) (u7 : BX7) => bz x6 ∧ post x6 u7) n2 s.1 x s.2) n (fun j s => ∃ w', s = (bi (shoN g (fun j => m.2.2.2.2.1 (p + j)) j = true), w', m.2) ∧ AgM w' 108 (git g j) ∧ ∀ i, i < 108 → w' i = w i) ?_ ?_ (1, w, m.2) ⟨w, rfl, hM, fun _ _ => rfl⟩
  · intro n2 s hs
    obtain ⟨w', rfl, h1, h2⟩ := hs
    show wL_X7_isSo_5 _ _ _ _ _ _ _ _
    unfold wL_X7_isSo_5
    exact ⟨fun _ => ⟨bi_bz, hp w' h2⟩, fun h => absurd (Int32.le_refl _) h⟩
  · intro n2 j s hj hs ih
    obtain ⟨w', rfl, h1, h2⟩ := hs
    have hO1 := git_ok hO j (by omega)
    have hO2 := git_ok hO (j + 1) (by omega)
    show wL_X7_isSo_5 _ _ _ _ _ _ _ _
    unfold wL_X7_isSo_5
    rw [nIle (by omega) (by omega), nI_add, nIcl (by omega), nI_1]
    refine ⟨fun h => absurd h (by omega), fun _ => p_passes0 (m := (w', m.2)) (r := 108) h1 hO1 (by omega) (fun w2 h3 h4 => ?_)⟩
    have hall : ∀ i, i < 108 → w2 i = w i := fun i hi => (h4 i (by omega)).trans (h2 i hi)
    have h3 : AgM w2 108 (git g (j + 1)) := h3
    by_cases hs : shoN g (fun j => m.2.2.2.2.1 (p + j)) j = true
    · rw [bi_t hs]
      refine sel1 (p_restsIn (r := 108) h3 hO2 (by omega) ⟨nIin (by omega) (by omega), fun h5 => ?_, fun h5 => ?_⟩)
      · have h5 : nI (grs (git g (j + 1))) = m.2.2.2.2.1 (p + j) := h5
        refine ih (1, w2, m.2) ⟨w2, ?_, h3, hall⟩
        rw [bi_t (by rw [shoN_s, hs]; simp [h5])]
      · have h5 : ¬ nI (grs (git g (j + 1))) = m.2.2.2.2.1 (p + j) := h5
        refine ih (0, w2, m.2) ⟨w2, ?_, h3, hall⟩
        rw [bi_f (by rw [shoN_s, hs]; simp [h5])]
    · rw [bi_f hs]
      refine sel0 (ih (0, w2, m.2) ⟨w2, ?_, h3, hall⟩)
      rw [bi_f (by rw [shoN_s, Bool.eq_false_iff.mpr hs]; exact Bool.false_ne_true)]
def fitB (g : Nat → Nat) (what k : Nat) (f : Nat → Int32) (n v : Nat) : Bool := mayN g what v && shoN (gset g (fldN what + k) v) f n
theorem p_fitsX {g : Nat → Nat} {T k what i n : Nat} (hA : AgX un g) (hO : OKg T g) (hT : T + 20 ≤ 5000) (hk : k < g 22) (hw : what ≤ 2) (hn : n ≤ 16) (hi : i + n ≤ 40) {post : Int32 → BX6 → BX1 → Prop} {Kx : Int32 → BX1 → Prop} (hp : ∀ t', Kx (nI (bits (fitB g what k (fun j => ur.1 (i + j)) n) 6)) t') : ∃ n90, wL_X6_fits_90 (nI k) (nI i) (nI n) (nI what) ux un ur post Kx n90 (0 : Int32) (0 : Int32) ut := by
  refine up_inv (fun n2 x (s : Int32 × BX1) => wL_X6_fits_90 (nI k) (nI i) (nI n) (nI what) ux un ur post Kx n2 s.1 x s.2) 6 (fun j s => s.1 = nI (bits (fitB g what k (fun j => ur.1 (i + j)) n) j)) ?_ ?_ (nI 0, ut) rfl
  · intro n2 s hs
    show wL_X6_fits_90 _ _ _ _ _ _ _ _ _ _ _ _ _
    unfold wL_X6_fits_90
    rw [hs]
    exact ⟨fun _ => hp _, fun h => absurd (by decide) h⟩
  · intro n2 j s hj hs ih
    have hbl := bits_lt (fitB g what k (fun j => ur.1 (i + j)) n) j
    have hsh : (1 : Int32) <<< (nI j &&& 31) = nI (2 ^ j) := shl_1 j (by omega)
    show wL_X6_fits_90 _ _ _ _ _ _ _ _ _ _ _ _ _
    unfold wL_X6_fits_90
    rw [hs, show (5 : Int32) = nI 5 from rfl, nIlt (by omega) (by omega), hsh, or_pow hj hbl, nI_1]
    refine ⟨fun h => absurd h (by omega), fun _ => p_isGuess hA hO (by omega) hw ?_⟩
    by_cases hm : mayN g what j = true
    · rw [bi_t hm]
      refine sel1 (p_wouldShow hA hO hT hk (by omega) hw hm hn hi (fun t' => ?_))
      by_cases h5 : shoN (gset g (fldN what + k) j) (fun j => ur.1 (i + j)) n = true
      · rw [bi_t h5]
        refine sel1 (fun x25 h25 => ih (x25, t') ?_)
        rw [bits_s, if_pos (by unfold fitB; rw [hm, h5]; rfl)]
        exact h25
      · rw [bi_f h5]
        refine sel0 (ih (nI (bits (fitB g what k (fun j => ur.1 (i + j)) n) j), t') ?_)
        rw [bits_s, if_neg (by unfold fitB; rw [hm, Bool.eq_false_iff.mpr h5]; exact Bool.false_ne_true), Nat.add_zero]
    · rw [bi_f hm]
      refine sel0 (ih (nI (bits (fitB g what k (fun j => ur.1 (i + j)) n) j), s.2) ?_)
      rw [bits_s, if_neg (by unfold fitB; rw [Bool.eq_false_iff.mpr hm]; exact Bool.false_ne_true), Nat.add_zero]
theorem p_fitsM {g : Nat → Nat} {T k what p n : Nat} (hM : AgM m.1 0 g) (hO : OKg T g) (hT : T + 20 ≤ 5000) (hk : k < g 22) (hw : what ≤ 2) (hn : n ≤ 16) (hi : p + n ≤ 320) {post : Int32 → BX7 → Prop} {Kx : Int32 → BX7 → Prop} (hp : ∀ w', (∀ j, j < 108 → w' j = m.1 j) → Kx (nI (bits (fitB g what k (fun j => m.2.2.2.2.1 (p + j)) n) 6)) (w', m.2)) : ∃ n111, wL_X7_fits_111 (nI k) (nI n) (nI what) (nI p) (nI (fldN what)) post Kx n111 (0 : Int32) (nI (if what = 1 then 1 else 0)) m := by
  obtain ⟨b1, b2, b3, b4, b5, b6⟩ := hO.1
  have hf : fldN what ≤ 28 := by unfold fldN; repeat' split
                                 all_goals omega
  have hf6 : 6 ≤ fldN what := by unfold fldN; repeat' split
                                 all_goals omega
  refine up_from (fun n2 x (s : Int32 × BX7) => wL_X7_fits_111 (nI k) (nI n) (nI what) (nI p) (nI (fldN what)) post Kx n2 s.1 x s.2) 6 (if what = 1 then 1 else 0) (by split <;> omega) (fun j s => ∃ w', s = (nI (bits (fitB g what k (fun j => m.2.2.2.2.1 (p + j)) n) j), w', m.2) ∧ ∀ i, i < 108 → w' i = m.1 i) ?_ ?_ (nI 0, m) ⟨m.1, ?_, fun _ _ => rfl⟩
  · intro n2 s hs
    obtain ⟨w', rfl, h⟩ := hs
    show wL_X7_fits_111 _ _ _ _ _ _ _ _ _ _ _
    unfold wL_X7_fits_111
    exact ⟨fun _ => hp w' h, fun h => absurd (Int32.le_refl _) h⟩
  · intro n2 j s hj0 hj hs ih
    obtain ⟨w', rfl, h⟩ := hs
    have hbl := bits_lt (fitB g what k (fun j => m.2.2.2.2.1 (p + j)) n) j
    have hsh : (1 : Int32) <<< (nI j &&& 31) = nI (2 ^ j) := shl_1 j (by omega)
    have eix : ((108 : Int32) + nI (fldN what)) + nI k = nI (108 + (fldN what + k)) := by
      simp (disch := omega) only [liN, nI_add]
      congr 1
      omega
    show wL_X7_fits_111 _ _ _ _ _ _ _ _ _ _ _
    unfold wL_X7_fits_111
    rw [show (6 : Int32) = nI 6 from rfl, nIle (by omega) (by omega), hsh, eix, nIcl (by omega), nI_1]
    refine ⟨fun h => absurd h (by omega), fun _ => p_copyAll (m := (w', m.2)) (r1 := 0) (r2 := 108) (by omega) (by omega) (by omega) (fun w2 h3 h4 => ⟨nIin (by omega) (by omega), ?_⟩)⟩
    have hM2 : AgM (upd w2 (108 + (fldN what + k)) (nI j)) 108 (gset g (fldN what + k) j) := AgM.setr (fun i hi => (h3 i hi).trans ((h _ (by omega)).trans (hM i hi))) (by omega)
    have hup : ∀ i, i < 108 → upd w2 (108 + (fldN what + k)) (nI j) i = m.1 i := fun i hi => by
      rw [upd_at, if_neg (by omega), h4 i (by omega)]
      exact h i hi
    have hM0 : AgM (upd w2 (108 + (fldN what + k)) (nI j)) 0 g := fun i hi => by
      rw [hup _ (by omega)]
      exact hM i hi
    -- one who may be tried, and one who may not
    have may1 : mayN g what j = true → w_X7_isSo (upd w2 (108 + (fldN what + k)) (nI j), m.2) (nI p) (nI n) (fun r30 u31 => (r30 = 0 → ∀ x32 : Int32, x32 = (nI (bits (fitB g what k (fun j => m.2.2.2.2.1 (p + j)) n) j) ||| (0 : Int32)) → wL_X7_fits_111 (nI k) (nI n) (nI what) (nI p) (nI (fldN what)) post Kx n2 x32 (nI (j + 1)) u31) ∧ (¬ r30 = 0 → ∀ x33 : Int32, x33 = (nI (bits (fitB g what k (fun j => m.2.2.2.2.1 (p + j)) n) j) ||| nI (2 ^ j)) → wL_X7_fits_111 (nI k) (nI n) (nI what) (nI p) (nI (fldN what)) post Kx n2 x33 (nI (j + 1)) u31)) := by
      intro hm
      refine p_isSo hM2 (fit_ok hO hk hw (by omega) hm) hT hn hi (fun w3 h5 => ?_)
      have hall : ∀ i, i < 108 → w3 i = m.1 i := fun i hi => (h5 i hi).trans (hup i hi)
      by_cases h6 : shoN (gset g (fldN what + k) j) (fun j => m.2.2.2.2.1 (p + j)) n = true
      · rw [bi_t h6]
        refine sel1 (fun x33 h33 => ih (x33, w3, m.2) ⟨w3, ?_, hall⟩)
        rw [h33, or_pow hj hbl, bits_s, if_pos (by unfold fitB; rw [hm, h6]; rfl)]
      · rw [bi_f h6]
        refine sel0 (fun x32 h32 => ih (x32, w3, m.2) ⟨w3, ?_, hall⟩)
        rw [h32, Int32.or_zero, bits_s, if_neg (by unfold fitB; rw [hm, Bool.eq_false_iff.mpr h6]; exact Bool.false_ne_true), Nat.add_zero]
    have may0 : mayN g what j = false → ∀ x29 : Int32, x29 = (nI (bits (fitB g what k (fun j => m.2.2.2.2.1 (p + j)) n) j) ||| (0 : Int32)) → wL_X7_fits_111 (nI k) (nI n) (nI what) (nI p) (nI (fldN what)) post Kx n2 x29 (nI (j + 1)) (upd w2 (108 + (fldN what + k)) (nI j), m.2) := by
      intro hm x29 h29
      refine ih (x29, upd w2 (108 + (fldN what + k)) (nI j), m.2) ⟨upd w2 (108 + (fldN what + k)) (nI j), ?_, hup⟩
      rw [h29, Int32.or_zero, bits_s, if_neg (by unfold fitB; rw [hm]; exact Bool.false_ne_true), Nat.add_zero]
    unfold wpJ
    rcases (show what = 0 ∨ what = 1 ∨ what = 2 by omega) with rfl | rfl | rfl
    · refine ⟨fun _ => ⟨fun h5 => sel1 (may1 ?_), fun h5 => p_isClient (m := (upd w2 (108 + (fldN 0 + k)) (nI j), m.2)) hM0 hO ?_⟩, fun q => absurd rfl q⟩
      · rw [show (5 : Int32) = nI 5 from rfl, nIinj (by omega) (by omega)] at h5
        exact decide_eq_true (Or.inr h5)
      · rw [show (5 : Int32) = nI 5 from rfl, nIinj (by omega) (by omega)] at h5
        rw [nIto (by omega)]
        by_cases h7 : j < g 21
        · rw [bi_t (by omega)]
          exact sel1 (sel1 (may1 (decide_eq_true (Or.inl h7))))
        · rw [bi_f (by omega)]
          exact sel0 (sel0 (may0 (decide_eq_false (by omega))))
    · refine ⟨fun q => absurd q (by decide), fun _ => sel1 (may1 ?_)⟩
      have hj0 : 1 ≤ j := hj0
      exact decide_eq_true hj0
    · exact ⟨fun q => absurd q (by decide), fun _ => sel1 (may1 rfl)⟩
  · rcases (show what = 0 ∨ what = 1 ∨ what = 2 by omega) with rfl | rfl | rfl <;> rfl
theorem op_fits (hR : RR ux un up ua uk rs ms m) {P : Int32 → BX6 → BX1 → Int32 → BX7 → Prop} (hp : ∀ r ux' t' m', RR ux' un up ua uk rs ms m' → P r ux' t' r m') : W_X6_fits ux un ut rs a0 a1 a2 a3 a4 (fun r ux' t' => w_X7_fits m a0 a1 a2 a3 a4 (fun r2 m' => P r ux' t' r2 m')) := by
  have hR0 := hR
  have hRow : RowR rs m.2.2.2.2.1 m.2.2.2.2.2.1 m.2.2.2.2.2.2.1 := hR.choose_spec.2.2.2.1
  obtain ⟨g, ⟨hA, hM, hO⟩, _⟩ := hR
  obtain ⟨b1, b2, b3, b4, b5, b6⟩ := hO.1
  have pick : ∃ r, r < 8 ∧ (vp_in a1 8 → a1.toNatClampNeg = r) ∧ (0 ≤ a1.toInt ∧ a1.toInt < (8 : Nat) → a1 = nI r) := by
    by_cases h : 0 ≤ a1.toInt ∧ a1.toInt < (8 : Nat)
    · obtain ⟨k, hk, rfl⟩ := nI_range h (by decide)
      exact ⟨k, hk, fun _ => nIcl (by omega), fun _ => rfl⟩
    · obtain ⟨k, hk, he⟩ := pick_in a1 (N := 8) (by omega)
      exact ⟨k, hk, he, fun q => absurd q h⟩
  obtain ⟨r, hr, hr1, hr2⟩ := pick
  unfold W_X6_fits
  refine ⟨r, hr, hr1, ?_⟩
  -- the reference's way
  have M : ∀ Q : Int32 → BX7 → Prop, (¬ ((0 ≤ a0.toInt ∧ a0.toInt < g 22) ∧ (0 ≤ a1.toInt ∧ a1.toInt < (8 : Nat)) ∧ (1 ≤ a3.toInt ∧ a3.toInt ≤ (16 : Nat)) ∧ (0 ≤ a4.toInt ∧ a4.toInt ≤ (2 : Nat))) → Q (-1000001) m) → ((0 ≤ a0.toInt ∧ a0.toInt < g 22) → (0 ≤ a1.toInt ∧ a1.toInt < (8 : Nat)) → (1 ≤ a3.toInt ∧ a3.toInt ≤ (16 : Nat)) → (0 ≤ a4.toInt ∧ a4.toInt ≤ (2 : Nat)) → w_X7_against m a1 a2 a3 (fun r5 u6 => (0 ≤ r5 → ∀ x7 : Int32, x7 = (((40 : Int32) * a1) + a2) → wpJ (T := Int32 → Prop) (fun (v9 : Int32) => wpJ (T := Int32 → Prop) (fun (v11 : Int32) => ∃ n111, wL_X7_fits_111 a0 a3 a4 x7 v9 Q (fun (x20 : Int32) (u21 : BX7) => w_X7_good u21 x20 (fun r22 u23 => Q r22 u23)) n111 (0 : Int32) v11 u6) (fun J10 => (a4 = (1 : Int32) → J10 (1 : Int32)) ∧ (¬ a4 = (1 : Int32) → J10 (0 : Int32)))) (fun J8 => (a4 = 0 → J8 (10 : Int32)) ∧ (¬ a4 = 0 → (a4 = (1 : Int32) → J8 (28 : Int32)) ∧ (¬ a4 = (1 : Int32) → J8 (6 : Int32))))) ∧ (¬ 0 ≤ r5 → Q r5 u6))) → w_X7_fits m a0 a1 a2 a3 a4 Q := by
    intro Q q1 q2
    unfold w_X7_fits
    refine p_isWaker hM hO ?_
    by_cases c1 : 0 ≤ a0.toInt ∧ a0.toInt < g 22
    · rw [bi_t c1]
      refine sel1 (p_isRow ?_)
      by_cases c2 : 0 ≤ a1.toInt ∧ a1.toInt < (8 : Nat)
      · rw [bi_t c2]
        refine sel1 (p_in ?_)
        rw [t64, show (1 : Int64).toInt = 1 from rfl, show (16 : Int64).toInt = (16 : Nat) from rfl]
        by_cases c3 : 1 ≤ a3.toInt ∧ a3.toInt ≤ (16 : Nat)
        · rw [bi_t c3]
          refine sel1 (p_in ?_)
          rw [t64, l64_0, show (2 : Int64).toInt = (2 : Nat) from rfl]
          by_cases c4 : 0 ≤ a4.toInt ∧ a4.toInt ≤ (2 : Nat)
          · rw [bi_t c4]
            exact sel1 (q2 c1 c2 c3 c4)
          · rw [bi_f c4]
            exact sel0 (q1 (fun q => c4 q.2.2.2))
        · rw [bi_f c3]
          exact sel0 (q1 (fun q => c3 q.2.2.1))
      · rw [bi_f c2]
        exact sel0 (q1 (fun q => c2 q.2.1))
    · rw [bi_f c1]
      exact sel0 (q1 (fun q => c1 q.1))
  unfold w_X6_fits w_X6_found w_X6_unfound
  refine p_hasWaker hA.1.1.2.1 b2 ?_
  by_cases c1 : 0 ≤ a0.toInt ∧ a0.toInt < g 22
  · rw [bi_t c1]
    refine sel1 (p_within7 ?_)
    by_cases c2 : 0 ≤ a1.toInt ∧ a1.toInt < (8 : Nat)
    · rw [bi_t c2]
      refine sel1 (p_isWithin ?_)
      rw [show (1 : Int32).toInt = 1 from rfl, show (16 : Int32).toInt = (16 : Nat) from rfl]
      by_cases c3 : 1 ≤ a3.toInt ∧ a3.toInt ≤ (16 : Nat)
      · rw [bi_t c3]
        refine sel1 (p_isWithin ?_)
        rw [lit_toInt0, show (2 : Int32).toInt = (2 : Nat) from rfl]
        by_cases c4 : 0 ≤ a4.toInt ∧ a4.toInt ≤ (2 : Nat)
        · rw [bi_t c4]
          obtain ⟨k, hk, rfl⟩ := nI_range c1 (by omega)
          have e1 := hr2 c2
          subst e1
          obtain ⟨n, hn, rfl⟩ := nI_range2 (c := a3) (N := 16) (by omega) (by decide)
          obtain ⟨what, hwt, rfl⟩ := nI_range2 c4 (by decide)
          have hv : vp_in (nI r) 8 := nIin hr (by omega)
          have c3' := c3
          rw [nIto (by omega)] at c3'
          refine sel1 ⟨hv, ?_⟩
          rcases hRow r hr with ⟨e1, e2⟩ | ⟨sz, l, hsz, hl, e1, e2, e3, e4, e5⟩
          · refine p_miss1 e1 (sel1 (M _ (fun q => absurd ⟨c1, c2, c3, c4⟩ q) (fun _ _ _ _ => ?_)))
            unfold w_X7_against
            rw [nIcl (by omega), e2]
            exact ⟨hv, fun q => absurd q (by decide), fun _ => ⟨fun q => absurd q (by decide), fun _ => hp _ _ _ _ (hR0.stat 1)⟩⟩
          · refine p_miss0 e1 hsz (sel0 (p_holds e1 hsz ?_))
            rw [nIto (show n < _ by omega)]
            have N : ∀ Q : Int32 → BX7 → Prop, (0 ≤ a2.toInt ∧ a2.toInt + n ≤ sz → ∀ (i : Nat), i ≤ 40 → a2 = nI i → ∀ m', RR (ux.1, 0) un up ua uk rs ms m' → Q (nI (bits (fitB g what k (fun j => (rs r).1 (i + j)) n) 6)) m') → (¬ (0 ≤ a2.toInt ∧ a2.toInt + n ≤ sz) → Q ((-1000010 : Int32) - 2) (m.1, m.2.1, m.2.2.1, m.2.2.2.1, m.2.2.2.2.1, m.2.2.2.2.2.1, m.2.2.2.2.2.2.1, 2, m.2.2.2.2.2.2.2.2)) → w_X7_fits m (nI k) (nI r) a2 (nI n) (nI what) Q := by
              intro Q q1 q2
              refine M Q (fun q => absurd ⟨c1, c2, c3, c4⟩ q) (fun _ _ _ _ => ?_)
              unfold w_X7_against
              rw [nIcl (by omega), e2]
              refine ⟨hv, fun _ => ⟨hv, p_isWithinM hsz ?_⟩, fun q => absurd (nI_ge0 (by omega)) q⟩
              rw [nIto (show n < _ by omega)]
              by_cases c5 : 0 ≤ a2.toInt ∧ a2.toInt + n ≤ sz
              · rw [bi_t c5]
                obtain ⟨i, hi, rfl⟩ := nI_range2 (c := a2) (N := 40) (by omega) (by decide)
                have c5' := c5
                rw [nIto (by omega)] at c5'
                refine sel1 ⟨fun _ x7 h7 => ?_, fun q => absurd (by decide) q⟩
                have e40 : (40 : Int32) * nI r + nI i = nI (40 * r + i) := by simp (disch := omega) only [liN, nI_add, pk_mul]
                rw [e40] at h7
                subst h7
                have key := p_fitsM (m := m) (p := 40 * r + i) (n := n) (what := what) (k := k) (post := Q) (Kx := fun (x20 : Int32) (u21 : BX7) => w_X7_good u21 x20 (fun r22 u23 => Q r22 u23)) hM hO (by omega) hk hwt hn (by omega) (fun w' h4 => ?_)
                · unfold wpJ
                  rcases (show what = 0 ∨ what = 1 ∨ what = 2 by omega) with rfl | rfl | rfl
                  · exact ⟨fun _ => ⟨fun q => absurd q (by decide), fun _ => key⟩, fun q => absurd rfl q⟩
                  · exact ⟨fun q => absurd q (by decide), fun _ => ⟨fun _ => ⟨fun _ => key, fun q => absurd rfl q⟩, fun q => absurd rfl q⟩⟩
                  · exact ⟨fun q => absurd q (by decide), fun _ => ⟨fun q => absurd q (by decide), fun _ => ⟨fun q => absurd q (by decide), fun _ => key⟩⟩⟩
                · have e9 : bits (fitB g what k (fun j => m.2.2.2.2.1 (40 * r + i + j)) n) 6 = bits (fitB g what k (fun j => (rs r).1 (i + j)) n) 6 := by
                    refine bits_cong (fun v _ => ?_)
                    unfold fitB
                    rw [shoN_cong n (fun j hj => ?_)]
                    rw [e5 (i + j) (by omega), Nat.add_assoc]
                  rw [e9]
                  exact q1 c5 i hi rfl _ ((hR0.trial h4).stat 0)
              · rw [bi_f c5]
                exact sel0 ⟨fun q => absurd q (by decide), fun _ => q2 c5⟩
            by_cases c5 : 0 ≤ a2.toInt ∧ a2.toInt + n ≤ sz
            · rw [bi_t ⟨c5.1, by omega, c5.2⟩]
              obtain ⟨i, hi, rfl⟩ := nI_range2 (c := a2) (N := 40) (by omega) (by decide)
              have c5' := c5
              rw [nIto (by omega)] at c5'
              refine sel1 (p_fitsX hA hO (by omega) hk hwt hn (by omega) (fun t' => N _ (fun _ i2 hi3 hi2 m' h => ?_) (fun q => absurd c5 q)))
              have hii : i2 = i := ((nIinj (by omega) (by omega)).mp hi2).symm
              rw [hii]
              exact hp _ _ _ _ h
            · rw [bi_f (fun q => c5 ⟨q.1, q.2.2⟩)]
              exact sel0 (N _ (fun q => absurd q c5) (fun _ => hp _ _ _ _ (hR0.stat 2)))
        · rw [bi_f c4]
          exact sel0 (M _ (fun _ => hp _ _ _ _ hR0) (fun _ _ _ q => absurd q c4))
      · rw [bi_f c3]
        exact sel0 (M _ (fun _ => hp _ _ _ _ hR0) (fun _ _ q => absurd q c3))
    · rw [bi_f c2]
      exact sel0 (M _ (fun _ => hp _ _ _ _ hR0) (fun _ q => absurd q c2))
  · rw [bi_f c1]
    exact sel0 (M _ (fun _ => hp _ _ _ _ hR0) (fun q => absurd q c1))
end OPSP
