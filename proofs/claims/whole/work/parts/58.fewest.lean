def okN (g : Nat → Nat) (d told way : Nat) : Prop := (grs (gwN g way d) &&& told) = told
theorem sub_tab : ∀ r, r < 32 → ∀ s, s < 32 → ((r &&& s) = s ↔ ∀ c, c < 5 → s / 2 ^ c % 2 = 1 → r / 2 ^ c % 2 = 1) := by decide +kernel
theorem sub_bits {p : Nat → Bool} {n s : Nat} (hn : n ≤ 5) (hs : s < 2 ^ n) : (bits p n &&& s) = s ↔ ∀ c, c < n → s / 2 ^ c % 2 = 1 → p c = true := by
  have h32 := pow5 hn
  have hb := bits_lt p n
  rw [sub_tab _ (by omega) s (by omega)]
  refine ⟨fun h c hc h1 => ?_, fun h c hc h1 => ?_⟩
  · have h2 := h c (by omega) h1
    rw [bits_bit p n c hc] at h2
    by_cases hp : p c = true
    · exact hp
    · rw [if_neg hp] at h2
      omega
  · by_cases hcn : c < n
    · rw [bits_bit p n c hcn, if_pos (h c hcn h1)]
    · have h3 : 2 ^ n ≤ 2 ^ c := Nat.pow_le_pow_right (by decide) (by omega)
      rw [Nat.div_eq_of_lt (by omega)] at h1
      omega
def fsN (g : Nat → Nat) (d told : Nat) : Nat → Option Nat
  | 0 => none
  | n + 1 => match fsN g d told n with
    | none => if (grs (gwN g n d) &&& told) = told then some n else none
    | some b => if (grs (gwN g n d) &&& told) = told ∧ cntN g n < cntN g b then some n else some b
theorem fsN_n {g : Nat → Nat} {d told n : Nat} (h : fsN g d told n = none) : fsN g d told (n + 1) = if (grs (gwN g n d) &&& told) = told then some n else none := by
  show (match fsN g d told n with | none => _ | some b => _) = _
  rw [h]
theorem fsN_b {g : Nat → Nat} {d told n b : Nat} (h : fsN g d told n = some b) : fsN g d told (n + 1) = if (grs (gwN g n d) &&& told) = told ∧ cntN g n < cntN g b then some n else some b := by
  show (match fsN g d told n with | none => _ | some b => _) = _
  rw [h]
theorem fsN_lt {g : Nat → Nat} {d told : Nat} : ∀ n b, fsN g d told n = some b → b < n
  | 0, b, h => by cases h
  | n + 1, b, h => by
    cases hn : fsN g d told n with
    | none =>
      rw [fsN_n hn] at h
      by_cases q : (grs (gwN g n d) &&& told) = told
      · rw [if_pos q] at h; cases h; omega
      · rw [if_neg q] at h; cases h
    | some b2 =>
      rw [fsN_b hn] at h
      have h2 := fsN_lt n b2 hn
      by_cases q : (grs (gwN g n d) &&& told) = told ∧ cntN g n < cntN g b2
      · rw [if_pos q] at h; cases h; omega
      · rw [if_neg q] at h; cases h; omega
section FEWX
variable {un : BX1} {g : Nat → Nat} {T d told : Nat}
theorem p_restAll {u : BX4} {way : Nat} (hA : AgX un g) (hO : OKg T g) (hd : T + d ≤ 5000) (hs : told < 2 ^ g 21) (hu : TriedW g d way u) {post : Int32 → Prop} (h1 : (grs (gwN g way d) &&& told) = told → post 1) (h0 : ¬ (grs (gwN g way d) &&& told) = told → post 0) : w_X4_restAll u un (nI told) post := by
  obtain ⟨b1, b2, b3, b4, b5, b6⟩ := hO.1
  have e1 := hA.1.1.1
  have e3 := hA.1.1.2.2.1
  have hOw := gwN_ok hO way hd
  have e21 : gwN g way d 21 = g 21 := gw_st hO way hd (by omega) (by omega)
  have e19 : gwN g way d 19 = g 19 := gw_st hO way hd (by omega) (by omega)
  have h32 := pow5 b1
  have eq : ((grs (gwN g way d) &&& told) = told) ↔ ∀ c, c < g 21 → told / 2 ^ c % 2 = 1 → gwN g way d (1 + c) ≤ g 19 := by
    unfold grs
    rw [e21, e19, sub_bits b1 hs]
    exact ⟨fun h c hc q => of_decide_eq_true (h c hc q), fun h c hc q => decide_eq_true (h c hc q)⟩
  rw [eq] at h1 h0
  unfold w_X4_restAll
  refine up_inv (fun n i (_ : Unit) => wL_X4_restAll_2 (nI told) u un post (post 0) n i) (g 21) (fun j _ => ∀ c, c < j → told / 2 ^ c % 2 = 1 → gwN g way d (1 + c) ≤ g 19) ?_ ?_ () (fun c hc => absurd hc (by omega))
  · intro n _ h
    show wL_X4_restAll_2 _ _ _ _ _ _ _
    unfold wL_X4_restAll_2
    rw [e1]
    exact ⟨fun _ => h1 h, fun h => absurd (Int32.le_refl _) h⟩
  · intro n j _ hj h ih
    have hw := (hOw.2.1 j (by omega)).1
    have hb : (nI told >>> (nI j &&& 31)) &&& (1 : Int32) = nI (told / 2 ^ j % 2) := get_bit j (by omega) told (by omega)
    have hm2 : told / 2 ^ j % 2 < 2 := Nat.mod_lt _ (by decide)
    show wL_X4_restAll_2 _ _ _ _ _ _ _
    unfold wL_X4_restAll_2
    rw [e1, e3, nIle (by omega) (by omega), hb, nI_1, show (nI (told / 2 ^ j % 2) = (1 : Int32)) = (nI (told / 2 ^ j % 2) = nI 1) from rfl, nIinj (by omega) (by omega)]
    refine ⟨fun h => absurd h (by omega), fun _ => ⟨fun h2 => p_wbW hO hd hu hj ?_, fun h2 => ih () (fun c hc q => ?_)⟩⟩
    · rw [nIle (by omega) (by omega)]
      refine ⟨fun h3 => ih () (fun c hc q => ?_), fun h3 => h0 (fun q => h3 (q j hj h2))⟩
      by_cases hcj : c = j
      · rw [hcj]; exact h3
      · exact h c (by omega) q
    · by_cases hcj : c = j
      · rw [hcj] at q; exact absurd q h2
      · exact h c (by omega) q
theorem p_findFewest {u : BX4} (hA : AgX un g) (hO : OKg T g) (hT : T + 60 ≤ 5000) (hd : d ≤ 60) (hs : told < 2 ^ g 21) {post : BX4 → Prop} (hp : ∀ v : BX4, (fsN g d told ((g 21 + 1) ^ g 22) = none → v.2.2.2.2.2.2.2 = -1000000) → (∀ b, fsN g d told ((g 21 + 1) ^ g 22) = some b → v.2.2.2.2.2.2.2 = nI (cntN g b) ∧ ∀ k, k < g 22 → v.2.2.2.2.1 k = nI (letB g b k)) → post v) : w_X4_findFewest u un (nI told) (nI d) post := by
  obtain ⟨b1, b2, b3, b4, b5, b6⟩ := hO.1
  have hways := ways_le hO
  have hd' : T + d ≤ 5000 := by omega
  unfold w_X4_findFewest
  refine p_foretellSets hA hO hT hd (fun bh tk hbh => p_waysToLet hA hO ?_)
  refine up_inv (fun n i (v : BX4) => wL_X4_findFewest_21 (nI told) (nI ((g 21 + 1) ^ g 22)) un post (fun u8 => post u8) n i v) ((g 21 + 1) ^ g 22) (fun j v => ∃ hb td ch re to hi, v = (bh, tk, hb, td, ch, re, to, hi) ∧ (fsN g d told j = none → hi = -1000000) ∧ (∀ b, fsN g d told j = some b → hi = nI (cntN g b) ∧ ∀ k, k < g 22 → ch k = nI (letB g b k))) ?_ ?_ _ ⟨u.2.2.1, u.2.2.2.1, u.2.2.2.2.1, u.2.2.2.2.2.1, u.2.2.2.2.2.2.1, -1000000, rfl, fun _ => rfl, fun b h => by cases h⟩
  · intro n v hv
    obtain ⟨hb, td, ch, re, to, hi, rfl, h0, h1⟩ := hv
    show wL_X4_findFewest_21 _ _ _ _ _ _ _ _
    unfold wL_X4_findFewest_21
    exact ⟨fun _ => hp _ h0 h1, fun h => absurd (Int32.le_refl _) h⟩
  · intro n j v hj hv ih
    obtain ⟨hb, td, ch, re, to, hi, rfl, h0, h1⟩ := hv
    show wL_X4_findFewest_21 _ _ _ _ _ _ _ _
    unfold wL_X4_findFewest_21
    rw [nIle (by omega) (by omega), nI_1]
    refine ⟨fun h => absurd h (by omega), fun _ => p_tryWay hA hO (by omega) (fun hb2 td2 hh2 ht2 => ?_)⟩
    have hu : TriedW g d j (bh, tk, hb2, td2, ch, re, to, hi) := ⟨hbh, hh2⟩
    have hc4 := cntN_le hO j
    have take : fsN g d told (j + 1) = some j → w_X4_choose (bh, tk, hb2, td2, ch, re, to, nI (cntN g j)) (fun u16 => wL_X4_findFewest_21 (nI told) (nI ((g 21 + 1) ^ g 22)) un post (fun u8 => post u8) n (nI (j + 1)) u16) := by
      intro e
      refine p_choose (fun ch2 hc2 => ih _ ⟨hb2, td2, ch2, re, to, nI (cntN g j), rfl, fun q => ?_, fun b hb => ?_⟩)
      · rw [e] at q; cases q
      · rw [e] at hb; cases hb
        exact ⟨rfl, fun k hk => (hc2 k (by omega)).trans (ht2 k hk)⟩
    have leave : fsN g d told (j + 1) = fsN g d told j → wL_X4_findFewest_21 (nI told) (nI ((g 21 + 1) ^ g 22)) un post (fun u8 => post u8) n (nI (j + 1)) (bh, tk, hb2, td2, ch, re, to, hi) := by
      intro e
      refine ih _ ⟨hb2, td2, ch, re, to, hi, rfl, ?_, ?_⟩
      · rw [e]; exact h0
      · rw [e]; exact h1
    unfold wpJ
    cases hf : fsN g d told j with
    | none =>
      have e := h0 hf
      subst e
      refine ⟨fun _ => p_restAll hA hO hd' hs hu (fun q => sel1 (take ?_)) (fun q => sel0 (leave ?_)), fun q => absurd rfl q⟩
      · rw [fsN_n hf, if_pos q]
      · rw [fsN_n hf, if_neg q, hf]
    | some b =>
      obtain ⟨e, _⟩ := h1 b hf
      subst e
      have hb4 := cntN_le hO b
      have i1 : (nI (cntN g b) ≤ nI (cntN g j)) = (cntN g b ≤ cntN g j) := propext (nIle (by omega) (by omega))
      show (nI (cntN g b) = -1000000 → _) ∧ (¬ nI (cntN g b) = -1000000 → (nI (cntN g b) ≤ nI (cntN g j) → _) ∧ (¬ nI (cntN g b) ≤ nI (cntN g j) → _))
      rw [i1]
      refine ⟨fun q => absurd q (nI_none (by omega)), fun _ => ⟨fun z => leave ?_, fun z => p_restAll hA hO hd' hs hu (fun q => sel1 (take ?_)) (fun q => sel0 (leave ?_))⟩⟩
      · rw [fsN_b hf, if_neg (fun q => absurd q.2 (by omega)), hf]
      · rw [fsN_b hf, if_pos ⟨q, by omega⟩]
      · rw [fsN_b hf, if_neg (fun z => q z.1), hf]
end FEWX
section FEWM
variable {m : BX7} {g : Nat → Nat} {T d told : Nat}
theorem p_fewestM (hM : AgM m.1 0 g) (hO : OKg T g) (hT : T + 60 ≤ 5000) (hd : d ≤ 60) (hs : told < 2 ^ g 21) {y11 : Int32} {post : Int32 → BX7 → Prop} {Kx : Int32 → Int32 → BX7 → Prop} (hp : ∀ be fe w', (∀ j, j < 108 → w' j = m.1 j) → (fsN g d told ((g 21 + 1) ^ g 22) = none → be = -1000000) → (∀ b, fsN g d told ((g 21 + 1) ^ g 22) = some b → be = nI b ∧ fe = nI (cntN g b)) → Kx be fe (w', m.2)) : ∃ n52, wL_X7_fewest_52 (nI told) (nI d) y11 post Kx n52 (-1000000 : Int32) (5 : Int32) (0 : Int32) m := by
  obtain ⟨b1, b2, b3, b4, b5, b6⟩ := hO.1
  have hways := ways_le hO
  have hd' : T + d ≤ 5000 := by omega
  have h32 := pow5 b1
  have hat : ∀ j, j < 36 → m.1 j = nI (g j) := fun j hj => by have := hM j hj; rw [Nat.zero_add] at this; exact this
  refine up_inv (fun n i (s : Int32 × Int32 × BX7) => wL_X7_fewest_52 (nI told) (nI d) y11 post Kx n s.1 s.2.1 i s.2.2) ((g 21 + 1) ^ g 22) (fun j s => ∃ be fe w', s = (be, fe, w', m.2) ∧ (∀ i, i < 108 → w' i = m.1 i) ∧ (fsN g d told j = none → be = -1000000 ∧ fe = nI 5) ∧ (∀ b, fsN g d told j = some b → be = nI b ∧ fe = nI (cntN g b))) ?_ ?_ (-1000000, nI 5, m) ⟨-1000000, nI 5, m.1, rfl, fun _ _ => rfl, fun _ => ⟨rfl, rfl⟩, fun b h => by cases h⟩
  · intro n s hs
    obtain ⟨be, fe, w', rfl, hw, h0, h1⟩ := hs
    have e22 : w' 22 = nI (g 22) := by rw [hw 22 (by omega), hat 22 (by omega)]
    have e21 : w' 21 = nI (g 21) := by rw [hw 21 (by omega), hat 21 (by omega)]
    show wL_X7_fewest_52 _ _ _ _ _ _ _ _ _ _
    unfold wL_X7_fewest_52
    exact p_allLets e22 e21 hO ⟨fun _ => hp be fe w' hw (fun q => (h0 q).1) h1, fun h => absurd (Int32.le_refl _) h⟩
  · intro n j s hj hs' ih
    obtain ⟨be, fe, w', rfl, hw, h0, h1⟩ := hs'
    have e22 : w' 22 = nI (g 22) := by rw [hw 22 (by omega), hat 22 (by omega)]
    have e21 : w' 21 = nI (g 21) := by rw [hw 21 (by omega), hat 21 (by omega)]
    show wL_X7_fewest_52 _ _ _ _ _ _ _ _ _ _
    unfold wL_X7_fewest_52
    refine p_allLets e22 e21 hO ?_
    rw [nIle (by omega) (by omega), nI_1]
    refine ⟨fun h => absurd h (by omega), fun _ => p_triesLets hM hw hO hT hd (by omega) (fun w2 h2 h3 => ?_)⟩
    have hOw := gwN_ok hO j hd'
    have hr := grs_lt hOw
    have hc4 := cntN_le hO j
    refine p_restsIn (r := 108) h2 hOw (by omega) ?_
    have ea : ((nI told &&& (nI (grs (gwN g j d)) ^^^ (-1 : Int32))) = 0) = ((grs (gwN g j d) &&& told) = told) := propext (and_not _ hr told (by omega))
    unfold wpJ
    have take : fsN g d told (j + 1) = some j → (((1 : Int32) = 0 → (((1 : Int32) = 0 → wL_X7_fewest_52 (nI told) (nI d) y11 post Kx n be fe (nI (j + 1)) (w2, m.2)) ∧ (¬ (1 : Int32) = 0 → wL_X7_fewest_52 (nI told) (nI d) y11 post Kx n be (nI (cntN g j)) (nI (j + 1)) (w2, m.2)))) ∧ (¬ (1 : Int32) = 0 → (((1 : Int32) = 0 → wL_X7_fewest_52 (nI told) (nI d) y11 post Kx n (nI j) fe (nI (j + 1)) (w2, m.2)) ∧ (¬ (1 : Int32) = 0 → wL_X7_fewest_52 (nI told) (nI d) y11 post Kx n (nI j) (nI (cntN g j)) (nI (j + 1)) (w2, m.2))))) := by
      intro e
      refine sel1 (sel1 (ih (nI j, nI (cntN g j), w2, m.2) ⟨nI j, nI (cntN g j), w2, rfl, h3, fun q => ?_, fun b hb => ?_⟩))
      · rw [e] at q; cases q
      · rw [e] at hb; cases hb
        exact ⟨rfl, rfl⟩
    have leave : fsN g d told (j + 1) = fsN g d told j → (((0 : Int32) = 0 → (((0 : Int32) = 0 → wL_X7_fewest_52 (nI told) (nI d) y11 post Kx n be fe (nI (j + 1)) (w2, m.2)) ∧ (¬ (0 : Int32) = 0 → wL_X7_fewest_52 (nI told) (nI d) y11 post Kx n be (nI (cntN g j)) (nI (j + 1)) (w2, m.2)))) ∧ (¬ (0 : Int32) = 0 → (((0 : Int32) = 0 → wL_X7_fewest_52 (nI told) (nI d) y11 post Kx n (nI j) fe (nI (j + 1)) (w2, m.2)) ∧ (¬ (0 : Int32) = 0 → wL_X7_fewest_52 (nI told) (nI d) y11 post Kx n (nI j) (nI (cntN g j)) (nI (j + 1)) (w2, m.2))))) := by
      intro e
      refine sel0 (sel0 (ih (be, fe, w2, m.2) ⟨be, fe, w2, rfl, h3, ?_, ?_⟩))
      · rw [e]; exact h0
      · rw [e]; exact h1
    cases hf : fsN g d told j with
    | none =>
      obtain ⟨e, e2⟩ := h0 hf
      subst e
      subst e2
      refine ⟨fun q => ⟨fun z => ?_, fun z => take ?_⟩, fun q => leave ?_⟩
      · rw [nIle (by omega) (by omega)] at z
        omega
      · rw [ea] at q
        rw [fsN_n hf, if_pos q]
      · rw [ea] at q
        rw [fsN_n hf, if_neg q, hf]
    | some b =>
      obtain ⟨e, e2⟩ := h1 b hf
      subst e
      subst e2
      have hb4 := cntN_le hO b
      refine ⟨fun q => ⟨fun z => leave ?_, fun z => take ?_⟩, fun q => leave ?_⟩
      · rw [nIle (by omega) (by omega)] at z
        rw [fsN_b hf, if_neg (fun y => absurd y.2 (by omega)), hf]
      · rw [nIle (by omega) (by omega)] at z
        rw [ea] at q
        rw [fsN_b hf, if_pos ⟨q, by omega⟩]
      · rw [ea] at q
        rw [fsN_b hf, if_neg (fun y => q y.1), hf]
end FEWM
section OPSQ
variable {ux : BX6} {un ut : BX1} {up : BX5} {ua : BX0} {us : BX4} {uk : BX2} {rs : Nat → BX3} {ms : Nat → BX1} {m : BX7} {a0 a1 a2 a3 a4 : Int32}
theorem eq_lit {a b : Int32} : a = b ↔ a.toInt = b.toInt := Int32.toInt_inj.symm
theorem p_hirerFound {g : Nat → Nat} {T k : Nat} {v : BX4} (hA : AgX un g) (hO : OKg T g) (hk : k ≤ 3) {post : Int32 → Prop} (h1 : k < g 22 → post (v.2.2.2.2.1 k)) (h0 : ¬ k < g 22 → post (-1000000)) : w_X6_hirerFound ux un v (nI k) post := by
  obtain ⟨b1, b2, b3, b4, b5, b6⟩ := hO.1
  unfold w_X6_hirerFound
  refine p_isWithin ?_
  rw [hA.1.1.2.1, lit_toInt0, show nI (g 22) - (1 : Int32) = nI (g 22) - nI 1 from rfl, pk_sub_toInt (by omega) (by omega), nIto (by omega), nIcl (by omega)]
  by_cases h : k < g 22
  · rw [bi_t (by omega)]
    exact sel1 ⟨nIin (by omega) (by omega), h1 h⟩
  · rw [bi_f (by omega)]
    exact sel0 (h0 h)
theorem op_best (hR : RR ux un up ua uk rs ms m) {P : Int32 → BX4 → Int32 → BX7 → Prop} (hp : ∀ r us' m', RR ux un up ua uk rs ms m' → P r us' r m') : w_X6_best ux un us a0 a1 (fun r us' => w_X7_best m a0 a1 (fun r2 m' => P r us' r2 m')) := by
  have hR0 := hR
  obtain ⟨g, ⟨hA, hM, hO⟩, _⟩ := hR
  obtain ⟨b1, b2, b3, b4, b5, b6⟩ := hO.1
  have hat : ∀ j, j < 36 → m.1 j = nI (g j) := fun j hj => by have := hM j hj; rw [Nat.zero_add] at this; exact this
  unfold w_X6_best
  refine p_isOpen hA.1.1.1 b1 ?_
  by_cases h1 : 0 < g 21
  · rw [bi_t h1]
    have M : ∀ Q : Int32 → BX7 → Prop, (¬ ((0 ≤ a0.toInt ∧ a0.toInt ≤ (60 : Nat)) ∧ (-2 ≤ a1.toInt ∧ a1.toInt ≤ 3)) → Q (-1000001) m) → (∀ d, d ≤ 60 → a0 = nI d → -2 ≤ a1.toInt ∧ a1.toInt ≤ 3 → ∀ w', (∀ j, j < 108 → w' j = m.1 j) → (a1 = (-1 : Int32) → Q (nI (rsN g d (bsN g d ((g 21 + 1) ^ g 22 - 1)))) (w', m.2)) ∧ (¬ a1 = (-1 : Int32) → (a1 = (-2 : Int32) → Q (nI (smN g d (bsN g d ((g 21 + 1) ^ g 22 - 1)))) (w', m.2)) ∧ (¬ a1 = (-2 : Int32) → ∀ k, k ≤ 3 → a1 = nI k → (¬ k < g 22 → Q (-1000000) (w', m.2)) ∧ (k < g 22 → Q (nI (letB g (bsN g d ((g 21 + 1) ^ g 22 - 1)) k)) (w', m.2))))) → w_X7_best m a0 a1 Q := by
      intro Q q1 q2
      unfold w_X7_best
      refine p_isAgency hM hO ?_
      rw [bi_t h1]
      refine sel1 (p_isSpan ?_)
      by_cases c1 : 0 ≤ a0.toInt ∧ a0.toInt ≤ (60 : Nat)
      · rw [bi_t c1]
        refine sel1 (p_in ?_)
        rw [t64, show (-2 : Int64).toInt = -2 from rfl, show (3 : Int64).toInt = 3 from rfl]
        by_cases c2 : -2 ≤ a1.toInt ∧ a1.toInt ≤ 3
        · rw [bi_t c2]
          obtain ⟨d, hd, rfl⟩ := nI_range2 c1 (by decide)
          have hways := ways_le hO
          have hbl := bsN_le g d ((g 21 + 1) ^ g 22 - 1)
          refine sel1 (p_bestM hM hO (by omega) hd (fun w' hw => ?_))
          obtain ⟨z1, z2⟩ := q2 d hd rfl c2 w' hw
          refine ⟨z1, fun n1 => ⟨(z2 n1).1, fun n2 => ?_⟩⟩
          have n1' := mt eq_lit.mpr n1
          have n2' := mt eq_lit.mpr n2
          rw [show (-1 : Int32).toInt = -1 from rfl] at n1'
          rw [show (-2 : Int32).toInt = -2 from rfl] at n2'
          obtain ⟨k, hk, rfl⟩ := nI_range2 (c := a1) (N := 3) (by omega) (by decide)
          obtain ⟨y1, y2⟩ := (z2 n1).2 n2 k hk rfl
          have e22 : w' 22 = nI (g 22) := by rw [hw 22 (by omega), hat 22 (by omega)]
          have e21 : w' 21 = nI (g 21) := by rw [hw 21 (by omega), hat 21 (by omega)]
          have f22 : (w', m.2).1 (22 : Int32).toNatClampNeg = nI (g 22) := e22
          rw [f22, nIle (by omega) (by omega)]
          refine ⟨nIin (n := 22) (by omega) (by omega), fun h => y1 (by omega), fun h => p_letBy e22 e21 hO (by omega) (by omega) (y2 (by omega))⟩
        · rw [bi_f c2]
          exact sel0 (q1 (fun q => c2 q.2))
      · rw [bi_f c1]
        exact sel0 (q1 (fun q => c1 q.1))
    refine sel1 (p_isWithin60 ?_)
    by_cases c1 : 0 ≤ a0.toInt ∧ a0.toInt ≤ (60 : Nat)
    · rw [bi_t c1]
      refine sel1 (p_isWithin ?_)
      rw [show (-2 : Int32).toInt = -2 from rfl, show (3 : Int32).toInt = 3 from rfl]
      by_cases c2 : -2 ≤ a1.toInt ∧ a1.toInt ≤ 3
      · rw [bi_t c2]
        obtain ⟨d, hd, rfl⟩ := nI_range2 c1 (by decide)
        have same : ∀ d2, d2 ≤ 60 → nI d = nI d2 → d2 = d := fun d2 h2 e => ((nIinj (by omega) (by omega)).mp e).symm
        refine sel1 (p_findBest hA hO (by omega) hd (fun v v1 v2 v3 => ⟨fun h => ?_, fun n2 => ⟨fun h => ?_, fun n1 => ?_⟩⟩))
        · rw [v2]
          subst h
          refine M _ (fun q => absurd ⟨c1, c2⟩ q) (fun d2 hd2 e _ w' hw => ⟨fun q => absurd q (by decide), fun _ => ⟨fun _ => ?_, fun q => absurd rfl q⟩⟩)
          rw [same d2 hd2 e]
          exact hp _ _ _ (hR0.trial hw)
        · rw [v1]
          subst h
          refine M _ (fun q => absurd ⟨c1, c2⟩ q) (fun d2 hd2 e _ w' hw => ⟨fun _ => ?_, fun q => absurd rfl q⟩)
          rw [same d2 hd2 e]
          exact hp _ _ _ (hR0.trial hw)
        · have n1' := mt eq_lit.mpr n1
          have n2' := mt eq_lit.mpr n2
          rw [show (-1 : Int32).toInt = -1 from rfl] at n1'
          rw [show (-2 : Int32).toInt = -2 from rfl] at n2'
          obtain ⟨k, hk, rfl⟩ := nI_range2 (c := a1) (N := 3) (by omega) (by decide)
          have samek : ∀ k2, k2 ≤ 3 → nI k = nI k2 → k2 = k := fun d2 h2 e => ((nIinj (by omega) (by omega)).mp e).symm
          refine p_hirerFound hA hO hk (fun hkw => ?_) (fun hkw => ?_)
          · rw [v3 k hkw]
            refine M _ (fun q => absurd ⟨c1, c2⟩ q) (fun d2 hd2 e _ w' hw => ⟨fun q => absurd q n1, fun _ => ⟨fun q => absurd q n2, fun _ k2 hk2 ek => ⟨fun q => ?_, fun q => ?_⟩⟩⟩)
            · rw [samek k2 hk2 ek] at q
              exact absurd hkw q
            · rw [same d2 hd2 e, samek k2 hk2 ek]
              exact hp _ _ _ (hR0.trial hw)
          · refine M _ (fun q => absurd ⟨c1, c2⟩ q) (fun d2 hd2 e _ w' hw => ⟨fun q => absurd q n1, fun _ => ⟨fun q => absurd q n2, fun _ k2 hk2 ek => ⟨fun q => ?_, fun q => ?_⟩⟩⟩)
            · exact hp _ _ _ (hR0.trial hw)
            · rw [samek k2 hk2 ek] at q
              exact absurd q hkw
      · rw [bi_f c2]
        exact sel0 (M _ (fun _ => hp _ _ _ hR0) (fun _ _ _ q => absurd q c2))
    · rw [bi_f c1]
      refine sel0 (M _ (fun _ => hp _ _ _ hR0) (fun d hd e => ?_))
      rw [e, nIto (by omega)] at c1
      omega
  · rw [bi_f h1]
    refine sel0 (p_isAgency hM hO ?_)
    rw [bi_f h1]
    exact sel0 (hp _ _ _ hR0)
theorem op_fewest (hR : RR ux un up ua uk rs ms m) {P : Int32 → BX4 → Int32 → BX7 → Prop} (hp : ∀ r us' m', RR ux un up ua uk rs ms m' → P r us' r m') : w_X6_fewest ux un us a0 a1 a2 (fun r us' => w_X7_fewest m a0 a1 a2 (fun r2 m' => P r us' r2 m')) := by
  have hR0 := hR
  obtain ⟨g, ⟨hA, hM, hO⟩, _⟩ := hR
  obtain ⟨b1, b2, b3, b4, b5, b6⟩ := hO.1
  have h32 := pow_clients b1
  have hways := ways_le hO
  have hat : ∀ j, j < 36 → m.1 j = nI (g j) := fun j hj => by have := hM j hj; rw [Nat.zero_add] at this; exact this
  unfold w_X6_fewest
  refine p_isOpen hA.1.1.1 b1 ?_
  by_cases h1 : 0 < g 21
  · rw [bi_t h1]
    have M : ∀ Q : Int32 → BX7 → Prop, (¬ ((0 ≤ a0.toInt ∧ a0.toInt < (2 ^ g 21 : Nat)) ∧ (0 ≤ a1.toInt ∧ a1.toInt ≤ (60 : Nat)) ∧ (-1 ≤ a2.toInt ∧ a2.toInt ≤ 3)) → Q (-1000001) m) → ((0 ≤ a0.toInt ∧ a0.toInt < (2 ^ g 21 : Nat)) → (0 ≤ a1.toInt ∧ a1.toInt ≤ (60 : Nat)) → (-1 ≤ a2.toInt ∧ a2.toInt ≤ 3) → ∃ n52, wL_X7_fewest_52 a0 a1 a2 Q (fun (x12 : Int32) (x13 : Int32) (u14 : BX7) => (x12 = (-1000000 : Int32) → Q (-1000000 : Int32) u14) ∧ (¬ x12 = (-1000000 : Int32) → (a2 = (-1 : Int32) → Q x13 u14) ∧ (¬ a2 = (-1 : Int32) → vp_in (22 : Int32) 144 ∧ (((u14.1 (22 : Int32).toNatClampNeg) ≤ a2 → Q (-1000000 : Int32) u14) ∧ (¬ (u14.1 (22 : Int32).toNatClampNeg) ≤ a2 → w_X7_letBy u14 x12 a2 (fun r15 => Q r15 u14)))))) n52 (-1000000 : Int32) (5 : Int32) (0 : Int32) m) → w_X7_fewest m a0 a1 a2 Q := by
      intro Q q1 q2
      unfold w_X7_fewest
      refine p_isAgency hM hO ?_
      rw [bi_t h1]
      refine sel1 (p_isSet hM hO ?_)
      by_cases c0 : 0 ≤ a0.toInt ∧ a0.toInt < (2 ^ g 21 : Nat)
      · rw [bi_t c0]
        refine sel1 (p_isSpan ?_)
        by_cases c1 : 0 ≤ a1.toInt ∧ a1.toInt ≤ (60 : Nat)
        · rw [bi_t c1]
          refine sel1 (p_in ?_)
          rw [t64, show (-1 : Int64).toInt = -1 from rfl, show (3 : Int64).toInt = 3 from rfl]
          by_cases c2 : -1 ≤ a2.toInt ∧ a2.toInt ≤ 3
          · rw [bi_t c2]
            exact sel1 (q2 c0 c1 c2)
          · rw [bi_f c2]
            exact sel0 (q1 (fun q => c2 q.2.2))
        · rw [bi_f c1]
          exact sel0 (q1 (fun q => c1 q.2.1))
      · rw [bi_f c0]
        exact sel0 (q1 (fun q => c0 q.1))
    refine sel1 (p_hasAll hA.1.1.1 b1 ?_)
    by_cases c0 : 0 ≤ a0.toInt ∧ a0.toInt < (2 ^ g 21 : Nat)
    · rw [bi_t c0]
      refine sel1 (p_isWithin60 ?_)
      by_cases c1 : 0 ≤ a1.toInt ∧ a1.toInt ≤ (60 : Nat)
      · rw [bi_t c1]
        refine sel1 (p_isWithin ?_)
        rw [show (-1 : Int32).toInt = -1 from rfl, show (3 : Int32).toInt = 3 from rfl]
        by_cases c2 : -1 ≤ a2.toInt ∧ a2.toInt ≤ 3
        · rw [bi_t c2]
          obtain ⟨told, ht, rfl⟩ := nI_range c0 (by omega)
          obtain ⟨d, hd, rfl⟩ := nI_range2 c1 (by decide)
          have N : ∀ Q : Int32 → BX7 → Prop, (fsN g d told ((g 21 + 1) ^ g 22) = none → ∀ m', RR ux un up ua uk rs ms m' → Q (-1000000) m') → (∀ b, fsN g d told ((g 21 + 1) ^ g 22) = some b → (a2 = (-1 : Int32) → ∀ m', RR ux un up ua uk rs ms m' → Q (nI (cntN g b)) m') ∧ (¬ a2 = (-1 : Int32) → ∀ k, k ≤ 3 → a2 = nI k → (¬ k < g 22 → ∀ m', RR ux un up ua uk rs ms m' → Q (-1000000) m') ∧ (k < g 22 → ∀ m', RR ux un up ua uk rs ms m' → Q (nI (letB g b k)) m'))) → w_X7_fewest m (nI told) (nI d) a2 Q := by
            intro Q q0 q1
            refine M Q (fun q => absurd ⟨c0, c1, c2⟩ q) (fun _ _ _ => p_fewestM hM hO (by omega) hd ht (fun be fe w' hw y0 y1 => ?_))
            have hR2 := hR0.trial hw
            cases hf : fsN g d told ((g 21 + 1) ^ g 22) with
            | none =>
              have e := y0 hf
              subst e
              exact ⟨fun _ => q0 hf _ hR2, fun q => absurd rfl q⟩
            | some b =>
              obtain ⟨e, e2⟩ := y1 b hf
              subst e
              subst e2
              have hbl := fsN_lt _ b hf
              obtain ⟨z1, z2⟩ := q1 b hf
              refine ⟨fun q => absurd q ?_, fun _ => ⟨fun h => z1 h _ hR2, fun n1 => ?_⟩⟩
              · intro q
                have h2 := congrArg Int32.toInt q
                rw [nIto (by omega)] at h2
                change (b : Int) = -1000000 at h2
                omega
              · have n1' := mt eq_lit.mpr n1
                rw [show (-1 : Int32).toInt = -1 from rfl] at n1'
                obtain ⟨k, hk, rfl⟩ := nI_range2 (c := a2) (N := 3) (by omega) (by decide)
                obtain ⟨y3, y4⟩ := z2 n1 k hk rfl
                have e22 : w' 22 = nI (g 22) := by rw [hw 22 (by omega), hat 22 (by omega)]
                have e21 : w' 21 = nI (g 21) := by rw [hw 21 (by omega), hat 21 (by omega)]
                have f22 : (w', m.2).1 (22 : Int32).toNatClampNeg = nI (g 22) := e22
                rw [f22, nIle (by omega) (by omega)]
                exact ⟨nIin (n := 22) (by omega) (by omega), fun h => y3 (by omega) _ hR2, fun h => p_letBy e22 e21 hO (by omega) (by omega) (y4 (by omega) _ hR2)⟩
          refine sel1 (p_findFewest hA hO (by omega) hd ht (fun v v0 v1 => ?_))
          cases hf : fsN g d told ((g 21 + 1) ^ g 22) with
          | none =>
            rw [v0 hf]
            refine ⟨fun _ => N _ (fun _ m' h => hp _ _ _ h) (fun b q => ?_), fun q => absurd rfl q⟩
            rw [hf] at q
            cases q
          | some b =>
            obtain ⟨e1, e2⟩ := v1 b hf
            have hc4 := cntN_le hO b
            rw [e1]
            refine ⟨fun q => absurd q (nI_none (by omega)), fun _ => ⟨fun h => ?_, fun n1 => ?_⟩⟩
            · refine N _ (fun q => ?_) (fun b2 q => ⟨fun _ m' h => ?_, fun q => absurd h q⟩)
              · rw [hf] at q; cases q
              · rw [hf] at q; cases q
                exact hp _ _ _ h
            · have n1' := mt eq_lit.mpr n1
              rw [show (-1 : Int32).toInt = -1 from rfl] at n1'
              obtain ⟨k, hk, rfl⟩ := nI_range2 (c := a2) (N := 3) (by omega) (by decide)
              have samek : ∀ k2, k2 ≤ 3 → nI k = nI k2 → k2 = k := fun d2 h2 e => ((nIinj (by omega) (by omega)).mp e).symm
              refine p_hirerFound hA hO hk (fun hkw => ?_) (fun hkw => ?_)
              · rw [e2 k hkw]
                refine N _ (fun q => ?_) (fun b2 q => ⟨fun q => absurd q n1, fun _ k2 hk2 ek => ⟨fun z m' h => ?_, fun z m' h => ?_⟩⟩)
                · rw [hf] at q; cases q
                · rw [samek k2 hk2 ek] at z
                  exact absurd hkw z
                · rw [hf] at q; cases q
                  rw [samek k2 hk2 ek]
                  exact hp _ _ _ h
              · refine N _ (fun q => ?_) (fun b2 q => ⟨fun q => absurd q n1, fun _ k2 hk2 ek => ⟨fun z m' h => hp _ _ _ h, fun z m' h => ?_⟩⟩)
                · rw [hf] at q; cases q
                · rw [samek k2 hk2 ek] at z
                  exact absurd z hkw
        · rw [bi_f c2]
          exact sel0 (M _ (fun _ => hp _ _ _ hR0) (fun _ _ q => absurd q c2))
      · rw [bi_f c1]
        exact sel0 (M _ (fun _ => hp _ _ _ hR0) (fun _ q => absurd q c1))
    · rw [bi_f c0]
      exact sel0 (M _ (fun _ => hp _ _ _ hR0) (fun q => absurd q c0))
  · rw [bi_f h1]
    refine sel0 (p_isAgency hM hO ?_)
    rw [bi_f h1]
    exact sel0 (hp _ _ _ hR0)
end OPSQ
