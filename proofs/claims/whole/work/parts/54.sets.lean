/-! to whom all are let -/
def digN (g : Nat → Nat) (way k : Nat) : Nat := way / (g 21 + 1) ^ (g 22 - 1 - k) % (g 21 + 1)
def letB (g : Nat → Nat) (way k : Nat) : Nat := if digN g way k = g 21 then 5 else digN g way k
def gletN (g : Nat → Nat) (way j : Nat) : Nat → Nat := fun i => if 10 ≤ i ∧ i < 10 + j then letB g way (i - 10) else g i
def gwN (g : Nat → Nat) (way d : Nat) : Nat → Nat := git (gletN g way (g 22)) d
def cntN (g : Nat → Nat) (way : Nat) : Nat := fb_sm (fun k => if letB g way k = 5 then 0 else 1) (g 22)
theorem digN_lt (g : Nat → Nat) (way k : Nat) : digN g way k < g 21 + 1 := Nat.mod_lt _ (by omega)
theorem letB_ok (g : Nat → Nat) (way k : Nat) : letB g way k < g 21 ∨ letB g way k = 5 := by
  have h := digN_lt g way k
  unfold letB
  by_cases h2 : digN g way k = g 21
  · rw [if_pos h2]; exact Or.inr rfl
  · rw [if_neg h2]; exact Or.inl (by omega)
theorem letB_le {T : Nat} {g : Nat → Nat} (hO : OKg T g) (way k : Nat) : letB g way k ≤ 5 := by
  have b1 := hO.1.1
  rcases letB_ok g way k with h | h <;> omega
theorem glet_s (g : Nat → Nat) (way j : Nat) : gset (gletN g way j) (10 + j) (letB g way j) = gletN g way (j + 1) := by
  funext i
  unfold gset gletN
  by_cases h : i = 10 + j
  · rw [if_pos h, if_pos (by omega), h, show 10 + j - 10 = j by omega]
  · rw [if_neg h]
    by_cases h2 : 10 ≤ i ∧ i < 10 + j
    · rw [if_pos h2, if_pos (by omega)]
    · rw [if_neg h2, if_neg (by omega)]
theorem glet_out (g : Nat → Nat) (way : Nat) {j i : Nat} (h : i < 10 ∨ 10 + j ≤ i) : gletN g way j i = g i := by
  unfold gletN
  rw [if_neg (by omega)]
theorem glet_ok {T : Nat} {g : Nat → Nat} (hO : OKg T g) (way : Nat) : ∀ j, j ≤ g 22 → OKg T (gletN g way j)
  | 0, _ => by
    have e : gletN g way 0 = g := by
      funext i
      exact glet_out g way (by omega)
    rw [e]
    exact hO
  | j + 1, h => by
    have b2 := hO.1.2.1
    rw [← glet_s]
    refine (glet_ok hO way j (by omega)).set (Or.inr (Or.inr ⟨j, ?_, rfl, ?_⟩))
    · rw [glet_out g way (by omega)]; omega
    · rw [glet_out g way (by omega)]; exact letB_ok g way j
/-! the greatest of some -/
def mxb (f : Nat → Nat) (p : Nat → Bool) : Nat → Nat
  | 0 => 0
  | n + 1 => if p n = true then (if mxb f p n < f n then f n else mxb f p n) else mxb f p n
theorem mxb_s (f : Nat → Nat) (p : Nat → Bool) (n : Nat) : mxb f p (n + 1) = if p n = true then (if mxb f p n < f n then f n else mxb f p n) else mxb f p n := rfl
theorem mxb_none {f : Nat → Nat} {p : Nat → Bool} : ∀ n, (∀ k, k < n → p k = false) → mxb f p n = 0
  | 0, _ => rfl
  | n + 1, h => by rw [mxb_s, h n (by omega), if_neg Bool.false_ne_true]; exact mxb_none n (fun k hk => h k (by omega))
theorem mxb_one {f : Nat → Nat} {p : Nat → Bool} {w : Nat} : ∀ n, w < n → (∀ k, k < n → p k = decide (k = w)) → mxb f p n = f w
  | 0, h, _ => absurd h (by omega)
  | n + 1, hw, h => by
    rw [mxb_s, h n (by omega)]
    by_cases hn : n = w
    · rw [if_pos (by simp [hn]), mxb_none n (fun k hk => by rw [h k (by omega)]; exact decide_eq_false (by omega)), hn]
      by_cases h0 : 0 < f w
      · rw [if_pos h0]
      · rw [if_neg h0]; omega
    · rw [if_neg (by simp [hn])]
      exact mxb_one n (by omega) (fun k hk => h k (by omega))
theorem mxb_or {f : Nat → Nat} {p q r : Nat → Bool} : ∀ n, (∀ k, k < n → p k = (q k || r k)) → mxb f p n = if mxb f q n < mxb f r n then mxb f r n else mxb f q n
  | 0, _ => rfl
  | n + 1, h => by
    have ih := mxb_or (f := f) n (fun k hk => h k (by omega))
    rw [mxb_s, mxb_s, mxb_s, h n (by omega), ih]
    generalize mxb f q n = a
    generalize mxb f r n = b
    generalize f n = c
    cases q n <;> cases r n <;> simp only [Bool.or_false, Bool.or_true, Bool.false_or, Bool.true_or, Bool.false_eq_true, if_true, if_false] <;> (repeat' split) <;> omega
theorem mxb_cong {f f' : Nat → Nat} {p p' : Nat → Bool} : ∀ n, (∀ k, k < n → f k = f' k ∧ p k = p' k) → mxb f p n = mxb f' p' n
  | 0, _ => rfl
  | n + 1, h => by
    obtain ⟨h1, h2⟩ := h n (by omega)
    rw [mxb_s, mxb_s, h1, h2, mxb_cong n (fun k hk => h k (by omega))]
theorem mxb_more {f : Nat → Nat} {p : Nat → Bool} {n : Nat} (h : ∀ k, n ≤ k → f k = 0) : ∀ e, mxb f p (n + e) = mxb f p n
  | 0 => rfl
  | e + 1 => by
    show mxb f p (n + e + 1) = _
    rw [mxb_s, h (n + e) (by omega), mxb_more h e, if_neg (Nat.not_lt_zero _)]
    split <;> rfl
theorem mxb_le {f : Nat → Nat} {p : Nat → Bool} {B : Nat} : ∀ n, (∀ k, k < n → f k ≤ B) → mxb f p n ≤ B
  | 0, _ => Nat.zero_le _
  | n + 1, h => by
    have h1 := mxb_le (p := p) n (fun k hk => h k (by omega))
    have h2 := h n (by omega)
    rw [mxb_s]
    repeat' split
    all_goals omega
/-- what a set of wakers takes of a worry in a night -/
def tkf (g : Nat → Nat) (c t k : Nat) : Nat := if k < g 22 then gtk g k c t else 0
def tkN (g : Nat → Nat) (c t s : Nat) : Nat := mxb (tkf g c t) (awb s) 4
def bhN (g : Nat → Nat) (c s : Nat) : Nat → Nat
  | 0 => g (1 + c)
  | d + 1 => gnw (bhN g c s d) (tkN g c (g 0 + d) s)
theorem gtk_le {T : Nat} {g : Nat → Nat} (hO : OKg T g) {k c t : Nat} (hk : k < g 22) : gtk g k c t ≤ 18 := by
  have h2 := gl_le hO (c := c) (t := t) hk
  unfold gtk
  split <;> omega
theorem tkf_le {T : Nat} {g : Nat → Nat} (hO : OKg T g) (c t k : Nat) : tkf g c t k ≤ 18 := by
  unfold tkf
  split
  · exact gtk_le hO (by assumption)
  · omega
theorem tkN_le {T : Nat} {g : Nat → Nat} (hO : OKg T g) (c t s : Nat) : tkN g c t s ≤ 18 := mxb_le 4 (fun k _ => tkf_le hO c t k)
theorem bhN_le {T : Nat} {g : Nat → Nat} (hO : OKg T g) {c : Nat} (hc : c < g 21) (s : Nat) : ∀ d, bhN g c s d ≤ 99
  | 0 => (hO.2.1 c hc).1
  | d + 1 => gnw_le (bhN_le hO hc s d)
theorem git_0 (g : Nat → Nat) : ∀ d, git g d 0 = g 0 + d
  | 0 => rfl
  | d + 1 => by rw [git_s, gp_0, git_0 g d]; omega
theorem gtk_cong {g g' : Nat → Nat} {k c t : Nat} (h6 : g' (6 + k) = g (6 + k)) (h23 : g' (23 + c) = g (23 + c)) (h28 : g' (28 + k) = g (28 + k)) (h20 : g' 20 = g 20) (h32 : g' (32 + k) = g (32 + k)) : gtk g' k c t = gtk g k c t := by
  unfold gtk gl
  rw [h6, h23, h28, h20, h32]
theorem awb_bits {p : Nat → Bool} {n k : Nat} (hk : k < n) : awb (bits p n) k = p k := by
  unfold awb
  rw [bits_bit p n k hk]
  cases p k <;> rfl
theorem gw_st {T : Nat} {g : Nat → Nat} (hO : OKg T g) (way : Nat) {d j : Nat} (hd : T + d ≤ 5000) (h : 6 ≤ j) (h2 : j < 10 ∨ 18 ≤ j) : gwN g way d j = g j := by
  have b2 := hO.1.2.1
  unfold gwN
  rw [git_st (glet_ok hO way (g 22) (Nat.le_refl _)) h (by omega) d hd, glet_out g way (by omega)]
theorem gw_for {T : Nat} {g : Nat → Nat} (hO : OKg T g) (way : Nat) {d k : Nat} (hd : T + d ≤ 5000) (hk : k < g 22) : gwN g way d (10 + k) = letB g way k := by
  have b2 := hO.1.2.1
  unfold gwN
  rw [git_st (glet_ok hO way (g 22) (Nat.le_refl _)) (by omega) (by omega) d hd]
  unfold gletN
  rw [if_pos (by omega), show 10 + k - 10 = k by omega]
theorem gwN_ok {T : Nat} {g : Nat → Nat} (hO : OKg T g) (way : Nat) {d : Nat} (hd : T + d ≤ 5000) : OKg (T + d) (gwN g way d) := git_ok (glet_ok hO way (g 22) (Nat.le_refl _)) d hd
theorem gli_mx {T : Nat} {g : Nat → Nat} (hO : OKg T g) (way c : Nat) {d : Nat} (hc : c < g 21) (hd : T + d ≤ 5000) : ∀ n, n ≤ g 22 → gli (gwN g way d) c aw1 n = mxb (tkf g c (g 0 + d)) (fun k => decide (letB g way k = c)) n
  | 0, _ => rfl
  | n + 1, hn => by
    obtain ⟨b1, b2, b3, b4, b5, b6⟩ := hO.1
    have ih := gli_mx hO way c hc hd n (by omega)
    have e0 : gwN g way d 0 = g 0 + d := by
      unfold gwN
      rw [git_0, glet_out g way (by omega)]
    have e1 : gtk (gwN g way d) n c (gwN g way d 0) = tkf g c (g 0 + d) n := by
      unfold tkf
      rw [if_pos (by omega), e0]
      exact gtk_cong (gw_st hO way hd (by omega) (by omega)) (gw_st hO way hd (by omega) (by omega)) (gw_st hO way hd (by omega) (by omega)) (gw_st hO way hd (by omega) (by omega)) (gw_st hO way hd (by omega) (by omega))
    rw [gli_s, mxb_s, e1, gw_for hO way hd (by omega), ih]
    by_cases h : letB g way n = c
    · rw [if_pos ⟨h, rfl⟩, if_pos (show decide (letB g way n = c) = true from decide_eq_true h)]
    · rw [if_neg (fun q => h q.1), if_neg (show ¬ decide (letB g way n = c) = true from by simp [h])]
/-- how a worry goes on hangs on the client's own wakers alone -/
theorem bh_gw {T : Nat} {g : Nat → Nat} (hO : OKg T g) (way : Nat) {c : Nat} (hc : c < g 21) : ∀ d, T + d ≤ 5000 → gwN g way d (1 + c) = bhN g c (bits (fun k => decide (letB g way k = c)) (g 22)) d
  | 0, _ => by
    have b1 := hO.1.1
    show gletN g way (g 22) (1 + c) = g (1 + c)
    exact glet_out g way (by omega)
  | d + 1, hd => by
    obtain ⟨b1, b2, b3, b4, b5, b6⟩ := hO.1
    have ih := bh_gw hO way hc d (by omega)
    have hd' : T + d ≤ 5000 := by omega
    have e21 : gwN g way d 21 = g 21 := gw_st hO way hd' (by omega) (by omega)
    have e22 : gwN g way d 22 = g 22 := gw_st hO way hd' (by omega) (by omega)
    show gpass (gwN g way d) aw1 (1 + c) = gnw _ _
    rw [gp_w aw1 (by rw [e21]; exact hc), ih, e22, gli_mx hO way c hc hd' (g 22) (Nat.le_refl _)]
    congr 1
    unfold tkN
    have e4 := mxb_more (f := tkf g c (g 0 + d)) (p := awb (bits (fun k => decide (letB g way k = c)) (g 22))) (n := g 22) (fun k hk => by unfold tkf; rw [if_neg (by omega)]) (4 - g 22)
    rw [show g 22 + (4 - g 22) = 4 by omega] at e4
    rw [e4]
    exact mxb_cong (g 22) (fun k hk => ⟨rfl, (awb_bits (p := fun k => decide (letB g way k = c)) hk).symm⟩)
/-! the class's search: what each set takes -/
theorem p_ntz {w : Nat} (hw : w < 4) {post : Int32 → Prop} (hp : post (nI w)) : w_J6_numberOfTrailingZeros_0f7a4 (nI (2 ^ w)) post := by
  unfold w_J6_numberOfTrailingZeros_0f7a4 wpJ
  intro x1 h1
  rcases (show w = 0 ∨ w = 1 ∨ w = 2 ∨ w = 3 by omega) with rfl | rfl | rfl | rfl
  · have e : x1 = 0 := by rw [h1]; decide
    subst e
    exact ⟨fun q => absurd q (by decide), fun _ => hp⟩
  · have e : x1 = 1 := by rw [h1]; decide
    subst e
    exact ⟨fun _ => ⟨fun _ => ⟨fun _ => ⟨fun _ => ⟨fun _ => hp, fun q => absurd (by decide) q⟩, fun q => absurd (by decide) q⟩, fun q => absurd (by decide) q⟩, fun q => absurd (by decide) q⟩, fun q => absurd (by decide) q⟩
  · have e : x1 = 3 := by rw [h1]; decide
    subst e
    exact ⟨fun _ => ⟨fun _ => ⟨fun _ => ⟨fun _ => ⟨fun _ => hp, fun q => absurd (by decide) q⟩, fun q => absurd (by decide) q⟩, fun q => absurd (by decide) q⟩, fun q => absurd (by decide) q⟩, fun q => absurd (by decide) q⟩
  · have e : x1 = 7 := by rw [h1]; decide
    subst e
    refine ⟨fun _ => ⟨fun _ => ⟨fun _ => ⟨fun _ => ⟨fun q => absurd q (by decide), fun _ x11 h11 => ?_⟩, fun q => absurd (by decide) q⟩, fun q => absurd (by decide) q⟩, fun q => absurd (by decide) q⟩, fun q => absurd (by decide) q⟩
    subst h11
    exact hp
theorem p_takenBy4 {a : BX1} {g : Nat → Nat} {T : Nat} (hA : AgS a g) (hO : OKg T g) {k c t : Nat} (hk : k < 4) (hc : c < g 21) (ht : t < 100000) {post : Int32 → Prop} (hp : post (nI (tkf g c t k))) : w_X1_takenBy a (nI k) (nI c) (nI t) post := by
  unfold tkf at hp
  by_cases h : k < g 22
  · rw [if_pos h] at hp
    exact p_takenBy hA hO h hc ht hp
  · rw [if_neg h] at hp
    unfold w_X1_takenBy
    refine p_hasWaker hA.1.2.1 hO.1.2.1 ?_
    rw [bi_f (by rw [nIto (by omega)]; omega)]
    exact sel0 hp
theorem low_one : ∀ j, j < 16 → (j &&& (j - 1)) = 0 → (j = 0 ∨ j = 1 ∨ j = 2 ∨ j = 4 ∨ j = 8) := by decide
theorem low_lt : ∀ j, j < 16 → (j = 0 ∨ (j &&& (j - 1)) < j) := by decide
theorem low_or : ∀ j, j < 16 → ∀ k, k < 4 → awb j k = (awb (j &&& (j - 1)) k || awb (j - (j &&& (j - 1))) k) := by decide
theorem awb_pow : ∀ w, w < 4 → ∀ k, k < 4 → awb (2 ^ w) k = decide (k = w) := by decide
theorem awb_0 (k : Nat) : awb 0 k = false := by
  unfold awb
  rw [Nat.zero_div]
  rfl
theorem p_findTaken {u : BX4} {un : BX1} {g : Nat → Nat} {T c t : Nat} (hA : AgX un g) (hO : OKg T g) (hc : c < g 21) (ht : t < 100000) {post : BX4 → Prop} (hp : ∀ tk', (∀ s, s < 16 → tk' s = nI (tkN g c t s)) → post (u.1, tk', u.2.2)) : w_X4_findTaken u un (nI c) (nI t) post := by
  unfold w_X4_findTaken
  refine ⟨nIin (n := 0) (by omega) (by omega), ?_⟩
  refine up_from (fun n i (v : BX4) => wL_X4_findTaken_10 (nI c) (nI t) un post (fun u6 => post u6) n i v) 16 1 (by omega) (fun j v => ∃ tk', v = (u.1, tk', u.2.2) ∧ ∀ s, s < j → tk' s = nI (tkN g c t s)) ?_ ?_ _ ⟨upd u.2.1 0 (nI 0), rfl, fun s hs => ?_⟩
  · intro n v hv
    obtain ⟨tk', rfl, h⟩ := hv
    show wL_X4_findTaken_10 _ _ _ _ _ _ _ _
    unfold wL_X4_findTaken_10
    exact ⟨fun _ => hp tk' h, fun h => absurd (Int32.le_refl _) h⟩
  · intro n j v hj1 hj hv ih
    obtain ⟨tk', rfl, h⟩ := hv
    show wL_X4_findTaken_10 _ _ _ _ _ _ _ _
    unfold wL_X4_findTaken_10
    have eo : nI j &&& (nI j - 1) = nI (j &&& (j - 1)) := by
      rw [show (1 : Int32) = nI 1 from rfl, nIsub hj1, nIand]
    have hlt : (j &&& (j - 1)) < j := (low_lt j hj).resolve_left (by omega)
    rw [show (16 : Int32) = nI 16 from rfl, nIle (by omega) (by omega), eo, nIcl (by omega), nI_1]
    refine ⟨fun h => absurd h (by omega), fun _ x8 h8 => ?_⟩
    subst h8
    rw [show (nI (j &&& (j - 1)) = (0 : Int32)) = (nI (j &&& (j - 1)) = nI 0) from rfl, nIinj (by omega) (by omega)]
    have put : ∀ v, v = tkN g c t j → ∀ s, s < j + 1 → upd tk' j (nI v) s = nI (tkN g c t s) := by
      intro v hv s hs
      rw [upd_at]
      by_cases hsj : s = j
      · rw [if_pos hsj, hsj, hv]
      · rw [if_neg hsj]; exact h s (by omega)
    refine ⟨fun h0 => ?_, fun h0 => ?_⟩
    · obtain ⟨w, hw, hjw⟩ : ∃ w, w < 4 ∧ j = 2 ^ w := by
        rcases low_one j hj h0 with e | e | e | e | e
        · omega
        · exact ⟨0, by omega, e⟩
        · exact ⟨1, by omega, e⟩
        · exact ⟨2, by omega, e⟩
        · exact ⟨3, by omega, e⟩
      have etk : tkf g c t w = tkN g c t j := by
        rw [hjw]
        exact (mxb_one 4 hw (fun k hk => awb_pow w hw k hk)).symm
      have hn := p_ntz (w := w) hw (post := fun r9 => w_X1_takenBy un r9 (nI c) (nI t) (fun r10 => vp_in (nI j) 16 ∧ (wL_X4_findTaken_10 (nI c) (nI t) un post (fun u6 => post u6) n (nI (j + 1)) (u.1, upd tk' j r10, u.2.2)))) (p_takenBy4 hA.1 hO hw hc ht ⟨nIin hj (by omega), ih _ ⟨_, rfl, put _ etk⟩⟩)
      rw [← hjw] at hn
      exact hn
    · have es : nI j - nI (j &&& (j - 1)) = nI (j - (j &&& (j - 1))) := nIsub (by omega)
      rw [es, nIcl (by omega), nIcl (by omega)]
      refine ⟨nIin (by omega) (by omega), nIin (by omega) (by omega), nIin hj (by omega), ih _ ⟨_, rfl, ?_⟩⟩
      show ∀ s, s < j + 1 → upd tk' j (if tk' (j &&& (j - 1)) < tk' (j - (j &&& (j - 1))) then tk' (j - (j &&& (j - 1))) else tk' (j &&& (j - 1))) s = nI (tkN g c t s)
      rw [h _ hlt, h (j - (j &&& (j - 1))) (by omega)]
      have l1 := tkN_le hO c t (j &&& (j - 1))
      have l2 := tkN_le hO c t (j - (j &&& (j - 1)))
      have e9 : (if nI (tkN g c t (j &&& (j - 1))) < nI (tkN g c t (j - (j &&& (j - 1)))) then nI (tkN g c t (j - (j &&& (j - 1)))) else nI (tkN g c t (j &&& (j - 1)))) = nI (tkN g c t j) := by
        have e8 : tkN g c t j = if tkN g c t (j &&& (j - 1)) < tkN g c t (j - (j &&& (j - 1))) then tkN g c t (j - (j &&& (j - 1))) else tkN g c t (j &&& (j - 1)) := mxb_or 4 (fun k hk => low_or j hj k hk)
        by_cases h7 : tkN g c t (j &&& (j - 1)) < tkN g c t (j - (j &&& (j - 1)))
        · rw [if_pos ((nIlt (by omega) (by omega)).mpr h7), e8, if_pos h7]
        · rw [if_neg (fun q => h7 ((nIlt (by omega) (by omega)).mp q)), e8, if_neg h7]
      rw [e9]
      exact put _ rfl
  · rw [upd_at, if_pos (by omega), show s = 0 by omega]
    exact congrArg nI (mxb_none 4 (fun k _ => awb_0 k)).symm
