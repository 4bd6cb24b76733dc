/-! asks -/
def trc (f : Nat → Int32) : List Int32 → Nat → Int32
  | [] => f
  | b :: l => upd (trc f l) l.length b
abbrev sT (f : Nat → Int32) (l : List Int32) : BX2 := (trc f l, nI l.length)
theorem trc_eq {f f' : Nat → Int32} : ∀ (l : List Int32) (k : Nat), k < l.length → trc f l k = trc f' l k
  | [], k, h => absurd h (Nat.not_lt_zero k)
  | b :: l, k, h => by
    show upd (trc f l) l.length b k = upd (trc f' l) l.length b k
    rw [upd_at, upd_at]
    by_cases hk : k = l.length
    · rw [if_pos hk, if_pos hk]
    · rw [if_neg hk, if_neg hk]
      have h2 : k < l.length + 1 := h
      exact trc_eq l k (by omega)
theorem p_leave {f : Nat → Int32} {l : List Int32} {b : Int32} (hl : l.length < 16) {post : BX2 → Prop} (hp : post (sT f (b :: l))) : w_X2_leave (sT f l) b post := by
  unfold w_X2_leave
  show ((16 : Int32) ≤ nI l.length → _) ∧ (¬ (16 : Int32) ≤ nI l.length → vp_in (nI l.length) 16 ∧ post (upd (trc f l) (nI l.length).toNatClampNeg b, nI l.length + 1))
  rw [show (16 : Int32) = nI 16 from rfl, nIle (by omega) (by omega), nIcl (by omega), nI_1]
  exact ⟨fun h => absurd h (by omega), fun _ => ⟨nIin hl (by omega), hp⟩⟩
def ownN (what k : Nat) : Nat := if what = 0 then (if k = 0 then 10 else if k = 1 then 11 else if k = 2 then 12 else if k = 3 then 0 else if k = 4 then 13 else 14) else (if k = 0 then 20 else if k = 1 then 21 else if k = 2 then 24 else if k = 3 then 22 else if k = 4 then 23 else 0)
theorem stS_n : ∀ k, k < 6 → stS k = nI (ownN 0 k) := by decide
theorem stM_n : ∀ k, k < 6 → stM k = nI (ownN 1 k) := by decide
theorem ownN_lt : ∀ what, what < 2 → ∀ k, k < 6 → ownN what k < 30 := by decide
theorem p_ownBody {k what : Nat} (hk : k ≤ 5) (hw : what ≤ 1) {post : Int32 → Prop} (hp : post (nI (ownN what k))) : w_X2_ownBody (nI k) (nI what) post := by
  unfold w_X2_ownBody
  rw [nIcl (by omega), stS_n k (by omega), stM_n k (by omega), show (6 : Int32) = nI 6 from rfl, nIle (by omega) (by omega)]
  rcases (show what = 0 ∨ what = 1 by omega) with rfl | rfl
  · exact ⟨fun _ => ⟨fun h => absurd h (nI_pos (by omega)), fun _ => ⟨fun h => absurd h (by omega), fun _ => ⟨nIin (by omega) (by omega), hp⟩⟩⟩, fun h => absurd rfl h⟩
  · exact ⟨fun h => absurd h (by decide), fun _ => ⟨fun h => absurd h (nI_pos (by omega)), fun _ => ⟨fun h => absurd h (by omega), fun _ => ⟨nIin (by omega) (by omega), hp⟩⟩⟩⟩
def fB (what : Nat) : Nat → Nat → Nat
  | 0, k => k
  | n + 1, k => if k = 0 then k else if ownN what k = 0 then fB what n (parN k) else k
def bodyN (what k : Nat) : Nat := ownN what (fB what 5 k)
theorem p_bodyFor {k what : Nat} (hk : k ≤ 5) (hw : what ≤ 1) {post : Int32 → Prop} (hp : post (nI (bodyN what k))) : w_X2_bodyFor (nI k) (nI what) post := by
  unfold w_X2_bodyFor
  have key : ∀ n s k, n + s = 5 → k ≤ 5 → post (nI (ownN what (fB what n k))) → wL_X2_bodyFor_4 (nI what) post (fun (x4 : Int32) => w_X2_ownBody x4 (nI what) (fun r5 => post r5)) (n + 1) (nI k) (nI s) := by
    intro n
    induction n with
    | zero =>
      intro s k hs hk hq
      unfold wL_X2_bodyFor_4
      rw [show s = 5 by omega]
      exact ⟨fun _ => p_ownBody hk hw hq, fun h => absurd (Int32.le_refl _) h⟩
    | succ n ih =>
      intro s k hs hk hq
      unfold wL_X2_bodyFor_4
      unfold fB at hq
      have h30 := ownN_lt what (by omega) k (by omega)
      rw [show (5 : Int32) = nI 5 from rfl, nIle (by omega) (by omega), show (nI k ≤ (0 : Int32)) = (nI k ≤ nI 0) from rfl, nIle (by omega) (by omega), nI_1]
      refine ⟨fun h => absurd h (by omega), fun _ => ⟨fun h => ?_, fun h => p_ownBody hk hw ?_⟩⟩
      · rw [if_pos (by omega)] at hq
        exact p_ownBody hk hw hq
      · rw [show (nI (ownN what k) = (0 : Int32)) = (nI (ownN what k) = nI 0) from rfl, nIinj (by omega) (by omega)]
        rw [if_neg (by omega)] at hq
        refine ⟨fun h2 => p_parentOf hk ?_, fun h2 => ?_⟩
        · rw [if_pos h2] at hq
          exact ih (s + 1) (parN k) (by omega) (parN_le k) hq
        · rw [if_neg h2] at hq
          exact p_ownBody hk hw hq
  exact ⟨6, key 5 0 k rfl hk hp⟩
section ASKX
variable {un : BX1} {g : Nat → Nat} {T k d n kd : Nat} {f : Nat → Int32} {l : List Int32} {post : Int32 → BX2 → Prop}
theorem rb_in {N : Nat} (hN : un.2.2.2.2.2.2.2.2.1 = nI N) (hN4 : N ≤ 4) (hk : k < N) (hl : l.length < 16) (hd : d ≤ 16) {b : Int32} {R : BX2 → Prop} (h : R (sT f (b :: l))) : ((16 : Int32) < nI d → post 0 (sT f l)) ∧ (¬ (16 : Int32) < nI d → w_X1_hasWaker un (nI k) (fun r1 => (r1 = 0 → post 0 (sT f l)) ∧ (¬ r1 = 0 → w_X2_leave (sT f l) b R))) := by
  refine ⟨fun q => ?_, fun _ => p_hasWaker hN hN4 ?_⟩
  · rw [show (16 : Int32) = nI 16 from rfl, nIlt (by omega) (by omega)] at q
    omega
  · rw [bi_t (by rw [nIto (by omega)]; omega)]
    exact sel1 (p_leave hl h)
theorem p_askAnew (hA : AgX un g) (hO : OKg T g) (hk : k < g 22) {what : Nat} (hw : what ≤ 1) {RB : BX2 → BX1 → Int32 → Int32 → Int32 → (Int32 → BX2 → Prop) → Prop} {u : BX2} (h : RB u un (nI k) (nI (bodyN what (g (28 + k)))) (nI (d + 1)) (fun r3 u4 => post r3 u4)) : w_X2_askAnew RB u un (nI k) (nI what) (nI d) post := by
  obtain ⟨b1, b2, b3, b4, b5, b6⟩ := hO.1
  obtain ⟨⟨o0, o1⟩, _⟩ := hO.2.2.1 k hk
  unfold w_X2_askAnew
  refine p_hasWaker hA.1.1.2.1 b2 ?_
  rw [bi_t (by rw [nIto (by omega)]; omega), nIcl (by omega), (hA.1.2.2 k hk).1]
  refine sel1 ⟨nIin (by omega) (by omega), p_bodyFor o1 hw ?_⟩
  rw [nI_1]
  exact h
theorem rb10 (hA : AgX un g) (hO : OKg T g) (hk : k < g 22) (hl : l.length < 16) (hd : d ≤ 16) (hp : post (nI (g (32 + k))) (sT f (10 :: l))) : w_X2_runBody (n + 1) (sT f l) un (nI k) 10 (nI d) post := by
  have b2 := hO.1.2.1
  unfold w_X2_runBody
  refine rb_in hA.1.1.2.1 b2 hk hl hd ?_
  rw [nIcl (by omega), (hA.1.2.2 k hk).2.1]
  exact ⟨fun _ => ⟨nIin (by omega) (by omega), hp⟩, fun q => absurd rfl q⟩
theorem rb20 (hA : AgX un g) (hO : OKg T g) (hk : k < g 22) (hl : l.length < 16) (hd : d ≤ 16) (hp : post (nI k) (sT f (20 :: l))) : w_X2_runBody (n + 1) (sT f l) un (nI k) 20 (nI d) post := by
  have b2 := hO.1.2.1
  unfold w_X2_runBody
  refine rb_in hA.1.1.2.1 b2 hk hl hd ?_
  iterate 10 refine ⟨fun q => absurd q (by decide), fun _ => ?_⟩
  exact ⟨fun _ => hp, fun q => absurd rfl q⟩
theorem rb21 (hA : AgX un g) (hO : OKg T g) (hk : k < g 22) (hl : l.length < 15) (hd : d ≤ 15) (hp : post (nI k + nI (g (14 + k))) (sT f (20 :: 21 :: l))) : w_X2_runBody (n + 1 + 1) (sT f l) un (nI k) 21 (nI d) post := by
  have b2 := hO.1.2.1
  unfold w_X2_runBody
  refine rb_in hA.1.1.2.1 b2 hk (by omega) (by omega) ?_
  iterate 11 refine ⟨fun q => absurd q (by decide), fun _ => ?_⟩
  rw [nI_1, nIcl (by omega), hA.2.2 k hk]
  exact ⟨fun _ => rb20 hA hO hk (by simp only [List.length_cons]; omega) (by omega) ⟨nIin (by omega) (by omega), hp⟩, fun q => absurd rfl q⟩
theorem rb13 (hA : AgX un g) (hO : OKg T g) (hk : k < g 22) (hl : l.length < 15) (hd : d ≤ 15) (hp : post (nI (g (32 + k)) - 100) (sT f (10 :: 13 :: l))) : w_X2_runBody (n + 1 + 1) (sT f l) un (nI k) 13 (nI d) post := by
  have b2 := hO.1.2.1
  unfold w_X2_runBody
  refine rb_in hA.1.1.2.1 b2 hk (by omega) (by omega) ?_
  iterate 3 refine ⟨fun q => absurd q (by decide), fun _ => ?_⟩
  rw [nI_1]
  exact ⟨fun _ => rb10 hA hO hk (by simp only [List.length_cons]; omega) (by omega) hp, fun q => absurd rfl q⟩
theorem rb14 (hA : AgX un g) (hO : OKg T g) (hk : k < g 22) (hl : l.length < 14) (hd : d ≤ 14) (hp : post (2 * (nI (g (32 + k)) - 100)) (sT f (10 :: 13 :: 14 :: l))) : w_X2_runBody (n + 1 + 1 + 1) (sT f l) un (nI k) 14 (nI d) post := by
  have b2 := hO.1.2.1
  unfold w_X2_runBody
  refine rb_in hA.1.1.2.1 b2 hk (by omega) (by omega) ?_
  iterate 4 refine ⟨fun q => absurd q (by decide), fun _ => ?_⟩
  rw [nI_1]
  exact ⟨fun _ => rb13 hA hO hk (by simp only [List.length_cons]; omega) (by omega) hp, fun q => absurd rfl q⟩
theorem rb22 (hA : AgX un g) (hO : OKg T g) (hk : k < g 22) (hl : l.length < 14) (hd : d ≤ 14) (hp : post ((nI k + nI (g (14 + k))) - 1000) (sT f (20 :: 21 :: 22 :: l))) : w_X2_runBody (n + 1 + 1 + 1) (sT f l) un (nI k) 22 (nI d) post := by
  have b2 := hO.1.2.1
  unfold w_X2_runBody
  refine rb_in hA.1.1.2.1 b2 hk (by omega) (by omega) ?_
  iterate 12 refine ⟨fun q => absurd q (by decide), fun _ => ?_⟩
  rw [nI_1]
  exact ⟨fun _ => rb21 hA hO hk (by simp only [List.length_cons]; omega) (by omega) hp, fun q => absurd rfl q⟩
theorem rb24 (hA : AgX un g) (hO : OKg T g) (hk : k < g 22) (hl : l.length < 14) (hd : d ≤ 14) (hp : post (2 * (nI k + nI (g (14 + k)))) (sT f (20 :: 21 :: 24 :: l))) : w_X2_runBody (n + 1 + 1 + 1) (sT f l) un (nI k) 24 (nI d) post := by
  have b2 := hO.1.2.1
  unfold w_X2_runBody
  refine rb_in hA.1.1.2.1 b2 hk (by omega) (by omega) ?_
  iterate 14 refine ⟨fun q => absurd q (by decide), fun _ => ?_⟩
  rw [nI_1]
  exact ⟨fun _ => rb21 hA hO hk (by simp only [List.length_cons]; omega) (by omega) hp, fun q => absurd rfl q⟩
def aG (kd h : Nat) : Int32 := if kd = 5 then 2 * (nI h - 100) else nI h - 100
def lG (kd : Nat) (l : List Int32) : List Int32 := if kd = 5 then 10 :: 13 :: 14 :: l else 10 :: 13 :: l
def aM (kd k E h : Nat) : Int32 := if kd = 1 then nI k + nI E else if kd = 2 then 2 * (nI k + nI E) else if kd = 3 then (nI k + nI E) - 1000 else nI k - aG kd h
def lM (kd : Nat) (l : List Int32) : List Int32 := if kd = 1 then 20 :: 21 :: l else if kd = 2 then 20 :: 21 :: 24 :: l else if kd = 3 then 20 :: 21 :: 22 :: l else lG kd (20 :: 23 :: l)
def aS (kd k E h : Nat) : Int32 := if kd = 1 then nI h + aM kd k E h else if kd = 2 then -(nI h + aM kd k E h) else if kd = 3 then nI h + aM kd k E h else aG kd h
def lS (kd : Nat) (l : List Int32) : List Int32 := if kd = 1 then lM kd (10 :: 11 :: l) else if kd = 2 then lM kd (10 :: 11 :: 12 :: l) else if kd = 3 then lM kd (10 :: 11 :: l) else lG kd l
theorem c_G (hA : AgX un g) (hO : OKg T g) (hk : k < g 22) (hkd : g (28 + k) = kd) (h45 : kd = 4 ∨ kd = 5) (hl : l.length < 13) (hd : d ≤ 10) (hp : post (aG kd (g (32 + k))) (sT f (lG kd l))) : w_X2_askAnew (w_X2_runBody (n + 1 + 1 + 1)) (sT f l) un (nI k) 0 (nI d) post := by
  refine p_askAnew (what := 0) hA hO hk (by omega) ?_
  rw [hkd]
  rcases h45 with rfl | rfl
  · exact rb13 (n := n + 1) hA hO hk (by omega) (by omega) hp
  · exact rb14 hA hO hk (by omega) (by omega) hp
theorem rb23 (hA : AgX un g) (hO : OKg T g) (hk : k < g 22) (hkd : g (28 + k) = kd) (h45 : kd = 4 ∨ kd = 5) (hl : l.length < 10) (hd : d ≤ 9) (hp : post (nI k - aG kd (g (32 + k))) (sT f (lG kd (20 :: 23 :: l)))) : w_X2_runBody (n + 1 + 1 + 1 + 1) (sT f l) un (nI k) 23 (nI d) post := by
  have b2 := hO.1.2.1
  unfold w_X2_runBody
  refine rb_in hA.1.1.2.1 b2 hk (by omega) (by omega) ?_
  iterate 13 refine ⟨fun q => absurd q (by decide), fun _ => ?_⟩
  rw [nI_1]
  exact ⟨fun _ => rb20 hA hO hk (by simp only [List.length_cons]; omega) (by omega) (c_G hA hO hk hkd h45 (by simp only [List.length_cons]; omega) (by omega) hp), fun q => absurd rfl q⟩
theorem c_M (hA : AgX un g) (hO : OKg T g) (hk : k < g 22) (hkd : g (28 + k) = kd) (hl : l.length < 10) (hd : d ≤ 8) (hp : post (aM kd k (g (14 + k)) (g (32 + k))) (sT f (lM kd l))) : w_X2_askAnew (w_X2_runBody (n + 1 + 1 + 1 + 1)) (sT f l) un (nI k) 1 (nI d) post := by
  obtain ⟨⟨o0, o1⟩, _⟩ := hO.2.2.1 k hk
  refine p_askAnew (what := 1) hA hO hk (by omega) ?_
  rw [hkd] at o0 o1 ⊢
  rcases (show kd = 1 ∨ kd = 2 ∨ kd = 3 ∨ kd = 4 ∨ kd = 5 by omega) with rfl | rfl | rfl | rfl | rfl
  · exact rb21 (n := n + 1 + 1) hA hO hk (by omega) (by omega) hp
  · exact rb24 (n := n + 1) hA hO hk (by omega) (by omega) hp
  · exact rb22 (n := n + 1) hA hO hk (by omega) (by omega) hp
  · exact rb23 hA hO hk hkd (Or.inl rfl) (by omega) (by omega) hp
  · exact rb23 hA hO hk hkd (Or.inr rfl) (by omega) (by omega) hp
theorem rb11 (hA : AgX un g) (hO : OKg T g) (hk : k < g 22) (hkd : g (28 + k) = kd) (hl : l.length < 8) (hd : d ≤ 7) (hp : post (nI (g (32 + k)) + aM kd k (g (14 + k)) (g (32 + k))) (sT f (lM kd (10 :: 11 :: l)))) : w_X2_runBody (n + 1 + 1 + 1 + 1 + 1) (sT f l) un (nI k) 11 (nI d) post := by
  have b2 := hO.1.2.1
  unfold w_X2_runBody
  refine rb_in hA.1.1.2.1 b2 hk (by omega) (by omega) ?_
  iterate 1 refine ⟨fun q => absurd q (by decide), fun _ => ?_⟩
  rw [nI_1]
  exact ⟨fun _ => rb10 hA hO hk (by simp only [List.length_cons]; omega) (by omega) (c_M hA hO hk hkd (by simp only [List.length_cons]; omega) (by omega) hp), fun q => absurd rfl q⟩
theorem rb12 (hA : AgX un g) (hO : OKg T g) (hk : k < g 22) (hkd : g (28 + k) = kd) (hl : l.length < 7) (hd : d ≤ 6) (hp : post (-(nI (g (32 + k)) + aM kd k (g (14 + k)) (g (32 + k)))) (sT f (lM kd (10 :: 11 :: 12 :: l)))) : w_X2_runBody (n + 1 + 1 + 1 + 1 + 1 + 1) (sT f l) un (nI k) 12 (nI d) post := by
  have b2 := hO.1.2.1
  unfold w_X2_runBody
  refine rb_in hA.1.1.2.1 b2 hk (by omega) (by omega) ?_
  iterate 2 refine ⟨fun q => absurd q (by decide), fun _ => ?_⟩
  rw [nI_1]
  exact ⟨fun _ => rb11 hA hO hk hkd (by simp only [List.length_cons]; omega) (by omega) hp, fun q => absurd rfl q⟩
theorem c_S (hA : AgX un g) (hO : OKg T g) (hk : k < g 22) (hkd : g (28 + k) = kd) (hl : l.length < 7) (hd : d ≤ 5) (hp : post (aS kd k (g (14 + k)) (g (32 + k))) (sT f (lS kd l))) : w_X2_askAnew (w_X2_runBody (n + 1 + 1 + 1 + 1 + 1 + 1)) (sT f l) un (nI k) 0 (nI d) post := by
  obtain ⟨⟨o0, o1⟩, _⟩ := hO.2.2.1 k hk
  refine p_askAnew (what := 0) hA hO hk (by omega) ?_
  rw [hkd] at o0 o1 ⊢
  rcases (show kd = 1 ∨ kd = 2 ∨ kd = 3 ∨ kd = 4 ∨ kd = 5 by omega) with rfl | rfl | rfl | rfl | rfl
  · exact rb11 (n := n + 1) hA hO hk hkd (by omega) (by omega) hp
  · exact rb12 hA hO hk hkd (by omega) (by omega) hp
  · exact rb11 (n := n + 1) hA hO hk hkd (by omega) (by omega) hp
  · exact rb13 (n := n + 1 + 1 + 1 + 1) hA hO hk (by omega) (by omega) hp
  · exact rb14 (n := n + 1 + 1 + 1) hA hO hk (by omega) (by omega) hp
end ASKX
/-- the reference with another trace -/
def mT (m : BX7) (l : List Int32) : BX7 := (m.1, m.2.1, m.2.2.1, m.2.2.2.1, m.2.2.2.2.1, m.2.2.2.2.2.1, m.2.2.2.2.2.2.1, m.2.2.2.2.2.2.2.1, m.2.2.2.2.2.2.2.2.1, m.2.2.2.2.2.2.2.2.2.1, m.2.2.2.2.2.2.2.2.2.2.1, trc m.2.2.2.2.2.2.2.2.2.2.2.1 l, nI l.length, m.2.2.2.2.2.2.2.2.2.2.2.2.2)
section ASKM
variable {m : BX7} {g : Nat → Nat} {T k kd : Nat} {l : List Int32} {post : Int32 → BX7 → Prop}
theorem p_leaves {b : Int32} (hl : l.length < 16) {post : BX7 → Prop} (hp : post (mT m (b :: l))) : w_X7_leaves (mT m l) b post := by
  unfold w_X7_leaves
  rw [show (mT m l).2.2.2.2.2.2.2.2.2.2.2.2.1 = nI l.length from rfl, show (16 : Int32) = nI 16 from rfl, nIle (by omega) (by omega), nIcl (by omega), nI_1]
  exact ⟨fun h => absurd h (by omega), fun _ => ⟨nIin hl (by omega), hp⟩⟩
theorem pM_markLent (hl : l.length < 16) (hp : post (nI k) (mT m (20 :: l))) : w_X7_markLent (mT m l) (nI k) post := by
  unfold w_X7_markLent
  exact p_leaves hl hp
theorem pM_markOwl (hM : AgM m.1 0 g) (hk : k < 4) (hl : l.length < 15) (hp : post (nI k + nI (g (14 + k))) (mT m (20 :: 21 :: l))) : w_X7_markOwl (mT m l) (nI k) post := by
  have e : m.1 (14 + k) = nI (g (14 + k)) := by have := hM (14 + k) (by omega); rw [Nat.zero_add] at this; exact this
  unfold w_X7_markOwl
  refine p_leaves (by omega) (pM_markLent (by simp only [List.length_cons]; omega) ?_)
  have e3 : (14 : Int32) + nI k = nI (14 + k) := by simp (disch := omega) only [liN, nI_add]
  rw [e3, nIcl (by omega)]
  show _ ∧ post (nI k + m.1 (14 + k)) _
  rw [e]
  exact ⟨nIin (by omega) (by omega), hp⟩
theorem pM_sizeGuard (hM : AgM m.1 0 g) (hk : k < 4) (hl : l.length < 13) {b : Int32} (hb : (b = 1 ∧ kd = 5) ∨ (b = 0 ∧ kd = 4)) (hp : post (aG kd (g (32 + k))) (mT m (lG kd l))) : w_X7_sizeGuard (mT m l) (nI k) b post := by
  have e : m.1 (32 + k) = nI (g (32 + k)) := by have := hM (32 + k) (by omega); rw [Nat.zero_add] at this; exact this
  have e3 : (32 : Int32) + nI k = nI (32 + k) := by simp (disch := omega) only [liN, nI_add]
  unfold w_X7_sizeGuard wpJ
  rw [e3, nIcl (by omega)]
  rcases hb with ⟨rfl, rfl⟩ | ⟨rfl, rfl⟩
  · refine sel1 (p_leaves (by omega) (p_leaves (by simp only [List.length_cons]; omega) (p_leaves (by simp only [List.length_cons]; omega) ⟨nIin (by omega) (by omega), fun x hx => sel1 ?_⟩)))
    have hx2 : x = nI (g (32 + k)) - 100 := by rw [← e]; exact hx
    rw [hx2]
    exact hp
  · refine sel0 (p_leaves (by omega) (p_leaves (by simp only [List.length_cons]; omega) ⟨nIin (by omega) (by omega), fun x hx => sel0 ?_⟩))
    have hx2 : x = nI (g (32 + k)) - 100 := by rw [← e]; exact hx
    rw [hx2]
    exact hp
theorem pM_mark (hM : AgM m.1 0 g) (hO : OKg T g) (hk : k < g 22) (hkd : g (28 + k) = kd) (hl : l.length < 10) (hp : post (aM kd k (g (14 + k)) (g (32 + k))) (mT m (lM kd l))) : w_X7_mark (mT m l) (nI k) post := by
  have b2 := hO.1.2.1
  obtain ⟨⟨o0, o1⟩, _⟩ := hO.2.2.1 k hk
  have e : m.1 (28 + k) = nI kd := by rw [← hkd]; have := hM (28 + k) (by omega); rw [Nat.zero_add] at this; exact this
  have e3 : (28 : Int32) + nI k = nI (28 + k) := by simp (disch := omega) only [liN, nI_add]
  rw [hkd] at o0 o1
  unfold w_X7_mark
  rw [e3, nIcl (by omega)]
  refine ⟨nIin (by omega) (by omega), fun x hx => ?_⟩
  have hx2 : x = nI kd := by rw [← e]; exact hx
  subst hx2
  rcases (show kd = 1 ∨ kd = 2 ∨ kd = 3 ∨ kd = 4 ∨ kd = 5 by omega) with rfl | rfl | rfl | rfl | rfl
  · exact ⟨fun _ => pM_markOwl hM (by omega) (by omega) hp, fun q => absurd rfl q⟩
  · iterate 1 refine ⟨fun q => absurd q (by decide), fun _ => ?_⟩
    exact ⟨fun _ => p_leaves (by omega) (pM_markOwl hM (by omega) (by simp only [List.length_cons]; omega) hp), fun q => absurd rfl q⟩
  · iterate 2 refine ⟨fun q => absurd q (by decide), fun _ => ?_⟩
    exact ⟨fun _ => p_leaves (by omega) (pM_markOwl hM (by omega) (by simp only [List.length_cons]; omega) hp), fun q => absurd rfl q⟩
  · iterate 3 refine ⟨fun q => absurd q (by decide), fun _ => ?_⟩
    exact p_leaves (by omega) (pM_markLent (by simp only [List.length_cons]; omega) ⟨fun q => absurd q (by decide), fun _ => pM_sizeGuard hM (by omega) (by simp only [List.length_cons]; omega) (Or.inr ⟨rfl, rfl⟩) hp⟩)
  · iterate 3 refine ⟨fun q => absurd q (by decide), fun _ => ?_⟩
    exact p_leaves (by omega) (pM_markLent (by simp only [List.length_cons]; omega) ⟨fun _ => pM_sizeGuard hM (by omega) (by simp only [List.length_cons]; omega) (Or.inl ⟨rfl, rfl⟩) hp, fun q => absurd rfl q⟩)
theorem pM_sizeOwl (hM : AgM m.1 0 g) (hO : OKg T g) (hk : k < g 22) (hkd : g (28 + k) = kd) (hl : l.length < 8) (hp : post (nI (g (32 + k)) + aM kd k (g (14 + k)) (g (32 + k))) (mT m (lM kd (10 :: 11 :: l)))) : w_X7_sizeOwl (mT m l) (nI k) post := by
  have b2 := hO.1.2.1
  have e : m.1 (32 + k) = nI (g (32 + k)) := by have := hM (32 + k) (by omega); rw [Nat.zero_add] at this; exact this
  have e3 : (32 : Int32) + nI k = nI (32 + k) := by simp (disch := omega) only [liN, nI_add]
  unfold w_X7_sizeOwl
  rw [e3, nIcl (by omega)]
  refine p_leaves (by omega) (p_leaves (by simp only [List.length_cons]; omega) ⟨nIin (by omega) (by omega), pM_mark hM hO hk hkd (by simp only [List.length_cons]; omega) ?_⟩)
  show post (m.1 (32 + k) + _) _
  rw [e]
  exact hp
theorem pM_size (hM : AgM m.1 0 g) (hO : OKg T g) (hk : k < g 22) (hkd : g (28 + k) = kd) (hl : l.length < 7) (hp : post (aS kd k (g (14 + k)) (g (32 + k))) (mT m (lS kd l))) : w_X7_size (mT m l) (nI k) post := by
  have b2 := hO.1.2.1
  obtain ⟨⟨o0, o1⟩, _⟩ := hO.2.2.1 k hk
  have e : m.1 (28 + k) = nI kd := by rw [← hkd]; have := hM (28 + k) (by omega); rw [Nat.zero_add] at this; exact this
  have e3 : (28 : Int32) + nI k = nI (28 + k) := by simp (disch := omega) only [liN, nI_add]
  rw [hkd] at o0 o1
  unfold w_X7_size
  rw [e3, nIcl (by omega)]
  refine ⟨nIin (by omega) (by omega), fun x hx => ?_⟩
  have hx2 : x = nI kd := by rw [← e]; exact hx
  subst hx2
  rcases (show kd = 1 ∨ kd = 2 ∨ kd = 3 ∨ kd = 4 ∨ kd = 5 by omega) with rfl | rfl | rfl | rfl | rfl
  · exact ⟨fun _ => pM_sizeOwl hM hO hk hkd (by omega) hp, fun q => absurd rfl q⟩
  · iterate 1 refine ⟨fun q => absurd q (by decide), fun _ => ?_⟩
    exact ⟨fun _ => p_leaves (by omega) (pM_sizeOwl hM hO hk hkd (by simp only [List.length_cons]; omega) hp), fun q => absurd rfl q⟩
  · iterate 2 refine ⟨fun q => absurd q (by decide), fun _ => ?_⟩
    exact ⟨fun _ => pM_sizeOwl hM hO hk hkd (by omega) hp, fun q => absurd rfl q⟩
  · iterate 3 refine ⟨fun q => absurd q (by decide), fun _ => ?_⟩
    exact ⟨fun q => absurd q (by decide), fun _ => pM_sizeGuard hM (by omega) (by omega) (Or.inr ⟨rfl, rfl⟩) hp⟩
  · iterate 3 refine ⟨fun q => absurd q (by decide), fun _ => ?_⟩
    exact ⟨fun _ => pM_sizeGuard hM (by omega) (by omega) (Or.inl ⟨rfl, rfl⟩) hp, fun q => absurd rfl q⟩
end ASKM
theorem lG_len (kd : Nat) (l : List Int32) : (lG kd l).length ≤ l.length + 3 := by
  unfold lG
  split <;> simp
theorem lM_len (kd : Nat) (l : List Int32) : (lM kd l).length ≤ l.length + 5 := by
  unfold lM
  have h := lG_len kd (20 :: 23 :: l)
  simp only [List.length_cons] at h
  repeat' split
  all_goals try simp only [List.length_cons]
  all_goals omega
theorem lS_len (kd : Nat) (l : List Int32) : (lS kd l).length ≤ l.length + 8 := by
  unfold lS
  have h1 := lM_len kd (10 :: 11 :: l)
  have h2 := lM_len kd (10 :: 11 :: 12 :: l)
  have h3 := lG_len kd l
  simp only [List.length_cons] at h1 h2
  repeat' split
  all_goals omega
section OPSL
variable {ux : BX6} {un ut : BX1} {up : BX5} {ua : BX0} {us : BX4} {uk : BX2} {rs : Nat → BX3} {ms : Nat → BX1} {m : BX7} {a0 a1 a2 a3 a4 : Int32}
theorem RR.trc (h : RR ux un up ua uk rs ms m) {l : List Int32} (hl : l.length ≤ 16) : RR ux un up ua (sT uk.1 l) rs ms (mT m l) := by
  obtain ⟨g, h1, h2, h3, h4, h5, h6, h7, h8⟩ := h
  exact ⟨g, h1, h2, h3, h4, h5, ⟨l.length, hl, rfl, rfl, fun k hk => trc_eq l k hk⟩, h7, h8⟩
theorem op_ask (hR : RR ux un up ua uk rs ms m) {P : Int32 → BX2 → Int32 → BX7 → Prop} (hp : ∀ r uk' m', RR ux un up ua uk' rs ms m' → P r uk' r m') : w_X6_ask ux un uk a0 a1 (fun r uk' => w_X7_ask m a0 a1 (fun r2 m' => P r uk' r2 m')) := by
  have hR0 := hR
  obtain ⟨g, ⟨hA, hM, hO⟩, _⟩ := hR
  obtain ⟨b1, b2, b3, b4, b5, b6⟩ := hO.1
  unfold w_X6_ask
  refine p_hasWaker hA.1.1.2.1 b2 ?_
  by_cases h1 : 0 ≤ a0.toInt ∧ a0.toInt < g 22
  · rw [bi_t h1]
    obtain ⟨k, hk, rfl⟩ := nI_range h1 (by omega)
    refine sel1 (p_isWithin ?_)
    rw [lit_toInt0, show (1 : Int32).toInt = (1 : Nat) from rfl]
    by_cases h2 : 0 ≤ a1.toInt ∧ a1.toInt ≤ (1 : Nat)
    · rw [bi_t h2]
      obtain ⟨w, hw, rfl⟩ := nI_range2 h2 (by decide)
      refine sel1 ?_
      unfold w_X2_begin
      have M : ∀ Q : Int32 → BX7 → Prop, (w = 0 → Q (aS (g (28 + k)) k (g (14 + k)) (g (32 + k))) (mT m (lS (g (28 + k)) []))) → (w = 1 → Q (aM (g (28 + k)) k (g (14 + k)) (g (32 + k))) (mT m (lM (g (28 + k)) []))) → w_X7_ask m (nI k) (nI w) Q := by
        intro Q q0 q1
        unfold w_X7_ask
        refine p_isWaker hM hO ?_
        rw [bi_t h1]
        refine sel1 (p_in ?_)
        rw [t64, l64_0, show (1 : Int64).toInt = (1 : Nat) from rfl, bi_t h2]
        rcases (show w = 0 ∨ w = 1 by omega) with rfl | rfl
        · exact sel1 ⟨fun _ => pM_size (m := m) (l := []) hM hO hk rfl (show (0 : Nat) < 7 by omega) (q0 rfl), fun q => absurd rfl q⟩
        · exact sel1 ⟨fun q => absurd q (by decide), fun _ => pM_mark (m := m) (l := []) hM hO hk rfl (show (0 : Nat) < 10 by omega) (q1 rfl)⟩
      rcases (show w = 0 ∨ w = 1 by omega) with rfl | rfl
      · exact c_S (n := 14) (d := 0) (f := uk.1) (l := []) hA hO hk rfl (show (0 : Nat) < 7 by omega) (by omega) (M _ (fun _ => hp _ _ _ (hR0.trc (Nat.le_trans (lS_len _ []) (by decide)))) (fun q => absurd q (by decide)))
      · exact c_M (n := 16) (d := 0) (f := uk.1) (l := []) hA hO hk rfl (show (0 : Nat) < 10 by omega) (by omega) (M _ (fun q => absurd q (by decide)) (fun _ => hp _ _ _ (hR0.trc (Nat.le_trans (lM_len _ []) (by decide)))))
    · rw [bi_f h2]
      refine sel0 (p_isWaker hM hO ?_)
      rw [bi_t h1]
      refine sel1 (p_in ?_)
      rw [t64, l64_0, show (1 : Int64).toInt = (1 : Nat) from rfl, bi_f h2]
      exact sel0 (hp _ _ _ hR0)
  · rw [bi_f h1]
    refine sel0 (p_isWaker hM hO ?_)
    rw [bi_f h1]
    exact sel0 (hp _ _ _ hR0)
end OPSL
