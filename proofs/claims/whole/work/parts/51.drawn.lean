/-! how many rest -/
def onesN (r : Nat) : Nat := fb_sm (fun k => r / 2 ^ k % 2) 5
def bcE1 (a0 : Int32) : Int32 := a0 - ((((a0).toUInt32 >>> (((1 : Int32)).toUInt32 &&& Int32.toUInt32 31)).toInt32) &&& (1431655765 : Int32))
def bcE2 (x1 : Int32) : Int32 := (x1 &&& (858993459 : Int32)) + ((((x1).toUInt32 >>> (((2 : Int32)).toUInt32 &&& Int32.toUInt32 31)).toInt32) &&& (858993459 : Int32))
def bcE3 (x2 : Int32) : Int32 := (x2 + (((x2).toUInt32 >>> (((4 : Int32)).toUInt32 &&& Int32.toUInt32 31)).toInt32)) &&& (252645135 : Int32)
def bcE4 (x3 : Int32) : Int32 := x3 + (((x3).toUInt32 >>> (((8 : Int32)).toUInt32 &&& Int32.toUInt32 31)).toInt32)
def bcE5 (x4 : Int32) : Int32 := x4 + (((x4).toUInt32 >>> (((16 : Int32)).toUInt32 &&& Int32.toUInt32 31)).toInt32)
theorem bc_tab : ∀ r, r < 32 → bcE5 (bcE4 (bcE3 (bcE2 (bcE1 (nI r))))) &&& (63 : Int32) = nI (onesN r) := by decide +kernel
theorem onesN_le : ∀ r, r < 32 → onesN r ≤ 5 := by decide +kernel
theorem p_bitCount {r : Nat} (hr : r < 32) {post : Int32 → Prop} (hp : post (nI (onesN r))) : w_J6_bitCount_0f7a4 (nI r) post := by
  unfold w_J6_bitCount_0f7a4
  intro x1 h1 x2 h2 x3 h3 x4 h4 x5 h5
  subst h1
  subst h2
  subst h3
  subst h4
  subst h5
  show post (bcE5 (bcE4 (bcE3 (bcE2 (bcE1 (nI r))))) &&& (63 : Int32))
  rw [bc_tab r hr]
  exact hp
theorem p_ones {r : Nat} (hr : r < 32) {post : Int32 → Prop} (hp : post (nI (onesN r))) : w_X7_ones (nI r) post := by
  unfold w_X7_ones
  refine up_inv (fun n i (x : Int32) => wL_X7_ones_4 (nI r) post (fun x4 => post x4) n x i) 5 (fun j x => x = nI (fb_sm (fun k => r / 2 ^ k % 2) j)) ?_ ?_ 0 rfl
  · intro n x hx
    subst hx
    show wL_X7_ones_4 _ _ _ _ _ _
    unfold wL_X7_ones_4
    exact ⟨fun _ => hp, fun h => absurd (Int32.le_refl _) h⟩
  · intro n j x hj hx ih
    subst hx
    show wL_X7_ones_4 _ _ _ _ _ _
    unfold wL_X7_ones_4
    have hb : (nI r >>> (nI j &&& 31)) &&& (1 : Int32) = nI (r / 2 ^ j % 2) := get_bit j (by omega) r (by omega)
    rw [show (5 : Int32) = nI 5 from rfl, nIle (by omega) (by omega), hb, nI_1]
    refine ⟨fun h => absurd h (by omega), fun _ x6 h6 => ih x6 ?_⟩
    rw [h6, nI_add]
    rfl
/-! years by draws -/
def dx (x0 : Nat) : Nat → Nat
  | 0 => x0
  | n + 1 => dx x0 n * 16807 % 2147483647
def dgh (g : Nat → Nat) (x : Nat) : Nat → Nat := gset g (1 + x % g 21) (if g (1 + x % g 21) + x % 5 < 99 then g (1 + x % g 21) + x % 5 else 99)
def dg (x0 : Nat) (g : Nat → Nat) : Nat → Nat → Nat
  | 0 => g
  | n + 1 => gpass (dgh (dg x0 g n) (dx x0 (n + 1))) aw1
def ds (x0 : Nat) (g : Nat → Nat) : Nat → Nat := fb_sm (fun n => onesN (grs (dg x0 g (n + 1))))
theorem dx_lt {x0 : Nat} (h : x0 < 2147483647) : ∀ n, dx x0 n < 2147483647
  | 0 => h
  | n + 1 => Nat.mod_lt _ (by omega)
theorem dgh_ok {T : Nat} {g : Nat → Nat} (hO : OKg T g) (h0 : 0 < g 21) (x : Nat) : OKg T (dgh g x) := by
  refine hO.set (Or.inl ⟨x % g 21, Nat.mod_lt _ h0, rfl, ?_⟩)
  split <;> omega
theorem dgh_21 {T : Nat} {g : Nat → Nat} (hO : OKg T g) (h0 : 0 < g 21) (x : Nat) : dgh g x 21 = g 21 := by
  have h1 := hO.1.1
  have h2 := Nat.mod_lt x h0
  exact gset_ne (by omega)
theorem dg_ok {T x0 : Nat} {g : Nat → Nat} (hO : OKg T g) (h0 : 0 < g 21) : ∀ n, T + n ≤ 5000 → OKg (T + n) (dg x0 g n) ∧ dg x0 g n 21 = g 21
  | 0, _ => ⟨hO, rfl⟩
  | n + 1, h => by
    obtain ⟨i1, i2⟩ := dg_ok (x0 := x0) hO h0 n (by omega)
    have h3 : 0 < dg x0 g n 21 := by omega
    have i3 := dgh_ok i1 h3 (dx x0 (n + 1))
    refine ⟨gp_ok i3 aw1 (by omega), ?_⟩
    show gpass (dgh (dg x0 g n) (dx x0 (n + 1))) aw1 21 = _
    rw [gp_st i3 _ (by omega) (by omega), dgh_21 i1 h3, i2]
theorem dr_x {x : Nat} (hx : x < 2147483647) : (lN x * (16807 : Int64)) - (lN x * (16807 : Int64)) / (2147483647 : Int64) * (2147483647 : Int64) = lN (x * 16807 % 2147483647) := by
  rw [show (16807 : Int64) = lN 16807 from rfl, show (2147483647 : Int64) = lN 2147483647 from rfl, lN_mul]
  exact pk_lRem (by omega) (by omega) (by omega)
theorem dr_5 {x : Nat} (hx : x < 2147483647) : (lN x - lN x / (5 : Int64) * (5 : Int64)).toInt32 = nI (x % 5) := by
  rw [show (5 : Int64) = lN 5 from rfl, pk_lRem (by omega) (by omega) (by omega), lN_i]
theorem dr_n {x N : Nat} (hx : x < 2147483647) (h0 : 0 < N) (hN : N ≤ 5) : (lN x - lN x / (nI N).toInt64 * (nI N).toInt64).toInt32 = nI (x % N) := by
  rw [nI_l (by omega), pk_lRem (by omega) h0 (by omega), lN_i]
theorem dr_z {N : Nat} (h0 : 0 < N) (hN : N ≤ 5) : ¬ (nI N).toInt64 = 0 := by
  rw [nI_l (by omega), show (0 : Int64) = lN 0 from rfl, lN_eq (by omega) (by omega)]
  omega
theorem mx1 {N : Nat} (h0 : 0 < N) (hN : N ≤ 5) : (if (1 : Int32) < nI N then nI N else (1 : Int32)) = nI N := by
  by_cases h : (1 : Int32) < nI N
  · rw [if_pos h]
  · rw [if_neg h]
    rw [show (1 : Int32) = nI 1 from rfl, nIlt (by omega) (by omega)] at h
    rw [show N = 1 by omega]
    rfl
theorem p_makeHeavier {a : BX1} {g : Nat → Nat} {T c v : Nat} (hA : AgX a g) (hO : OKg T g) (hc : c < g 21) (hv : v ≤ 20) {post : BX1 → Prop} (hp : ∀ a', AgX a' (gset g (1 + c) (if g (1 + c) + v < 99 then g (1 + c) + v else 99)) → post a') : w_X1_makeHeavier a (nI c) (nI v) post := by
  obtain ⟨b1, b2, b3, b4, b5, b6⟩ := hO.1
  have eh := hA.2.1 c hc
  have hg := (hO.2.1 c hc).1
  unfold w_X1_makeHeavier
  refine p_hasClient hA.1.1.1 b1 ?_
  rw [bi_t (by rw [nIto (by omega)]; omega), nIcl (by omega), eh]
  have ez : (if nI (g (1 + c)) + nI v < (99 : Int32) then nI (g (1 + c)) + nI v else 99) = nI (if g (1 + c) + v < 99 then g (1 + c) + v else 99) := by
    simp (disch := omega) only [liN, nI_add, nIlt]
    by_cases h : g (1 + c) + v < 99
    · rw [if_pos h, if_pos h]
    · rw [if_neg h, if_neg h]
  rw [ez]
  exact sel1 ⟨nIin (by omega) (by omega), nIin (by omega) (by omega), hp _ (hA.setW hc b2 b1)⟩
theorem AgM.setr {w : Nat → Int32} {r : Nat} {g : Nat → Nat} (h : AgM w r g) {j v : Nat} (hj : j < 36) : AgM (upd w (r + j) (nI v)) r (gset g j v) := by
  intro k hk
  rw [upd_at]
  by_cases hkj : k = j
  · rw [if_pos (by omega), hkj, gset_at]
  · rw [if_neg (by omega), gset_ne hkj]
    exact h k hk
section OPSM
variable {ux : BX6} {un ut : BX1} {up : BX5} {ua : BX0} {us : BX4} {uk : BX2} {rs : Nat → BX3} {ms : Nat → BX1} {m : BX7} {a0 a1 a2 a3 a4 : Int32}
theorem p_drawnX {t : BX1} {g : Nat → Nat} {T D x0 : Nat} (hA : AgX t g) (hO : OKg T g) (h0 : 0 < g 21) (hT : T + 60 ≤ 5000) (hD : D ≤ 60) (hx : x0 < 2147483647) {y13 : Int32} {post Kx : Int32 → BX1 → Prop} (hp : ∀ t', AgX t' (dg x0 g D) → Kx (nI (ds x0 g D)) t') : ∃ n66, wL_X6_drawn_66 (nI D) y13 ux un post Kx n66 (lN x0) (0 : Int32) (0 : Int32) t := by
  have b1 := hO.1.1
  refine up_inv (fun n i (s : Int64 × Int32 × BX1) => wL_X6_drawn_66 (nI D) y13 ux un post Kx n s.1 s.2.1 i s.2.2) D (fun j s => ∃ t', s = (lN (dx x0 j), nI (ds x0 g j), t') ∧ AgX t' (dg x0 g j)) ?_ ?_ (lN x0, nI 0, t) ⟨t, rfl, hA⟩
  · intro n s hs
    obtain ⟨t', rfl, h⟩ := hs
    show wL_X6_drawn_66 _ _ _ _ _ _ _ _ _ _ _
    unfold wL_X6_drawn_66
    exact ⟨fun _ => hp t' h, fun h => absurd (Int32.le_refl _) h⟩
  · intro n j s hj hs ih
    obtain ⟨t', rfl, h⟩ := hs
    obtain ⟨i1, i2⟩ := dg_ok (x0 := x0) hO h0 j (by omega)
    obtain ⟨j1, j2⟩ := dg_ok (x0 := x0) hO h0 (j + 1) (by omega)
    have hx1 := dx_lt hx j
    have hx2 := dx_lt hx (j + 1)
    have h21 : t'.2.2.2.2.2.2.2.1 = nI (g 21) := by rw [h.1.1.1, i2]
    have i3 := dgh_ok i1 (show 0 < dg x0 g j 21 by omega) (dx x0 (j + 1))
    have hc := Nat.mod_lt (dx x0 (j + 1)) h0
    have hv := Nat.mod_lt (dx x0 (j + 1)) (show 0 < 5 by omega)
    show wL_X6_drawn_66 _ _ _ _ _ _ _ _ _ _ _
    unfold wL_X6_drawn_66
    show (nI D ≤ nI j → _) ∧ (¬ nI D ≤ nI j → ∀ x21 : Int64, x21 = (lN (dx x0 j) * (16807 : Int64)) - (lN (dx x0 j) * (16807 : Int64)) / (2147483647 : Int64) * (2147483647 : Int64) → _)
    rw [nIle (by omega) (by omega), dr_x hx1]
    refine ⟨fun h => absurd h (by omega), fun _ x21 hx21 => ?_⟩
    have hx21 : x21 = lN (dx x0 (j + 1)) := hx21
    subst hx21
    show ¬ (if (1 : Int32) < t'.2.2.2.2.2.2.2.1 then t'.2.2.2.2.2.2.2.1 else (1 : Int32)).toInt64 = 0 ∧ w_X1_makeHeavier t' ((lN (dx x0 (j + 1)) - lN (dx x0 (j + 1)) / (if (1 : Int32) < t'.2.2.2.2.2.2.2.1 then t'.2.2.2.2.2.2.2.1 else (1 : Int32)).toInt64 * (if (1 : Int32) < t'.2.2.2.2.2.2.2.1 then t'.2.2.2.2.2.2.2.1 else (1 : Int32)).toInt64).toInt32) _ _
    rw [h21, mx1 h0 b1, dr_n hx2 h0 b1, dr_5 hx2]
    refine ⟨dr_z h0 b1, p_makeHeavier h i1 (by omega) (by omega) (fun a' ha => ?_)⟩
    have ha2 : AgX a' (dgh (dg x0 g j) (dx x0 (j + 1))) := by
      unfold dgh
      rw [i2]
      exact ha
    refine p_night ha2 i3 (fun a2 h2 => ?_)
    have h2 : AgX a2 (dg x0 g (j + 1)) := h2
    have hr := grs_lt j1
    refine p_resting h2 j1 (p_bitCount hr (fun x28 hx28 => ?_))
    rw [nI_add] at hx28
    rw [nI_1]
    exact ih (lN (dx x0 (j + 1)), x28, a2) ⟨a2, by rw [hx28]; rfl, h2⟩
theorem p_drawnM {w : Nat → Int32} {g : Nat → Nat} {T D x0 : Nat} (hM : AgM w 108 g) (hw : ∀ j, j < 108 → w j = m.1 j) (h21 : m.1 21 = nI (g 21)) (hO : OKg T g) (h0 : 0 < g 21) (hT : T + 60 ≤ 5000) (hD : D ≤ 60) (hx : x0 < 2147483647) {y13 : Int32} {post Kx : Int32 → BX7 → Prop} (hp : ∀ w', AgM w' 108 (dg x0 g D) → (∀ j, j < 108 → w' j = m.1 j) → Kx (nI (ds x0 g D)) (w', m.2)) : ∃ n59, wL_X7_drawn_59 (nI D) y13 post Kx n59 (lN x0) (0 : Int32) (0 : Int32) (w, m.2) := by
  have b1 := hO.1.1
  refine up_inv (fun n i (s : Int64 × Int32 × BX7) => wL_X7_drawn_59 (nI D) y13 post Kx n s.1 s.2.1 i s.2.2) D (fun j s => ∃ w', s = (lN (dx x0 j), nI (ds x0 g j), w', m.2) ∧ AgM w' 108 (dg x0 g j) ∧ ∀ i, i < 108 → w' i = m.1 i) ?_ ?_ (lN x0, nI 0, w, m.2) ⟨w, rfl, hM, hw⟩
  · intro n s hs
    obtain ⟨w', rfl, h1, h2⟩ := hs
    show wL_X7_drawn_59 _ _ _ _ _ _ _ _ _
    unfold wL_X7_drawn_59
    exact ⟨fun _ => hp w' h1 h2, fun h => absurd (Int32.le_refl _) h⟩
  · intro n j s hj hs ih
    obtain ⟨w', rfl, h, hw'⟩ := hs
    obtain ⟨i1, i2⟩ := dg_ok (x0 := x0) hO h0 j (by omega)
    obtain ⟨j1, j2⟩ := dg_ok (x0 := x0) hO h0 (j + 1) (by omega)
    have hx1 := dx_lt hx j
    have hx2 := dx_lt hx (j + 1)
    have e21 : w' 21 = nI (g 21) := by rw [hw' 21 (by omega), h21]
    have i3 := dgh_ok i1 (show 0 < dg x0 g j 21 by omega) (dx x0 (j + 1))
    have hc := Nat.mod_lt (dx x0 (j + 1)) h0
    have hv := Nat.mod_lt (dx x0 (j + 1)) (show 0 < 5 by omega)
    obtain ⟨c, hce⟩ : ∃ c, c = dx x0 (j + 1) % g 21 := ⟨_, rfl⟩
    have hg := (i1.2.1 c (by omega)).1
    show wL_X7_drawn_59 _ _ _ _ _ _ _ _ _
    unfold wL_X7_drawn_59
    show (nI D ≤ nI j → _) ∧ (¬ nI D ≤ nI j → ∀ x19 : Int64, x19 = (lN (dx x0 j) * (16807 : Int64)) - (lN (dx x0 j) * (16807 : Int64)) / (2147483647 : Int64) * (2147483647 : Int64) → _)
    rw [nIle (by omega) (by omega), dr_x hx1]
    refine ⟨fun h => absurd h (by omega), fun _ x19 hx19 => ⟨nIin (n := 21) (by omega) (by omega), ?_⟩⟩
    have hx19 : x19 = lN (dx x0 (j + 1)) := hx19
    subst hx19
    show ¬ (w' 21).toInt64 = 0 ∧ (∀ x20 : Int32, x20 = (lN (dx x0 (j + 1)) - lN (dx x0 (j + 1)) / (w' 21).toInt64 * (w' 21).toInt64).toInt32 → _)
    rw [e21, dr_n hx2 h0 b1, dr_5 hx2, ← hce]
    refine ⟨dr_z h0 b1, fun x20 hx20 => ?_⟩
    subst hx20
    have e109 : (109 : Int32) + nI c = nI (108 + (1 + c)) := by
      simp (disch := omega) only [liN, nI_add]
      congr 1
      omega
    rw [e109, nIcl (by omega)]
    refine ⟨nIin (by omega) (by omega), fun x21 hx21 => ?_⟩
    have hx21 : x21 = w' (108 + (1 + c)) + nI (dx x0 (j + 1) % 5) := hx21
    rw [h (1 + c) (by omega), nI_add] at hx21
    subst hx21
    have fin : ∀ z, z = (if dg x0 g j (1 + c) + dx x0 (j + 1) % 5 < 99 then dg x0 g j (1 + c) + dx x0 (j + 1) % 5 else 99) → vp_in (nI (108 + (1 + c))) 144 ∧ (w_X7_passes (upd w' (108 + (1 + c)) (nI z), (w', m.2).2.1, (w', m.2).2.2.1, (w', m.2).2.2.2.1, (w', m.2).2.2.2.2.1, (w', m.2).2.2.2.2.2.1, (w', m.2).2.2.2.2.2.2.1, (w', m.2).2.2.2.2.2.2.2.1, (w', m.2).2.2.2.2.2.2.2.2.1, (w', m.2).2.2.2.2.2.2.2.2.2.1, (w', m.2).2.2.2.2.2.2.2.2.2.2.1, (w', m.2).2.2.2.2.2.2.2.2.2.2.2.1, (w', m.2).2.2.2.2.2.2.2.2.2.2.2.2.1, (w', m.2).2.2.2.2.2.2.2.2.2.2.2.2.2.1, (w', m.2).2.2.2.2.2.2.2.2.2.2.2.2.2.2.1, (w', m.2).2.2.2.2.2.2.2.2.2.2.2.2.2.2.2.1, (w', m.2).2.2.2.2.2.2.2.2.2.2.2.2.2.2.2.2) (108 : Int32) (0 : Int32) (fun u25 => w_X7_restsIn u25 (108 : Int32) (fun r26 => w_X7_ones r26 (fun r27 => ∀ x28 : Int32, x28 = (nI (ds x0 g j) + r27) → wL_X7_drawn_59 (nI D) y13 post Kx n (lN (dx x0 (j + 1))) x28 (nI j + (1 : Int32)) u25)))) := by
      intro z hz
      have ha2 : AgM (upd w' (108 + (1 + c)) (nI z)) 108 (dgh (dg x0 g j) (dx x0 (j + 1))) := by
        unfold dgh
        rw [i2, ← hce, ← hz]
        exact h.setr (by omega)
      refine ⟨nIin (by omega) (by omega), p_passes0 (m := (upd w' (108 + (1 + c)) (nI z), m.2)) (r := 108) ha2 i3 (by omega) (fun w2 h2 h3 => ?_)⟩
      have h2 : AgM w2 108 (dg x0 g (j + 1)) := h2
      have hr := grs_lt j1
      refine p_restsIn (r := 108) h2 j1 (by omega) (p_ones hr (fun x28 hx28 => ?_))
      rw [nI_add] at hx28
      rw [nI_1]
      refine ih (lN (dx x0 (j + 1)), x28, w2, m.2) ⟨w2, by rw [hx28]; rfl, h2, fun i hi => ?_⟩
      rw [h3 i (by omega)]
      show upd w' (108 + (1 + c)) (nI z) i = _
      rw [upd_at, if_neg (by omega)]
      exact hw' i hi
    unfold wpJ
    rw [show (99 : Int32) = nI 99 from rfl, nIle (by omega) (by omega)]
    refine ⟨fun h9 => fin _ ?_, fun h9 => fin _ ?_⟩
    · by_cases h10 : dg x0 g j (1 + c) + dx x0 (j + 1) % 5 < 99
      · rw [if_pos h10]
      · rw [if_neg h10]; omega
    · rw [if_neg (by omega)]
theorem op_drawn (hR : RR ux un up ua uk rs ms m) {P : Int32 → BX1 → Int32 → BX7 → Prop} (hp : ∀ r t' m', RR ux un up ua uk rs ms m' → P r t' r m') : w_X6_drawn ux un ut a0 a1 a2 (fun r t' => w_X7_drawn m a0 a1 a2 (fun r2 m' => P r t' r2 m')) := by
  have hR0 := hR
  obtain ⟨g, ⟨hA, hM, hO⟩, _⟩ := hR
  obtain ⟨b1, b2, b3, b4, b5, b6⟩ := hO.1
  have h21 : m.1 21 = nI (g 21) := by have := hM 21 (by omega); rw [Nat.zero_add] at this; exact this
  unfold w_X6_drawn
  refine p_isOpen hA.1.1.1 b1 ?_
  by_cases h1 : 0 < g 21
  · rw [bi_t h1]
    have M : ∀ Q : Int32 → BX7 → Prop, (¬ ((0 ≤ a0.toInt ∧ a0.toInt ≤ (60 : Nat)) ∧ (1 ≤ a1.toInt ∧ a1.toInt ≤ (999999 : Nat)) ∧ (0 ≤ a2.toInt ∧ a2.toInt ≤ (1 : Nat))) → Q (-1000001) m) → ((0 ≤ a0.toInt ∧ a0.toInt ≤ (60 : Nat)) → (1 ≤ a1.toInt ∧ a1.toInt ≤ (999999 : Nat)) → (0 ≤ a2.toInt ∧ a2.toInt ≤ (1 : Nat)) → w_X7_copyAll m (0 : Int32) (108 : Int32) (fun u6 => ∀ x7 : Int64, x7 = a1.toInt64 → ∃ n59, wL_X7_drawn_59 a0 a2 Q (fun (x14 : Int32) (u15 : BX7) => (a2 = 0 → Q x14 u15) ∧ (¬ a2 = 0 → w_X7_weightsIn u15 (108 : Int32) (fun r16 => Q r16 u15))) n59 x7 (0 : Int32) (0 : Int32) u6)) → w_X7_drawn m a0 a1 a2 Q := by
      intro Q q1 q2
      unfold w_X7_drawn
      refine p_isAgency hM hO ?_
      rw [bi_t h1]
      refine sel1 (p_isSpan ?_)
      by_cases c1 : 0 ≤ a0.toInt ∧ a0.toInt ≤ (60 : Nat)
      · rw [bi_t c1]
        refine sel1 (p_in ?_)
        rw [t64, show (1 : Int64).toInt = 1 from rfl, show (999999 : Int64).toInt = (999999 : Nat) from rfl]
        by_cases c2 : 1 ≤ a1.toInt ∧ a1.toInt ≤ (999999 : Nat)
        · rw [bi_t c2]
          refine sel1 (p_in ?_)
          rw [t64, l64_0, show (1 : Int64).toInt = (1 : Nat) from rfl]
          by_cases c3 : 0 ≤ a2.toInt ∧ a2.toInt ≤ (1 : Nat)
          · rw [bi_t c3]
            exact sel1 (q2 c1 c2 c3)
          · rw [bi_f c3]
            exact sel0 (q1 (fun q => c3 q.2.2))
        · rw [bi_f c2]
          exact sel0 (q1 (fun q => c2 q.2.1))
      · rw [bi_f c1]
        exact sel0 (q1 (fun q => c1 q.1))
    refine sel1 (p_isWithin60 ?_)
    by_cases c1 : 0 ≤ a0.toInt ∧ a0.toInt ≤ (60 : Nat)
    · rw [bi_t c1]
      refine sel1 (p_isWithin ?_)
      rw [show (1 : Int32).toInt = 1 from rfl, show (999999 : Int32).toInt = (999999 : Nat) from rfl]
      by_cases c2 : 1 ≤ a1.toInt ∧ a1.toInt ≤ (999999 : Nat)
      · rw [bi_t c2]
        refine sel1 (p_isWithin ?_)
        rw [lit_toInt0, show (1 : Int32).toInt = (1 : Nat) from rfl]
        by_cases c3 : 0 ≤ a2.toInt ∧ a2.toInt ≤ (1 : Nat)
        · rw [bi_t c3]
          obtain ⟨D, hD, rfl⟩ := nI_range2 c1 (by decide)
          obtain ⟨x0, hx0, rfl⟩ := nI_range2 (c := a1) (N := 999999) (by omega) (by decide)
          obtain ⟨w, hw, rfl⟩ := nI_range2 c3 (by decide)
          have hOD := (dg_ok (x0 := x0) hO h1 D (by omega)).1
          refine sel1 (p_copyFrom hA hO (fun t' ht x7 hx7 => ?_))
          rw [nI_l (by omega)] at hx7
          subst hx7
          refine p_drawnX ht hO h1 (by omega) hD (by omega) (fun t2 ht2 => ?_)
          have N : ∀ Q : Int32 → BX7 → Prop, (w = 0 → ∀ m', RR ux un up ua uk rs ms m' → Q (nI (ds x0 g D)) m') → (w = 1 → ∀ m', RR ux un up ua uk rs ms m' → Q (nI (fb_sm (fun c => dg x0 g D (1 + c)) (dg x0 g D 21))) m') → w_X7_drawn m (nI D) (nI x0) (nI w) Q := by
            intro Q q0 q1
            refine M Q (fun q => absurd ⟨c1, c2, c3⟩ q) (fun _ _ _ => p_copyAll (r1 := 0) (r2 := 108) (by omega) (by omega) (by omega) (fun w' h3 h4 x7 hx7 => ?_))
            rw [nI_l (by omega)] at hx7
            subst hx7
            refine p_drawnM (fun k hk => (h3 k hk).trans (hM k hk)) (fun j hj => h4 j (by omega)) h21 hO h1 (by omega) hD (by omega) (fun w2 h5 h6 => ?_)
            rcases (show w = 0 ∨ w = 1 by omega) with rfl | rfl
            · exact ⟨fun _ => q0 rfl _ (hR0.trial h6), fun q => absurd rfl q⟩
            · exact ⟨fun q => absurd q (by decide), fun _ => p_weightsIn (r := 108) h5 hOD (by omega) (q1 rfl _ (hR0.trial h6))⟩
          rcases (show w = 0 ∨ w = 1 by omega) with rfl | rfl
          · exact ⟨fun _ => N _ (fun _ m' h => hp _ _ _ h) (fun q => absurd q (by decide)), fun q => absurd rfl q⟩
          · exact ⟨fun q => absurd q (by decide), fun _ => p_weightsTogether ht2 hOD (N _ (fun q => absurd q (by decide)) (fun _ m' h => hp _ _ _ h))⟩
        · rw [bi_f c3]
          exact sel0 (M _ (fun _ => hp _ _ _ hR0) (fun _ _ q => absurd q c3))
      · rw [bi_f c2]
        exact sel0 (M _ (fun _ => hp _ _ _ hR0) (fun _ q => absurd q c2))
    · rw [bi_f c1]
      exact sel0 (M _ (fun _ => hp _ _ _ hR0) (fun q => absurd q c1))
  · rw [bi_f h1]
    refine sel0 (p_isAgency hM hO ?_)
    rw [bi_f h1]
    exact sel0 (hp _ _ _ hR0)
end OPSM
