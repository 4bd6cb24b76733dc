/-! numbers: everything small is nI of a natural number -/
theorem nI_lit (n : Nat) [OfNat Int32 n] (h : (OfNat.ofNat n : Int32) = nI n) : (OfNat.ofNat n : Int32) = nI n := h
theorem li0 : (0 : Int32) = nI 0 := rfl
theorem li1 : (1 : Int32) = nI 1 := rfl
theorem li2 : (2 : Int32) = nI 2 := rfl
theorem li3 : (3 : Int32) = nI 3 := rfl
theorem li4 : (4 : Int32) = nI 4 := rfl
theorem li5 : (5 : Int32) = nI 5 := rfl
theorem li6 : (6 : Int32) = nI 6 := rfl
theorem li7 : (7 : Int32) = nI 7 := rfl
theorem li8 : (8 : Int32) = nI 8 := rfl
theorem li9 : (9 : Int32) = nI 9 := rfl
theorem li10 : (10 : Int32) = nI 10 := rfl
theorem li12 : (12 : Int32) = nI 12 := rfl
theorem li14 : (14 : Int32) = nI 14 := rfl
theorem li16 : (16 : Int32) = nI 16 := rfl
theorem li18 : (18 : Int32) = nI 18 := rfl
theorem li19 : (19 : Int32) = nI 19 := rfl
theorem li20 : (20 : Int32) = nI 20 := rfl
theorem li21 : (21 : Int32) = nI 21 := rfl
theorem li22 : (22 : Int32) = nI 22 := rfl
theorem li23 : (23 : Int32) = nI 23 := rfl
theorem li24 : (24 : Int32) = nI 24 := rfl
theorem li28 : (28 : Int32) = nI 28 := rfl
theorem li32 : (32 : Int32) = nI 32 := rfl
theorem li36 : (36 : Int32) = nI 36 := rfl
theorem li40 : (40 : Int32) = nI 40 := rfl
theorem li60 : (60 : Int32) = nI 60 := rfl
theorem li63 : (63 : Int32) = nI 63 := rfl
theorem li99 : (99 : Int32) = nI 99 := rfl
theorem li100 : (100 : Int32) = nI 100 := rfl
theorem li108 : (108 : Int32) = nI 108 := rfl
theorem li999 : (999 : Int32) = nI 999 := rfl
theorem upd_at {f : Nat → Int32} {k j : Nat} {x : Int32} : upd f k x j = if j = k then x else f j := rfl
theorem nIinj {a b : Nat} (ha : a < 2147483648) (hb : b < 2147483648) : nI a = nI b ↔ a = b := nI_eq ha hb
theorem nIle {a b : Nat} (ha : a < 2147483648) (hb : b < 2147483648) : nI a ≤ nI b ↔ a ≤ b := nI_leI ha hb
theorem nIlt {a b : Nat} (ha : a < 2147483648) (hb : b < 2147483648) : nI a < nI b ↔ a < b := nI_ltI ha hb
theorem nIcl {n : Nat} (h : n < 2147483648) : (nI n).toNatClampNeg = n := nI_clamp h
theorem nIdiv {a d : Nat} (ha : a < 2147483648) (h0 : 0 < d) (hd : d < 2147483648) : nI a / nI d = nI (a / d) := pk_div ha h0 hd
theorem nIrem {a d : Nat} (ha : a < 2147483648) (h0 : 0 < d) (hd : d < 2147483648) : nI a - nI a / nI d * nI d = nI (a % d) := pk_rem ha h0 hd
theorem nIin {n N : Nat} (h : n < N) (hN : N < 2147483648) : vp_in (nI n) N := vp_in_nI h hN
theorem nIsub {a b : Nat} (h : b ≤ a) : nI a - nI b = nI (a - b) := pk_sub h
/-- a loop that counts up: its state at each count is known -/
theorem up_loop {σ : Type} (Wl : Nat → Int32 → σ → Prop) (N : Nat) (st : Nat → σ) (hx : ∀ n, Wl (n + 1) (nI N) (st N)) (hs : ∀ n j, j < N → Wl n (nI (j + 1)) (st (j + 1)) → Wl (n + 1) (nI j) (st j)) : ∃ n, Wl n (nI 0) (st 0) := by
  have key : ∀ d j, j + d = N → Wl (d + 1) (nI j) (st j) := by
    intro d
    induction d with
    | zero => intro j hj; rw [show j = N by omega]; exact hx 0
    | succ d ih => intro j hj; exact hs (d + 1) j (by omega) (ih (j + 1) (by omega))
  exact ⟨N + 1, key N 0 (by omega)⟩
/-- a truth as an int -/
def bi (p : Prop) [Decidable p] : Int32 := if p then 1 else 0
theorem bi_t {p : Prop} [Decidable p] (h : p) : bi p = 1 := if_pos h
theorem bi_f {p : Prop} [Decidable p] (h : ¬ p) : bi p = 0 := if_neg h
theorem bi_0 {p : Prop} [Decidable p] : bi p = 0 ↔ ¬ p := by
  unfold bi
  split <;> simp_all
theorem bi_bz {p : Prop} [Decidable p] : bz (bi p) := by
  unfold bi
  split <;> rfl
theorem one_ne : ¬ (1 : Int32) = 0 := by decide
theorem bz_0 : bz 0 := rfl
theorem bz_1 : bz 1 := rfl
theorem lit_toInt0 : (0 : Int32).toInt = 0 := rfl
theorem nIto {n : Nat} (h : n < 2147483648) : (nI n).toInt = (n : Int) := nI_toInt h
theorem i32_le {a b : Int32} : a ≤ b ↔ a.toInt ≤ b.toInt := Int32.le_iff_toInt_le
theorem i32_lt {a b : Int32} : a < b ↔ a.toInt < b.toInt := Int32.lt_iff_toInt_lt
theorem nI_range {c : Int32} {N : Nat} (h : 0 ≤ c.toInt ∧ c.toInt < N) (hN : N < 2147483648) : ∃ k, k < N ∧ c = nI k := vp_in_of (vp_in_iff.mpr h) hN
theorem p_hasClient {u : BX1} {N : Nat} {c : Int32} {post : Int32 → Prop} (hu : u.2.2.2.2.2.2.2.1 = nI N) (hN : N ≤ 5) (h : post (bi (0 ≤ c.toInt ∧ c.toInt < N))) : w_X1_hasClient u c post := by
  unfold w_X1_hasClient
  rw [hu]
  simp only [i32_le, i32_lt, lit_toInt0, nIto (show N < 2147483648 by omega)]
  refine ⟨fun h1 => ?_, fun h1 => ⟨fun h2 => ?_, fun h2 => ?_⟩⟩
  · rw [bi_f (by omega)] at h; exact h
  · rw [bi_f (by omega)] at h; exact h
  · rw [bi_t (by omega)] at h; exact h
theorem p_hasWaker {u : BX1} {N : Nat} {c : Int32} {post : Int32 → Prop} (hu : u.2.2.2.2.2.2.2.2.1 = nI N) (hN : N ≤ 4) (h : post (bi (0 ≤ c.toInt ∧ c.toInt < N))) : w_X1_hasWaker u c post := by
  unfold w_X1_hasWaker
  rw [hu]
  simp only [i32_le, i32_lt, lit_toInt0, nIto (show N < 2147483648 by omega)]
  refine ⟨fun h1 => ?_, fun h1 => ⟨fun h2 => ?_, fun h2 => ?_⟩⟩
  · rw [bi_f (by omega)] at h; exact h
  · rw [bi_f (by omega)] at h; exact h
  · rw [bi_t (by omega)] at h; exact h
theorem p_guarding {h t : Nat} {post : Int32 → Prop} (hh : h < 100) (ht : t < 100000) (hp : post (nI (if t % 3 = 2 then 0 else h))) : w_X1_guarding (nI h) (nI t) post := by
  unfold w_X1_guarding
  simp (disch := omega) only [li2, li3, nIrem, nIinj]
  refine ⟨fun h1 => ?_, fun h1 => ?_⟩
  · rw [if_pos h1] at hp; exact hp
  · rw [if_neg h1] at hp; exact hp
