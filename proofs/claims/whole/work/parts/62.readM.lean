/-- the reference while it reads -/
def mP (m : BX7) (w : Nat → Int32) (fy ap nm fa : Int32) : BX7 := (w, m.2.1, m.2.2.1, m.2.2.2.1, m.2.2.2.2.1, m.2.2.2.2.2.1, m.2.2.2.2.2.2.1, m.2.2.2.2.2.2.2.1, m.2.2.2.2.2.2.2.2.1, m.2.2.2.2.2.2.2.2.2.1, fy, m.2.2.2.2.2.2.2.2.2.2.2.1, m.2.2.2.2.2.2.2.2.2.2.2.2.1, m.2.2.2.2.2.2.2.2.2.2.2.2.2.1, ap, nm, fa)
def TapeM (b : Nat → Nat) (L : Nat) (m : BX7) : Prop := m.2.2.2.2.2.2.2.2.2.1 = nI L ∧ (∀ k, k < L → m.2.2.2.2.2.2.2.2.1 k = nI (b k)) ∧ L ≤ 100 ∧ ∀ k, k < L → b k < 256
section RDM
variable {b : Nat → Nat} {L p q : Nat} {m : BX7} {w : Nat → Int32} {fy ap nm fa : Int32} {g : Nat → Nat}
theorem p_byteAt (hT : TapeM b L m) (hp : p ≤ 1000) {post : Int32 → Prop} (h : post (bvN b L p)) : w_X7_byteAt (mP m w fy ap nm fa) (nI p) post := by
  obtain ⟨h1, h2, hL, hb⟩ := hT
  unfold w_X7_byteAt
  show (m.2.2.2.2.2.2.2.2.2.1 ≤ nI p → _) ∧ (¬ m.2.2.2.2.2.2.2.2.2.1 ≤ nI p → vp_in (nI p) 100 ∧ post (m.2.2.2.2.2.2.2.2.1 (nI p).toNatClampNeg))
  rw [h1, nIle (by omega) (by omega), nIcl (by omega)]
  unfold bvN at h
  refine ⟨fun q => ?_, fun q => ⟨nIin (by omega) (by omega), ?_⟩⟩
  · rw [if_neg (by omega)] at h; exact h
  · rw [if_pos (by omega)] at h
    rw [h2 p (by omega)]
    exact h
theorem p_takesM (hT : TapeM b L m) (hp : p ≤ 1000) {a : Nat} (ha : a < 256) {post : Int32 → BX7 → Prop} (h1 : p < L ∧ b p = a → post 1 (mP m w fy (nI (p + 1)) nm fa)) (h0 : ¬ (p < L ∧ b p = a) → post 0 (mP m w (nI 1) (nI p) nm (nI p))) : w_X7_takes (mP m w fy (nI p) nm fa) (nI a) post := by
  unfold w_X7_takes
  refine p_byteAt hT hp ?_
  rw [bv_eq hT.2.2.2 ha]
  refine ⟨fun h => ?_, fun h => ⟨bz_0, h0 h⟩⟩
  have := h1 h
  rw [← nI_1] at this
  exact this
theorem p_figM (hb : ∀ k, k < L → b k < 256) {post : Int32 → Prop} (hp : post (bi (q < L ∧ 48 ≤ b q ∧ b q ≤ 57))) : w_X7_in (bvN b L q).toInt64 (48 : Int64) (57 : Int64) post := by
  refine p_in ?_
  rw [t64, show (48 : Int64).toInt = 48 from rfl, show (57 : Int64).toInt = 57 from rfl]
  unfold bvN
  by_cases h : q < L
  · have := hb q h
    rw [if_pos h, nIto (by omega)]
    rw [bi_iff (show ((48 : Int) ≤ (b q : Int) ∧ (b q : Int) ≤ 57) ↔ (q < L ∧ 48 ≤ b q ∧ b q ≤ 57) by omega)]
    exact hp
  · rw [if_neg h, show (-1 : Int32).toInt = -1 from rfl, bi_f (by omega)]
    rw [bi_f (by omega)] at hp
    exact hp
def vMk (b : Nat → Nat) (p j v : Nat) : Prop := v ≤ 99 ∧ (j = 0 → v = 0) ∧ (j = 1 → v = b p - 48) ∧ (2 ≤ j → v = 10 * (b p - 48) + (b (p + 1) - 48))
theorem vMk_vl {v : Nat} (h : vMk b p (rlN b L p) v) (hr : ¬ (rlN b L p = 0 ∨ 2 < rlN b L p)) : v = vlN b L p := by
  obtain ⟨h0, h1, h2, h3⟩ := h
  unfold vlN
  by_cases q : rlN b L p = 1
  · rw [if_pos q]; exact h2 q
  · rw [if_neg q]; exact h3 (by omega)
theorem p_tnM (hT : TapeM b L m) (hpL : p ≤ L) {mx a : Nat} (hmx : mx ≤ 100) (ha : a < 256) {post : Int32 → BX7 → Prop} (h0 : (nsN b L p mx a).1 = 0 → post 1 (mP m w fy (nI (nsN b L p mx a).2.1) (nI (nsN b L p mx a).2.2) fa)) (h1 : ¬ (nsN b L p mx a).1 = 0 → ∀ ap nm, post 0 (mP m w (nI (nsN b L p mx a).1) ap nm (nI (nsN b L p mx a).2.1))) : w_X7_takesNumber (mP m w fy (nI p) nm fa) (0 : Int32) (nI mx) (nI a) post := by
  have hb := hT.2.2.2
  have hL := hT.2.2.1
  have hrl := rl_le (b := b) (L := L) p
  unfold w_X7_takesNumber
  intro x1 hx1
  have hx1 : x1 = nI p := hx1
  subst hx1
  have key : ∀ Kx : BX7 → Prop, (∀ v, vMk b p (rlN b L p) v → Kx (mP m w fy (nI (p + rlN b L p)) (nI v) fa)) → ∀ e j v, j + e = rlN b L p → vMk b p j v → wL_X7_takesNumber_11 (0 : Int32) (nI mx) (nI a) (nI p) post Kx (e + 1) (mP m w fy (nI (p + j)) (nI v) fa) := by
    intro Kx hK e
    induction e with
    | zero =>
      intro j v hj hv
      have hj : j = rlN b L p := by omega
      rw [hj] at hv ⊢
      unfold wL_X7_takesNumber_11
      refine p_byteAt hT (by omega) (p_figM hb ?_)
      rw [bi_f (rl_end p)]
      exact sel0 (hK v hv)
    | succ e ih =>
      intro j v hj hv
      have hfig := rl_fig (b := b) (L := L) (p := p) (j := j) (by omega)
      have hby := hb (p + j) hfig.1
      obtain ⟨v0, v1, v2, v3⟩ := hv
      unfold wL_X7_takesNumber_11
      refine p_byteAt hT (by omega) (p_figM hb ?_)
      rw [bi_t hfig]
      refine sel1 ?_
      unfold wpJ
      have ebv : bvN b L (p + j) = nI (b (p + j)) := if_pos hfig.1
      have esub : nI (p + j) - nI p = nI j := by rw [nIsub (by omega), show p + j - p = j by omega]
      show ((2 : Int32) ≤ nI (p + j) - nI p → wL_X7_takesNumber_11 (0 : Int32) (nI mx) (nI a) (nI p) post Kx (e + 1) (mP m w fy (nI (p + j) + 1) (nI v) fa)) ∧ (¬ (2 : Int32) ≤ nI (p + j) - nI p → w_X7_byteAt (mP m w fy (nI (p + j)) (nI v) fa) (nI (p + j)) (fun r25 => wL_X7_takesNumber_11 (0 : Int32) (nI mx) (nI a) (nI p) post Kx (e + 1) (mP m w fy (nI (p + j) + 1) ((((10 : Int32) * nI v) + r25) - (48 : Int32)) fa)))
      rw [esub, show (2 : Int32) = nI 2 from rfl, nIle (by omega) (by omega), nI_1, show p + j + 1 = p + (j + 1) from rfl]
      refine ⟨fun h2 => ih (j + 1) v (by omega) ⟨v0, fun z => absurd z (by omega), fun z => absurd z (by omega), fun z => v3 h2⟩, fun h2 => p_byteAt hT (by omega) ?_⟩
      have ex : (((10 : Int32) * nI v) + bvN b L (p + j)) - (48 : Int32) = nI (10 * v + b (p + j) - 48) := by
        rw [ebv, show (10 : Int32) = nI 10 from rfl, show (48 : Int32) = nI 48 from rfl, pk_mul, nI_add, nIsub (by omega)]
      rw [ex]
      have hcase : j = 0 ∨ j = 1 := by omega
      refine ih (j + 1) _ (by omega) ⟨?_, fun z => absurd z (by omega), fun z => ?_, fun z => ?_⟩
      · rcases hcase with rfl | rfl
        · have := v1 rfl; omega
        · have := v2 rfl
          have hf0 := rl_fig (b := b) (L := L) (p := p) (j := 0) (by omega)
          rw [Nat.add_zero] at hf0
          omega
      · have hj0 : j = 0 := by omega
        subst hj0
        have := v1 rfl
        rw [Nat.add_zero, this]
        omega
      · have hj1 : j = 1 := by omega
        subst hj1
        have := v2 rfl
        rw [this]
        omega
  have k0 := key (fun (u7 : BX7) => (u7.2.2.2.2.2.2.2.2.2.2.2.2.2.2.1 = nI p → w_X7_fails u7 (1 : Int32) (nI p) (fun r8 u9 => bz r8 ∧ post r8 u9)) ∧ (¬ u7.2.2.2.2.2.2.2.2.2.2.2.2.2.2.1 = nI p → ((u7.2.2.2.2.2.2.2.2.2.2.2.2.2.2.1 - nI p) ≤ (2 : Int32) → w_X7_in u7.2.2.2.2.2.2.2.2.2.2.2.2.2.2.2.1.toInt64 (0 : Int32).toInt64 (nI mx).toInt64 (fun r10 => (r10 = 0 → w_X7_fails u7 (2 : Int32) (nI p) (fun r11 u12 => bz r11 ∧ post r11 u12)) ∧ (¬ r10 = 0 → w_X7_takes u7 (nI a) (fun r13 u14 => bz r13 ∧ post r13 u14)))) ∧ (¬ (u7.2.2.2.2.2.2.2.2.2.2.2.2.2.2.1 - nI p) ≤ (2 : Int32) → w_X7_fails u7 (1 : Int32) (nI p) (fun r16 u17 => bz r16 ∧ post r16 u17)))) (fun v hv => ?_) (rlN b L p) 0 0 (by omega) ⟨by omega, fun _ => rfl, fun z => absurd z (by omega), fun z => absurd z (by omega)⟩
  · exact ⟨_, k0⟩
  · show (nI (p + rlN b L p) = nI p → bz 0 ∧ post 0 (mP m w (nI 1) (nI (p + rlN b L p)) (nI v) (nI p))) ∧ (¬ nI (p + rlN b L p) = nI p → ((nI (p + rlN b L p) - nI p) ≤ (2 : Int32) → w_X7_in (nI v).toInt64 (0 : Int32).toInt64 (nI mx).toInt64 (fun r10 => (r10 = 0 → bz 0 ∧ post 0 (mP m w (nI 2) (nI (p + rlN b L p)) (nI v) (nI p))) ∧ (¬ r10 = 0 → w_X7_takes (mP m w fy (nI (p + rlN b L p)) (nI v) fa) (nI a) (fun r13 u14 => bz r13 ∧ post r13 u14)))) ∧ (¬ (nI (p + rlN b L p) - nI p) ≤ (2 : Int32) → bz 0 ∧ post 0 (mP m w (nI 1) (nI (p + rlN b L p)) (nI v) (nI p))))
    have hv99 := hv.1
    rw [nIinj (by omega) (by omega), nIsub (by omega), show p + rlN b L p - p = rlN b L p by omega, show (2 : Int32) = nI 2 from rfl, nIle (by omega) (by omega)]
    have bad : (rlN b L p = 0 ∨ 2 < rlN b L p) → post 0 (mP m w (nI 1) (nI (p + rlN b L p)) (nI v) (nI p)) := by
      intro hr
      have e : nsN b L p mx a = (1, p, 0) := by
        have e1 : nmN b L p mx = (1, p, 0) := by unfold nmN; rw [if_pos hr]
        unfold nsN
        rw [e1, if_neg (by simp)]
      rw [e] at h1
      exact h1 (by simp) _ _
    refine ⟨fun h => ⟨bz_0, bad (by omega)⟩, fun h => ⟨fun h2 => p_in ?_, fun h2 => ⟨bz_0, bad (by omega)⟩⟩⟩
    have hr : ¬ (rlN b L p = 0 ∨ 2 < rlN b L p) := by omega
    have hvv := vMk_vl hv hr
    rw [t64, t64, t64, nIto (by omega), nIto (by omega), lit_toInt0]
    by_cases hmv : v ≤ mx
    · have e1 : nmN b L p mx = (0, p + rlN b L p, vlN b L p) := by unfold nmN; rw [if_neg hr, if_neg (by omega)]
      rw [bi_t (by omega)]
      refine sel1 (p_takesM hT (by omega) ha (fun hc => ⟨bz_1, ?_⟩) (fun hc => ⟨bz_0, ?_⟩))
      · have e : nsN b L p mx a = (0, p + rlN b L p + 1, vlN b L p) := by
          unfold nsN
          rw [e1, if_pos rfl]
          unfold sgN
          rw [if_pos hc]
        rw [e] at h0
        rw [hvv]
        exact h0 rfl
      · have e : nsN b L p mx a = (1, p + rlN b L p, 0) := by
          unfold nsN
          rw [e1, if_pos rfl]
          unfold sgN
          rw [if_neg hc]
        rw [e] at h1
        exact h1 (by simp) _ _
    · have e1 : nmN b L p mx = (2, p, 0) := by unfold nmN; rw [if_neg hr, if_pos (by omega)]
      rw [bi_f (by omega)]
      have e : nsN b L p mx a = (2, p, 0) := by
        unfold nsN
        rw [e1, if_neg (by simp)]
      rw [e] at h1
      exact sel0 ⟨bz_0, h1 (by simp) _ _⟩
/-- what the reference owes of a result -/
def RM (m : BX7) (r : Nat × Nat × (Nat → Nat)) (post : Int32 → BX7 → Prop) : Prop := (¬ r.1 = 0 → ∀ w ap nm, (∀ j, j < 108 → w j = m.1 j) → post 0 (mP m w (nI r.1) ap nm (nI r.2.1))) ∧ (r.1 = 0 → ∀ w nm fa, (∀ j, j < 108 → w j = m.1 j) → AgM w 108 r.2.2 → post 1 (mP m w m.2.2.2.2.2.2.2.2.2.2.1 (nI r.2.1) nm fa))
theorem p_takesClient (hT : TapeM b L m) (hpL : p < L) (hw : ∀ j, j < 108 → w j = m.1 j) (hM : AgM w 108 g) (hP : PG g) {post : Int32 → BX7 → Prop} (hR : RM m (clN b L p g) post) : w_X7_takesClient (mP m w m.2.2.2.2.2.2.2.2.2.2.1 (nI p) nm fa) post := by
  have b1 := hP.1.1
  have e129 : (mP m w m.2.2.2.2.2.2.2.2.2.2.1 (nI p) nm fa).1 (129 : Int32).toNatClampNeg = nI (g 21) := hM 21 (by omega)
  have e109 : (109 : Int32) + nI (g 21) = nI (108 + (1 + g 21)) := by
    simp (disch := omega) only [liN, nI_add]
    congr 1
    omega
  have e131 : (131 : Int32) + nI (g 21) = nI (108 + (23 + g 21)) := by
    simp (disch := omega) only [liN, nI_add]
    congr 1
    omega
  unfold w_X7_takesClient
  rw [e129]
  refine ⟨nIin (n := 129) (by omega) (by omega), fun x1 hx1 => ?_⟩
  subst hx1
  rw [e109, e131, nIcl (show 108 + (1 + g 21) < _ by omega), nIcl (show 108 + (23 + g 21) < _ by omega), show (5 : Int32) = nI 5 from rfl, nIinj (by omega) (by omega)]
  refine ⟨fun h5 => ⟨bz_0, ?_⟩, fun h5 => ?_⟩
  · have e : clN b L p g = (3, p, g) := by unfold clN; rw [if_pos h5]
    rw [e] at hR
    exact hR.1 (by simp) w _ _ hw
  · have hst : w_X7_takesNumber (mP m w m.2.2.2.2.2.2.2.2.2.2.1 (nI (p + 1)) nm fa) (0 : Int32) (nI 40) (nI 44) (fun r2 u3 => (r2 = 0 → post (0 : Int32) u3) ∧ (¬ r2 = 0 → vp_in (nI (108 + (1 + g 21))) 144 ∧ (w_X7_takesNumber (upd u3.1 (108 + (1 + g 21)) u3.2.2.2.2.2.2.2.2.2.2.2.2.2.2.2.1, u3.2.1, u3.2.2.1, u3.2.2.2.1, u3.2.2.2.2.1, u3.2.2.2.2.2.1, u3.2.2.2.2.2.2.1, u3.2.2.2.2.2.2.2.1, u3.2.2.2.2.2.2.2.2.1, u3.2.2.2.2.2.2.2.2.2.1, u3.2.2.2.2.2.2.2.2.2.2.1, u3.2.2.2.2.2.2.2.2.2.2.2.1, u3.2.2.2.2.2.2.2.2.2.2.2.2.1, u3.2.2.2.2.2.2.2.2.2.2.2.2.2.1, u3.2.2.2.2.2.2.2.2.2.2.2.2.2.2.1, u3.2.2.2.2.2.2.2.2.2.2.2.2.2.2.2.1, u3.2.2.2.2.2.2.2.2.2.2.2.2.2.2.2.2) (0 : Int32) (nI 5) (nI 59) (fun r4 u5 => (r4 = 0 → post (0 : Int32) u5) ∧ (¬ r4 = 0 → vp_in (nI (108 + (23 + g 21))) 144 ∧ (vp_in (129 : Int32) 144 ∧ (vp_in (129 : Int32) 144 ∧ (post (1 : Int32) (upd (upd u5.1 (108 + (23 + g 21)) u5.2.2.2.2.2.2.2.2.2.2.2.2.2.2.2.1) (129 : Int32).toNatClampNeg (((upd u5.1 (108 + (23 + g 21)) u5.2.2.2.2.2.2.2.2.2.2.2.2.2.2.2.1) (129 : Int32).toNatClampNeg) + (1 : Int32)), u5.2.1, u5.2.2.1, u5.2.2.2.1, u5.2.2.2.2.1, u5.2.2.2.2.2.1, u5.2.2.2.2.2.2.1, u5.2.2.2.2.2.2.2.1, u5.2.2.2.2.2.2.2.2.1, u5.2.2.2.2.2.2.2.2.2.1, u5.2.2.2.2.2.2.2.2.2.2.1, u5.2.2.2.2.2.2.2.2.2.2.2.1, u5.2.2.2.2.2.2.2.2.2.2.2.2.1, u5.2.2.2.2.2.2.2.2.2.2.2.2.2.1, u5.2.2.2.2.2.2.2.2.2.2.2.2.2.2.1, u5.2.2.2.2.2.2.2.2.2.2.2.2.2.2.2.1, u5.2.2.2.2.2.2.2.2.2.2.2.2.2.2.2.2))))))))) := by
      refine p_tnM hT (by omega) (by omega) (by omega) (fun hA0 => sel1 ⟨nIin (by omega) (by omega), ?_⟩) (fun hA0 ap nm => sel0 ?_)
      · have hq := (nsN_ok hA0).2
        generalize hA : nsN b L (p + 1) 40 44 = A at *
        refine p_tnM (m := m) (w := upd w (108 + (1 + g 21)) (nI A.2.2)) (fy := m.2.2.2.2.2.2.2.2.2.2.1) (p := A.2.1) (nm := nI A.2.2) (fa := fa) (mx := 5) (a := 59) hT hq (by omega) (by omega) (fun hB0 => sel1 ⟨nIin (by omega) (by omega), nIin (n := 129) (by omega) (by omega), nIin (n := 129) (by omega) (by omega), ?_⟩) (fun hB0 ap nm => sel0 ?_)
        · have e : clN b L p g = (0, (nsN b L A.2.1 5 59).2.1, clG g A.2.2 (nsN b L A.2.1 5 59).2.2) := by
            unfold clN
            rw [if_neg h5, hA, if_pos hA0, if_pos hB0]
          rw [e] at hR
          generalize nsN b L A.2.1 5 59 = B at *
          have hval : upd (upd w (108 + (1 + g 21)) (nI A.2.2)) (108 + (23 + g 21)) (nI B.2.2) 129 + (1 : Int32) = nI (g 21 + 1) := by
            rw [upd_at, if_neg (by omega), upd_at, if_neg (by omega), show w 129 = nI (g 21) from hM 21 (by omega), nI_1]
          refine hR.2 rfl (upd (upd (upd w (108 + (1 + g 21)) (nI A.2.2)) (108 + (23 + g 21)) (nI B.2.2)) 129 (upd (upd w (108 + (1 + g 21)) (nI A.2.2)) (108 + (23 + g 21)) (nI B.2.2) 129 + (1 : Int32))) _ _ (fun j hj => ?_) ?_
          · rw [upd_at, if_neg (by omega), upd_at, if_neg (by omega), upd_at, if_neg (by omega)]
            exact hw j hj
          · rw [hval]
            exact ((hM.setr (j := 1 + g 21) (by omega)).setr (j := 23 + g 21) (by omega)).setr (j := 21) (by omega)
        · have e : clN b L p g = ((nsN b L A.2.1 5 59).1, (nsN b L A.2.1 5 59).2.1, g) := by
            unfold clN
            rw [if_neg h5, hA, if_pos hA0, if_neg hB0]
          rw [e] at hR
          refine hR.1 hB0 _ _ _ (fun j hj => ?_)
          rw [upd_at, if_neg (by omega)]
          exact hw j hj
      · have e : clN b L p g = ((nsN b L (p + 1) 40 44).1, (nsN b L (p + 1) 40 44).2.1, g) := by
          unfold clN
          rw [if_neg h5, if_neg hA0]
        rw [e] at hR
        exact hR.1 hA0 _ _ _ hw
    rw [← nI_1] at hst
    exact hst
end RDM
