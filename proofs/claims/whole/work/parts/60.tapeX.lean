def bvN (b : Nat → Nat) (L q : Nat) : Int32 := if q < L then nI (b q) else -1
def LiveT (b : Nat → Nat) (L : Nat) (u : BX5) (p : Nat) : Prop := ((∀ k, k < L → u.1 k = nI (b k)) ∧ u.2.1 = nI L ∧ u.2.2.1 = nI p ∧ u.2.2.2.1 = 0) ∧ p ≤ L ∧ L ≤ 100 ∧ ∀ k, k < L → b k < 256
def DeadT (u : BX5) (f q : Nat) : Prop := (0 < f ∧ f ≤ 3) ∧ u.2.2.2.1 = nI f ∧ u.2.2.2.2 = nI q
theorem m1_ne {a : Nat} (h : a < 256) : ¬ (-1 : Int32) = nI a := by
  intro q
  have h2 := congrArg Int32.toInt q
  rw [nIto (by omega)] at h2
  change (-1 : Int) = (a : Int) at h2
  omega
theorem bv_eq {b : Nat → Nat} {L q a : Nat} (hb : ∀ k, k < L → b k < 256) (ha : a < 256) : bvN b L q = nI a ↔ (q < L ∧ b q = a) := by
  unfold bvN
  by_cases h : q < L
  · have := hb q h
    rw [if_pos h, nIinj (by omega) (by omega)]
    exact ⟨fun e => ⟨h, e⟩, fun e => e.2⟩
  · rw [if_neg h]
    exact ⟨fun e => absurd e (m1_ne ha), fun e => absurd e.1 h⟩
section CLS
variable {b : Nat → Nat} {L : Nat} {u : BX5} {p f q : Nat}
theorem p_nextL (hu : LiveT b L u p) {post : Int32 → Prop} (hp : post (bvN b L p)) : w_X5_next u post := by
  obtain ⟨⟨h1, h2, h3, h4⟩, hpL, hL, hb⟩ := hu
  unfold w_X5_next
  rw [h2, h3, h4, nIle (by omega) (by omega), nIcl (by omega)]
  unfold bvN at hp
  refine ⟨fun _ => ⟨fun h => ?_, fun h => ⟨nIin (by omega) (by omega), ?_⟩⟩, fun q => absurd rfl q⟩
  · rw [if_neg (by omega)] at hp; exact hp
  · rw [if_pos (by omega)] at hp
    rw [h1 p (by omega)]
    exact hp
theorem dead_ne (hu : DeadT u f q) : ¬ u.2.2.2.1 = 0 := by
  obtain ⟨⟨h0, h3⟩, h1, _⟩ := hu
  rw [h1, show (0 : Int32) = nI 0 from rfl, nIinj (by omega) (by omega)]
  omega
theorem p_nextD (hu : DeadT u f q) {post : Int32 → Prop} (hp : post (-1)) : w_X5_next u post := by
  unfold w_X5_next
  exact ⟨fun h => absurd h (dead_ne hu), fun _ => hp⟩
theorem p_failL (hu : LiveT b L u p) {f q : Nat} (hf : 0 < f ∧ f ≤ 3) {post : BX5 → Prop} (hp : ∀ u', DeadT u' f q → post u') : w_X5_fail u (nI f) (nI q) post := by
  unfold w_X5_fail
  rw [hu.1.2.2.2]
  exact ⟨fun _ => hp _ ⟨hf, rfl, rfl⟩, fun q => absurd rfl q⟩
theorem p_failD (hu : DeadT u f q) {x y : Int32} {post : BX5 → Prop} (hp : post u) : w_X5_fail u x y post := by
  unfold w_X5_fail
  exact ⟨fun h => absurd h (dead_ne hu), fun _ => hp⟩
theorem p_expL (hu : LiveT b L u p) {a : Nat} (ha : a < 256) {post : BX5 → Prop} (h1 : p < L ∧ b p = a → ∀ u', LiveT b L u' (p + 1) → post u') (h0 : ¬ (p < L ∧ b p = a) → ∀ u', DeadT u' 1 p → post u') : w_X5_expect u (nI a) post := by
  have hu0 := hu
  obtain ⟨⟨e1, e2, e3, e4⟩, hpL, hL, hb⟩ := hu
  unfold w_X5_expect
  refine p_nextL hu0 ?_
  rw [bv_eq hb ha, e3]
  refine ⟨fun h => h1 h _ ⟨⟨e1, e2, ?_, e4⟩, by omega, hL, hb⟩, fun h => p_failL hu0 (f := 1) (by omega) (fun u' h' => h0 h u' h')⟩
  show nI p + 1 = _
  rw [nI_1]
theorem p_expD (hu : DeadT u f q) {a : Nat} (ha : a < 256) {post : BX5 → Prop} (hp : post u) : w_X5_expect u (nI a) post := by
  unfold w_X5_expect
  exact p_nextD hu ⟨fun h => absurd h (m1_ne ha), fun _ => p_failD hu hp⟩
theorem p_isFig (hb : ∀ k, k < L → b k < 256) {post : Int32 → Prop} (hp : post (bi (q < L ∧ 48 ≤ b q ∧ b q ≤ 57))) : w_X5_isFigure (bvN b L q) post := by
  unfold w_X5_isFigure bvN
  by_cases h : q < L
  · have := hb q h
    rw [if_pos h, show (48 : Int32) = nI 48 from rfl, show (57 : Int32) = nI 57 from rfl, nIlt (by omega) (by omega), nIlt (by omega) (by omega)]
    refine ⟨fun h1 => ?_, fun h1 => ⟨fun h2 => ?_, fun h2 => ?_⟩⟩
    · rw [bi_f (by omega)] at hp; exact hp
    · rw [bi_f (by omega)] at hp; exact hp
    · rw [bi_t (by omega)] at hp; exact hp
  · rw [if_neg h]
    rw [bi_f (by omega)] at hp
    exact ⟨fun _ => hp, fun h1 => absurd (by decide) h1⟩
def vOK (b : Nat → Nat) (p j v : Nat) : Prop := v ≤ 1000 ∧ (j = 0 → v = 0) ∧ (j = 1 → v = b p - 48) ∧ (j = 2 → v = 10 * (b p - 48) + (b (p + 1) - 48))
theorem vOK_vl {v : Nat} (h : vOK b p (rlN b L p) v) (hr : ¬ (rlN b L p = 0 ∨ 2 < rlN b L p)) : v = vlN b L p := by
  obtain ⟨h0, h1, h2, h3⟩ := h
  unfold vlN
  by_cases q : rlN b L p = 1
  · rw [if_pos q]; exact h2 q
  · rw [if_neg q]; exact h3 (by omega)
theorem p_numL (hu : LiveT b L u p) {mx : Nat} (hmx : mx ≤ 100) {post : Int32 → BX5 → Prop} (h0 : (nmN b L p mx).1 = 0 → ∀ u', LiveT b L u' (nmN b L p mx).2.1 → post (nI (nmN b L p mx).2.2) u') (h1 : ¬ (nmN b L p mx).1 = 0 → ∀ x u', DeadT u' (nmN b L p mx).1 (nmN b L p mx).2.1 → post x u') : w_X5_number u (nI mx) post := by
  have hu0 := hu
  obtain ⟨⟨e1, e2, e3, e4⟩, hpL, hL, hb⟩ := hu
  have hrl := rl_le (b := b) (L := L) p
  unfold w_X5_number
  rw [e3]
  intro x1 hx1
  subst hx1
  have key : ∀ Kx : Int32 → BX5 → Prop, (∀ v u', LiveT b L u' (p + rlN b L p) → vOK b p (rlN b L p) v → Kx (nI v) u') → ∀ e j v u', j + e = rlN b L p → LiveT b L u' (p + j) → vOK b p j v → wL_X5_number_10 (nI mx) (nI p) post Kx (e + 1) (nI v) (nI j) u' := by
    intro Kx hK e
    induction e with
    | zero =>
      intro j v u' hj hl hv
      have hj : j = rlN b L p := by omega
      rw [hj] at hl hv
      unfold wL_X5_number_10
      refine ⟨fun _ => hK v u' hl hv, fun _ => p_nextL hl (p_isFig hb ?_)⟩
      rw [bi_f (rl_end p)]
      exact sel0 (hK v u' hl hv)
    | succ e ih =>
      intro j v u' hj hl hv
      have hfig := rl_fig (b := b) (L := L) (p := p) (j := j) (by omega)
      have hby := hb (p + j) hfig.1
      obtain ⟨v0, v1, v2, v3⟩ := hv
      unfold wL_X5_number_10
      rw [show (100 : Int32) = nI 100 from rfl, nIle (by omega) (by omega), nI_1]
      refine ⟨fun h => absurd h (by omega), fun _ => p_nextL hl (p_isFig hb ?_)⟩
      rw [bi_t hfig]
      refine sel1 (p_nextL hl (fun x22 h22 => ?_))
      have ebv : bvN b L (p + j) = nI (b (p + j)) := if_pos hfig.1
      rw [ebv] at h22
      have ex : x22 = nI (if v * 10 + b (p + j) - 48 < 1000 then v * 10 + b (p + j) - 48 else 1000) := by
        rw [h22, show (10 : Int32) = nI 10 from rfl, show (48 : Int32) = nI 48 from rfl, show (1000 : Int32) = nI 1000 from rfl, pk_mul, nI_add, nIsub (by omega)]
        by_cases q : v * 10 + b (p + j) - 48 < 1000
        · rw [if_pos q, if_pos ((nIlt (by omega) (by omega)).mpr q)]
        · rw [if_neg q, if_neg (fun z => q ((nIlt (by omega) (by omega)).mp z))]
      rw [ex]
      refine ih (j + 1) _ _ (by omega) ⟨⟨hl.1.1, hl.1.2.1, ?_, hl.1.2.2.2⟩, by omega, hL, hb⟩ ⟨?_, fun q => absurd q (by omega), fun q => ?_, fun q => ?_⟩
      · show u'.2.2.1 + 1 = _
        rw [hl.1.2.2.1, nI_1]
        rfl
      · split <;> omega
      · have hj0 : j = 0 := by omega
        subst hj0
        have := v1 rfl
        rw [Nat.add_zero] at hfig ⊢
        rw [this, if_pos (by omega)]
        omega
      · have hj1 : j = 1 := by omega
        subst hj1
        have := v2 rfl
        have hf0 := rl_fig (b := b) (L := L) (p := p) (j := 0) (by omega)
        rw [Nat.add_zero] at hf0
        rw [this, if_pos (by omega)]
        omega
  refine ⟨_, key _ (fun v u' hl hv => ?_) (rlN b L p) 0 0 u (by omega) hu0 ⟨by omega, fun _ => rfl, fun q => absurd q (by omega), fun q => absurd q (by omega)⟩⟩
  rw [hl.1.2.2.1, nIinj (by omega) (by omega), nIsub (by omega), show p + rlN b L p - p = rlN b L p by omega, show (2 : Int32) = nI 2 from rfl, nIle (by omega) (by omega), nIle (show v < _ from by have := hv.1; omega) (by omega)]
  refine ⟨fun h => ?_, fun h => ⟨fun h2 => ⟨fun h3 => ?_, fun h3 => ?_⟩, fun h2 => ?_⟩⟩
  · have e : nmN b L p mx = (1, p, 0) := by unfold nmN; rw [if_pos (by omega)]
    rw [e] at h1
    exact p_failL hl (f := 1) (by omega) (fun u2 h' => h1 (by simp) _ u2 h')
  · have hr : ¬ (rlN b L p = 0 ∨ 2 < rlN b L p) := by omega
    have hvv := vOK_vl hv hr
    have e : nmN b L p mx = (0, p + rlN b L p, vlN b L p) := by unfold nmN; rw [if_neg hr, if_neg (by omega)]
    rw [e] at h0
    rw [hvv]
    exact h0 rfl u' hl
  · have hr : ¬ (rlN b L p = 0 ∨ 2 < rlN b L p) := by omega
    have hvv := vOK_vl hv hr
    have e : nmN b L p mx = (2, p, 0) := by unfold nmN; rw [if_neg hr, if_pos (by omega)]
    rw [e] at h1
    exact p_failL hl (f := 2) (by omega) (fun u2 h' => h1 (by simp) _ u2 h')
  · have e : nmN b L p mx = (1, p, 0) := by unfold nmN; rw [if_pos (by omega)]
    rw [e] at h1
    exact p_failL hl (f := 1) (by omega) (fun u2 h' => h1 (by simp) _ u2 h')
theorem p_numD (hu : DeadT u f q) {x : Int32} {post : Int32 → BX5 → Prop} (hp : post 0 u) : w_X5_number u x post := by
  unfold w_X5_number
  intro x1 hx1
  subst hx1
  refine ⟨1, ?_⟩
  unfold wL_X5_number_10
  refine ⟨fun h => absurd h (by decide), fun _ => p_nextD hu ?_⟩
  unfold w_X5_isFigure
  exact ⟨fun _ => sel0 ⟨fun _ => p_failD hu hp, fun h => absurd rfl h⟩, fun h => absurd (by decide) h⟩
theorem p_nsL (hu : LiveT b L u p) {mx a : Nat} (hmx : mx ≤ 100) (ha : a < 256) {V : Prop} (hV : V) {Q : Int32 → BX5 → Prop} (h0 : (nsN b L p mx a).1 = 0 → ∀ u', LiveT b L u' (nsN b L p mx a).2.1 → Q (nI (nsN b L p mx a).2.2) u') (h1 : ¬ (nsN b L p mx a).1 = 0 → ∀ x u', DeadT u' (nsN b L p mx a).1 (nsN b L p mx a).2.1 → Q x u') : w_X5_number u (nI mx) (fun r4 u5 => V ∧ (w_X5_expect u5 (nI a) (fun u7 => Q r4 u7))) := by
  refine p_numL hu hmx (fun hn u2 hu2 => ⟨hV, p_expL hu2 ha (fun hc u3 hu3 => ?_) (fun hc u3 hu3 => ?_)⟩) (fun hn x u2 hu2 => ⟨hV, p_expD hu2 ha ?_⟩)
  · have e : nsN b L p mx a = (0, (nmN b L p mx).2.1 + 1, (nmN b L p mx).2.2) := by unfold nsN sgN; rw [if_pos hn, if_pos hc]
    rw [e] at h0
    exact h0 rfl u3 hu3
  · have e : nsN b L p mx a = (1, (nmN b L p mx).2.1, 0) := by unfold nsN sgN; rw [if_pos hn, if_neg hc]
    rw [e] at h1
    exact h1 (by simp) _ u3 hu3
  · have e : nsN b L p mx a = nmN b L p mx := by unfold nsN; rw [if_neg hn]
    rw [e] at h1
    exact h1 hn x u2 hu2
theorem p_nsD (hu : DeadT u f q) {x : Int32} {a : Nat} (ha : a < 256) {V : Prop} (hV : V) {Q : Int32 → BX5 → Prop} (hp : Q 0 u) : w_X5_number u x (fun r4 u5 => V ∧ (w_X5_expect u5 (nI a) (fun u7 => Q r4 u7))) := p_numD hu ⟨hV, p_expD hu ha hp⟩
theorem p_nsL0 (hu : LiveT b L u p) {mx a : Nat} (hmx : mx ≤ 100) (ha : a < 256) {Q : Int32 → BX5 → Prop} (h0 : (nsN b L p mx a).1 = 0 → ∀ u', LiveT b L u' (nsN b L p mx a).2.1 → Q (nI (nsN b L p mx a).2.2) u') (h1 : ¬ (nsN b L p mx a).1 = 0 → ∀ x u', DeadT u' (nsN b L p mx a).1 (nsN b L p mx a).2.1 → Q x u') : w_X5_number u (nI mx) (fun r4 u5 => w_X5_expect u5 (nI a) (fun u7 => Q r4 u7)) := by
  refine p_numL hu hmx (fun hn u2 hu2 => p_expL hu2 ha (fun hc u3 hu3 => ?_) (fun hc u3 hu3 => ?_)) (fun hn x u2 hu2 => p_expD hu2 ha ?_)
  · have e : nsN b L p mx a = (0, (nmN b L p mx).2.1 + 1, (nmN b L p mx).2.2) := by unfold nsN sgN; rw [if_pos hn, if_pos hc]
    rw [e] at h0
    exact h0 rfl u3 hu3
  · have e : nsN b L p mx a = (1, (nmN b L p mx).2.1, 0) := by unfold nsN sgN; rw [if_pos hn, if_neg hc]
    rw [e] at h1
    exact h1 (by simp) _ u3 hu3
  · have e : nsN b L p mx a = nmN b L p mx := by unfold nsN; rw [if_neg hn]
    rw [e] at h1
    exact h1 hn x u2 hu2
theorem p_nsD0 (hu : DeadT u f q) {x : Int32} {a : Nat} (ha : a < 256) {Q : Int32 → BX5 → Prop} (hp : Q 0 u) : w_X5_number u x (fun r4 u5 => w_X5_expect u5 (nI a) (fun u7 => Q r4 u7)) := p_numD hu (p_expD hu ha hp)
theorem p_hsL (hu : LiveT b L u p) {ag : BX1} {C : Nat} (hC : ag.2.2.2.2.2.2.2.1 = nI C) (hC5 : C ≤ 5) {V : Prop} (hV : V) {Q : Int32 → BX5 → Prop} (h0 : (hsN b L p C).1 = 0 → ∀ u', LiveT b L u' (hsN b L p C).2.1 → Q (nI (hsN b L p C).2.2) u') (h1 : ¬ (hsN b L p C).1 = 0 → ∀ x u', DeadT u' (hsN b L p C).1 (hsN b L p C).2.1 → Q x u') : w_X5_hirer u ag (fun r4 u5 => V ∧ (w_X5_expect u5 (59 : Int32) (fun u7 => Q r4 u7))) := by
  have hpl := hu.1.2.2.1
  unfold w_X5_hirer
  rw [hpl]
  intro x1 hx1
  subst hx1
  have hr0 : (nmN b L p 5).1 = 0 → (¬ (rlN b L p = 0 ∨ 2 < rlN b L p)) ∧ vlN b L p ≤ 5 ∧ nmN b L p 5 = (0, p + rlN b L p, vlN b L p) := by
    intro hn
    unfold nmN at hn ⊢
    by_cases q1 : rlN b L p = 0 ∨ 2 < rlN b L p
    · rw [if_pos q1] at hn; exact absurd hn (by simp)
    · rw [if_neg q1] at hn ⊢
      by_cases q2 : 5 < vlN b L p
      · rw [if_pos q2] at hn; exact absurd hn (by simp)
      · rw [if_neg q2]; exact ⟨q1, by omega, rfl⟩
  refine p_numL (mx := 5) hu (by omega) (fun hn u2 hu2 => ?_) (fun hn x u2 hu2 => ?_)
  · obtain ⟨q1, q2, q3⟩ := hr0 hn
    rw [q3] at hu2 ⊢
    have good : ¬ (vlN b L p ≠ 5 ∧ C ≤ vlN b L p) → V ∧ (w_X5_expect u2 (59 : Int32) (fun u7 => Q (nI (vlN b L p)) u7)) := by
      intro q4
      have eh : hnN b L p C = (0, p + rlN b L p, vlN b L p) := by unfold hnN; rw [if_neg q1, if_neg q4]
      refine ⟨hV, p_expL (a := 59) hu2 (by omega) (fun hc u3 hu3 => ?_) (fun hc u3 hu3 => ?_)⟩
      · have e : hsN b L p C = (0, p + rlN b L p + 1, vlN b L p) := by
          unfold hsN
          rw [eh, if_pos rfl]
          unfold sgN
          rw [if_pos hc]
        rw [e] at h0
        exact h0 rfl u3 hu3
      · have e : hsN b L p C = (1, p + rlN b L p, 0) := by
          unfold hsN
          rw [eh, if_pos rfl]
          unfold sgN
          rw [if_neg hc]
        rw [e] at h1
        exact h1 (by simp) _ u3 hu3
    show (nI (vlN b L p) = (5 : Int32) → _) ∧ (¬ nI (vlN b L p) = (5 : Int32) → _)
    rw [show (5 : Int32) = nI 5 from rfl, nIinj (by omega) (by omega)]
    refine ⟨fun h5 => good (fun z => z.1 h5), fun h5 => p_hasClient hC hC5 ?_⟩
    show (bi (0 ≤ (nI (vlN b L p)).toInt ∧ (nI (vlN b L p)).toInt < C) = 0 → _) ∧ (¬ bi (0 ≤ (nI (vlN b L p)).toInt ∧ (nI (vlN b L p)).toInt < C) = 0 → _)
    rw [nIto (by omega)]
    by_cases hc : vlN b L p < C
    · rw [bi_t (by omega)]
      exact sel1 (good (fun z => absurd z.2 (by omega)))
    · rw [bi_f (by omega)]
      have eh : hnN b L p C = (2, p, 0) := by unfold hnN; rw [if_neg q1, if_pos ⟨h5, by omega⟩]
      have e : hsN b L p C = (2, p, 0) := by
        unfold hsN
        rw [eh, if_neg (by simp)]
      rw [e] at h1
      exact sel0 (p_failL hu2 (f := 2) (by omega) (fun u3 hu3 => ⟨hV, p_expD (a := 59) hu3 (by omega) (h1 (by simp) _ u3 hu3)⟩))
  · have e : hsN b L p C = nmN b L p 5 := by
      have hv : ∀ z, ¬ (rlN b L p = 0 ∨ 2 < rlN b L p) → 5 < vlN b L p → z = (2, p, 0) → True := fun _ _ _ _ => trivial
      have eh : hnN b L p C = nmN b L p 5 := by
        unfold hnN
        unfold nmN at hn ⊢
        by_cases q1 : rlN b L p = 0 ∨ 2 < rlN b L p
        · rw [if_pos q1, if_pos q1]
        · rw [if_neg q1] at hn ⊢
          rw [if_neg q1]
          by_cases q2 : 5 < vlN b L p
          · rw [if_pos q2, if_pos ⟨by omega, by omega⟩]
          · rw [if_neg q2] at hn; exact absurd rfl hn
      unfold hsN
      rw [eh, if_neg hn]
    rw [e] at h1
    have dq : ∀ y, V ∧ (w_X5_expect u2 (59 : Int32) (fun u7 => Q y u7)) := fun y => ⟨hV, p_expD (a := 59) hu2 (by omega) (h1 hn y u2 hu2)⟩
    refine ⟨fun _ => dq x, fun _ => p_hasClient hC hC5 ⟨fun _ => p_failD hu2 (dq x), fun _ => dq x⟩⟩
theorem p_hsD (hu : DeadT u f q) {ag : BX1} {C : Nat} (hC : ag.2.2.2.2.2.2.2.1 = nI C) (hC5 : C ≤ 5) {V : Prop} (hV : V) {Q : Int32 → BX5 → Prop} (hp : Q 0 u) : w_X5_hirer u ag (fun r4 u5 => V ∧ (w_X5_expect u5 (59 : Int32) (fun u7 => Q r4 u7))) := by
  unfold w_X5_hirer
  intro x1 hx1
  subst hx1
  have dq : V ∧ (w_X5_expect u (59 : Int32) (fun u7 => Q 0 u7)) := ⟨hV, p_expD (a := 59) hu (by omega) hp⟩
  refine p_numD hu ⟨fun h => absurd h (by decide), fun _ => p_hasClient hC hC5 ⟨fun _ => p_failD hu dq, fun _ => dq⟩⟩
theorem p_kindL (hb : ∀ k, k < L → b k < 256) {post : Int32 → Prop} (hp : post (nI (kqN b L q))) : w_X5_kindTold (bvN b L q) post := by
  unfold w_X5_kindTold
  unfold bvN
  unfold kqN at hp
  by_cases h : q < L
  · rw [if_pos h] at hp ⊢
    have h256 := hb q h
    have i : ∀ a : Nat, a < 256 → ((nI (b q) = nI a) = (b q = a)) := fun a ha => propext (nIinj (by omega) (by omega))
    simp (disch := decide) only [liN, i]
    have fin : ∀ z, kdN (b q) = z → post (nI z) := fun z hz => by rw [← hz]; exact hp
    refine ⟨fun z1 => fin 2 ?_, fun n1 => ⟨fun z1 => fin 0 ?_, fun n2 => ⟨fun z1 => fin 0 ?_, fun n3 => ⟨fun z1 => fin 0 ?_, fun n4 => ⟨fun z1 => fin 4 ?_, fun n5 => ⟨fun z1 => fin 0 ?_, fun n6 => ⟨fun z1 => fin 0 ?_, fun n7 => ⟨fun z1 => fin 0 ?_, fun n8 => ⟨fun z1 => fin 0 ?_, fun n9 => ⟨fun z1 => fin 0 ?_, fun n10 => ⟨fun z1 => fin 3 ?_, fun n11 => ⟨fun z1 => fin 5 ?_, fun n12 => ⟨fun z1 => fin 1 ?_, fun n13 => fin 0 ?_⟩⟩⟩⟩⟩⟩⟩⟩⟩⟩⟩⟩⟩
    all_goals (unfold kdN; repeat' split)
    all_goals omega
  · rw [if_neg h] at hp ⊢
    iterate 13 refine ⟨fun z => absurd z (by decide), fun _ => ?_⟩
    exact hp
end CLS
