theorem ns_hs {b : Nat → Nat} {L p C : Nat} (hC : C ≤ 5) (h : (rlN b L p = 0 ∨ 2 < rlN b L p) ∨ vlN b L p = 5 ∨ vlN b L p < C) : nsN b L p 5 59 = hsN b L p C := by
  have e : nmN b L p 5 = hnN b L p C := by
    unfold nmN hnN
    by_cases q : rlN b L p = 0 ∨ 2 < rlN b L p
    · rw [if_pos q, if_pos q]
    · rw [if_neg q, if_neg q, if_neg (by omega), if_neg (by omega)]
  unfold nsN hsN
  rw [e]
theorem clN_q {b : Nat → Nat} {L p : Nat} {g : Nat → Nat} (h : (clN b L p g).1 = 0) : (clN b L p g).2.1 ≤ L := by
  unfold clN at h ⊢
  by_cases q1 : g 21 = 5
  · rw [if_pos q1] at h; exact absurd h (by simp)
  · rw [if_neg q1] at h ⊢
    by_cases q2 : (nsN b L (p + 1) 40 44).1 = 0
    · rw [if_pos q2] at h ⊢
      by_cases q3 : (nsN b L (nsN b L (p + 1) 40 44).2.1 5 59).1 = 0
      · rw [if_pos q3]; exact (nsN_ok q3).2
      · rw [if_neg q3] at h; exact absurd h q3
    · rw [if_neg q2] at h; exact absurd h q2
theorem wkN_q {b : Nat → Nat} {L p kd : Nat} {g : Nat → Nat} (h : (wkN b L p kd g).1 = 0) : (wkN b L p kd g).2.1 ≤ L := by
  unfold wkN at h ⊢
  by_cases q1 : g 22 = 4
  · rw [if_pos q1] at h; exact absurd h (by simp)
  · rw [if_neg q1] at h ⊢
    by_cases q2 : (nsN b L (p + 1) 9 44).1 = 0
    · rw [if_pos q2] at h ⊢
      by_cases q3 : (nsN b L (nsN b L (p + 1) 9 44).2.1 5 44).1 = 0
      · rw [if_pos q3] at h ⊢
        by_cases q4 : (hsN b L (nsN b L (nsN b L (p + 1) 9 44).2.1 5 44).2.1 (g 21)).1 = 0
        · rw [if_pos q4]; exact (hsN_ok q4).2
        · rw [if_neg q4] at h; exact absurd h q4
      · rw [if_neg q3] at h; exact absurd h q3
    · rw [if_neg q2] at h; exact absurd h q2
section RDN
variable {b : Nat → Nat} {L p q : Nat} {m : BX7} {w : Nat → Int32} {fy ap nm fa : Int32} {g : Nat → Nat}
theorem RM.bz {r : Nat × Nat × (Nat → Nat)} {post : Int32 → BX7 → Prop} (h : RM m r post) : RM m r (fun r u => bz r ∧ post r u) := ⟨fun z w ap nm hw => ⟨bz_0, h.1 z w ap nm hw⟩, fun z w nm fa hw hM => ⟨bz_1, h.2 z w nm fa hw hM⟩⟩
theorem p_kindM (hb : ∀ k, k < L → b k < 256) {post : Int32 → Prop} (hp : post (nI (kqN b L q))) : w_X7_kindOf (bvN b L q) post := by
  unfold w_X7_kindOf
  unfold bvN
  unfold kqN at hp
  by_cases h : q < L
  · rw [if_pos h] at hp ⊢
    have h256 := hb q h
    have i : ∀ a : Nat, a < 256 → ((nI (b q) = nI a) = (b q = a)) := fun a ha => propext (nIinj (by omega) (by omega))
    simp (disch := decide) only [liN, i]
    have fin : ∀ z, kdN (b q) = z → post (nI z) := fun z hz => by rw [← hz]; exact hp
    refine ⟨fun z1 => fin 1 ?_, fun n1 => ⟨fun z1 => fin 2 ?_, fun n2 => ⟨fun z1 => fin 3 ?_, fun n3 => ⟨fun z1 => fin 4 ?_, fun n4 => ⟨fun z1 => fin 5 ?_, fun n5 => fin 0 ?_⟩⟩⟩⟩⟩
    all_goals (unfold kdN; repeat' split)
    all_goals omega
  · rw [if_neg h] at hp ⊢
    iterate 5 refine ⟨fun z => absurd z (by decide), fun _ => ?_⟩
    exact hp
def vSc (b : Nat → Nat) (p j v : Nat) : Prop := (j = 0 → v = 0) ∧ (j = 1 → v ≤ 9 ∧ v = b p - 48) ∧ (j = 2 → v ≤ 99 ∧ v = 10 * (b p - 48) + (b (p + 1) - 48)) ∧ (j = 3 → v ≤ 999)
theorem p_scan (hT : TapeM b L m) (hpL : p ≤ L) {y9 : Int32} {post : Int32 → BX7 → Prop} {Kx : Int32 → Int32 → Prop} (hK : ∀ fi v, fi ≤ 3 → v ≤ 999 → (rlN b L p = 0 → fi = 0) → (2 < rlN b L p → fi = 3) → (¬ (rlN b L p = 0 ∨ 2 < rlN b L p) → fi = rlN b L p ∧ v = vlN b L p) → Kx (nI fi) (nI v)) : ∃ n110, wL_X7_takesWaker_110 y9 (nI p) (mP m w fy ap nm fa) post Kx n110 (0 : Int32) (0 : Int32) := by
  have hb := hT.2.2.2
  have hL := hT.2.2.1
  have hrl := rl_le (b := b) (L := L) p
  obtain ⟨M, hMd⟩ : ∃ M, M = if rlN b L p < 3 then rlN b L p else 3 := ⟨_, rfl⟩
  have hM3 : M ≤ 3 ∧ M ≤ rlN b L p ∧ (rlN b L p < 3 → M = rlN b L p) ∧ (3 ≤ rlN b L p → M = 3) := by
    rw [hMd]
    by_cases q : rlN b L p < 3
    · rw [if_pos q]; omega
    · rw [if_neg q]; omega
  have key : ∀ e j v, j + e = M → vSc b p j v → wL_X7_takesWaker_110 y9 (nI p) (mP m w fy ap nm fa) post Kx (e + 1) (nI j) (nI v) := by
    intro e
    induction e with
    | zero =>
      intro j v hj hv
      have hj : j = M := by omega
      obtain ⟨v0, v1, v2, v3⟩ := hv
      have fin : Kx (nI j) (nI v) := by
        refine hK j v (by omega) ?_ (fun z => by omega) (fun z => by omega) (fun z => ⟨by omega, ?_⟩)
        · rcases (show j = 0 ∨ j = 1 ∨ j = 2 ∨ j = 3 by omega) with h | h | h | h
          · rw [v0 h]; omega
          · have := (v1 h).1; omega
          · have := (v2 h).1; omega
          · exact v3 h
        · unfold vlN
          by_cases q : rlN b L p = 1
          · rw [if_pos q]; exact (v1 (by omega)).2
          · rw [if_neg q]; exact (v2 (by omega)).2
      unfold wL_X7_takesWaker_110
      rw [nI_add]
      refine p_byteAt hT (by omega) (p_figM hb ?_)
      by_cases hr : rlN b L p = j
      · rw [← hr, bi_f (rl_end p), hr]
        exact sel0 fin
      · have hfig := rl_fig (b := b) (L := L) (p := p) (j := j) (by omega)
        rw [bi_t hfig]
        refine sel1 ⟨fun _ => fin, fun z => absurd ?_ z⟩
        rw [show (3 : Int32) = nI 3 from rfl, nIle (by omega) (by omega)]
        omega
    | succ e ih =>
      intro j v hj hv
      obtain ⟨v0, v1, v2, v3⟩ := hv
      have hfig := rl_fig (b := b) (L := L) (p := p) (j := j) (by omega)
      have hby := hb (p + j) hfig.1
      unfold wL_X7_takesWaker_110
      rw [nI_add]
      refine p_byteAt hT (by omega) (p_figM hb ?_)
      rw [bi_t hfig, show (3 : Int32) = nI 3 from rfl, nIle (by omega) (by omega), nI_1]
      refine sel1 ⟨fun z => absurd z (by omega), fun _ => p_byteAt hT (by omega) (fun x28 h28 => ?_)⟩
      have hvb : v ≤ 99 := by
        rcases (show j = 0 ∨ j = 1 ∨ j = 2 by omega) with h | h | h
        · rw [v0 h]; omega
        · have := (v1 h).1; omega
        · exact (v2 h).1
      have ebv : bvN b L (p + j) = nI (b (p + j)) := if_pos hfig.1
      rw [ebv, show (10 : Int32) = nI 10 from rfl, show (48 : Int32) = nI 48 from rfl, pk_mul, nI_add, nIsub (by omega)] at h28
      rw [h28]
      refine ih (j + 1) _ (by omega) ⟨fun z => absurd z (by omega), fun z => ?_, fun z => ?_, fun z => by omega⟩
      · have hj0 : j = 0 := by omega
        subst hj0
        have := v0 rfl
        rw [Nat.add_zero] at hfig ⊢
        rw [this]
        omega
      · have hj1 : j = 1 := by omega
        subst hj1
        obtain ⟨q1, q2⟩ := v1 rfl
        omega
  exact ⟨_, key M 0 0 (by omega) ⟨fun _ => rfl, fun z => absurd z (by omega), fun z => absurd z (by omega), fun z => absurd z (by omega)⟩⟩
theorem p_takesWaker (hT : TapeM b L m) (hpL : p < L) (hw : ∀ j, j < 108 → w j = m.1 j) (hM : AgM w 108 g) (hP : PG g) {kd : Nat} {post : Int32 → BX7 → Prop} (hR : RM m (wkN b L p kd g) post) : w_X7_takesWaker (mP m w m.2.2.2.2.2.2.2.2.2.2.1 (nI p) nm fa) (nI kd) post := by
  have b1 := hP.1.1
  have b2 := hP.1.2.1
  have e130 : (mP m w m.2.2.2.2.2.2.2.2.2.2.1 (nI p) nm fa).1 (130 : Int32).toNatClampNeg = nI (g 22) := hM 22 (by omega)
  have e136 : (136 : Int32) + nI (g 22) = nI (108 + (28 + g 22)) := by
    simp (disch := omega) only [liN, nI_add]
    congr 1
    omega
  have e140 : (140 : Int32) + nI (g 22) = nI (108 + (32 + g 22)) := by
    simp (disch := omega) only [liN, nI_add]
    congr 1
    omega
  have e114 : (114 : Int32) + nI (g 22) = nI (108 + (6 + g 22)) := by
    simp (disch := omega) only [liN, nI_add]
    congr 1
    omega
  have e118 : (118 : Int32) + nI (g 22) = nI (108 + (10 + g 22)) := by
    simp (disch := omega) only [liN, nI_add]
    congr 1
    omega
  unfold w_X7_takesWaker
  rw [e130]
  refine ⟨nIin (n := 130) (by omega) (by omega), fun x1 hx1 => ?_⟩
  subst hx1
  rw [e136, e140, e114, e118, nIcl (show 108 + (28 + g 22) < _ by omega), nIcl (show 108 + (32 + g 22) < _ by omega), nIcl (show 108 + (6 + g 22) < _ by omega), nIcl (show 108 + (10 + g 22) < _ by omega), show (4 : Int32) = nI 4 from rfl, nIinj (by omega) (by omega)]
  refine ⟨fun h4 => ⟨bz_0, ?_⟩, fun h4 => ⟨nIin (by omega) (by omega), ?_⟩⟩
  · have e : wkN b L p kd g = (3, p, g) := by unfold wkN; rw [if_pos h4]
    rw [e] at hR
    exact hR.1 (by simp) w _ _ hw
  · have eat : (mP m w m.2.2.2.2.2.2.2.2.2.2.1 (nI p) nm fa).2.2.2.2.2.2.2.2.2.2.2.2.2.2.1 + (1 : Int32) = nI (p + 1) := nI_1 p
    rw [eat]
    have hw1 : ∀ j, j < 108 → upd w (108 + (28 + g 22)) (nI kd) j = m.1 j := fun j hj => by
      rw [upd_at, if_neg (by omega)]
      exact hw j hj
    have hM1 : AgM (upd w (108 + (28 + g 22)) (nI kd)) 108 (gset g (28 + g 22) kd) := hM.setr (by omega)
    refine p_tnM (m := m) (w := (upd w (108 + (28 + g 22)) (nI kd))) (fy := m.2.2.2.2.2.2.2.2.2.2.1) (p := p + 1) (nm := nm) (fa := fa) (mx := 9) (a := 44) hT (by omega) (by omega) (by omega) (fun hA0 => sel1 ⟨nIin (by omega) (by omega), ?_⟩) (fun hA0 ap nm => sel0 ?_)
    · have hq := (nsN_ok hA0).2
      generalize hA : nsN b L (p + 1) 9 44 = A at *
      have hw2 : ∀ j, j < 108 → upd (upd w (108 + (28 + g 22)) (nI kd)) (108 + (32 + g 22)) (nI A.2.2) j = m.1 j := fun j hj => by
        rw [upd_at, if_neg (by omega)]
        exact hw1 j hj
      have hM2 : AgM (upd (upd w (108 + (28 + g 22)) (nI kd)) (108 + (32 + g 22)) (nI A.2.2)) 108 (gset (gset g (28 + g 22) kd) (32 + g 22) A.2.2) := hM1.setr (by omega)
      refine p_tnM (m := m) (w := upd (upd w (108 + (28 + g 22)) (nI kd)) (108 + (32 + g 22)) (nI A.2.2)) (fy := m.2.2.2.2.2.2.2.2.2.2.1) (p := A.2.1) (nm := nI A.2.2) (fa := fa) (mx := 5) (a := 44) hT hq (by omega) (by omega) (fun hB0 => sel1 ⟨nIin (by omega) (by omega), fun x6 hx6 => ?_⟩) (fun hB0 ap nm => sel0 ?_)
      · have hq2 := (nsN_ok hB0).2
        generalize hB : nsN b L A.2.1 5 44 = B at *
        have hx6 : x6 = nI B.2.1 := hx6
        subst hx6
        have hw3 : ∀ j, j < 108 → upd (upd (upd w (108 + (28 + g 22)) (nI kd)) (108 + (32 + g 22)) (nI A.2.2)) (108 + (6 + g 22)) (nI B.2.2) j = m.1 j := fun j hj => by
          rw [upd_at, if_neg (by omega)]
          exact hw2 j hj
        have hM3 : AgM (upd (upd (upd w (108 + (28 + g 22)) (nI kd)) (108 + (32 + g 22)) (nI A.2.2)) (108 + (6 + g 22)) (nI B.2.2)) 108 (gset (gset (gset g (28 + g 22) kd) (32 + g 22) A.2.2) (6 + g 22) B.2.2) := hM2.setr (by omega)
        have e129 : upd (upd (upd w (108 + (28 + g 22)) (nI kd)) (108 + (32 + g 22)) (nI A.2.2)) (108 + (6 + g 22)) (nI B.2.2) 129 = nI (g 21) := by
          have := hM3 21 (by omega)
          rw [gset_ne (by omega), gset_ne (by omega), gset_ne (by omega)] at this
          exact this
        have e130b : upd (upd (upd w (108 + (28 + g 22)) (nI kd)) (108 + (32 + g 22)) (nI A.2.2)) (108 + (6 + g 22)) (nI B.2.2) 130 = nI (g 22) := by
          have := hM3 22 (by omega)
          rw [gset_ne (by omega), gset_ne (by omega), gset_ne (by omega)] at this
          exact this
        generalize hW3 : upd (upd (upd w (108 + (28 + g 22)) (nI kd)) (108 + (32 + g 22)) (nI A.2.2)) (108 + (6 + g 22)) (nI B.2.2) = W3 at hw3 hM3 e129 e130b
        -- the last number, behind the look ahead
        have last : ((rlN b L B.2.1 = 0 ∨ 2 < rlN b L B.2.1) ∨ vlN b L B.2.1 = 5 ∨ vlN b L B.2.1 < g 21) → w_X7_takesNumber (mP m W3 m.2.2.2.2.2.2.2.2.2.2.1 (nI B.2.1) (nI B.2.2) fa) (0 : Int32) (nI 5) (nI 59) (fun r15 u16 => (r15 = 0 → post (0 : Int32) u16) ∧ (¬ r15 = 0 → vp_in (nI (108 + (10 + g 22))) 144 ∧ (vp_in (130 : Int32) 144 ∧ (vp_in (130 : Int32) 144 ∧ (post (1 : Int32) (upd (upd u16.1 (108 + (10 + g 22)) u16.2.2.2.2.2.2.2.2.2.2.2.2.2.2.2.1) (130 : Int32).toNatClampNeg (((upd u16.1 (108 + (10 + g 22)) u16.2.2.2.2.2.2.2.2.2.2.2.2.2.2.2.1) (130 : Int32).toNatClampNeg) + (1 : Int32)), u16.2.1, u16.2.2.1, u16.2.2.2.1, u16.2.2.2.2.1, u16.2.2.2.2.2.1, u16.2.2.2.2.2.2.1, u16.2.2.2.2.2.2.2.1, u16.2.2.2.2.2.2.2.2.1, u16.2.2.2.2.2.2.2.2.2.1, u16.2.2.2.2.2.2.2.2.2.2.1, u16.2.2.2.2.2.2.2.2.2.2.2.1, u16.2.2.2.2.2.2.2.2.2.2.2.2.1, u16.2.2.2.2.2.2.2.2.2.2.2.2.2.1, u16.2.2.2.2.2.2.2.2.2.2.2.2.2.2.1, u16.2.2.2.2.2.2.2.2.2.2.2.2.2.2.2.1, u16.2.2.2.2.2.2.2.2.2.2.2.2.2.2.2.2)))))) := by
          intro hc
          have ens := ns_hs b1 hc
          refine p_tnM (m := m) (w := W3) (fy := m.2.2.2.2.2.2.2.2.2.2.1) (p := B.2.1) (nm := nI B.2.2) (fa := fa) (mx := 5) (a := 59) hT hq2 (by omega) (by omega) (fun hH0 => sel1 ⟨nIin (by omega) (by omega), nIin (n := 130) (by omega) (by omega), nIin (n := 130) (by omega) (by omega), ?_⟩) (fun hH0 ap nm => sel0 ?_)
          · rw [ens] at hH0 ⊢
            have e : wkN b L p kd g = (0, (hsN b L B.2.1 (g 21)).2.1, wkG g kd A.2.2 B.2.2 (hsN b L B.2.1 (g 21)).2.2) := by
              unfold wkN
              rw [if_neg h4, hA, if_pos hA0, hB, if_pos hB0, if_pos hH0]
            rw [e] at hR
            generalize hsN b L B.2.1 (g 21) = H at *
            have hval : upd W3 (108 + (10 + g 22)) (nI H.2.2) 130 + (1 : Int32) = nI (g 22 + 1) := by
              rw [upd_at, if_neg (by omega), e130b, nI_1]
            refine hR.2 rfl (upd (upd W3 (108 + (10 + g 22)) (nI H.2.2)) 130 (upd W3 (108 + (10 + g 22)) (nI H.2.2) 130 + (1 : Int32))) _ _ (fun j hj => ?_) ?_
            · rw [upd_at, if_neg (by omega), upd_at, if_neg (by omega)]
              exact hw3 j hj
            · rw [hval]
              exact (hM3.setr (j := 10 + g 22) (by omega)).setr (j := 22) (by omega)
          · rw [ens] at hH0 ⊢
            have e : wkN b L p kd g = ((hsN b L B.2.1 (g 21)).1, (hsN b L B.2.1 (g 21)).2.1, g) := by
              unfold wkN
              rw [if_neg h4, hA, if_pos hA0, hB, if_pos hB0, if_neg hH0]
            rw [e] at hR
            exact hR.1 hH0 _ _ _ hw3
        subst hW3
        refine p_scan (m := m) (w := upd (upd (upd w (108 + (28 + g 22)) (nI kd)) (108 + (32 + g 22)) (nI A.2.2)) (108 + (6 + g 22)) (nI B.2.2)) (fy := m.2.2.2.2.2.2.2.2.2.2.1) (ap := nI B.2.1) (nm := nI B.2.2) (fa := fa) hT hq2 (fun fi v hfi hv c0 c3 cv => ?_)
        unfold wpJ
        have i1 : (nI fi ≤ (0 : Int32)) = (fi ≤ 0) := propext (nIle (b := 0) (by omega) (by omega))
        have i2 : ((3 : Int32) ≤ nI fi) = (3 ≤ fi) := propext (nIle (a := 3) (by omega) (by omega))
        have i3 : (nI v = (5 : Int32)) = (v = 5) := propext (nIinj (b := 5) (by omega) (by omega))
        have i4 : (nI v < upd (upd (upd w (108 + (28 + g 22)) (nI kd)) (108 + (32 + g 22)) (nI A.2.2)) (108 + (6 + g 22)) (nI B.2.2) 129) = (v < g 21) := by rw [e129]; exact propext (nIlt (by omega) (by omega))
        refine ⟨fun z => last ?_, fun z1 => ⟨fun z => last ?_, fun z2 => ⟨fun z => last ?_, fun z3 => ⟨nIin (n := 129) (by omega) (by omega), fun z => last ?_, fun z4 => ⟨bz_0, ?_⟩⟩⟩⟩⟩
        · rw [i1] at z
          by_cases hr : rlN b L B.2.1 = 0 ∨ 2 < rlN b L B.2.1
          · exact Or.inl hr
          · have := (cv hr).1; omega
        · rw [i2] at z
          by_cases hr : rlN b L B.2.1 = 0 ∨ 2 < rlN b L B.2.1
          · exact Or.inl hr
          · have := (cv hr).1; omega
        · rw [i3] at z
          by_cases hr : rlN b L B.2.1 = 0 ∨ 2 < rlN b L B.2.1
          · exact Or.inl hr
          · have := (cv hr).2; omega
        · have z : v < g 21 := by rw [← i4]; exact z
          by_cases hr : rlN b L B.2.1 = 0 ∨ 2 < rlN b L B.2.1
          · exact Or.inl hr
          · have := (cv hr).2; omega
        · have z4 : ¬ v < g 21 := by rw [← i4]; exact z4
          rw [i1] at z1
          rw [i2] at z2
          rw [i3] at z3
          have hr : ¬ (rlN b L B.2.1 = 0 ∨ 2 < rlN b L B.2.1) := by
            rintro (hr | hr)
            · have := c0 hr; omega
            · have := c3 hr; omega
          have hvv := (cv hr).2
          have eh : hnN b L B.2.1 (g 21) = (2, B.2.1, 0) := by unfold hnN; rw [if_neg hr, if_pos (by omega)]
          have ehs : hsN b L B.2.1 (g 21) = (2, B.2.1, 0) := by
            unfold hsN
            rw [eh, if_neg (by simp)]
          have e : wkN b L p kd g = (2, B.2.1, g) := by
            unfold wkN
            rw [if_neg h4, hA, if_pos hA0, hB, if_pos hB0, ehs, if_neg (by simp)]
          rw [e] at hR
          exact hR.1 (by simp) _ _ _ hw3
      · have e : wkN b L p kd g = ((nsN b L A.2.1 5 44).1, (nsN b L A.2.1 5 44).2.1, g) := by
          unfold wkN
          rw [if_neg h4, hA, if_pos hA0, if_neg hB0]
        rw [e] at hR
        exact hR.1 hB0 _ _ _ hw2
    · have e : wkN b L p kd g = ((nsN b L (p + 1) 9 44).1, (nsN b L (p + 1) 9 44).2.1, g) := by
        unfold wkN
        rw [if_neg h4, if_neg hA0]
      rw [e] at hR
      exact hR.1 hA0 _ _ _ hw1
end RDN
