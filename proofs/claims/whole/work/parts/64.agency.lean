section RDO
variable {b : Nat → Nat} {L p q : Nat} {m : BX7} {w : Nat → Int32} {fy ap nm fa : Int32} {g : Nat → Nat}
theorem p_takesMore (hT : TapeM b L m) (hpL : p ≤ L) (hw : ∀ j, j < 108 → w j = m.1 j) (hM : AgM w 108 g) (hP : PG g) {post : Int32 → BX7 → Prop} (hR : RM m (tmN b L p g) post) : w_X7_takesMore (mP m w m.2.2.2.2.2.2.2.2.2.2.1 (nI p) nm fa) post := by
  have b1 := hP.1.1
  have b2 := hP.1.2.1
  have hL := hT.2.2.1
  have hb := hT.2.2.2
  have i129 : ((mP m w m.2.2.2.2.2.2.2.2.2.2.1 (nI p) nm fa).1 (129 : Int32).toNatClampNeg = (0 : Int32)) = (g 21 = 0) := by
    have e : (mP m w m.2.2.2.2.2.2.2.2.2.2.1 (nI p) nm fa).1 (129 : Int32).toNatClampNeg = nI (g 21) := hM 21 (by omega)
    rw [e]
    exact propext (nIinj (b := 0) (by omega) (by omega))
  have i130 : ((mP m w m.2.2.2.2.2.2.2.2.2.2.1 (nI p) nm fa).1 (130 : Int32).toNatClampNeg = (0 : Int32)) = (g 22 = 0) := by
    have e : (mP m w m.2.2.2.2.2.2.2.2.2.2.1 (nI p) nm fa).1 (130 : Int32).toNatClampNeg = nI (g 22) := hM 22 (by omega)
    rw [e]
    exact propext (nIinj (b := 0) (by omega) (by omega))
  have hk5 := kqN_le (b := b) (L := L) p
  unfold w_X7_takesMore
  show w_X7_byteAt (mP m w m.2.2.2.2.2.2.2.2.2.2.1 (nI p) nm fa) (nI p) _
  refine p_byteAt hT (by omega) ?_
  unfold wpJ
  rw [i129, i130]
  -- it is no client
  have J0 : ¬ ((p < L ∧ b p = 119) ∧ g 22 = 0) → (((0 : Int32) = 0 → w_X7_kindOf (bvN b L p) (fun r11 => (r11 = 0 → w_X7_fails (mP m w m.2.2.2.2.2.2.2.2.2.2.1 (nI p) nm fa) (1 : Int32) (nI p) (fun r12 u13 => bz r12 ∧ post r12 u13)) ∧ (¬ r11 = 0 → vp_in (129 : Int32) 144 ∧ ((g 21 = 0 → w_X7_fails (mP m w m.2.2.2.2.2.2.2.2.2.2.1 (nI p) nm fa) (1 : Int32) (nI p) (fun r14 u15 => bz r14 ∧ post r14 u15)) ∧ (¬ g 21 = 0 → (((0 : Int32) = 0 → w_X7_kindOf (bvN b L p) (fun r5 => w_X7_takesWaker (mP m w m.2.2.2.2.2.2.2.2.2.2.1 (nI p) nm fa) r5 (fun r6 u7 => bz r6 ∧ post r6 u7))) ∧ (¬ (0 : Int32) = 0 → w_X7_takesClient (mP m w m.2.2.2.2.2.2.2.2.2.2.1 (nI p) nm fa) (fun r8 u9 => bz r8 ∧ post r8 u9)))))))) ∧ (¬ (0 : Int32) = 0 → (((0 : Int32) = 0 → w_X7_kindOf (bvN b L p) (fun r5 => w_X7_takesWaker (mP m w m.2.2.2.2.2.2.2.2.2.2.1 (nI p) nm fa) r5 (fun r6 u7 => bz r6 ∧ post r6 u7))) ∧ (¬ (0 : Int32) = 0 → w_X7_takesClient (mP m w m.2.2.2.2.2.2.2.2.2.2.1 (nI p) nm fa) (fun r8 u9 => bz r8 ∧ post r8 u9))))) := by
    intro hno
    refine sel0 (p_kindM hb ?_)
    rw [show (nI (kqN b L p) = (0 : Int32)) = (nI (kqN b L p) = nI 0) from rfl, nIinj (by omega) (by omega)]
    have bad : (kqN b L p = 0 ∨ g 21 = 0) → post 0 (mP m w (nI 1) (nI p) nm (nI p)) := by
      intro h
      have e : tmN b L p g = (1, p, g) := by unfold tmN; rw [if_neg hno, if_pos h]
      rw [e] at hR
      exact hR.1 (by simp) _ _ _ hw
    refine ⟨fun h => ⟨bz_0, bad (Or.inl h)⟩, fun h => ⟨nIin (n := 129) (by omega) (by omega), fun h2 => ⟨bz_0, bad (Or.inr h2)⟩, fun h2 => sel0 (p_kindM hb ?_)⟩⟩
    have e : tmN b L p g = wkN b L p (kqN b L p) g := by unfold tmN; rw [if_neg hno, if_neg (by omega)]
    rw [e] at hR
    exact p_takesWaker hT (kq_ne h).1 hw hM hP hR.bz
  rw [show (bvN b L p = (119 : Int32)) = (bvN b L p = nI 119) from rfl, bv_eq hb (by omega)]
  refine ⟨fun h => ⟨nIin (n := 130) (by omega) (by omega), fun h2 => sel1 (sel1 ?_), fun h2 => J0 (fun z => h2 z.2)⟩, fun h => J0 (fun z => h z.1)⟩
  have e : tmN b L p g = clN b L p g := by unfold tmN; rw [if_pos ⟨h, h2⟩]
  rw [e] at hR
  exact p_takesClient hT h.1 hw hM hP hR.bz
theorem p_loopM (hT : TapeM b L m) {post Kx : Int32 → BX7 → Prop} : ∀ n p g w nm fa, p ≤ L → (∀ j, j < 108 → w j = m.1 j) → AgM w 108 g → PG g → 10 ≤ n + 1 + g 21 + g 22 → RM m (moN b L (n + 1) p g) Kx → wL_X7_agency_10 post Kx (n + 2) (1 : Int32) (mP m w m.2.2.2.2.2.2.2.2.2.2.1 (nI p) nm fa) := by
  have dead : ∀ n u, Kx 0 u → wL_X7_agency_10 post Kx (n + 1) (0 : Int32) u := by
    intro n u h
    unfold wL_X7_agency_10
    exact sel0 h
  have step : ∀ n p g w nm fa, p ≤ L → (∀ j, j < 108 → w j = m.1 j) → AgM w 108 g → PG g → RM m (moN b L (n + 1) p g) Kx → (∀ p' g' w' nm' fa', p' ≤ L → (∀ j, j < 108 → w' j = m.1 j) → AgM w' 108 g' → PG g' → g' 21 + g' 22 = g 21 + g 22 + 1 → g 21 + g 22 < 9 → RM m (moN b L n p' g') Kx → wL_X7_agency_10 post Kx (n + 1) (1 : Int32) (mP m w' m.2.2.2.2.2.2.2.2.2.2.1 (nI p') nm' fa')) → wL_X7_agency_10 post Kx (n + 2) (1 : Int32) (mP m w m.2.2.2.2.2.2.2.2.2.2.1 (nI p) nm fa) := by
    intro n p g w nm fa hpL hw hM hP hR hnext
    have b1 := hP.1.1
    have b2 := hP.1.2.1
    have hL := hT.2.2.1
    have i129 : ((mP m w m.2.2.2.2.2.2.2.2.2.2.1 (nI p) nm fa).1 (129 : Int32).toNatClampNeg = (0 : Int32)) = (g 21 = 0) := by
      have e : (mP m w m.2.2.2.2.2.2.2.2.2.2.1 (nI p) nm fa).1 (129 : Int32).toNatClampNeg = nI (g 21) := hM 21 (by omega)
      rw [e]
      exact propext (nIinj (b := 0) (by omega) (by omega))
    have i9 : ((mP m w m.2.2.2.2.2.2.2.2.2.2.1 (nI p) nm fa).2.2.2.2.2.2.2.2.2.2.2.2.2.2.1 < (mP m w m.2.2.2.2.2.2.2.2.2.2.1 (nI p) nm fa).2.2.2.2.2.2.2.2.2.1) = (p < L) := by
      show (nI p < m.2.2.2.2.2.2.2.2.2.1) = (p < L)
      rw [hT.1]
      exact propext (nIlt (by omega) (by omega))
    have more : (p < L ∨ g 21 = 0) → w_X7_takesMore (mP m w m.2.2.2.2.2.2.2.2.2.2.1 (nI p) nm fa) (fun r11 u12 => wL_X7_agency_10 post Kx (n + 1) r11 u12) := by
      intro hc
      rw [moN_s, if_pos hc] at hR
      refine p_takesMore hT hpL hw hM hP ⟨fun hz w' ap' nm' hw' => dead _ _ ?_, fun hz w' nm' fa' hw' hM' => ?_⟩
      · rw [if_neg hz] at hR
        exact hR.1 hz w' ap' nm' hw'
      · rw [if_pos hz] at hR
        -- a step that went well
        by_cases q1 : (p < L ∧ b p = 119) ∧ g 22 = 0
        · have e : tmN b L p g = clN b L p g := by unfold tmN; rw [if_pos q1]
          rw [e] at hz hR hM' ⊢
          obtain ⟨z1, z2, z3, z4⟩ := clN_g hP q1.2 hz
          exact hnext _ _ w' nm' fa' (clN_q hz) hw' hM' z1 (by omega) (by omega) hR
        · by_cases q2 : kqN b L p = 0 ∨ g 21 = 0
          · have e : tmN b L p g = (1, p, g) := by unfold tmN; rw [if_neg q1, if_pos q2]
            rw [e] at hz
            exact absurd hz (by simp)
          · have e : tmN b L p g = wkN b L p (kqN b L p) g := by unfold tmN; rw [if_neg q1, if_neg q2]
            rw [e] at hz hR hM' ⊢
            obtain ⟨z1, z2, z3, z4⟩ := wkN_g hP (by omega) (kqN_le p) hz
            exact hnext _ _ w' nm' fa' (wkN_q hz) hw' hM' z1 (by omega) (by omega) hR
    unfold wL_X7_agency_10
    rw [i129, i9]
    refine sel1 ⟨fun h => more (Or.inl h), fun h => ⟨nIin (n := 129) (by omega) (by omega), fun h2 => more (Or.inr h2), fun h2 => ?_⟩⟩
    rw [moN_s, if_neg (by omega)] at hR
    exact hR.2 rfl w nm fa hw hM
  intro n
  induction n with
  | zero =>
    intro p g w nm fa hpL hw hM hP hn hR
    exact step 0 p g w nm fa hpL hw hM hP hR (fun p' g' w' nm' fa' _ _ _ _ h1 h2 _ => absurd h2 (by omega))
  | succ n ih =>
    intro p g w nm fa hpL hw hM hP hn hR
    exact step (n + 1) p g w nm fa hpL hw hM hP hR (fun p' g' w' nm' fa' c1 c2 c3 c4 h1 h2 hR' => ih p' g' w' nm' fa' c1 c2 c3 c4 (by omega) hR')
def lawN (b : Nat → Nat) (L : Nat) : Nat × Nat × (Nat → Nat) := if 0 < L ∧ b 0 = 108 then (if (nsN b L 1 20 44).1 = 0 then (if (nsN b L (nsN b L 1 20 44).2.1 6 59).1 = 0 then (0, (nsN b L (nsN b L 1 20 44).2.1 6 59).2.1, lwG (nsN b L 1 20 44).2.2 (nsN b L (nsN b L 1 20 44).2.1 6 59).2.2) else ((nsN b L (nsN b L 1 20 44).2.1 6 59).1, (nsN b L (nsN b L 1 20 44).2.1 6 59).2.1, g00)) else ((nsN b L 1 20 44).1, (nsN b L 1 20 44).2.1, g00)) else (1, 0, g00)
theorem p_zero {post : Int32 → BX7 → Prop} {Kx : BX7 → Prop} (hK : ∀ w, (∀ j, j < 108 → w j = m.1 j) → AgM w 108 (fun _ => 0) → Kx (mP m w fy ap nm fa)) : ∃ n2, wL_X7_takesLaw_2 post Kx n2 (0 : Int32) (mP m m.1 fy ap nm fa) := by
  refine up_inv (fun n i (v : BX7) => wL_X7_takesLaw_2 post Kx n i v) 36 (fun j v => ∃ w, v = mP m w fy ap nm fa ∧ (∀ i, i < 108 → w i = m.1 i) ∧ ∀ k, k < j → w (108 + k) = nI 0) ?_ ?_ _ ⟨m.1, rfl, fun _ _ => rfl, fun k hk => absurd hk (by omega)⟩
  · intro n v hv
    obtain ⟨w, rfl, h1, h2⟩ := hv
    show wL_X7_takesLaw_2 _ _ _ _ _
    unfold wL_X7_takesLaw_2
    exact ⟨fun _ => hK w h1 h2, fun h => absurd (Int32.le_refl _) h⟩
  · intro n j v hj hv ih
    obtain ⟨w, rfl, h1, h2⟩ := hv
    show wL_X7_takesLaw_2 _ _ _ _ _
    unfold wL_X7_takesLaw_2
    rw [show (36 : Int32) = nI 36 from rfl, show (108 : Int32) = nI 108 from rfl, nIle (by omega) (by omega), nI_add, nIcl (by omega), nI_1]
    refine ⟨fun h => absurd h (by omega), fun _ => ⟨nIin (by omega) (by omega), ih (mP m (upd w (108 + j) (nI 0)) fy ap nm fa) ⟨upd w (108 + j) (nI 0), rfl, fun i hi => ?_, fun k hk => ?_⟩⟩⟩
    · rw [upd_at, if_neg (by omega)]
      exact h1 i hi
    · rw [upd_at]
      by_cases hkj : k = j
      · rw [if_pos (by omega)]
      · rw [if_neg (by omega)]
        exact h2 k (by omega)
theorem p_takesLaw (hT : TapeM b L m) {post : Int32 → BX7 → Prop} (hR : RM m (lawN b L) post) : w_X7_takesLaw (mP m m.1 m.2.2.2.2.2.2.2.2.2.2.1 (nI 0) nm fa) post := by
  have hL := hT.2.2.1
  unfold w_X7_takesLaw
  refine p_zero (fun w hw hM => ⟨nIin (n := 126) (by omega) (by omega), ?_⟩)
  have hw1 : ∀ j, j < 108 → upd w 126 (nI 1) j = m.1 j := fun j hj => by
    rw [upd_at, if_neg (by omega)]
    exact hw j hj
  have hM1 : AgM (upd w 126 (nI 1)) 108 g00 := hM.setr (j := 18) (v := 1) (by omega)
  refine p_takesM (m := m) (w := upd w 126 (nI 1)) (fy := m.2.2.2.2.2.2.2.2.2.2.1) (p := 0) (nm := nm) (fa := fa) (a := 108) hT (by omega) (by omega) (fun hc => sel1 ?_) (fun hc => sel0 ?_)
  · refine p_tnM (m := m) (w := upd w 126 (nI 1)) (fy := m.2.2.2.2.2.2.2.2.2.2.1) (p := 0 + 1) (nm := nm) (fa := fa) (mx := 20) (a := 44) hT (by omega) (by omega) (by omega) (fun hA0 => sel1 ⟨nIin (n := 127) (by omega) (by omega), ?_⟩) (fun hA0 ap nm => sel0 ?_)
    · have hq := (nsN_ok hA0).2
      have hA0' : (nsN b L 1 20 44).1 = 0 := hA0
      have e0 : lawN b L = if (nsN b L (nsN b L 1 20 44).2.1 6 59).1 = 0 then (0, (nsN b L (nsN b L 1 20 44).2.1 6 59).2.1, lwG (nsN b L 1 20 44).2.2 (nsN b L (nsN b L 1 20 44).2.1 6 59).2.2) else ((nsN b L (nsN b L 1 20 44).2.1 6 59).1, (nsN b L (nsN b L 1 20 44).2.1 6 59).2.1, g00) := by
        unfold lawN
        rw [if_pos hc, if_pos hA0']
      rw [e0] at hR
      have eA : nsN b L (0 + 1) 20 44 = nsN b L 1 20 44 := rfl
      rw [eA] at hq ⊢
      generalize nsN b L 1 20 44 = A at *
      have hw2 : ∀ j, j < 108 → upd (upd w 126 (nI 1)) 127 (nI A.2.2) j = m.1 j := fun j hj => by
        rw [upd_at, if_neg (by omega)]
        exact hw1 j hj
      have hM2 : AgM (upd (upd w 126 (nI 1)) 127 (nI A.2.2)) 108 (gset g00 19 A.2.2) := hM1.setr (j := 19) (by omega)
      refine p_tnM (m := m) (w := upd (upd w 126 (nI 1)) 127 (nI A.2.2)) (fy := m.2.2.2.2.2.2.2.2.2.2.1) (p := A.2.1) (nm := nI A.2.2) (fa := fa) (mx := 6) (a := 59) hT hq (by omega) (by omega) (fun hB0 => sel1 ⟨nIin (n := 128) (by omega) (by omega), ?_⟩) (fun hB0 ap nm => sel0 ?_)
      · rw [if_pos hB0] at hR
        generalize nsN b L A.2.1 6 59 = B at *
        refine hR.2 rfl (upd (upd (upd w 126 (nI 1)) 127 (nI A.2.2)) 128 (nI B.2.2)) _ _ (fun j hj => ?_) (hM2.setr (j := 20) (by omega))
        rw [upd_at, if_neg (by omega)]
        exact hw2 j hj
      · rw [if_neg hB0] at hR
        exact hR.1 hB0 _ _ _ hw2
    · have hA0' : ¬ (nsN b L 1 20 44).1 = 0 := hA0
      have e0 : lawN b L = ((nsN b L 1 20 44).1, (nsN b L 1 20 44).2.1, g00) := by
        unfold lawN
        rw [if_pos hc, if_neg hA0']
      rw [e0] at hR
      exact hR.1 hA0' _ _ _ hw1
  · have e0 : lawN b L = (1, 0, g00) := by
      unfold lawN
      rw [if_neg hc]
    rw [e0] at hR
    exact hR.1 (by simp) _ _ _ hw1
theorem p_agencyM (hT : TapeM b L m) {post : Int32 → BX7 → Prop} (hR : RM m (prN b L) (fun (x5 : Int32) (u6 : BX7) => (x5 = 0 → post ((-1000100 : Int32) - u6.2.2.2.2.2.2.2.2.2.2.2.2.2.2.2.2) (u6.1, u6.2.1, u6.2.2.1, u6.2.2.2.1, u6.2.2.2.2.1, u6.2.2.2.2.2.1, u6.2.2.2.2.2.2.1, u6.2.2.2.2.2.2.2.1, u6.2.2.2.2.2.2.2.2.1, (0 : Int32), u6.2.2.2.2.2.2.2.2.2.2.1, u6.2.2.2.2.2.2.2.2.2.2.2.1, u6.2.2.2.2.2.2.2.2.2.2.2.2.1, u6.2.2.2.2.2.2.2.2.2.2.2.2.2.1, u6.2.2.2.2.2.2.2.2.2.2.2.2.2.2.1, u6.2.2.2.2.2.2.2.2.2.2.2.2.2.2.2.1, u6.2.2.2.2.2.2.2.2.2.2.2.2.2.2.2.2)) ∧ (¬ x5 = 0 → w_X7_copyAll (u6.1, u6.2.1, u6.2.2.1, u6.2.2.2.1, u6.2.2.2.2.1, u6.2.2.2.2.2.1, u6.2.2.2.2.2.2.1, u6.2.2.2.2.2.2.2.1, u6.2.2.2.2.2.2.2.2.1, (0 : Int32), u6.2.2.2.2.2.2.2.2.2.2.1, u6.2.2.2.2.2.2.2.2.2.2.2.1, u6.2.2.2.2.2.2.2.2.2.2.2.2.1, u6.2.2.2.2.2.2.2.2.2.2.2.2.2.1, u6.2.2.2.2.2.2.2.2.2.2.2.2.2.2.1, u6.2.2.2.2.2.2.2.2.2.2.2.2.2.2.2.1, u6.2.2.2.2.2.2.2.2.2.2.2.2.2.2.2.2) (108 : Int32) (0 : Int32) (fun u8 => vp_in (21 : Int32) 144 ∧ (post (u8.1 (21 : Int32).toNatClampNeg) (u8.1, u8.2.1, u8.2.2.1, (0 : Int32), u8.2.2.2.2.1, u8.2.2.2.2.2.1, u8.2.2.2.2.2.2.1, u8.2.2.2.2.2.2.2.1, u8.2.2.2.2.2.2.2.2.1, u8.2.2.2.2.2.2.2.2.2.1, u8.2.2.2.2.2.2.2.2.2.2.1, u8.2.2.2.2.2.2.2.2.2.2.2.1, u8.2.2.2.2.2.2.2.2.2.2.2.2.1, u8.2.2.2.2.2.2.2.2.2.2.2.2.2.1, u8.2.2.2.2.2.2.2.2.2.2.2.2.2.2.1, u8.2.2.2.2.2.2.2.2.2.2.2.2.2.2.2.1, u8.2.2.2.2.2.2.2.2.2.2.2.2.2.2.2.2)))))) : w_X7_agency m post := by
  unfold w_X7_agency
  refine p_takesLaw (m := m) (nm := m.2.2.2.2.2.2.2.2.2.2.2.2.2.2.2.1) (fa := m.2.2.2.2.2.2.2.2.2.2.2.2.2.2.2.2) hT ⟨fun hz w ap nm hw => ⟨1, ?_⟩, fun hz w nm fa hw hM => ⟨11, ?_⟩⟩
  · unfold wL_X7_agency_10
    have e : (prN b L).1 = (lawN b L).1 ∧ (prN b L).2.1 = (lawN b L).2.1 := by
      unfold lawN at hz ⊢
      unfold prN
      by_cases q1 : 0 < L ∧ b 0 = 108
      · rw [if_pos q1] at hz ⊢
        rw [if_pos q1]
        by_cases q2 : (nsN b L 1 20 44).1 = 0
        · rw [if_pos q2] at hz ⊢
          rw [if_pos q2]
          by_cases q3 : (nsN b L (nsN b L 1 20 44).2.1 6 59).1 = 0
          · rw [if_pos q3] at hz
            exact absurd rfl hz
          · rw [if_neg q3, if_neg q3]
            exact ⟨rfl, rfl⟩
        · rw [if_neg q2, if_neg q2]
          exact ⟨rfl, rfl⟩
      · rw [if_neg q1, if_neg q1]
        exact ⟨rfl, rfl⟩
    have := hR.1 (by rw [e.1]; exact hz) w ap nm hw
    rw [e.1, e.2] at this
    exact sel0 this
  · unfold lawN at hz hM ⊢
    unfold prN at hR
    by_cases q1 : 0 < L ∧ b 0 = 108
    · rw [if_pos q1] at hz hM hR ⊢
      by_cases q2 : (nsN b L 1 20 44).1 = 0
      · rw [if_pos q2] at hz hM hR ⊢
        by_cases q3 : (nsN b L (nsN b L 1 20 44).2.1 6 59).1 = 0
        · rw [if_pos q3] at hM hR ⊢
          exact p_loopM hT 9 _ _ w nm fa (nsN_ok q3).2 hw hM (PG.law (nsN_ok q2).1 (nsN_ok q3).1) (by omega) hR
        · rw [if_neg q3] at hz
          exact absurd hz q3
      · rw [if_neg q2] at hz
        exact absurd hz q2
    · rw [if_neg q1] at hz
      exact absurd hz (by simp)
end RDO
section OPSR
variable {ux : BX6} {un ut : BX1} {up : BX5} {ua : BX0} {us : BX4} {uk : BX2} {rs : Nat → BX3} {ms : Nat → BX1} {m : BX7} {a0 a1 a2 a3 a4 : Int32}
theorem op_agency (hR : RR ux un up ua uk rs ms m) {P : Int32 → BX6 → BX1 → BX1 → BX5 → BX0 → Int32 → BX7 → Prop} (hp : ∀ r ux' un' ut' up' ua' m', RR ux' un' up' ua' uk rs ms m' → P r ux' un' ut' up' ua' r m') : w_X6_agency ux un ut up ua (fun r ux' un' ut' up' ua' => w_X7_agency m (fun r2 m' => P r ux' un' ut' up' ua' r2 m')) := by
  obtain ⟨g, ⟨hA, hM, hO⟩, hact, hI, hRow, ⟨L, hL, et1, et2, hk⟩, hTr, hfy, hst⟩ := hR
  obtain ⟨b, hbd⟩ : ∃ b : Nat → Nat, b = fun k => (up.1 k).toNatClampNeg := ⟨_, rfl⟩
  have hbk : ∀ k, k < L → b k < 256 ∧ up.1 k = nI (b k) ∧ m.2.2.2.2.2.2.2.2.1 k = nI (b k) := by
    intro k hkL
    obtain ⟨c, hc, e1, e2⟩ := hk k hkL
    have e : b k = c := by
      rw [hbd]
      show (up.1 k).toNatClampNeg = c
      rw [e1, nIcl (by omega)]
    rw [e]
    exact ⟨hc, e1, e2⟩
  have hT : TapeM b L m := ⟨et2, fun k h => (hbk k h).2.2, hL, fun k h => (hbk k h).1⟩
  unfold w_X6_agency
  refine p_readInto (b := b) (L := L) (fun k h => (hbk k h).2.1) et1 hL (fun k h => (hbk k h).1) ⟨fun hz u a h1 h2 h3 h4 => ⟨fun q => absurd q h2, fun _ => ?_⟩, fun hz u a h1 h2 hAa hPg hpos => ⟨fun _ => ?_, fun q => absurd h2 q⟩⟩
  · refine p_agencyM hT ⟨fun _ w ap nm hw => ⟨fun _ => ?_, fun q => absurd rfl q⟩, fun q => absurd q hz⟩
    rw [h3, h4]
    exact hp _ _ _ _ _ _ _ ⟨g, ⟨hA, fun k hk => (hw _ (by omega)).trans (hM k hk), hO⟩, hact, hI.out (fun j _ hj => hw j hj), hRow, ⟨0, by omega, h1, rfl, fun k hk => absurd hk (by omega)⟩, hTr, rfl, hst⟩
  · have hO2 := hPg.ok hpos
    refine p_copyFrom hAa hO2 (fun un' hun' => ?_)
    unfold w_X0_forgetAll
    rw [hun'.1.1.1]
    refine p_agencyM hT ⟨fun q => absurd hz q, fun _ w nm fa hw hMw => ⟨fun q => absurd q (by decide), fun _ => ?_⟩⟩
    obtain ⟨nn, hs, ⟨f1, f2, f, f3, f4, f5⟩, hAm, hok⟩ := hact
    refine p_copyAll (m := ((mP m w m.2.2.2.2.2.2.2.2.2.2.1 (nI (prN b L).2.1) nm fa).1, (mP m w m.2.2.2.2.2.2.2.2.2.2.1 (nI (prN b L).2.1) nm fa).2.1, (mP m w m.2.2.2.2.2.2.2.2.2.2.1 (nI (prN b L).2.1) nm fa).2.2.1, (mP m w m.2.2.2.2.2.2.2.2.2.2.1 (nI (prN b L).2.1) nm fa).2.2.2.1, (mP m w m.2.2.2.2.2.2.2.2.2.2.1 (nI (prN b L).2.1) nm fa).2.2.2.2.1, (mP m w m.2.2.2.2.2.2.2.2.2.2.1 (nI (prN b L).2.1) nm fa).2.2.2.2.2.1, (mP m w m.2.2.2.2.2.2.2.2.2.2.1 (nI (prN b L).2.1) nm fa).2.2.2.2.2.2.1, (mP m w m.2.2.2.2.2.2.2.2.2.2.1 (nI (prN b L).2.1) nm fa).2.2.2.2.2.2.2.1, (mP m w m.2.2.2.2.2.2.2.2.2.2.1 (nI (prN b L).2.1) nm fa).2.2.2.2.2.2.2.2.1, (0 : Int32), (mP m w m.2.2.2.2.2.2.2.2.2.2.1 (nI (prN b L).2.1) nm fa).2.2.2.2.2.2.2.2.2.2.1, (mP m w m.2.2.2.2.2.2.2.2.2.2.1 (nI (prN b L).2.1) nm fa).2.2.2.2.2.2.2.2.2.2.2.1, (mP m w m.2.2.2.2.2.2.2.2.2.2.1 (nI (prN b L).2.1) nm fa).2.2.2.2.2.2.2.2.2.2.2.2.1, (mP m w m.2.2.2.2.2.2.2.2.2.2.1 (nI (prN b L).2.1) nm fa).2.2.2.2.2.2.2.2.2.2.2.2.2.1, (mP m w m.2.2.2.2.2.2.2.2.2.2.1 (nI (prN b L).2.1) nm fa).2.2.2.2.2.2.2.2.2.2.2.2.2.2.1, (mP m w m.2.2.2.2.2.2.2.2.2.2.1 (nI (prN b L).2.1) nm fa).2.2.2.2.2.2.2.2.2.2.2.2.2.2.2.1, (mP m w m.2.2.2.2.2.2.2.2.2.2.1 (nI (prN b L).2.1) nm fa).2.2.2.2.2.2.2.2.2.2.2.2.2.2.2.2)) (r1 := 108) (r2 := 0) (by omega) (by omega) (by omega) (fun w' h5 h6 => ⟨nIin (n := 21) (by omega) (by omega), ?_⟩)
    have hM2 : AgM w' 0 (prN b L).2.2 := fun k hk => (h5 k hk).trans (hMw k hk)
    have e21 : w' 21 = nI ((prN b L).2.2 21) := hM2 21 (by omega)
    have fin : ∀ r2, r2 = nI ((prN b L).2.2 21) → P (nI ((prN b L).2.2 21)) ux un' a u (ua.1, ua.2.1, 0) r2 (w', m.2.1, m.2.2.1, 0, m.2.2.2.2.1, m.2.2.2.2.2.1, m.2.2.2.2.2.2.1, m.2.2.2.2.2.2.2.1, m.2.2.2.2.2.2.2.2.1, 0, m.2.2.2.2.2.2.2.2.2.2.1, m.2.2.2.2.2.2.2.2.2.2.2.1, m.2.2.2.2.2.2.2.2.2.2.2.2.1, m.2.2.2.2.2.2.2.2.2.2.2.2.2.1, nI (prN b L).2.1, nm, fa) := by
      intro r2 hr2
      subst hr2
      refine hp _ _ _ _ _ _ _ ⟨(prN b L).2.2, ⟨hun', hM2, hO2⟩, ⟨0, hs, ⟨by omega, rfl, f, f3, f4, fun i hi => absurd hi (by omega)⟩, ⟨rfl, fun i hi => absurd hi (by omega)⟩, fun i hi => absurd hi (by omega)⟩, hI.out (fun j hj1 hj2 => (h6 j (by omega)).trans (hw j hj2)), hRow, ⟨0, by omega, h1, rfl, fun k hk => absurd hk (by omega)⟩, hTr, hfy, hst⟩
    exact fin _ e21
end OPSR
