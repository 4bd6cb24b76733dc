theorem rr_start : RR ((0, 0) : BX6) zX1 zX5 zX0 zX2 (fun _ => zX3) (fun _ => zX1) zX7 := by
  refine ⟨fun _ => 0, ⟨⟨⟨⟨rfl, rfl, rfl, rfl, rfl⟩, fun c hc => absurd hc (Nat.not_lt_zero c), fun c hc => absurd hc (Nat.not_lt_zero c)⟩, fun c hc => absurd hc (Nat.not_lt_zero c), fun c hc => absurd hc (Nat.not_lt_zero c)⟩, fun k hk => rfl, ⟨⟨Nat.zero_le _, Nat.zero_le _, Nat.zero_le _, Nat.zero_le _, Nat.zero_le _, by omega⟩, fun c hc => absurd hc (Nat.not_lt_zero c), fun c hc => absurd hc (Nat.not_lt_zero c), rfl, fun _ => rfl⟩⟩, ⟨0, fun _ _ => 0, ⟨by omega, rfl, 0, by omega, rfl, fun i hi => absurd hi (Nat.not_lt_zero i)⟩, ⟨rfl, fun i hi => absurd hi (Nat.not_lt_zero i)⟩, fun i hi => absurd hi (Nat.not_lt_zero i)⟩, fun k hk => Or.inl ⟨rfl, rfl⟩, fun r hr => Or.inl ⟨rfl, ?_⟩, ⟨0, by omega, rfl, rfl, fun k hk => absurd hk (Nat.not_lt_zero k)⟩, ⟨0, by omega, rfl, rfl, fun k hk => absurd hk (Nat.not_lt_zero k)⟩, rfl, rfl⟩
  rcases (show r = 0 ∨ r = 1 ∨ r = 2 ∨ r = 3 ∨ r = 4 ∨ r = 5 ∨ r = 6 ∨ r = 7 by omega) with rfl | rfl | rfl | rfl | rfl | rfl | rfl | rfl <;> rfl
theorem law_step {L : Nat} (hL : L ≤ 384) (xs : Nat → Int32) : ∀ n i (ux : BX6) (un ut : BX1) (up : BX5) (ua : BX0) (us : BX4) (uk : BX2) (rs : Nat → BX3) (ms : Nat → BX1) (m : BX7), i ≤ 400 → L < i + 6 * (n + 1) → RR ux un up ua uk rs ms m → wL_L_law_18 xs L (fun _ => True) (fun (_ : BX6) (_ : BX1) (_ : BX1) (_ : BX5) (_ : BX0) (_ : BX4) (_ : BX2) (_ : (Nat → BX3)) (_ : (Nat → BX1)) (_ : BX7) => True) (n + 1) (nI i) ux un ut up ua us uk rs ms m := by
  have hcond : ∀ i, i ≤ 400 → ((((Int32.ofNat L) - (6 : Int32)) < nI i) ↔ L < i + 6) := by
    intro i hi
    rw [i32_lt, show Int32.ofNat L = nI L from rfl, show (6 : Int32) = nI 6 from rfl, pk_sub_toInt (by omega) (by omega), nIto (by omega)]
    omega
  intro n
  induction n with
  | zero =>
    intro i ux un ut up ua us uk rs ms m hi hn hR
    unfold wL_L_law_18
    rw [hcond i hi]
    exact ⟨fun _ => trivial, fun h => absurd (by omega) h⟩
  | succ n ih =>
    intro i ux un ut up ua us uk rs ms m hi hn hR
    unfold wL_L_law_18
    rw [hcond i hi]
    refine ⟨fun _ => trivial, fun hlt => ?_⟩
    have hv0 : vp_in (nI i) L := nIin (by omega) (by omega)
    have hv1 : vp_in (nI i + (1 : Int32)) L := by rw [show (1 : Int32) = nI 1 from rfl, nI_add]; exact nIin (by omega) (by omega)
    have hv2 : vp_in (nI i + (2 : Int32)) L := by rw [show (2 : Int32) = nI 2 from rfl, nI_add]; exact nIin (by omega) (by omega)
    have hv3 : vp_in (nI i + (3 : Int32)) L := by rw [show (3 : Int32) = nI 3 from rfl, nI_add]; exact nIin (by omega) (by omega)
    have hv4 : vp_in (nI i + (4 : Int32)) L := by rw [show (4 : Int32) = nI 4 from rfl, nI_add]; exact nIin (by omega) (by omega)
    have hv5 : vp_in (nI i + (5 : Int32)) L := by rw [show (5 : Int32) = nI 5 from rfl, nI_add]; exact nIin (by omega) (by omega)
    have go : ∀ (ux : BX6) (un ut : BX1) (up : BX5) (ua : BX0) (us : BX4) (uk : BX2) (rs : Nat → BX3) (ms : Nat → BX1) (m : BX7), RR ux un up ua uk rs ms m → wL_L_law_18 xs L (fun _ => True) (fun (_ : BX6) (_ : BX1) (_ : BX1) (_ : BX5) (_ : BX0) (_ : BX4) (_ : BX2) (_ : (Nat → BX3)) (_ : (Nat → BX1)) (_ : BX7) => True) (n + 1) (nI i + (6 : Int32)) ux un ut up ua us uk rs ms m := by
      intro ux un ut up ua us uk rs ms m h
      rw [show (6 : Int32) = nI 6 from rfl, nI_add]
      exact ih (i + 6) ux un ut up ua us uk rs ms m (by omega) (by omega) h
    refine ⟨hv0, fun x23 hx23 => ?_⟩
    clear hx23
    simp only [hv1, hv2, hv3, hv4, hv5, true_and]
    refine ⟨fun _ => op_row hR (fun _ _ _ _ h => ⟨fun _ => go _ _ _ _ _ _ _ _ _ _ h, fun q => absurd rfl q⟩), fun _ => ?_⟩
    refine ⟨fun _ => op_set hR (fun _ _ _ _ h => ⟨fun _ => go _ _ _ _ _ _ _ _ _ _ h, fun q => absurd rfl q⟩), fun _ => ?_⟩
    refine ⟨fun _ => op_copy hR (fun _ _ _ _ h => ⟨fun _ => go _ _ _ _ _ _ _ _ _ _ h, fun q => absurd rfl q⟩), fun _ => ?_⟩
    refine ⟨fun _ => op_drop hR (fun _ _ _ _ h => ⟨fun _ => go _ _ _ _ _ _ _ _ _ _ h, fun q => absurd rfl q⟩), fun _ => ?_⟩
    refine ⟨fun _ => op_feed hR (fun _ _ _ h => ⟨fun _ => go _ _ _ _ _ _ _ _ _ _ h, fun q => absurd rfl q⟩), fun _ => ?_⟩
    refine ⟨fun _ => op_agency hR (fun _ _ _ _ _ _ _ h => ⟨fun _ => go _ _ _ _ _ _ _ _ _ _ h, fun q => absurd rfl q⟩), fun _ => ?_⟩
    refine ⟨fun _ => op_fault hR (fun _ => ⟨fun _ => go _ _ _ _ _ _ _ _ _ _ hR, fun q => absurd rfl q⟩), fun _ => ?_⟩
    refine ⟨fun _ => op_nights hR (fun _ _ _ _ h => ⟨fun _ => go _ _ _ _ _ _ _ _ _ _ h, fun q => absurd rfl q⟩), fun _ => ?_⟩
    refine ⟨fun _ => op_let hR (fun _ _ _ _ h => ⟨fun _ => go _ _ _ _ _ _ _ _ _ _ h, fun q => absurd rfl q⟩), fun _ => ?_⟩
    refine ⟨fun _ => op_grow hR (fun _ _ _ _ h => ⟨fun _ => go _ _ _ _ _ _ _ _ _ _ h, fun q => absurd rfl q⟩), fun _ => ?_⟩
    refine ⟨fun _ => op_learn hR (fun _ _ _ _ h => ⟨fun _ => go _ _ _ _ _ _ _ _ _ _ h, fun q => absurd rfl q⟩), fun _ => ?_⟩
    refine ⟨fun _ => op_undo hR (fun _ _ _ _ h => ⟨fun _ => go _ _ _ _ _ _ _ _ _ _ h, fun q => absurd rfl q⟩), fun _ => ?_⟩
    refine ⟨fun _ => op_client hR (fun _ => ⟨fun _ => go _ _ _ _ _ _ _ _ _ _ hR, fun q => absurd rfl q⟩), fun _ => ?_⟩
    refine ⟨fun _ => op_waker hR (fun _ => ⟨fun _ => go _ _ _ _ _ _ _ _ _ _ hR, fun q => absurd rfl q⟩), fun _ => ?_⟩
    refine ⟨fun _ => op_weight hR (fun _ _ _ h => ⟨fun _ => go _ _ _ _ _ _ _ _ _ _ h, fun q => absurd rfl q⟩), fun _ => ?_⟩
    refine ⟨fun _ => op_earned hR (fun _ _ _ h => ⟨fun _ => go _ _ _ _ _ _ _ _ _ _ h, fun q => absurd rfl q⟩), fun _ => ?_⟩
    refine ⟨fun _ => op_rests hR (fun _ _ _ h => ⟨fun _ => go _ _ _ _ _ _ _ _ _ _ h, fun q => absurd rfl q⟩), fun _ => ?_⟩
    refine ⟨fun _ => op_when hR (fun _ _ _ h => ⟨fun _ => go _ _ _ _ _ _ _ _ _ _ h, fun q => absurd rfl q⟩), fun _ => ?_⟩
    refine ⟨fun _ => op_all hR (fun _ _ _ h => ⟨fun _ => go _ _ _ _ _ _ _ _ _ _ h, fun q => absurd rfl q⟩), fun _ => ?_⟩
    refine ⟨fun _ => op_never hR (fun _ _ _ h => ⟨fun _ => go _ _ _ _ _ _ _ _ _ _ h, fun q => absurd rfl q⟩), fun _ => ?_⟩
    refine ⟨fun _ => op_best hR (fun _ _ _ h => ⟨fun _ => go _ _ _ _ _ _ _ _ _ _ h, fun q => absurd rfl q⟩), fun _ => ?_⟩
    refine ⟨fun _ => op_fewest hR (fun _ _ _ h => ⟨fun _ => go _ _ _ _ _ _ _ _ _ _ h, fun q => absurd rfl q⟩), fun _ => ?_⟩
    refine ⟨fun _ => op_fits hR (fun _ _ _ _ h => ⟨fun _ => go _ _ _ _ _ _ _ _ _ _ h, fun q => absurd rfl q⟩), fun _ => ?_⟩
    refine ⟨fun _ => op_nods hR (fun _ _ _ h => ⟨fun _ => go _ _ _ _ _ _ _ _ _ _ h, fun q => absurd rfl q⟩), fun _ => ?_⟩
    refine ⟨fun _ => op_drawn hR (fun _ _ _ h => ⟨fun _ => go _ _ _ _ _ _ _ _ _ _ h, fun q => absurd rfl q⟩), fun _ => ?_⟩
    refine ⟨fun _ => op_image hR (fun _ _ _ h => ⟨fun _ => go _ _ _ _ _ _ _ _ _ _ h, fun q => absurd rfl q⟩), fun _ => ?_⟩
    refine ⟨fun _ => op_restore hR (fun _ _ _ _ h => ⟨fun _ => go _ _ _ _ _ _ _ _ _ _ h, fun q => absurd rfl q⟩), fun _ => ?_⟩
    refine ⟨fun _ => op_kind hR (fun _ => ⟨fun _ => go _ _ _ _ _ _ _ _ _ _ hR, fun q => absurd rfl q⟩), fun _ => ?_⟩
    refine ⟨fun _ => op_as hR (fun _ _ _ h => ⟨fun _ => go _ _ _ _ _ _ _ _ _ _ h, fun q => absurd rfl q⟩), fun _ => ?_⟩
    refine ⟨fun _ => op_ask hR (fun _ _ _ h => ⟨fun _ => go _ _ _ _ _ _ _ _ _ _ h, fun q => absurd rfl q⟩), fun _ => ?_⟩
    refine ⟨fun _ => op_trace hR (fun _ => ⟨fun _ => go _ _ _ _ _ _ _ _ _ _ hR, fun q => absurd rfl q⟩), fun _ => ?_⟩
    refine ⟨fun _ => op_count hR (fun _ => ⟨fun _ => go _ _ _ _ _ _ _ _ _ _ hR, fun q => absurd rfl q⟩), fun _ => ?_⟩
    refine ⟨fun _ => op_status hR (fun _ => ⟨fun _ => go _ _ _ _ _ _ _ _ _ _ hR, fun q => absurd rfl q⟩), fun _ => ?_⟩
    exact go _ _ _ _ _ _ _ _ _ _ hR
theorem law_pure {L : Nat} (hL : L ≤ 384) (xs : Nat → Int32) : ∃ n18, wL_L_law_18 xs L (fun _ => True) (fun (_ : BX6) (_ : BX1) (_ : BX1) (_ : BX5) (_ : BX0) (_ : BX4) (_ : BX2) (_ : (Nat → BX3)) (_ : (Nat → BX1)) (_ : BX7) => True) n18 (0 : Int32) ((0, 0) : BX6) zX1 zX1 zX5 zX0 zX4 zX2 (fun _ => zX3) (fun _ => zX1) zX7 :=
  ⟨65, law_step hL xs 64 0 _ _ _ _ _ _ _ _ _ _ (by omega) (by omega) rr_start⟩
