-- ===== end of PART A; then your names; then what follows =====
/-! THE CLAIM OUT OF ONE WALK OF THE LAW'S BODY. Your part is whole_start (and what it stands on); all else here is the same for every law, but numbers. -/
def R_law : String := "WakeLetLaw"
def lw_P (b : Addr) (xs : List Int32) (args : Array Value) (s : State) : Prop := args = #[.ref b] ∧ s.IntsAt b xs ∧ xs.length ≤ 384 ∧ (Jvm.Cond.and given_1 narrow_1).before args s = true
def lw_Q (_ : Array Value) (s : State) (o : Outcome) (t : State) : Prop := o = .returned (some (.int 1)) ∧ Framed s o t [] 600000 7302250
def lw_Z (below : List Frame) (a : Array Value) (s : State) : State → Prop := fun t => ∃ o, t.status = .running ∧ Ended t below o ∧ lw_Q a s o t
/-- the law's own end, with 1 on the stack, nothing written that was there before, its room as the claim has it -/
theorem lw_ret {p : Program} {l : Launch} {e : Env} {s : State} {m : MethodId} {below : List Frame} {meth : Method} {c : Code} {b : Nat} (hx : p.tables.exec = Jvm.exec) (hb : c.code = code) (hr : meth.sig.returnType = ret) (hlocks : meth.locks = false) {pc : Nat} {H : Heap} {ls : Array Slot} (hdg : decode code pc = .ok (.ireturn, 1)) : W p l e room_1 s m #[Value.ref b] below meth c H [] 600000 7302250 (lw_Z below #[Value.ref b] s) (F0 m pc ls [.int 1]) := by
  intro T hT X
  obtain ⟨fs, hret, hrun, hended, hW, hframe⟩ := X.leave (v := some (.int 1)) (hlocks := hlocks) (fun h => by rw [hr] at h; cases h)
  have hmeth' : T.vm.method? m = some meth := X.method'
  refine ⟨T.setFrames fs, ?_, .returned (some (.int 1)), hrun, hended, rfl, ⟨_, rfl⟩, hW, hframe⟩
  jvm_step X.here [X.here.top, hx, hb, hdg, hmeth', hr, ret, narrow_b1]
  (try refine ⟨rfl, ?_⟩); (try refine ⟨rfl, ?_⟩)
  first | (intro acts; rw [hret _ acts rfl rfl rfl]) | rw [hret _ _ rfl rfl rfl]
  exact Steps.refl _
/-- what holds at the law's entry: the machine, the code, the tables' words (any of lw_tbl by 'hts w (by decide +kernel)'), the script of L ints xs at the cell b, what the Statement gives of the start (any of its parts by flat_of_before) -/
def lw_At (p : Program) (s : State) (m : MethodId) (meth : Method) (c : Code) (b L : Nat) (xs : Nat → Int32) : Prop :=
  p.tables.exec = Jvm.exec ∧ c.code = code ∧ meth.sig.returnType = ret ∧ c.maxLocals = 4 ∧ s.vm.findClass R_law = some m.cls ∧ (∀ w ∈ lw_tbl, w.before #[Value.ref b] s = true) ∧ va_X b L xs s s.heap ∧ b < s.heap.size ∧ meth.locks = false ∧ (Jvm.Cond.and given_1 narrow_1).before #[Value.ref b] s = true
/-! blocks of cells in another order -/
theorem va_P.mem {D : va_G} {cl : List vw_C} {ws : va_W} {H : Heap} : va_P D cl ws H ↔ ∀ q ∈ ws, va_at D cl q H := by
  constructor
  · intro h q hq
    obtain ⟨i, hi⟩ := List.getElem?_of_mem hq
    exact h i q hi
  · intro h k q hk
    exact h q (List.mem_of_getElem? hk)
theorem va_D.pw {A : Nat → Prop} {ws : va_W} : va_D A ws ↔ ws.Pairwise (fun p q => p.1 ≠ q.1) ∧ ∀ q ∈ ws, A q.1 := by
  constructor
  · intro h
    refine ⟨List.pairwise_iff_getElem.mpr (fun i j hi hj hij e => ?_), fun q hq => ?_⟩
    · have := h.1 i j _ _ (List.getElem?_eq_getElem hi) (List.getElem?_eq_getElem hj) e
      omega
    · obtain ⟨i, hi⟩ := List.getElem?_of_mem hq
      exact h.2 i q hi
  · intro h
    refine ⟨fun i j p q hi hj e => ?_, fun k q hk => h.2 q (List.mem_of_getElem? hk)⟩
    have hp := List.pairwise_iff_getElem.mp h.1
    obtain ⟨hi', rfl⟩ := List.getElem?_eq_some_iff.mp hi
    obtain ⟨hj', rfl⟩ := List.getElem?_eq_some_iff.mp hj
    rcases Nat.lt_trichotomy i j with c | c | c
    · exact absurd e (hp i j hi' hj' c)
    · exact c
    · exact absurd e.symm (hp j i hj' hi' c)
theorem HH.mix {F : FX} {D : va_G} {A : Nat → Prop} {ws ws' : va_W} {H : Heap} {locs : List Loc} (h : HH F D A ws H locs) (p : ws.Perm ws') : HH F D A ws' H locs :=
  ⟨va_P.mem.mpr (fun q hq => va_P.mem.mp h.1 q (p.mem_iff.mpr hq)), va_D.pw.mpr ⟨p.pairwise (va_D.pw.mp h.2.1).1 (fun e => Ne.symm e), fun q hq => (va_D.pw.mp h.2.1).2 q (p.mem_iff.mpr hq)⟩, h.2.2⟩
theorem nd_of_nodup : ∀ (l : List Nat), l.Nodup → va_nd l = true
  | [], _ => rfl
  | x :: t, h => by
    rw [List.nodup_cons] at h
    simp only [va_nd, Bool.and_eq_true, decide_eq_true_eq]
    exact ⟨h.1, nd_of_nodup t h.2⟩
theorem cut_app {wr wc : va_W} : Cut (wr ++ wc) wc wr ((List.range wc.length).map (fun i => wr.length + i)) (List.range wr.length) := by
  refine ⟨?_, ?_, ?_, nd_of_nodup _ List.nodup_range, ?_⟩
  · apply List.ext_getElem?
    intro i
    by_cases h : i < wc.length
    · simp [h]
    · simp [h]
  · apply List.ext_getElem?
    intro i
    by_cases h : i < wr.length
    · simp [h, List.getElem?_append_left h]
    · simp [h]
  · refine nd_of_nodup _ (List.pairwise_map.mpr (List.Pairwise.imp (fun h e => h (by omega)) List.nodup_range))
  · intro i hi h
    simp at hi h
    obtain ⟨j, _, rfl⟩ := h
    omega
theorem pm0 {b : va_W} : b.Perm ([] ++ b) := List.Perm.refl _
theorem pme {A R b : va_W} (h : A.Perm R) : (A ++ b).Perm (R ++ b) := List.Perm.append_right b h
theorem pmC {A R C b : va_W} (h : A.Perm (R ++ C)) : (A ++ b).Perm (R ++ (C ++ b)) := by
  rw [← List.append_assoc]
  exact List.Perm.append_right b h
theorem pmR {A R C b : va_W} (h : A.Perm (R ++ C)) : (A ++ b).Perm ((R ++ b) ++ C) := by
  refine (List.Perm.append_right b h).trans ?_
  rw [List.append_assoc, List.append_assoc]
  exact List.Perm.append_left R List.perm_append_comm
/-! what the law's walk needs -/
def LW (F : FX) (b : Nat) (A : Nat → Prop) : Prop := F.2.2.2.1 = room_1 ∧ F.2.2.2.2.2.2.1 = #[Value.ref b] ∧ F.2.2.2.2.2.2.2.2.1.sig.returnType = ret ∧ F.2.2.2.2.2.2.2.2.1.locks = false ∧ A = (fun q : Nat => (fxS F).heap.size ≤ q) ∧ F.2.2.2.2.2.2.2.2.2.2.1 ≤ 600000 ∧ F.2.2.2.2.2.2.2.2.2.2.2 ≤ 7302250
/-- the script -/
def SX (F : FX) (A : Nat → Prop) (b L : Nat) (xs : Nat → Int32) : Prop := va_X b L xs (fxS F) (fxS F).heap ∧ b < (fxS F).heap.size ∧ ¬ A b
section VL
variable {F : FX} {Q : State → Prop} {H : Heap} {locs : List Loc} {pc : Nat} {ls : Array Slot} {rest : List Value} {cc : ByteArray} {nL : Nat} {own : String} {D : va_G} {tys : List (ClassId × FieldType)} {A : Nat → Prop} {ws : va_W} {b L : Nat} {xs : Nat → Int32}
theorem v_sld (X : Cx F cc nL own D tys) (hX : SX F A b L xs) (hS : va_S A (fxS F).heap H locs) {i : Int32} (hin : vp_in i L) (d : decode cc pc = .ok (.iaload, 1)) (kk : V F Q H locs (pc + 1) ls (.int (xs i.toNatClampNeg) :: rest)) : V F Q H locs pc ls (.int i :: .ref b :: rest) := va_sld X.1.1 X.1.2.1 hX.1 hX.2.1 hX.2.2 hS hin d kk
theorem v_slen (X : Cx F cc nL own D tys) (hX : SX F A b L xs) (hS : va_S A (fxS F).heap H locs) (d : decode cc pc = .ok (.arraylength, 1)) (kk : V F Q H locs (pc + 1) ls (.int (Int32.ofNat L) :: rest)) : V F Q H locs pc ls (.ref b :: rest) := va_slen X.1.1 X.1.2.1 hX.1 hX.2.1 hX.2.2 hS d kk
theorem law_end (hLW : LW F b A) (X : Cx F cL_law nL own D tys) (hH : HH F D A ws H locs) (d : decode cL_law pc = .ok (.ireturn, 1)) : V F (lw_Z F.2.2.2.2.2.2.2.1 #[Value.ref b] (fxS F)) H locs pc ls [.int 1] := by
  obtain ⟨p, l, e, R, s, m, args, below, meth, c, cells, slots⟩ := F
  obtain ⟨h1, h2, h3, h4, h5, h6, h7⟩ := hLW
  dsimp only at h1 h2 h3 h4 h5 h6 h7
  subst h1 h2 h5
  refine va_forget (fun q hq => hH.2.2.2.2 q hq) ?_
  refine W.widen (k := 600000) (n := 7302250) h6 h7 ?_
  exact lw_ret X.1.1 X.1.2.1 h3 h4 d
end VL
