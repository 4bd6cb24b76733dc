/-! rows that make cells; constructors -/
abbrev fxSet (F : FX) (a b : Nat) : FX := (F.1, F.2.1, F.2.2.1, F.2.2.2.1, F.2.2.2.2.1, F.2.2.2.2.2.1, F.2.2.2.2.2.2.1, F.2.2.2.2.2.2.2.1, F.2.2.2.2.2.2.2.2.1, F.2.2.2.2.2.2.2.2.2.1, a, b)
/-- F is G with a cells and b slots made -/
def FA (F G : FX) (rm : Room) (a b : Nat) : Prop := F = fxSet G a b ∧ G.2.2.2.1 = rm
theorem cellq_congr {cA : ClassId} {n : Nat} {f g : Nat → Option Nat} (h : ∀ j, j < n → f j = g j) : vp_cell cA (n, .inr (.inr (.inr (.inr f)))) = vp_cell cA (n, .inr (.inr (.inr (.inr g)))) := by
  show arrV cA n (fun j => va_rf (f j)) = arrV cA n (fun j => va_rf (g j))
  unfold arrV
  congr 1
  apply Array.ext
  · simp
  · intro i h1 h2
    simp at h1
    simp [h i h1]
theorem va_K.one {D : va_G} {cl : List vw_C} {tys : List (ClassId × FieldType)} {U : State} (h : va_K D cl tys U) (i j : Nat) {c1 c2 : ClassId} {ty : FieldType} (hi : tys[i]? = some (c1, ty)) (hj : tys[j]? = some (c2, ty)) : c2 = c1 := by
  have h1 := (h.2 i _ hi).2
  have h2 := (h.2 j _ hj).2
  cases ty with
  | object C =>
    obtain ⟨_, _, _, _, _, e1⟩ := h1
    obtain ⟨_, _, _, _, _, e2⟩ := h2
    exact Option.some.inj (e2.symm.trans e1)
  | _ => exact Option.some.inj (h2.symm.trans h1)
theorem get_mid {w1 w2 : va_W} {x : Nat × va_E} : (w1 ++ (x :: w2))[w1.length]? = some x := by simp
section VM
variable {F G : FX} {Q : State → Prop} {H : Heap} {locs : List Loc} {pc : Nat} {ls : Array Slot} {rest st : List Value} {cc : ByteArray} {nL : Nat} {own : String} {D : va_G} {K : Nat → ClassId} {A : Nat → Prop} {ws wr : va_W} {a a0 b0 : Nat} {rm : Room}
theorem HH.cell {p : Nat} {cA : ClassId} {x x' : vp_A} (h : HH F D A ws H locs) (hp : ws[p]? = some (a, .inl (cA, x))) (he : vp_cell cA x = vp_cell cA x') : HH F D A (ws.set p (a, .inl (cA, x'))) H locs := by
  refine ⟨h.1.set h.2.1 hp ?_ (fun _ _ => rfl), h.2.1.set hp, h.2.2⟩
  have h1 := h.1 p _ hp
  show H[a]? = some (vp_cell cA x')
  rw [← he]
  exact h1
theorem v_newI (X : Cx F cc nL own D (TY K)) (hF : FA F G rm a0 b0) (hH : HH F D A ws H locs) (hA : ∀ q : Nat, (fxS F).heap.size ≤ q → A q) {n : Int32} {N : Nat} (hn : ¬ n < 0) (hN : n.toNatClampNeg = N) (hb : N * componentBytes .int ≤ 536870912) (h1 : a0 + 1 ≤ rm.cells) (h2 : b0 + N ≤ rm.slots) (d : decode cc pc = .ok (.newarray .int, 2))
    (kk : ∀ (F1 : FX) (q : Nat) (H1 : Heap), FA F1 G rm (a0 + 1) (b0 + N) → Cx F1 cc nL own D (TY K) → HH F1 D A (ws ++ [(q, .inl (K 0, N, .inl (fun _ => 0)))]) H1 locs → (∀ q : Nat, (fxS F1).heap.size ≤ q → A q) → V F1 Q H1 locs (pc + 2) ls (.ref q :: rest)) : V F Q H locs pc ls (.int n :: rest) := by
  obtain ⟨rfl, rfl⟩ := hF
  refine va_newa (atype := .int) (a0 := (N, .inl (fun _ => 0))) X.1.1 X.1.2.1 (X.1.2.2.2.2 _ gk_1_100) rfl X.2 hH.1 hH.2.1 hH.2.2 hA (fun _ => rfl) hn hN hb h1 h2 d (fun q cA H1 hK hP hD hS => ?_)
  obtain rfl : cA = K 0 := hK.one 0 4 rfl rfl
  exact kk (fxSet G (a0 + 1) (b0 + N)) q H1 ⟨rfl, rfl⟩ X ⟨hP, hD, hS⟩ hA
theorem v_newZ (X : Cx F cc nL own D (TY K)) (hF : FA F G rm a0 b0) (hH : HH F D A ws H locs) (hA : ∀ q : Nat, (fxS F).heap.size ≤ q → A q) {n : Int32} {N : Nat} (hn : ¬ n < 0) (hN : n.toNatClampNeg = N) (hb : N * componentBytes .boolean ≤ 536870912) (h1 : a0 + 1 ≤ rm.cells) (h2 : b0 + N ≤ rm.slots) (d : decode cc pc = .ok (.newarray .boolean, 2))
    (kk : ∀ (F1 : FX) (q : Nat) (H1 : Heap), FA F1 G rm (a0 + 1) (b0 + N) → Cx F1 cc nL own D (TY K) → HH F1 D A (ws ++ [(q, .inl (K 1, N, .inl (fun _ => 0)))]) H1 locs → (∀ q : Nat, (fxS F1).heap.size ≤ q → A q) → V F1 Q H1 locs (pc + 2) ls (.ref q :: rest)) : V F Q H locs pc ls (.int n :: rest) := by
  obtain ⟨rfl, rfl⟩ := hF
  refine va_newa (atype := .boolean) (a0 := (N, .inl (fun _ => 0))) X.1.1 X.1.2.1 (X.1.2.2.2.2 _ gk_4_24) rfl X.2 hH.1 hH.2.1 hH.2.2 hA (fun _ => rfl) hn hN hb h1 h2 d (fun q cA H1 hK hP hD hS => ?_)
  obtain rfl : cA = K 1 := hK.one 1 4 rfl rfl
  exact kk (fxSet G (a0 + 1) (b0 + N)) q H1 ⟨rfl, rfl⟩ X ⟨hP, hD, hS⟩ hA
theorem v_newQ (X : Cx F cc nL own D (TY K)) (hF : FA F G rm a0 b0) (hH : HH F D A ws H locs) (hA : ∀ q : Nat, (fxS F).heap.size ≤ q → A q) {n : Int32} {N index : Nat} {C : String} (t0 : Nat) {c0 : ClassId} (ht : (TY K)[t0]? = some (c0, .object C)) (kc : Cond.classLink own index C ∈ gw) (ho : va_AO C (fxS F)) (hn : ¬ n < 0) (hN : n.toNatClampNeg = N) (hb : N * 4 ≤ 536870912) (h1 : a0 + 1 ≤ rm.cells) (h2 : b0 + N ≤ rm.slots) (d : decode cc pc = .ok (.anewarray index, 3))
    (kk : ∀ (F1 : FX) (q : Nat) (H1 : Heap), FA F1 G rm (a0 + 1) (b0 + N) → Cx F1 cc nL own D (TY K) → HH F1 D A (ws ++ [(q, .inl (c0, N, .inr (.inr (.inr (.inr (fun _ => none))))))]) H1 locs → (∀ q : Nat, (fxS F1).heap.size ≤ q → A q) → fxS F1 = fxS F → V F1 Q H1 locs (pc + 3) ls (.ref q :: rest)) : V F Q H locs pc ls (.int n :: rest) := by
  obtain ⟨rfl, rfl⟩ := hF
  refine va_newq X.1.1 X.1.2.1 X.1.2.2.2.1 (X.1.2.2.2.2 _ kc) ho X.2 hH.1 hH.2.1 hH.2.2 hA hn hN hb h1 h2 d (fun q cA H1 hK hP hD hS => ?_)
  obtain rfl : cA = c0 := hK.one t0 4 (by rw [List.getElem?_append_left (List.getElem?_eq_some_iff.mp ht).1]; exact ht) rfl
  exact kk (fxSet G (a0 + 1) (b0 + N)) q H1 ⟨rfl, rfl⟩ X ⟨hP, hD, hS⟩ hA rfl
/-- a class that can be made -/
def NK (own : String) (index ci N : Nat) (fs : List Value) : Prop := ∃ (C : String) (T : u_T) (ty : Nat → FieldType), vwCl[ci]? = some (C, T, N) ∧ (∀ w ∈ u_ws C T N, w ∈ gw) ∧ (∀ k, k < N → parseFieldDescriptor (T k).2.2.1 = some (ty k)) ∧ (∀ j, j < N → defaultValue (ty j) = vp_V fs j) ∧ Cond.classLink own index C ∈ gw ∧ Cond.instantiable C N ∈ gw ∧ Cond.initialized C ∈ gw
theorem v_new (X : Cx F cc nL own D (TY K)) (hF : FA F G rm a0 b0) (hH : HH F D A ws H locs) (hA : ∀ q : Nat, (fxS F).heap.size ≤ q → A q) {index ci N : Nat} {fs : List Value} (nk : NK own index ci N fs) (h1 : a0 + 1 ≤ rm.cells) (h2 : b0 + N ≤ rm.slots) (d : decode cc pc = .ok (.new index, 3))
    (kk : ∀ (F1 : FX) (q : Nat) (H1 : Heap), FA F1 G rm (a0 + 1) (b0 + N) → Cx F1 cc nL own D (TY K) → HH F1 D A (ws ++ [(q, .inr (ci, fs))]) H1 locs → (∀ q : Nat, (fxS F1).heap.size ≤ q → A q) → fxS F1 = fxS F → V F1 Q H1 locs (pc + 3) ls (.ref q :: rest)) : V F Q H locs pc ls rest := by
  obtain ⟨rfl, rfl⟩ := hF
  obtain ⟨C, T, ty, k1, k2, k3, k4, k5, k6, k7⟩ := nk
  exact va_new X.1.1 X.1.2.1 X.1.2.2.2.2 k2 ty k3 X.1.2.2.2.1 (X.1.2.2.2.2 _ k5) (X.1.2.2.2.2 _ k6) (X.1.2.2.2.2 _ k7) X.2 hH.1 hH.2.1 hH.2.2 hA k1 k4 h1 h2 d (fun q H1 hP hD hS => kk (fxSet G (a0 + 1) (b0 + N)) q H1 ⟨rfl, rfl⟩ X ⟨hP, hD, hS⟩ hA rfl)
/-- a final reference field -/
def FF (own : String) (index ci k : Nat) (ty : FieldType) : Prop := ∃ (C : String) (T : u_T) (N : Nat) (ty0 : Nat → FieldType), vwCl[ci]? = some (C, T, N) ∧ (∀ w ∈ u_ws C T N, w ∈ gw) ∧ k < N ∧ Cond.fieldLink own index (T k).1 (T k).2.1 (T k).2.2.1 ∈ gw ∧ (∀ k, k < N → parseFieldDescriptor (T k).2.2.1 = some (ty0 k)) ∧ (∀ a, a < N → ∀ b, b < N → a ≠ b → (T a).2.1 ≠ (T b).2.1) ∧ (T k).2.2.2 = true ∧ (T k).1 = own ∧ parseFieldDescriptor (T k).2.2.1 = some ty
theorem v_putF (X : Cx F cc nL own D (TY K)) (hin : F.2.2.2.2.2.2.2.2.1.name = "<init>") (hH : HH F D A ws H locs) (q0 : Nat) {ci k index v : Nat} {ty : FieldType} {fs : List Value} (he : ws[q0]? = some (a, .inr (ci, fs))) (fk : FF own index ci k ty) (hn : narrow ty (.ref v) = .ref v) (hf : fits ty (.ref v) = true) (hl : k < fs.length) (d : decode cc pc = .ok (.putfield index, 3)) (kk : ∀ (H1 : Heap) (locs1 : List Loc), HH F D A (ws.set q0 (a, .inr (ci, fs.set k (.ref v)))) H1 locs1 → V F Q H1 locs1 (pc + 3) ls rest) : V F Q H locs pc ls (.ref v :: .ref a :: rest) := by
  obtain ⟨C, T, N, ty0, h1, h2, h3, h4, h5, h6, h7, h8, h9⟩ := fk
  exact va_putF X.1.1 X.1.2.1 X.1.2.2.2.2 h2 ty0 h5 h6 X.1.2.2.2.1 X.2 hH.1 hH.2.1 hH.2.2 q0 he h1 k h3 (X.1.2.2.2.2 _ h4) (fun _ h9 => h9) h7 hin h8 h9 hn hf hl d (fun H1 locs1 p1 p2 p3 => kk H1 locs1 ⟨p1, p2, p3⟩)
theorem v_aast (X : Cx F cc nL own D (TY K)) (hH : HH F D A ws H locs) (q0 t0 qk ci : Nat) {cA : ClassId} {r : vw_C} {n v : Nat} {vs : List Value} {f : Nat → Option Nat} (ha : ws[q0]? = some (a, .inl (cA, n, .inr (.inr (.inr (.inr f)))))) (ht : (TY K)[t0]? = some (cA, .object r.1)) (hv : ws[qk]? = some (v, .inr (ci, vs))) (hc : vwCl[ci]? = some r) {i : Int32} (hin : vp_in i n) (d : decode cc pc = .ok (.aastore, 1))
    (kk : ∀ (H1 : Heap) (locs1 : List Loc), HH F D A (ws.set q0 (a, .inl (cA, n, .inr (.inr (.inr (.inr (va_up f i.toNatClampNeg (some v)))))))) H1 locs1 → V F Q H1 locs1 (pc + 1) ls rest) : V F Q H locs pc ls (.ref v :: .int i :: .ref a :: rest) :=
  va_astq X.1.1 X.1.2.1 X.2 hH.1 hH.2.1 hH.2.2 q0 t0 qk ci ha ht hv hc hin d (fun H1 locs1 p1 p2 p3 => kk H1 locs1 ⟨p1, p2, p3⟩)
/-- Object's constructor -/
def KO (own : String) (index : Nat) : Prop := Cond.methodLink own index objectInit ∈ gw
theorem v_objI (X : Cx F cc nL own D (TY K)) (hl : ls.size = nL) {index : Nat} (ko : KO own index) (hr : F.2.2.2.1 = rm) (hR : 1 ≤ rm.frames ∧ (rest.map fun v => v.category).sum + 12 ≤ rm.locals) (d : decode cc pc = .ok (.invokespecial index, 3)) (kk : V F Q H locs (pc + 3) ls rest) : V F Q H locs pc ls (.ref a :: rest) := by
  refine W.objInit X.1.1 X.1.2.1 X.1.2.2.2.1 (X.1.2.2.2.2 _ ko) (X.1.2.2.2.2 _ gk_1_18) (X.1.2.2.2.2 _ gk_1_19) rfl (hl.trans X.1.2.2.1.symm) rfl d (by first | (rw [hr]; exact hR.1) | (rw [show fxR F = rm from hr]; exact hR.1)) ?_ kk
  have h2 := hR.2
  show 2 * 0 + (rest.map fun v => v.category).sum + 12 ≤ F.2.2.2.1.locals
  rw [hr]
  omega
/-- a constructor's contract: the cell q becomes the world w1 u -/
def CtM {S : Type} (l : Launch) (y : MethodName) (b : ByteArray) (n : Nat) (rm : Room) (D : va_G) (K : Nat → ClassId) (q ci : Nat) (fs : List Value) (ex : State → Prop) (w1 : S → va_W) (pst : S → Prop) : Prop :=
  ∀ sz : Nat, Met l y (Cond.code y b n none :: gw) rm (va_Pc [.ref q] (fun U => U.heap.size = sz ∧ va_P D vwCl [(q, .inr (ci, fs))] U.heap ∧ va_K D vwCl (TY K) U ∧ va_D (fun _ => True) [(q, .inr (ci, fs))] ∧ ex U)) (va_Qv pst (fun u t => va_P D vwCl (w1 u) t.heap ∧ va_K D vwCl (TY K) t ∧ va_D (va_A [(q, .inr (ci, fs))] sz) (w1 u)) (va_A [(q, .inr (ci, fs))] sz)) rm.cells rm.slots (va_A [(q, .inr (ci, fs))] sz)
def CQ {S : Type} (G : FX) (D : va_G) (K : Nat → ClassId) (A : Nat → Prop) (w1 : S → va_W) (pst : S → Prop) : State → Prop := MQ G.2.2.2.2.2.2.2.1 (va_Qv pst (fun u t => va_P D vwCl (w1 u) t.heap ∧ va_K D vwCl (TY K) t ∧ va_D A (w1 u)) A) G.2.2.2.2.2.2.1 G.2.2.2.2.1 G.2.2.2.1.cells G.2.2.2.1.slots A
theorem CtM.mk {S : Type} {l : Launch} {y : MethodName} {b : ByteArray} {n q ci : Nat} {fs : List Value} {ex : State → Prop} {w1 : S → va_W} {pst : S → Prop} (hy : plainName y.cls = true) (hy2 : y.name = "<init>") (hn : 1 ≤ n)
    (body : ∀ (G : FX) (ls : Array Slot) (A : Nat → Prop), G.2.1 = l → FA G G rm 0 0 → G.2.2.2.2.2.2.2.2.1.name = "<init>" → G.2.2.2.2.2.2.2.2.1.sig.returnType = none → G.2.2.2.2.2.2.2.2.1.locks = false → Cx G b n y.cls D (TY K) → HH G D A [(q, .inr (ci, fs))] (fxS G).heap [] → (∀ q : Nat, (fxS G).heap.size ≤ q → A q) → lv_has ls n [(0, .ref q)] → ex (fxS G) → V G (CQ G D K A w1 pst) (fxS G).heap [] 0 ls []) : CtM l y b n rm D K q ci fs ex w1 pst := by
  intro sz
  refine Met.ofW (cc := b) (maxL := n) (ret := none) hy rfl ?_
  intro p e s m args below meth c s₁ B hml hv
  obtain ⟨rfl, hsz, hP, hK, hD0, hE⟩ := hv
  rw [lg_entry_eq]
  have hts := atoms_spec (ws := Cond.code y b n none :: gw) B.pre
  have hnm := (name_of_methodNamed B.named B.method).1
  rw [hy2] at hnm
  subst hsz
  exact body (p, l, e, rm, s, m, ([.ref q] : List Value).toArray, below, meth, c, 0, 0) _ (va_A [(q, .inr (ci, fs))] s.heap.size) rfl ⟨rfl, rfl⟩ hnm B.returns B.notSynchronized ⟨⟨B.exec, B.bytes, hml, findClass_of_methodNamed B.named, fun w h => hts w (List.mem_cons_of_mem _ h)⟩, hK⟩ ⟨hP, hD0.self, va_S.rf⟩ (fun q h => Or.inr h) (lv_entry [.ref q] hn) hE
theorem v_cret {S : Type} {w1 : S → va_W} {pst : S → Prop} (X : Cx F cc nL own D (TY K)) (hF : FA F G rm a0 b0) (hr : G.2.2.2.2.2.2.2.2.1.sig.returnType = none) (hk : G.2.2.2.2.2.2.2.2.1.locks = false) (u : S) (hH : HH F D A (w1 u) H locs) (h : pst u) (h1 : a0 ≤ rm.cells) (h2 : b0 ≤ rm.slots) (d : decode cc pc = .ok (.return_, 1)) : V F (CQ G D K A w1 pst) H locs pc ls [] := by
  obtain ⟨rfl, rfl⟩ := hF
  refine W.widen (k := G.2.2.2.1.cells) (n := G.2.2.2.1.slots) h1 h2 ?_
  exact W.vret X.1.1 X.1.2.1 hr (fun t ht hW => ⟨⟨u, rfl, h, by rw [ht]; exact hH.1, va_K.moved hW.alike X.2, hH.2.1⟩, hH.2.2.F ht⟩) hH.2.2.2.2 d (hlocks := hk)
variable {y : MethodName} {b : ByteArray} {n np idx : Nat} {rm' : Room} {ci q : Nat} {fs : List Value} {ex : State → Prop}
/-- the callee's room, its cells and slots, within the caller's -/
def RmC (rm' rm : Room) (n a0 b0 : Nat) : Prop := rm'.frames + 1 ≤ rm.frames ∧ 8 + (n + 11) + rm'.locals ≤ rm.locals ∧ a0 + rm'.cells ≤ rm.cells ∧ b0 + rm'.slots ≤ rm.slots
theorem ctor_cut {q ci : Nat} {fs : List Value} : Cut (wr ++ [(q, .inr (ci, fs))]) [(q, .inr (ci, fs))] wr [wr.length] (List.range wr.length) := by
  refine ⟨?_, ?_, rfl, ?_, ?_⟩
  · simp
  · apply List.ext_getElem?
    intro i
    by_cases h : i < wr.length
    · simp [h, List.getElem?_append_left h]
    · simp [h]
  · have : ∀ (l : List Nat), l.Nodup → va_nd l = true := by
      intro l
      induction l with
      | nil => intro _; rfl
      | cons x t ih =>
        intro h
        rw [List.nodup_cons] at h
        simp only [va_nd, Bool.and_eq_true, decide_eq_true_eq]
        exact ⟨h.1, ih h.2⟩
    exact this _ List.nodup_range
  · intro i hi h
    simp at hi h
    omega
theorem v_ctorN {S : Type} {w1 : S → va_W} {pst : S → Prop} {host : String} (X : Cx F cc nL own D (TY K)) (hF : FA F G rm a0 b0) (hw : va_Nw (.methodLinkNest own idx y host) (fxS F)) (mk : Cond.initialized y.cls ∈ gw ∧ Cond.code y b n none ∈ gw ∧ Cond.instanceMethod y ∈ gw) (hd : y.cls ≠ "java/lang/invoke/MethodHandle" ∧ y.cls ≠ "java/lang/invoke/VarHandle" ∧ (parseMethodDescriptor y.desc).map (fun d => d.parameters.length) = some 0) (hy : y.name = "<init>") (hM : CtM F.2.1 y b n rm' D K q ci fs (fun _ => True) w1 pst) (hR : RmC rm' rm n a0 b0) (hA : ∀ q : Nat, (fxS F).heap.size ≤ q → A q) (hH : HH F D A (wr ++ [(q, .inr (ci, fs))]) H locs) (hl : ls.size = nL) (hW : (rest.map fun v => v.category).sum ≤ 8) (d : decode cc pc = .ok (.invokespecial idx, 3)) (kk : ∀ (F1 : FX) (u : S) (H1 : Heap) (locs1 : List Loc), FA F1 G rm (a0 + rm'.cells) (b0 + rm'.slots) → Cx F1 cc nL own D (TY K) → pst u → HH F1 D A (wr ++ w1 u) H1 locs1 → (∀ q : Nat, (fxS F1).heap.size ≤ q → A q) → fxS F1 = fxS F → V F1 Q H1 locs1 (pc + 3) ls rest) : V F Q H locs pc ls (.ref q :: rest) := by
  obtain ⟨rfl, rfl⟩ := hF
  have hC := ctor_cut (wr := wr) (q := q) (ci := ci) (fs := fs)
  have hFc := va_free (wc := [(q, .inr (ci, fs))]) hH.2.1 hH.2.2 hA _ hC.1
  have hDc := hH.2.1.sub (ws' := [(q, .inr (ci, fs))]) _ hC.2.2.1 hC.1
  refine va_callv (va_runIN (As := []) (rest := rest) X.1 (hM H.size) ⟨va_cnB 0 X.1.2.2.2.2 (gw_ok mk.2.1) rfl rfl rfl hw (X.1.2.2.2.2 _ mk.1) hd ⟨hR.1, hR.2.1⟩, hy, X.1.2.2.2.2 _ mk.2.2⟩ ⟨fun a U g mk q => ⟨q.1, q.2.1, q.2.2.1, va_K.moved (u := U) (U := U.calling g mk a) (Vm.Alike.refl U.vm) q.2.2.2.1, q.2.2.2.2.1, trivial⟩, fun U hU hW => ⟨rfl, by rw [hU], by rw [hU]; exact hH.1.sub _ hC.sub, va_K.moved hW.alike X.2, hDc.weaken (fun _ _ _ _ => trivial), trivial⟩⟩ rfl rfl hl rfl (lv_room hW) d ⟨hR.2.2.1, hR.2.2.2⟩) hH.2.2 (fun q _ h => hFc q h) hFc (fun u t H1 locs1 ht hvm hw hB hz1 hk1 hS => ?_)
  obtain ⟨hP1, hK1, hD1⟩ := hB
  rw [ht] at hP1
  obtain ⟨hP, hD⟩ := va_join (wr := wr) (w1 := w1 u) hH.1 hH.2.1 _ _ hC.1 hC.2.1 hC.2.2.2.1 hC.2.2.2.2 hk1 hFc hP1 hD1
  exact kk (fxSet G (a0 + rm'.cells) (b0 + rm'.slots)) u H1 locs1 ⟨rfl, rfl⟩ X hw ⟨hP, hD, hS⟩ hA rfl
theorem v_ctorP {S : Type} {w1 : S → va_W} {pst : S → Prop} (X : Cx F cc nL own D (TY K)) (hF : FA F G rm a0 b0) (mk : MKb own idx y b n none 0 ∧ Cond.instanceMethod y ∈ gw) (hy : y.name = "<init>") (hM : CtM F.2.1 y b n rm' D K q ci fs ex w1 pst) (hex : ∀ U : State, (fxS F).WarmedH U.vm → ex U) (hexb : ∀ (U : State) (g : JFrame) (mk : MethodId) (a : Array Value), ex U → ex (U.calling g mk a)) (hR : RmC rm' rm n a0 b0) (hA : ∀ q : Nat, (fxS F).heap.size ≤ q → A q) (hH : HH F D A (wr ++ [(q, .inr (ci, fs))]) H locs) (hl : ls.size = nL) (hW : (rest.map fun v => v.category).sum ≤ 8) (d : decode cc pc = .ok (.invokespecial idx, 3)) (kk : ∀ (F1 : FX) (u : S) (H1 : Heap) (locs1 : List Loc), FA F1 G rm (a0 + rm'.cells) (b0 + rm'.slots) → Cx F1 cc nL own D (TY K) → pst u → HH F1 D A (wr ++ w1 u) H1 locs1 → (∀ q : Nat, (fxS F1).heap.size ≤ q → A q) → fxS F1 = fxS F → V F1 Q H1 locs1 (pc + 3) ls rest) : V F Q H locs pc ls (.ref q :: rest) := by
  obtain ⟨rfl, rfl⟩ := hF
  have hC := ctor_cut (wr := wr) (q := q) (ci := ci) (fs := fs)
  have hFc := va_free (wc := [(q, .inr (ci, fs))]) hH.2.1 hH.2.2 hA _ hC.1
  have hDc := hH.2.1.sub (ws' := [(q, .inr (ci, fs))]) _ hC.2.2.1 hC.1
  refine va_callv (va_runI (As := []) (rest := rest) X.1 (hM H.size) ⟨callB_of 0 X.1.2.2.2.2 (gw_ok mk.1.2.2.1) rfl rfl rfl (X.1.2.2.2.2 _ mk.1.2.1) (X.1.2.2.2.2 _ mk.1.1) mk.1.2.2.2 ⟨hR.1, hR.2.1⟩, hy, X.1.2.2.2.2 _ mk.2⟩ ⟨fun a U g mk q => ⟨q.1, q.2.1, q.2.2.1, va_K.moved (u := U) (U := U.calling g mk a) (Vm.Alike.refl U.vm) q.2.2.2.1, q.2.2.2.2.1, hexb U g mk a q.2.2.2.2.2⟩, fun U hU hW => ⟨rfl, by rw [hU], by rw [hU]; exact hH.1.sub _ hC.sub, va_K.moved hW.alike X.2, hDc.weaken (fun _ _ _ _ => trivial), hex U hW⟩⟩ rfl rfl hl rfl (lv_room hW) d ⟨hR.2.2.1, hR.2.2.2⟩) hH.2.2 (fun q _ h => hFc q h) hFc (fun u t H1 locs1 ht hvm hw hB hz1 hk1 hS => ?_)
  obtain ⟨hP1, hK1, hD1⟩ := hB
  rw [ht] at hP1
  obtain ⟨hP, hD⟩ := va_join (wr := wr) (w1 := w1 u) hH.1 hH.2.1 _ _ hC.1 hC.2.1 hC.2.2.2.1 hC.2.2.2.2 hk1 hFc hP1 hD1
  exact kk (fxSet G (a0 + rm'.cells) (b0 + rm'.slots)) u H1 locs1 ⟨rfl, rfl⟩ X hw ⟨hP, hD, hS⟩ hA rfl
end VM
