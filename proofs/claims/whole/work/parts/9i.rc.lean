/-! constructors: cells made one behind the other, from an address b on -/
def hc_ws (b : Nat) (V : List va_E) : va_W := V.mapIdx (fun i x => (b + i, x))
theorem hc_get {b : Nat} {V : List va_E} {i : Nat} {x : va_E} (h : V[i]? = some x) : (hc_ws b V)[i]? = some (b + i, x) := by
  simp [hc_ws, List.getElem?_mapIdx, h]
theorem hc_of {b : Nat} {V : List va_E} {k : Nat} {q : Nat × va_E} (h : (hc_ws b V)[k]? = some q) : ∃ x, V[k]? = some x ∧ q = (b + k, x) := by
  simp only [hc_ws, List.getElem?_mapIdx] at h
  cases hv : V[k]? with
  | none => rw [hv] at h; cases h
  | some x => rw [hv] at h; exact ⟨x, rfl, (Option.some.inj h).symm⟩
def HC (D : va_G) (b : Nat) (V : List va_E) (H : Heap) : Prop := H.size = b + V.length ∧ va_P D vwCl (hc_ws b V) H
theorem hc_D {b : Nat} {V : List va_E} : va_D (fun q => b ≤ q) (hc_ws b V) := by
  refine ⟨fun i j p q hp hq he => ?_, fun k q hk => ?_⟩
  · obtain ⟨x, -, rfl⟩ := hc_of hp
    obtain ⟨y, -, rfl⟩ := hc_of hq
    have he : b + i = b + j := he
    omega
  · obtain ⟨x, -, rfl⟩ := hc_of hk
    exact Nat.le_add_right b k
theorem hc_set {b : Nat} {V : List va_E} {i : Nat} {x : va_E} : (hc_ws b V).set i (b + i, x) = hc_ws b (V.set i x) := by
  simp [hc_ws, List.mapIdx_set]
theorem HC.push {D : va_G} {b : Nat} {V : List va_E} {x : va_E} {H H1 : Heap} (h : HC D b V H) (hz : H1.size = H.size + 1) (ho : ∀ q, q < H.size → H1[q]? = H[q]?) (hx : va_at D vwCl (H.size, x) H1) : HC D b (V ++ [x]) H1 := by
  refine ⟨by rw [hz, h.1, List.length_append]; rfl, fun k q hk => ?_⟩
  obtain ⟨y, hy, rfl⟩ := hc_of hk
  by_cases hl : k < V.length
  · rw [List.getElem?_append_left hl] at hy
    exact (h.2 k _ (hc_get hy)).kept (ho _ (by rw [h.1]; show b + k < _; omega))
  · have hk2 : k < (V ++ [x]).length := (List.getElem?_eq_some_iff.mp hy).1
    rw [List.length_append] at hk2
    have hk3 : k = V.length := by have : k < V.length + 1 := hk2; omega
    subst hk3
    rw [List.getElem?_append_right (Nat.le_refl _), Nat.sub_self] at hy
    cases hy
    rw [← h.1]
    exact hx
/-- the part from an address on; and joined again -/
theorem HC.tail {D : va_G} {b : Nat} {V V' : List va_E} {H : Heap} (h : HC D b (V ++ V') H) : HC D (b + V.length) V' H := by
  refine ⟨by rw [h.1, List.length_append]; omega, fun k q hk => ?_⟩
  obtain ⟨y, hy, rfl⟩ := hc_of hk
  have h1 := h.2 (V.length + k) _ (hc_get (by rw [List.getElem?_append_right (Nat.le_add_right _ _), Nat.add_sub_cancel_left]; exact hy))
  rwa [← Nat.add_assoc] at h1
theorem HC.join {D : va_G} {b : Nat} {V V' V'' : List va_E} {H H1 : Heap} (h : HC D b (V ++ V') H) (h1 : HC D (b + V.length) V'' H1) (hk : ∀ q : Nat, q < b + V.length → H1[q]? = H[q]?) : HC D b (V ++ V'') H1 := by
  refine ⟨by rw [h1.1, List.length_append]; omega, fun k q hq => ?_⟩
  obtain ⟨y, hy, rfl⟩ := hc_of hq
  by_cases hl : k < V.length
  · rw [List.getElem?_append_left hl] at hy
    exact (h.2 k _ (hc_get (by rw [List.getElem?_append_left hl]; exact hy))).kept (hk _ (by show b + k < _; omega))
  · rw [List.getElem?_append_right (by omega)] at hy
    have h2 := h1.2 (k - V.length) _ (hc_get hy)
    rwa [show b + V.length + (k - V.length) = b + k by omega] at h2
/-- links to private constructors of nest mates -/
def rc_W : List Cond := [.methodLinkNest RX10 11 yX7_init "SidePonds", .methodLinkNest RX7 11 yX9_init "SidePonds", .methodLinkNest RX7 20 yX0_init "SidePonds", .methodLinkNest RX0 41 yX4_init "SidePonds", .methodLinkNest RX0 48 yX3_init "SidePonds", .methodLinkNest RX10 20 yX0_init "SidePonds", .methodLinkNest RX10 42 yX5_init "SidePonds", .methodLinkNest RX10 49 yX6_init "SidePonds", .methodLinkNest RX10 56 yX1_init "SidePonds", .methodLinkNest RX10 63 yX2_init "SidePonds"]
def rc_N (s : State) : Prop := ∀ w ∈ rc_W, va_Nw w s
theorem rc_N.warm {s U : State} (hW : s.WarmedH U.vm) (h : rc_N s) : rc_N U := by
  intro w hw
  have h1 := h w hw
  simp only [rc_W, List.mem_cons, List.not_mem_nil, or_false] at hw
  rcases hw with rfl | rfl | rfl | rfl | rfl | rfl | rfl | rfl | rfl | rfl <;> exact va_Nw.warmM hW h1
theorem rc_N.same {u U : State} (hv : u.vm = U.vm) (h : rc_N u) : rc_N U := by
  intro w hw
  have h1 := h w hw
  simp only [rc_W, List.mem_cons, List.not_mem_nil, or_false] at hw
  rcases hw with rfl | rfl | rfl | rfl | rfl | rfl | rfl | rfl | rfl | rfl <;> exact va_Nw.same rfl hv h1
def rc_A (ρ : Nat → Nat → Nat) (M : MI) (b : Nat) (p : Program) (s : State) (m : MethodId) (args : Array Value) (meth : Method) (c : Code) (D : va_G) (G : ClassId × ClassId × ClassId) : Prop :=
  p.tables.exec = Jvm.exec ∧ c.code = M.2.1 ∧ c.maxLocals = M.2.2.1 ∧ meth.sig.returnType = none ∧ meth.locks = false ∧ s.vm.findClass M.1.cls = some m.cls ∧ (∀ w ∈ mj_W, w.before args s = true) ∧ va_K D vwCl (mj_ty G) s ∧ b ≤ s.heap.size ∧ meth.name = "<init>" ∧ mj_Z ρ (fun q => b ≤ q) s s.heap ∧ rc_N s
def rc_Q (b : Nat) (Qh : Heap → Prop) : Array Value → State → Outcome → State → Prop := fun _ st o t => o = .returned none ∧ Qh t.heap ∧ va_F (fun q => b ≤ q) st t
def RC (ρ : Nat → Nat → Nat) (D : va_G) (G : ClassId × ClassId × ClassId) (rm : Room) (M : MI) (b : Nat) (Qh : Heap → Prop) (cells slots pc : Nat) (ls st : List Value) (V : List va_E) : Prop :=
  ∀ (p : Program) (l : Launch) (e : Env) (s : State) (m : MethodId) (args : Array Value) (below : List Frame) (meth : Method) (c : Code), rc_A ρ M b p s m args meth c D G →
    ∀ (H : Heap) (locs : List Loc) (a : Array Slot), HC D b V H → va_S (fun q => b ≤ q) s.heap H locs → lv_has a M.2.2.1 (lv_args 0 ls) →
      W p l e rm s m args below meth c H locs cells slots (MQ below (rc_Q b Qh) args s rm.cells rm.slots (fun q => b ≤ q)) (F0 m pc a st)
section RCS
variable {ρ : Nat → Nat → Nat} {D : va_G} {G : ClassId × ClassId × ClassId} {rm : Room} {M : MI} {b : Nat} {Qh : Heap → Prop} {cells slots pc : Nat} {ls st : List Value} {V : List va_E}
theorem rc_aload {k : Fin 4} {i j x : Nat} (hd : decode M.2.1 pc = .ok (.aload_n k, 1)) (hi : (k : Nat) = i) (hl : (lv_args 0 ls)[j]? = some (i, .ref x)) (h : RC ρ D G rm M b Qh cells slots (pc + 1) ls (.ref x :: st) V) : RC ρ D G rm M b Qh cells slots pc ls st V := by
  intro p l e s m args below meth c hA H locs a hH hS hL
  exact lv_aload_n hA.1 hA.2.1 hd hi (lv_at hL j hl) (h p l e s m args below meth c hA H locs a hH hS hL)
theorem rc_iconst {n : Int} {v : Int32} (hd : decode M.2.1 pc = .ok (.iconst n, 1)) (hv : Int32.ofInt n = v) (h : RC ρ D G rm M b Qh cells slots (pc + 1) ls (.int v :: st) V) : RC ρ D G rm M b Qh cells slots pc ls st V := by
  intro p l e s m args below meth c hA H locs a hH hS hL
  exact lv_iconst hA.1 hA.2.1 hd hv (h p l e s m args below meth c hA H locs a hH hS hL)
theorem rc_bipush {n : Int} {v : Int32} (hd : decode M.2.1 pc = .ok (.bipush n, 2)) (hv : (Int8.ofInt n).toInt32 = v) (h : RC ρ D G rm M b Qh cells slots (pc + 2) ls (.int v :: st) V) : RC ρ D G rm M b Qh cells slots pc ls st V := by
  intro p l e s m args below meth c hA H locs a hH hS hL
  exact lv_bipush hA.1 hA.2.1 hd hv (h p l e s m args below meth c hA H locs a hH hS hL)
theorem rc_sipush {n : Int} {v : Int32} (hd : decode M.2.1 pc = .ok (.sipush n, 3)) (hv : (Int16.ofInt n).toInt32 = v) (h : RC ρ D G rm M b Qh cells slots (pc + 3) ls (.int v :: st) V) : RC ρ D G rm M b Qh cells slots pc ls st V := by
  intro p l e s m args below meth c hA H locs a hH hS hL
  exact lv_sipush hA.1 hA.2.1 hd hv (h p l e s m args below meth c hA H locs a hH hS hL)
theorem rc_dup {x : Nat} (hd : decode M.2.1 pc = .ok (.dup, 1)) (h : RC ρ D G rm M b Qh cells slots (pc + 1) ls (.ref x :: .ref x :: st) V) : RC ρ D G rm M b Qh cells slots pc ls (.ref x :: st) V := by
  intro p l e s m args below meth c hA H locs a hH hS hL
  exact lv_dup hA.1 hA.2.1 hd rfl (h p l e s m args below meth c hA H locs a hH hS hL)
theorem rc_obj {idx x : Nat} (hw : Cond.methodLink M.1.cls idx objectInit ∈ mj_W) (hi : Cond.instanceMethod objectInit ∈ mj_W) (hc : Cond.code objectInit ⟨#[0xb1]⟩ 1 none ∈ mj_W) (hd : decode M.2.1 pc = .ok (.invokespecial idx, 3)) (hr : 1 ≤ rm.frames ∧ (st.map fun v => v.category).sum + 12 ≤ rm.locals) (h : RC ρ D G rm M b Qh cells slots (pc + 3) ls st V) : RC ρ D G rm M b Qh cells slots pc ls (.ref x :: st) V := by
  intro p l e s m args below meth c hA H locs a hH hS hL
  refine W.objInit hA.1 hA.2.1 hA.2.2.2.2.2.1 (hA.2.2.2.2.2.2.1 _ hw) (hA.2.2.2.2.2.2.1 _ hi) (hA.2.2.2.2.2.2.1 _ hc) rfl (by rw [hA.2.2.1]; exact hL.1) rfl hd hr.1 ?_ (h p l e s m args below meth c hA H locs a hH hS hL)
  show 2 * 0 + (st.map fun v => v.category).sum + 12 ≤ rm.locals
  have := hr.2
  omega
theorem rc_newI {n : Int32} {N x : Nat} (hx : b + V.length = x) (hw : Cond.arrayClass .int ∈ mj_W) (hd : decode M.2.1 pc = .ok (.newarray .int, 2)) (hn : ¬ n < 0) (hN : n.toNatClampNeg = N) (hb : N * 4 ≤ 536870912) (hr : cells + 1 ≤ rm.cells ∧ slots + N ≤ rm.slots) (h : RC ρ D G rm M b Qh (cells + 1) (slots + N) (pc + 2) ls (.ref x :: st) (V ++ [.inl (G.1, N, .inl fun _ => 0)])) : RC ρ D G rm M b Qh cells slots pc ls (.int n :: st) V := by
  subst hx
  intro p l e s m args below meth c hA H locs a hH hS hL
  refine va_newaK (atype := .int) hA.1 hA.2.1 (hA.2.2.2.2.2.2.1 _ hw) rfl hd rfl hn hN hb hr.1 hr.2 hH.1 fun H1 cA e1 z1 o1 hAr hNm => ?_
  have hg : s.vm.findClass ("[" ++ (FieldType.int).toString) = some G.1 := (hA.2.2.2.2.2.2.2.1.2 0 _ rfl).2
  have hc : cA = G.1 := Option.some.inj (hNm.symm.trans hg)
  subst hc
  exact h p l e s m args below meth c hA H1 locs a (hH.push (by rw [z1, hH.1]) (fun q hq => o1 q (by rw [← hH.1]; exact hq)) (by rw [hH.1]; exact e1)) ⟨Nat.le_trans hS.1 (by rw [z1, hH.1]; omega), fun y h1 h2 => (o1 y (by rw [← hH.1]; exact Nat.lt_of_lt_of_le h1 hS.1)).trans (hS.2.1 y h1 h2), hS.2.2⟩ hL
theorem rc_newZ {n : Int32} {N x : Nat} (hx : b + V.length = x) (hw : Cond.arrayClass .boolean ∈ mj_W) (hd : decode M.2.1 pc = .ok (.newarray .boolean, 2)) (hn : ¬ n < 0) (hN : n.toNatClampNeg = N) (hb : N * 1 ≤ 536870912) (hr : cells + 1 ≤ rm.cells ∧ slots + N ≤ rm.slots) (h : RC ρ D G rm M b Qh (cells + 1) (slots + N) (pc + 2) ls (.ref x :: st) (V ++ [.inl (G.2.1, N, .inl fun _ => 0)])) : RC ρ D G rm M b Qh cells slots pc ls (.int n :: st) V := by
  subst hx
  intro p l e s m args below meth c hA H locs a hH hS hL
  refine va_newaK (atype := .boolean) hA.1 hA.2.1 (hA.2.2.2.2.2.2.1 _ hw) rfl hd rfl hn hN hb hr.1 hr.2 hH.1 fun H1 cA e1 z1 o1 hAr hNm => ?_
  have hg : s.vm.findClass ("[" ++ (FieldType.boolean).toString) = some G.2.1 := (hA.2.2.2.2.2.2.2.1.2 1 _ rfl).2
  have hc : cA = G.2.1 := Option.some.inj (hNm.symm.trans hg)
  subst hc
  exact h p l e s m args below meth c hA H1 locs a (hH.push (by rw [z1, hH.1]) (fun q hq => o1 q (by rw [← hH.1]; exact hq)) (by rw [hH.1]; exact e1)) ⟨Nat.le_trans hS.1 (by rw [z1, hH.1]; omega), fun y h1 h2 => (o1 y (by rw [← hH.1]; exact Nat.lt_of_lt_of_le h1 hS.1)).trans (hS.2.1 y h1 h2), hS.2.2⟩ hL
theorem rc_newL {n : Int32} {N x : Nat} (hx : b + V.length = x) (hw : Cond.arrayClass .long ∈ mj_W) (hd : decode M.2.1 pc = .ok (.newarray .long, 2)) (hn : ¬ n < 0) (hN : n.toNatClampNeg = N) (hb : N * 8 ≤ 536870912) (hr : cells + 1 ≤ rm.cells ∧ slots + N ≤ rm.slots) (h : RC ρ D G rm M b Qh (cells + 1) (slots + N) (pc + 2) ls (.ref x :: st) (V ++ [.inl (G.2.2, N, .inr (.inl fun _ => 0))])) : RC ρ D G rm M b Qh cells slots pc ls (.int n :: st) V := by
  subst hx
  intro p l e s m args below meth c hA H locs a hH hS hL
  refine va_newaK (atype := .long) hA.1 hA.2.1 (hA.2.2.2.2.2.2.1 _ hw) rfl hd rfl hn hN hb hr.1 hr.2 hH.1 fun H1 cA e1 z1 o1 hAr hNm => ?_
  have hg : s.vm.findClass ("[" ++ (FieldType.long).toString) = some G.2.2 := (hA.2.2.2.2.2.2.2.1.2 2 _ rfl).2
  have hc : cA = G.2.2 := Option.some.inj (hNm.symm.trans hg)
  subst hc
  exact h p l e s m args below meth c hA H1 locs a (hH.push (by rw [z1, hH.1]) (fun q hq => o1 q (by rw [← hH.1]; exact hq)) (by rw [hH.1]; exact e1)) ⟨Nat.le_trans hS.1 (by rw [z1, hH.1]; omega), fun y h1 h2 => (o1 y (by rw [← hH.1]; exact Nat.lt_of_lt_of_le h1 hS.1)).trans (hS.2.1 y h1 h2), hS.2.2⟩ hL
theorem rc_new {C : String} {T : u_T} {N ci idx x : Nat} {fs : List Value} (hx : b + V.length = x) (ty : Nat → FieldType) (hc : vwCl[ci]? = some (C, T, N)) (hin : ∀ w ∈ u_ws C T N, w ∈ mj_W) (hty : ∀ k, k < N → parseFieldDescriptor (T k).2.2.1 = some (ty k)) (hcl : Cond.classLink M.1.cls idx C ∈ mj_W) (hinst : Cond.instantiable C N ∈ mj_W) (hini : Cond.initialized C ∈ mj_W) (hfs : ∀ j, j < N → defaultValue (ty j) = vp_V fs j) (hd : decode M.2.1 pc = .ok (.new idx, 3)) (hr : cells + 1 ≤ rm.cells ∧ slots + N ≤ rm.slots)
    (h : RC ρ D G rm M b Qh (cells + 1) (slots + N) (pc + 3) ls (.ref x :: st) (V ++ [.inr (ci, fs)])) : RC ρ D G rm M b Qh cells slots pc ls st V := by
  subst hx
  intro p l e s m args below meth c hA H locs a hH hS hL
  have hts := hA.2.2.2.2.2.2.1
  have hKn := hA.2.2.2.2.2.2.2.1.1 ci _ hc
  refine W.newcK hA.1 hA.2.1 hA.2.2.2.2.2.1 (hts _ hcl) (hts _ hinst) (hts _ hini) rfl hd hr.1 hr.2 hKn.2.1 hH.1 fun H1 kC hkC e1 z1 o1 => ?_
  exact h p l e s m args below meth c hA H1 locs a (hH.push (by rw [z1, hH.1]) (fun q hq => o1 q (by rw [← hH.1]; exact hq)) (by rw [hH.1]; exact ⟨_, hc, (u_born ty hts hin hKn hkC e1 hty).to hfs⟩)) ⟨Nat.le_trans hS.1 (by rw [z1, hH.1]; omega), fun y h1 h2 => (o1 y (by rw [← hH.1]; exact Nat.lt_of_lt_of_le h1 hS.1)).trans (hS.2.1 y h1 h2), hS.2.2⟩ hL
theorem rc_get {C : String} {T : u_T} {N ci idx k i x : Nat} {v : Value} {fs : List Value} (hc : vwCl[ci]? = some (C, T, N)) (hin : ∀ w ∈ u_ws C T N, w ∈ mj_W) (hV : V[i]? = some (.inr (ci, fs))) (hx : x = b + i) (hk : k < N) (hf : (T k).1 = C) (hw : Cond.fieldLink M.1.cls idx C (T k).2.1 (T k).2.2.1 ∈ mj_W) (hv : fs[k]? = some v) (hd : decode M.2.1 pc = .ok (.getfield idx, 3)) (h : RC ρ D G rm M b Qh cells slots (pc + 3) ls (v :: st) V) : RC ρ D G rm M b Qh cells slots pc ls (.ref x :: st) V := by
  intro p l e s m args below meth c hA H locs a hH hS hL
  subst hx
  exact va_get (cl := vwCl) hA.1 hA.2.1 hA.2.2.2.2.2.2.1 hin hA.2.2.2.2.2.1 hA.2.2.2.2.2.2.2.1 hH.2 i (hc_get hV) hc k hk (hA.2.2.2.2.2.2.1 _ hw) (fun x hx => by rw [hf] at hx; exact hx) hv hd (h p l e s m args below meth c hA H locs a hH hS hL)
theorem rc_put {C : String} {T : u_T} {N ci idx k i x : Nat} {v : Value} {fs fs' : List Value} {V' : List va_E} {ty : FieldType} {ty0 : Nat → FieldType} (hc : vwCl[ci]? = some (C, T, N)) (hin : ∀ w ∈ u_ws C T N, w ∈ mj_W) (hty : ∀ k, k < N → parseFieldDescriptor (T k).2.2.1 = some (ty0 k)) (hnm : ∀ a, a < N → ∀ b, b < N → a ≠ b → (T a).2.1 ≠ (T b).2.1) (hV : V[i]? = some (.inr (ci, fs))) (hx : x = b + i) (hk : k < N) (hf : (T k).1 = C) (hC : C = M.1.cls) (hw : Cond.fieldLink M.1.cls idx C (T k).2.1 (T k).2.2.1 ∈ mj_W) (hd2 : parseFieldDescriptor (T k).2.2.1 = some ty) (hn : narrow ty v = v) (hfit : fits ty v = true) (hl : k < fs.length) (hfs : fs.set k v = fs') (hV' : V.set i (.inr (ci, fs')) = V')
    (hd : decode M.2.1 pc = .ok (.putfield idx, 3)) (h : RC ρ D G rm M b Qh cells slots (pc + 3) ls st V') : RC ρ D G rm M b Qh cells slots pc ls (v :: .ref x :: st) V := by
  intro p l e s m args below meth c hA H locs a hH hS hL
  subst hx
  subst hfs
  subst hV'
  have hA0 := hA
  obtain ⟨hexec, hb, -, -, -, hown, hts, hK, -, hin2, -, -⟩ := hA0
  have hap := va_apart (own := C) hts hin ty0 hty hnm hK hc
  have he := hc_get (b := b) hV
  obtain ⟨r, h1, cell, q1, q2, q3, q4⟩ := hH.2 i _ he
  have hr : r = (C, T, N) := Option.some.inj (h1.symm.trans hc)
  subst hr
  obtain ⟨hSl, hfc, kC, hkC, hkind⟩ := hK.1 ci _ hc
  obtain ⟨cf, kf, fi, f, hi, hsl⟩ := hSl k hk
  have hgo : ∀ H' : Heap, H'[b + i]? = some (cell.setSlot f.slot v) → H'.size = H.size → (∀ q, q ≠ b + i → H'[q]? = H[q]?) → W p l e rm s m args below meth c H' (locs ++ [⟨b + i, f.slot⟩]) cells slots (MQ below (rc_Q b Qh) args s rm.cells rm.slots (fun q => b ≤ q)) (F0 m (pc + 3) a st) := by
    intro H' e1 e2 e3
    rw [hsl] at e1 ⊢
    refine h p l e s m args below meth c hA H' _ a ⟨by rw [e2, hH.1, List.length_set], ?_⟩ (hS.put e2 e3 (Nat.le_add_right b i)) hL
    rw [← hc_set]
    exact hH.2.set hc_D he ⟨_, hc, t_OB.to (V := updV (vp_V fs) k v) ⟨_, e1, q2, q3, t_set q4 hap hk v⟩ (fun j _ => vp_updV_set hl v j)⟩ e3
  have hlay := hts _ (hin _ (u_in_lay hk))
  unfold u_lay at hlay
  have hst := (u_facts hfc hkC (u_lays hts hin hk) hi).1
  split at hlay
  · have hcf : m.cls = cf := by
      obtain ⟨_, _, c', _, _, _, -, -, hf', -, -, -, hown2, -⟩ := Cond.laysFinal_spec hlay
      have e1 : c' = cf := by have := hi.symm.trans hf'; simp at this; exact this.1.symm
      rw [hf, hC] at hown2
      rw [← e1]; exact Option.some.inj (hown.symm.trans hown2)
    have h6 := u_fits hfc hkC hkind (Or.inr hlay) hi hd2 hn hfit
    exact W.putFinK hexec hb hown (hts _ hw) (by rw [hf] at hi; exact hi) hst hcf hin2 (by rw [q2]; exact h6) q1 q3 (by rw [hsl]; exact k2_hasslot (q4 k hk)) rfl rfl hd fun H' e1 e2 e3 => hgo H' e1 e2 e3
  · have h6 := u_store hfc hkC hkind hlay hi hd2 hn hfit
    exact W.putK hexec hb (f := f) ⟨hown, hts _ hw, ⟨_, _, _, by rw [hf] at hi; exact hi⟩, hst⟩ (by rw [q2]; exact h6) q1 q3 (by rw [hsl]; exact k2_hasslot (q4 k hk)) rfl rfl hd fun H' e1 e2 e3 => hgo H' e1 e2 e3
theorem rc_ret (hd : decode M.2.1 pc = .ok (.return_, 1)) (hr : cells ≤ rm.cells ∧ slots ≤ rm.slots) (hq : ∀ H, HC D b V H → Qh H) : RC ρ D G rm M b Qh cells slots pc ls [] V := by
  intro p l e s m args below meth c hA H locs a hH hS hL
  exact W.widen hr.1 hr.2 (W.vret hA.1 hA.2.1 hA.2.2.2.1 (fun t ht _ => ⟨rfl, by rw [ht]; exact hq H hH, hS.F ht⟩) hS.2.2 hd hA.2.2.2.2.1)
def rc_P (ρ : Nat → Nat → Nat) (D : va_G) (G : ClassId × ClassId × ClassId) (b : Nat) (V : List va_E) (av : List Value) : Array Value → State → Prop := va_Pc av (fun U => HC D b V U.heap ∧ va_K D vwCl (mj_ty G) U ∧ mj_Z ρ (fun q => b ≤ q) U U.heap ∧ rc_N U)
theorem rc_blind {av : List Value} : FrameBlind (rc_P ρ D G b V av) := by
  intro a U g mk h
  obtain ⟨h1, h2, h3, h4, h5⟩ := h
  exact ⟨h1, h2, va_K.moved (u := U) (U := U.calling g mk a) (Vm.Alike.refl U.vm) h3, mj_Z.same (U := U) (V := U.calling g mk a) rfl rfl h4, rc_N.same (u := U) (U := U.calling g mk a) rfl h5⟩
theorem rc_met (l : Launch) {av : List Value} (hy : plainName M.1.cls = true) (hini : M.1.name = "<init>") (hret : M.2.2.2 = none) (hle : (lg_sl av).length ≤ M.2.2.1) (hR : RC ρ D G rm M b Qh 0 0 0 av [] V) : Met l M.1 (mj_wsM M) rm (rc_P ρ D G b V av) (rc_Q b Qh) rm.cells rm.slots (fun q => b ≤ q) := by
  refine Met.ofW (cc := M.2.1) (maxL := M.2.2.1) (ret := M.2.2.2) hy rfl ?_
  intro p e s m args below meth c s₁ B hml hv
  obtain ⟨hargs, hH, hK, hZ, hN⟩ := hv
  have hts := atoms_spec (ws := mj_wsM M) B.pre
  have hown : s.vm.findClass M.1.cls = some m.cls := findClass_of_methodNamed B.named
  have hin : meth.name = M.1.name := (name_of_methodNamed B.named B.method).1
  have hA : rc_A ρ M b p s m args meth c D G := ⟨B.exec, B.bytes, hml, B.returns.trans hret, B.notSynchronized, hown, fun w hw => hts w (List.mem_cons_of_mem _ hw), hK, by rw [hH.1]; exact Nat.le_add_right _ _, hin.trans hini, hZ, hN⟩
  subst hargs
  rw [lg_entry_eq]
  exact hR p l e s m _ below meth c hA s.heap [] _ hH va_S.rf (lv_entry av hle)
theorem rc_callB {M' : MI} {rm' : Room} {s : State} {args : Array Value} {n idx : Nat} {Rm : Room} {own : String} (hts : ∀ w ∈ mj_W, w.before args s = true) (hcv : mj_CV M' n) (hw : Cond.methodLink own idx M'.1 ∈ mj_W) (hr : rm'.frames + 1 ≤ Rm.frames ∧ 8 + (M'.2.2.1 + 11) + rm'.locals ≤ Rm.locals) :
    CallB Rm s args own idx M'.1 M'.2.1 M'.2.2.1 M'.2.2.2 (mj_wsM M') rm' rm'.cells rm'.slots n := by
  obtain ⟨h1, h2, h3, h4, h5, h6, h7⟩ := hcv
  refine callB_of (Ts := mj_W) (ws' := mj_W) n hts ?_ rfl rfl rfl (hts _ h1) (hts _ hw) ⟨h5, h6, h7⟩ hr
  intro w hw
  rcases List.mem_cons.mp hw with rfl | hw
  · exact ⟨h2, (mj_good _ h2).2⟩
  · exact ⟨hw, (mj_good _ hw).2⟩
theorem rc_cont {x : Nat} {Vp V' : List va_E} {x0 : va_E} {rm' : Room} {av : Array Value} {p : Program} {l : Launch} {e : Env} {s : State} {m : MethodId} {args : Array Value} {below : List Frame} {meth : Method} {c : Code} {H : Heap} {locs : List Loc} {a : Array Slot} {st0 : List Value} (hA : rc_A ρ M b p s m args meth c D G) (hH : HC D b (Vp ++ [x0]) H) (hS : va_S (fun q => b ≤ q) s.heap H locs) (hL : lv_has a M.2.2.1 (lv_args 0 ls)) (hx : x = b + Vp.length)
    (hrun : va_Run p l e rm s m args below meth c H locs cells slots rm'.cells rm'.slots (F0 m pc a st0) st (rc_Q x (HC D x V') av) (fun q => x ≤ q)) (h : RC ρ D G rm M b Qh (cells + rm'.cells) (slots + rm'.slots) (pc + 3) ls st (Vp ++ V')) :
    W p l e rm s m args below meth c H locs cells slots (MQ below (rc_Q b Qh) args s rm.cells rm.slots (fun q => b ≤ q)) (F0 m pc a st0) := by
  have hbx : b ≤ x := by rw [hx]; exact Nat.le_add_right _ _
  intro T hT X
  obtain ⟨v, st₀, t, T', L, h0, X', hLo, e1, e2, ⟨hv, hq, hz, hk⟩, stp⟩ := hrun T hT X
  cases hv
  rw [h0] at hz hk
  have hHn : HC D b (Vp ++ V') T'.heap := by
    refine hH.join (by rw [e1, ← hx]; exact hq) (fun q hq2 => by rw [e1]; exact hk q (by rw [hH.1, List.length_append]; omega) (by rw [hx]; omega))
  obtain ⟨t2, a1, b1⟩ := h p l e s m args below meth c hA T'.heap (locs ++ L) a hHn ⟨Nat.le_trans hS.1 (by rw [e1]; exact hz), fun q h1 h2 => by rw [e1, hk q (Nat.lt_of_lt_of_le h1 hS.1) (fun z => h2 (Nat.le_trans hbx z))]; exact hS.2.1 q h1 h2, fun q hq => by
      rcases List.mem_append.mp hq with h | h
      · exact hS.2.2 q h
      · exact Nat.le_trans hbx (hLo q h)⟩ hL T' rfl X'
  exact ⟨t2, stp t2 a1, b1⟩
theorem rc_pre {x : Nat} {As : List Value} {Vp : List va_E} {x0 : va_E} {p : Program} {s : State} {m : MethodId} {args : Array Value} {meth : Method} {c : Code} {H : Heap} {locs : List Loc} (hA : rc_A ρ M b p s m args meth c D G) (hH : HC D b (Vp ++ [x0]) H) (hS : va_S (fun q => b ≤ q) s.heap H locs) (hx : x = b + Vp.length) :
    PreS s H (rc_P ρ D G x [x0] As) As := by
  have hH' := hH.tail
  rw [← hx] at hH'
  have hbx : b ≤ x := by rw [hx]; exact Nat.le_add_right _ _
  exact ⟨rc_blind, fun U hU hW => ⟨rfl, by rw [hU]; exact hH', va_K.moved hW.alike hA.2.2.2.2.2.2.2.1, by rw [hU]; exact hA.2.2.2.2.2.2.2.2.2.2.1.next hW hS.2.1 (fun q hq => Nat.le_trans hbx hq), hA.2.2.2.2.2.2.2.2.2.2.2.warm hW⟩⟩
theorem rc_call {M' : MI} {rm' : Room} {n idx x : Nat} {As stk : List Value} {Vp V' : List va_E} {x0 : va_E} (hy : M'.1.name = "<init>") (hret : M'.2.2.2 = none) (hcv : mj_CV M' n) (him : Cond.instanceMethod M'.1 ∈ mj_W) (hw : Cond.methodLink M.1.cls idx M'.1 ∈ mj_W) (hd : decode M.2.1 pc = .ok (.invokespecial idx, 3)) (hn : As.length = n) (hle : (lg_sl (.ref x :: As)).length ≤ M'.2.2.1) (hV : V = Vp ++ [x0]) (hx : x = b + Vp.length) (hs : stk = As.reverse ++ .ref x :: st) (hst : (st.map fun v => v.category).sum ≤ 8) (hr : rm'.frames + 1 ≤ rm.frames ∧ 8 + (M'.2.2.1 + 11) + rm'.locals ≤ rm.locals) (hc : cells + rm'.cells ≤ rm.cells ∧ slots + rm'.slots ≤ rm.slots)
    (hR : RC ρ D G rm' M' x (HC D x V') 0 0 0 (.ref x :: As) [] [x0]) (h : RC ρ D G rm M b Qh (cells + rm'.cells) (slots + rm'.slots) (pc + 3) ls st (Vp ++ V')) : RC ρ D G rm M b Qh cells slots pc ls stk V := by
  intro p l e s m args below meth c hA H locs a hH hS hL
  subst hV
  subst hs
  have hmet := rc_met l (av := .ref x :: As) hcv.2.2.1 hy hret hle hR
  have hts := hA.2.2.2.2.2.2.1
  have hB := rc_callB (Rm := rm) (own := M.1.cls) hts hcv hw hr
  rw [hret] at hB
  have hrun := va_runI (As := As) (b := x) (rest := st) (g := F0 m pc a (As.reverse ++ .ref x :: st)) (e := e) (below := below) (meth := meth) (locs := locs) (cells := cells) (slots := slots) (H := H) (Ts := mj_W) (own := M.1.cls) ⟨hA.1, hA.2.1, hA.2.2.1, hA.2.2.2.2.2.1, hts⟩ hmet ⟨hB, hy, hts _ him⟩ (rc_pre hA hH hS hx) rfl hn hL.1 rfl (lv_room hst) hd hc
  exact rc_cont hA hH hS hL hx hrun h
theorem rc_callN {M' : MI} {rm' : Room} {n idx x : Nat} {As stk : List Value} {Vp V' : List va_E} {x0 : va_E} {host : String} (hy : M'.1.name = "<init>") (hret : M'.2.2.2 = none) (hcv : mj_CV M' n) (him : Cond.instanceMethod M'.1 ∈ mj_W) (hw : Cond.methodLinkNest M.1.cls idx M'.1 host ∈ rc_W) (hd : decode M.2.1 pc = .ok (.invokespecial idx, 3)) (hn : As.length = n) (hle : (lg_sl (.ref x :: As)).length ≤ M'.2.2.1) (hV : V = Vp ++ [x0]) (hx : x = b + Vp.length) (hs : stk = As.reverse ++ .ref x :: st) (hst : (st.map fun v => v.category).sum ≤ 8) (hr : rm'.frames + 1 ≤ rm.frames ∧ 8 + (M'.2.2.1 + 11) + rm'.locals ≤ rm.locals) (hc : cells + rm'.cells ≤ rm.cells ∧ slots + rm'.slots ≤ rm.slots)
    (hR : RC ρ D G rm' M' x (HC D x V') 0 0 0 (.ref x :: As) [] [x0]) (h : RC ρ D G rm M b Qh (cells + rm'.cells) (slots + rm'.slots) (pc + 3) ls st (Vp ++ V')) : RC ρ D G rm M b Qh cells slots pc ls stk V := by
  intro p l e s m args below meth c hA H locs a hH hS hL
  subst hV
  subst hs
  have hmet := rc_met l (av := .ref x :: As) hcv.2.2.1 hy hret hle hR
  have hts := hA.2.2.2.2.2.2.1
  have hB : va_CN rm s args M.1.cls idx M'.1 host M'.2.1 M'.2.2.1 M'.2.2.2 (mj_wsM M') rm' rm'.cells rm'.slots n := by
    obtain ⟨h1, h2, h3, h4, h5, h6, h7⟩ := hcv
    refine va_cnB (Ts := mj_W) (ws' := mj_W) n hts ?_ rfl rfl rfl (hA.2.2.2.2.2.2.2.2.2.2.2 _ hw) (hts _ h1) ⟨h5, h6, h7⟩ hr
    intro w hw
    rcases List.mem_cons.mp hw with rfl | hw
    · exact ⟨h2, (mj_good _ h2).2⟩
    · exact ⟨hw, (mj_good _ hw).2⟩
  rw [hret] at hB
  have hrun := va_runIN (As := As) (b := x) (rest := st) (g := F0 m pc a (As.reverse ++ .ref x :: st)) (e := e) (below := below) (meth := meth) (locs := locs) (cells := cells) (slots := slots) (H := H) (Ts := mj_W) (own := M.1.cls) ⟨hA.1, hA.2.1, hA.2.2.1, hA.2.2.2.2.2.1, hts⟩ hmet ⟨hB, hy, hts _ him⟩ (rc_pre hA hH hS hx) rfl hn hL.1 rfl (lv_room hst) hd hc
  exact rc_cont hA hH hS hL hx hrun h
theorem rc_endM {M' : MI} {Q' : Option MV → MS → Prop} {O : List (Nat × Nat)} {d idx z x k i j ci N : Nat} {C : String} {T : u_T} {fs : List Value} {σ : MS} (hcv : mj_CV M' 0) (him : Cond.instanceMethod M'.1 ∈ mj_W) (hse : Cond.selects M'.1.cls M'.1 M'.1 ∈ mj_W) (hw : Cond.methodLink M.1.cls idx M'.1 ∈ mj_W) (hd : decode M.2.1 pc = .ok (.invokevirtual idx, 3)) (hd2 : decode M.2.1 (pc + 3) = .ok (.return_, 1)) (hz : (mj_args [rV k i]).length + z = M'.2.2.1) (hρ : ρ k i = x) (hC : M'.1.cls = C) (hc : vwCl[ci]? = some (C, T, N)) (hV : V[j]? = some (.inr (ci, fs))) (hx : x = b + j)
    (hinj : ∀ (i j : Nat) (x y : Nat × Nat), O[i]? = some x → O[j]? = some y → ρ x.1 x.2 = ρ y.1 y.2 → i = j) (hO : ∀ y ∈ O, b ≤ ρ y.1 y.2) (hP : ∀ H, HC D b V H → va_P D vwCl (mj_ws O G ρ σ) H) (hr : d + 1 ≤ rm.frames ∧ 8 + (M'.2.2.1 + 11) + 40 * d ≤ rm.locals) (hcs : cells ≤ rm.cells ∧ slots ≤ rm.slots)
    (hR : R O d M' Q' 0 (mj_args [rV k i] ++ List.replicate z none) [] σ) (hq : ∀ r τ H, Q' r τ → va_P D vwCl (mj_ws O G ρ τ) H → r = none ∧ Qh H) : RC ρ D G rm M b Qh cells slots pc ls [.ref x] V := by
  intro p l e s m args below meth c hA H locs a hH hS hL
  subst hC
  refine W.widen hcs.1 hcs.2 ?_
  have hts := hA.2.2.2.2.2.2.1
  have hK := hA.2.2.2.2.2.2.2.1
  have hmet := mj_met l D G ρ H.size hcv.2.2.1 hz hinj hR
  have hB := rc_callB (rm' := mj_rm d) (Rm := rm) (own := M.1.cls) hts hcv hw hr
  have hAW : ∀ q, mj_AW O ρ H.size q → b ≤ q := by
    rintro q (⟨x, hx, rfl⟩ | h)
    · exact hO x hx
    · exact Nat.le_trans (Nat.le_trans (by rw [hH.1]; exact Nat.le_add_right _ _) (Nat.le_refl H.size)) h
  have hrec := va_recv hK hH.2 hc (hc_get (b := b) hV)
  rw [← hx] at hrec
  have hrun := va_runV (As := []) (b := x) (rest := []) (g := F0 m pc a [.ref x]) (e := e) (below := below) (meth := meth) (locs := locs) (cells := rm.cells) (slots := rm.slots) (H := H) (Ts := mj_W) (own := M.1.cls) ⟨hA.1, hA.2.1, hA.2.2.1, hA.2.2.2.2.2.1, hts⟩ hmet ⟨hB, hts _ him, hts _ hse⟩ ⟨mj_blind, hrec, fun U hU hW => ⟨by rw [← hρ]; rfl, by rw [hU], by rw [hU]; exact hP H hH, va_K.moved hW.alike hK, by rw [hU]; exact hA.2.2.2.2.2.2.2.2.2.2.1.next hW hS.2.1 hAW⟩⟩ rfl rfl hL.1 rfl (lv_room (Nat.zero_le _)) hd ⟨Nat.le_refl _, Nat.le_refl _⟩
  intro T' hT X
  obtain ⟨v, st₀, t, T2, L, h0, X', hLo, e1, e2, ⟨⟨r, τ, hv, hq1, hp1⟩, hz1, hk1⟩, stp⟩ := hrun T' hT X
  cases hv
  rw [h0] at hz1 hk1
  obtain ⟨rfl, hqh⟩ := hq r τ _ hq1 hp1
  have hS2 : va_S (fun q => b ≤ q) s.heap T2.heap (locs ++ L) := ⟨Nat.le_trans hS.1 (by rw [e1]; exact hz1), fun q h1 h2 => by rw [e1, hk1 q (Nat.lt_of_lt_of_le h1 hS.1) (fun z => h2 (hAW q z))]; exact hS.2.1 q h1 h2, fun q hq => by
      rcases List.mem_append.mp hq with h | h
      · exact hS.2.2 q h
      · exact hAW _ (hLo q h)⟩
  obtain ⟨t2, a1, b1⟩ := W.vret (H := T2.heap) (locs := locs ++ L) (cells := rm.cells) (slots := rm.slots) (Qc := rc_Q b Qh) (free := fun q => b ≤ q) (R := rm) (p := p) (l := l) (e := e) (s := s) (args := args) (below := below) hA.1 hA.2.1 hA.2.2.2.1 (fun t ht _ => ⟨rfl, by rw [ht, e1]; exact hqh, hS2.F ht⟩) hS2.2.2 hd2 hA.2.2.2.2.1 T2 rfl X'
  exact ⟨t2, stp t2 a1, b1⟩
end RCS
