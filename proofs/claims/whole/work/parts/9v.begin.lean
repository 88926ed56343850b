theorem lt_t {w : Cond} (h : w ∈ tables_1) : w ∈ lw_tbl := List.mem_append_right _ h
theorem lt_t1 {w : Cond} (h : w ∈ tables_1_1) : w ∈ lw_tbl := lt_t (List.mem_append_left _ h)
theorem lt_t2 {w : Cond} (h : w ∈ tables_1_2) : w ∈ lw_tbl := lt_t (List.mem_append_right _ (List.mem_append_left _ h))
theorem lt_t3 {w : Cond} (h : w ∈ tables_1_3) : w ∈ lw_tbl := lt_t (List.mem_append_right _ (List.mem_append_right _ (List.mem_append_left _ h)))
theorem lt_t4 {w : Cond} (h : w ∈ tables_1_4) : w ∈ lw_tbl := lt_t (List.mem_append_right _ (List.mem_append_right _ (List.mem_append_right _ (List.mem_append_left _ h))))
theorem lt_t5 {w : Cond} (h : w ∈ tables_1_5) : w ∈ lw_tbl := lt_t (List.mem_append_right _ (List.mem_append_right _ (List.mem_append_right _ (List.mem_append_right _ (List.mem_append_left _ h)))))
theorem lt_t6 {w : Cond} (h : w ∈ tables_1_6) : w ∈ lw_tbl := lt_t (List.mem_append_right _ (List.mem_append_right _ (List.mem_append_right _ (List.mem_append_right _ (List.mem_append_right _ (List.mem_append_left _ h))))))
theorem lt_t7 {w : Cond} (h : w ∈ tables_1_7) : w ∈ lw_tbl := lt_t (List.mem_append_right _ (List.mem_append_right _ (List.mem_append_right _ (List.mem_append_right _ (List.mem_append_right _ (List.mem_append_right _ (List.mem_append_left _ h)))))))
theorem lt_t8 {w : Cond} (h : w ∈ tables_1_8) : w ∈ lw_tbl := lt_t (List.mem_append_right _ (List.mem_append_right _ (List.mem_append_right _ (List.mem_append_right _ (List.mem_append_right _ (List.mem_append_right _ (List.mem_append_right _ (List.mem_append_left _ h))))))))
theorem lt_t9 {w : Cond} (h : w ∈ tables_1_9) : w ∈ lw_tbl := lt_t (List.mem_append_right _ (List.mem_append_right _ (List.mem_append_right _ (List.mem_append_right _ (List.mem_append_right _ (List.mem_append_right _ (List.mem_append_right _ (List.mem_append_right _ (List.mem_append_left _ h)))))))))
theorem lt_t10 {w : Cond} (h : w ∈ tables_1_10) : w ∈ lw_tbl := lt_t (List.mem_append_right _ (List.mem_append_right _ (List.mem_append_right _ (List.mem_append_right _ (List.mem_append_right _ (List.mem_append_right _ (List.mem_append_right _ (List.mem_append_right _ (List.mem_append_right _ (h))))))))))
theorem st_r0 : Cond.stringRef "SidePonds$Tape" 68 "pond lock pipe turn boat spring jam seed law flow leak toll or and not area floor water wide open boats minute " ∈ lw_tbl := lt_t3 (List.mem_of_getElem? (i := 59) rfl)
theorem st_r1 : Cond.stringRef "SidePonds$Tape" 81 ";()+-*/=<>" ∈ lw_tbl := lt_t3 (List.mem_of_getElem? (i := 124) rfl)
theorem st_r2 : Cond.stringRef "SidePondsModel" 194 "pond lock pipe turn boat spring jam seed law flow leak toll or and not area floor water wide open boats minute " ∈ lw_tbl := lt_t7 (List.mem_of_getElem? (i := 235) rfl)
theorem st_r3 : Cond.stringRef "SidePonds" 130 "no such pond" ∈ lw_tbl := lt_t6 (List.mem_of_getElem? (i := 176) rfl)
theorem st_r4 : Cond.stringRef "SidePonds" 161 "no such what" ∈ lw_tbl := lt_t6 (List.mem_of_getElem? (i := 212) rfl)
theorem st_l0 : Cond.laysStatic "java/lang/String" "COMPACT_STRINGS" "Z" ∈ lw_tbl := lt_t3 (List.mem_of_getElem? (i := 69) rfl)
theorem st_l1 : Cond.laysStatic "jdk/internal/util/Preconditions" "SIOOBE_FORMATTER" "Ljava/util/function/BiFunction;" ∈ lw_tbl := lt_t3 (List.mem_of_getElem? (i := 85) rfl)
theorem st_l2 : Cond.laysStatic "java/lang/Throwable" "UNASSIGNED_STACK" "[Ljava/lang/StackTraceElement;" ∈ lw_tbl := lt_t6 (List.mem_of_getElem? (i := 163) rfl)
theorem st_l3 : Cond.laysStatic "java/lang/Throwable" "SUPPRESSED_SENTINEL" "Ljava/util/List;" ∈ lw_tbl := lt_t6 (List.mem_of_getElem? (i := 165) rfl)
theorem st_i0 : Cond.initialized "java/lang/String" ∈ lw_tbl := lt_t1 (List.mem_of_getElem? (i := 14) rfl)
theorem st_i1 : Cond.initialized "jdk/internal/util/Preconditions" ∈ lw_tbl := lt_t1 (List.mem_of_getElem? (i := 16) rfl)
theorem st_i2 : Cond.initialized "java/lang/Throwable" ∈ lw_tbl := lt_t1 (List.mem_of_getElem? (i := 19) rfl)
theorem st_b0 : Cond.castable exIO exIO ∈ lw_tbl := lt_t6 (List.mem_of_getElem? (i := 138) rfl)
theorem st_b1 : Cond.castable exNS exNS ∈ lw_tbl := lt_t6 (List.mem_of_getElem? (i := 205) rfl)
theorem st_b2 : Cond.declares (Bundle.initS "java/lang/RuntimeException") ∈ lw_tbl := lt_t6 (List.mem_of_getElem? (i := 140) rfl)
theorem st_b3 : Cond.declares (Bundle.initS "java/lang/Exception") ∈ lw_tbl := lt_t6 (List.mem_of_getElem? (i := 142) rfl)
theorem st_b4 : Cond.declares (Bundle.initS "java/lang/Throwable") ∈ lw_tbl := lt_t6 (List.mem_of_getElem? (i := 144) rfl)
theorem st_n0 : Cond.methodLinkNest RX10 11 yX7_init "SidePonds" ∈ lw_tbl := lt_t1 (List.mem_of_getElem? (i := 35) rfl)
theorem st_n1 : Cond.methodLinkNest RX7 11 yX9_init "SidePonds" ∈ lw_tbl := lt_t1 (List.mem_of_getElem? (i := 41) rfl)
theorem st_n2 : Cond.methodLinkNest RX7 20 yX0_init "SidePonds" ∈ lw_tbl := lt_t1 (List.mem_of_getElem? (i := 71) rfl)
theorem st_n3 : Cond.methodLinkNest RX0 41 yX4_init "SidePonds" ∈ lw_tbl := lt_t1 (List.mem_of_getElem? (i := 77) rfl)
theorem st_n4 : Cond.methodLinkNest RX0 48 yX3_init "SidePonds" ∈ lw_tbl := lt_t1 (List.mem_of_getElem? (i := 126) rfl)
theorem st_n5 : Cond.methodLinkNest RX10 20 yX0_init "SidePonds" ∈ lw_tbl := lt_t2 (List.mem_of_getElem? (i := 36) rfl)
theorem st_n6 : Cond.methodLinkNest RX10 42 yX5_init "SidePonds" ∈ lw_tbl := lt_t2 (List.mem_of_getElem? (i := 88) rfl)
theorem st_n7 : Cond.methodLinkNest RX10 49 yX6_init "SidePonds" ∈ lw_tbl := lt_t2 (List.mem_of_getElem? (i := 130) rfl)
theorem st_n8 : Cond.methodLinkNest RX10 56 yX1_init "SidePonds" ∈ lw_tbl := lt_t2 (List.mem_of_getElem? (i := 161) rfl)
theorem st_n9 : Cond.methodLinkNest RX10 63 yX2_init "SidePonds" ∈ lw_tbl := lt_t2 (List.mem_of_getElem? (i := 192) rfl)
abbrev stF : List Cond := flatC (Jvm.Cond.and given_1 narrow_1)
set_option maxRecDepth 20000 in
theorem st_q0 : ∀ j, j < 111 → stF[41 + j]? = some (Cond.eq (.elem (.field (.string "SidePonds$Tape" 68) "java/lang/String" "value" "[B") (.int (Int32.ofNat j))) (.int ((mj_byt.getD 0 []).getD j 0))) := by decide +kernel
theorem st_e0 : ∀ j, j < 111 → Cond.eq (.elem (.field (.string "SidePonds$Tape" 68) "java/lang/String" "value" "[B") (.int (Int32.ofNat j))) (.int ((mj_byt.getD 0 []).getD j 0)) ∈ stF := fun j hj => List.mem_of_getElem? (st_q0 j hj)
set_option maxRecDepth 20000 in
theorem st_q1 : ∀ j, j < 10 → stF[156 + j]? = some (Cond.eq (.elem (.field (.string "SidePonds$Tape" 81) "java/lang/String" "value" "[B") (.int (Int32.ofNat j))) (.int ((mj_byt.getD 1 []).getD j 0))) := by decide +kernel
theorem st_e1 : ∀ j, j < 10 → Cond.eq (.elem (.field (.string "SidePonds$Tape" 81) "java/lang/String" "value" "[B") (.int (Int32.ofNat j))) (.int ((mj_byt.getD 1 []).getD j 0)) ∈ stF := fun j hj => List.mem_of_getElem? (st_q1 j hj)
set_option maxRecDepth 20000 in
theorem st_q2 : ∀ j, j < 111 → stF[208 + j]? = some (Cond.eq (.elem (.field (.string "SidePondsModel" 194) "java/lang/String" "value" "[B") (.int (Int32.ofNat j))) (.int ((mj_byt.getD 2 []).getD j 0))) := by decide +kernel
theorem st_e2 : ∀ j, j < 111 → Cond.eq (.elem (.field (.string "SidePondsModel" 194) "java/lang/String" "value" "[B") (.int (Int32.ofNat j))) (.int ((mj_byt.getD 2 []).getD j 0)) ∈ stF := fun j hj => List.mem_of_getElem? (st_q2 j hj)
theorem st_one {args : Array Value} {s : State} {own : String} {k n : Nat} {bs : List Int32} {A : Nat → Prop} (hn : n < 2 ^ 31) (h : ∀ c ∈ stF, c.before args s = true) (h1 : Cond.exactly (.string own k) "java/lang/String" ∈ stF) (h2 : Cond.eq (.field (.string own k) "java/lang/String" "coder" "B") (.int 0) ∈ stF) (h3 : Cond.arrayOf (.field (.string own k) "java/lang/String" "value" "[B") .byte ∈ stF) (h4 : Cond.eq (.length (.field (.string own k) "java/lang/String" "value" "[B")) (.int (Int32.ofNat n)) ∈ stF) (h5 : ∀ j, j < n → Cond.eq (.elem (.field (.string own k) "java/lang/String" "value" "[B") (.int (Int32.ofNat j))) (.int (bs.getD j 0)) ∈ stF) (hA : ∀ a : Nat, a < s.heap.size → ¬ A a) :
    ∃ a v : Nat, (va_O "java/lang/String" a A s s.heap ∧ va_OF "java/lang/String" "coder" "B" (.int 0) a A s s.heap ∧ va_OF "java/lang/String" "value" "[B" (.ref v) a A s s.heap ∧ va_T .byte v n (fun j => .int (bs.getD j 0)) A s s.heap) ∧ (Term.string own k).eval args s none [] s = some (.ref a) := by
  have z : ∀ i : Nat, i < 1 → i = 0 := fun i hi => by omega
  obtain ⟨adK, adV, hS, he⟩ := vk_Sof (args := args) (s := s) (N := 1) (tm := fun _ => .string own k) (len := [n]) (byt := [bs]) (A := A)
    (fun i hi => by rw [z i hi]; exact hn) (fun i _ => h _ h1) (fun i _ => h _ h2) (fun i _ => h _ h3) (fun i hi => by rw [z i hi]; exact h _ h4) (fun i hi j hj => by rw [z i hi] at hj ⊢; exact h _ (h5 j hj)) (fun i j hi hj hne => absurd ((z i hi).trans (z j hj).symm) hne) hA
  exact ⟨adK 0, adV 0, hS.1 0 (by omega), he 0 (by omega)⟩
theorem st_ref {args : Array Value} {s : State} {own : String} {k : Nat} (h : ∀ c ∈ stF, c.before args s = true) (h1 : Cond.exactly (.string own k) "java/lang/String" ∈ stF) : ∃ a : Nat, (Term.string own k).eval args s none [] s = some (.ref a) := by
  obtain ⟨a, c, cA, kA, q1, -⟩ := Cond.exactly_spec (args := args) (first := s) (o := none) (s := s) (idx := []) (t := .string own k) (cls := "java/lang/String") (h _ h1)
  exact ⟨a, q1⟩
/-- addresses: the texts, the row for answers, the script -/
def st_t (bo sc : Nat) (a v : Nat → Nat) (x : Nat → Nat) : Nat → Nat → Nat := fun k i => if k = 87 then bo else if k = 88 then sc else if k = 200 then a i else if k = 201 then v i else x i
theorem st_rho {bo sc b : Nat} {a v x : Nat → Nat} {i : Nat} (hi : i < 3) : mj_rho b (st_t bo sc a v x) 200 i = a i ∧ mj_rho b (st_t bo sc a v x) 201 i = v i := by
  match i, hi with
  | 0, _ => exact ⟨rfl, rfl⟩
  | 1, _ => exact ⟨rfl, rfl⟩
  | 2, _ => exact ⟨rfl, rfl⟩
theorem st_begin {args : Array Value} {s : State} {sc : Nat} (htbl : ∀ w ∈ lw_tbl, w.before args s = true) (hgv : (Jvm.Cond.and given_1 narrow_1).before args s = true) :
    ∃ a v x : Nat → Nat, ∀ bo : Nat, mj_Z (mj_rho s.heap.size (st_t bo sc a v x)) (fun q => s.heap.size ≤ q) s s.heap ∧ EX s.heap.size (st_t bo sc a v x) s := by
  have hF : ∀ c ∈ stF, c.before args s = true := flat_of_before _ hgv
  have hA : ∀ a : Nat, a < s.heap.size → ¬ s.heap.size ≤ a := fun a h => Nat.not_le_of_lt h
  obtain ⟨a0, v0, f0, e0⟩ := st_one (own := "SidePonds$Tape") (k := 68) (n := 111) (A := fun q => s.heap.size ≤ q) (by decide) hF (List.mem_of_getElem? (i := 37) (by decide +kernel)) (List.mem_of_getElem? (i := 38) (by decide +kernel)) (List.mem_of_getElem? (i := 39) (by decide +kernel)) (List.mem_of_getElem? (i := 40) (by decide +kernel)) st_e0 hA
  obtain ⟨a1, v1, f1, e1⟩ := st_one (own := "SidePonds$Tape") (k := 81) (n := 10) (A := fun q => s.heap.size ≤ q) (by decide) hF (List.mem_of_getElem? (i := 152) (by decide +kernel)) (List.mem_of_getElem? (i := 153) (by decide +kernel)) (List.mem_of_getElem? (i := 154) (by decide +kernel)) (List.mem_of_getElem? (i := 155) (by decide +kernel)) st_e1 hA
  obtain ⟨a2, v2, f2, e2⟩ := st_one (own := "SidePondsModel") (k := 194) (n := 111) (A := fun q => s.heap.size ≤ q) (by decide) hF (List.mem_of_getElem? (i := 204) (by decide +kernel)) (List.mem_of_getElem? (i := 205) (by decide +kernel)) (List.mem_of_getElem? (i := 206) (by decide +kernel)) (List.mem_of_getElem? (i := 207) (by decide +kernel)) st_e2 hA
  obtain ⟨a3, e3⟩ := st_ref (own := "SidePonds") (k := 130) hF (List.mem_of_getElem? (i := 167) (by decide +kernel))
  obtain ⟨a4, e4⟩ := st_ref (own := "SidePonds") (k := 161) hF (List.mem_of_getElem? (i := 185) (by decide +kernel))
  refine ⟨fun i => if i = 0 then a0 else if i = 1 then a1 else a2, fun i => if i = 0 then v0 else if i = 1 then v1 else v2, fun i => if i = 0 then a3 else a4, fun bo => ⟨⟨fun i hi => ?_, fun i q hq => ?_, ?_, ?_⟩, ?_⟩⟩
  · rw [(st_rho hi).1, (st_rho hi).2]
    match i, hi with
    | 0, _ => exact f0
    | 1, _ => exact f1
    | 2, _ => exact f2
  · have hi : i < 3 := (List.getElem?_eq_some_iff.mp hq).1
    rw [(st_rho hi).1]
    match i, hi, hq with
    | 0, _, hq => cases hq; exact vk_R.of (htbl _ st_r0) e0
    | 1, _, hq => cases hq; exact vk_R.of (htbl _ st_r1) e1
    | 2, _, hq => cases hq; exact vk_R.of (htbl _ st_r2) e2
  · exact va_Zof (htbl _ st_l0) (htbl _ st_i0) (va_eqt (hF (Cond.eq (.static "java/lang/String" "COMPACT_STRINGS" "Z") (.int 1)) (List.mem_of_getElem? (i := 4) (by decide +kernel)))) hA
  · exact va_Zqof (htbl _ st_l1) (htbl _ st_i1) (hF (Cond.isRef (.static "jdk/internal/util/Preconditions" "SIOOBE_FORMATTER" "Ljava/util/function/BiFunction;")) (List.mem_of_getElem? (i := 5) (by decide +kernel))) hA
  · refine ⟨vk_R.of (htbl _ st_r3) e3, vk_R.of (htbl _ st_r4) e4, vx_Zqof (htbl _ st_l2) (htbl _ st_i2) (hF (Cond.isRef (.static "java/lang/Throwable" "UNASSIGNED_STACK" "[Ljava/lang/StackTraceElement;")) (List.mem_of_getElem? (i := 9) (by decide +kernel))) hA, vx_Zqof (htbl _ st_l3) (htbl _ st_i2) (hF (Cond.isRef (.static "java/lang/Throwable" "SUPPRESSED_SENTINEL" "Ljava/util/List;")) (List.mem_of_getElem? (i := 10) (by decide +kernel))) hA, fun w hw => ?_, va_Nc.of (hF (Cond.not (.castable exNS exIO)) (List.mem_of_getElem? (i := 23) (by decide +kernel)))⟩
    simp only [exB, List.mem_cons, List.not_mem_nil, or_false] at hw
    rcases hw with rfl | rfl | rfl | rfl | rfl
    · exact va_Nw.of rfl (htbl _ st_b0)
    · exact va_Nw.of rfl (htbl _ st_b1)
    · exact va_Nw.of rfl (htbl _ st_b2)
    · exact va_Nw.of rfl (htbl _ st_b3)
    · exact va_Nw.of rfl (htbl _ st_b4)
theorem st_nest {args : Array Value} {s : State} (htbl : ∀ w ∈ lw_tbl, w.before args s = true) : rc_N s := by
  intro w hw
  simp only [rc_W, List.mem_cons, List.not_mem_nil, or_false] at hw
  rcases hw with rfl | rfl | rfl | rfl | rfl | rfl | rfl | rfl | rfl | rfl
  · exact va_Nw.of rfl (htbl _ st_n0)
  · exact va_Nw.of rfl (htbl _ st_n1)
  · exact va_Nw.of rfl (htbl _ st_n2)
  · exact va_Nw.of rfl (htbl _ st_n3)
  · exact va_Nw.of rfl (htbl _ st_n4)
  · exact va_Nw.of rfl (htbl _ st_n5)
  · exact va_Nw.of rfl (htbl _ st_n6)
  · exact va_Nw.of rfl (htbl _ st_n7)
  · exact va_Nw.of rfl (htbl _ st_n8)
  · exact va_Nw.of rfl (htbl _ st_n9)
/-- the classes of the tables, the classes of arrays -/
theorem st_known {args : Array Value} {s : State} (hts : ∀ w ∈ mj_W, w.before args s = true) : ∃ (D : va_G) (G : ClassId × ClassId × ClassId), va_K D vwCl (mj_ty G) s := by
  have hc : ∀ c : Nat, ∃ q : ClassId × (Nat → Nat), ∀ x, vwCl[c]? = some x → u_Kn s x.1 x.2.1 x.2.2 q.1 q.2 := by
    intro c
    cases hx : vwCl[c]? with
    | none => exact ⟨(0, fun _ => 0), fun x h => by cases h⟩
    | some x =>
      have hl : c < 12 := (List.getElem?_eq_some_iff.mp hx).1
      have key : ∃ (cC : ClassId) (iS : Nat → Nat), u_Kn s x.1 x.2.1 x.2.2 cC iS := by
        match c, hl, hx with
        | 0, _, hx => cases hx; exact u_known hts hX0 (hts _ tX0)
        | 1, _, hx => cases hx; exact u_known hts hX1 (hts _ tX1)
        | 2, _, hx => cases hx; exact u_known hts hX2 (hts _ tX2)
        | 3, _, hx => cases hx; exact u_known hts hX3 (hts _ tX3)
        | 4, _, hx => cases hx; exact u_known hts hX4 (hts _ tX4)
        | 5, _, hx => cases hx; exact u_known hts hX5 (hts _ tX5)
        | 6, _, hx => cases hx; exact u_known hts hX6 (hts _ tX6)
        | 7, _, hx => cases hx; exact u_known hts hX7 (hts _ tX7)
        | 8, _, hx => cases hx; exact u_known hts hX8 (hts _ tX8)
        | 9, _, hx => cases hx; exact u_known hts hX9 (hts _ tX9)
        | 10, _, hx => cases hx; exact u_known hts hX10 (hts _ tX10)
        | 11, _, hx => cases hx; exact u_known hts hX11 (hts _ tX11)
      obtain ⟨cC, iS, h⟩ := key
      exact ⟨(cC, iS), fun y hy => by cases hy; exact h⟩
  obtain ⟨f, hf⟩ := Classical.axiomOfChoice hc
  have arr : ∀ {ty : FieldType}, Cond.arrayClass ty ∈ mj_W → ∃ cA : ClassId, (∀ n z, s.isArrayOf (arrV cA n z) ty) ∧ s.vm.findClass ("[" ++ ty.toString) = some cA := by
    intro ty hw
    obtain ⟨cA, kA, comp, h1, h2, h3⟩ := Cond.arrayClass_spec (args := args) (first := s) (o := none) (s := s) (idx := []) (hts _ hw)
    exact ⟨cA, fun n z => ⟨fun k h => (by cases h), kA, h2, comp, h3⟩, h1⟩
  obtain ⟨cI, i1, i2⟩ := arr a_int
  obtain ⟨cZ, z1, z2⟩ := arr a_boolean
  obtain ⟨cJ, j1, j2⟩ := arr a_long
  refine ⟨(fun c => (f c).1, fun c => (f c).2), (cI, cZ, cJ), fun c q hq => hf c q hq, fun k q hk => ?_⟩
  have hl : k < 3 := (List.getElem?_eq_some_iff.mp hk).1
  match k, hl, hk with
  | 0, _, hk => cases hk; exact ⟨i1, i2⟩
  | 1, _, hk => cases hk; exact ⟨z1, z2⟩
  | 2, _, hk => cases hk; exact ⟨j1, j2⟩

