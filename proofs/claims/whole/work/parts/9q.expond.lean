theorem qX10_128 : Cond.classLink RX10 128 "java/lang/IndexOutOfBoundsException" ∈ mj_W := mj_t6 (List.mem_of_getElem? (i := 136) rfl) rfl
theorem qX10_159 : Cond.classLink RX10 159 "java/util/NoSuchElementException" ∈ mj_W := mj_t6 (List.mem_of_getElem? (i := 203) rfl) rfl
theorem qL_13 : Cond.classLink RL 13 "java/lang/IndexOutOfBoundsException" ∈ mj_W := mj_t6 (List.mem_of_getElem? (i := 130) rfl) rfl
theorem qL_15 : Cond.classLink RL 15 "java/util/NoSuchElementException" ∈ mj_W := mj_t6 (List.mem_of_getElem? (i := 131) rfl) rfl
theorem c_L_pond : Cond.codeWith yL_pond cL_pond 5 (some .int) [(0, 10, 13, 13), (0, 10, 17, 15)] ∈ mj_W := mj_t6 (List.mem_of_getElem? (i := 129) rfl) rfl
theorem s_L_pond : Cond.static yL_pond ∈ mj_W := mj_t6 (List.mem_of_getElem? (i := 128) rfl) rfl
abbrev exIO : String := "java/lang/IndexOutOfBoundsException"
abbrev exNS : String := "java/util/NoSuchElementException"
theorem hasRoom_less {s : State} {pl : Platform} {r r' : Room} (h : s.hasRoom pl r = true) (h1 : r'.frames ≤ r.frames) (h2 : r'.cells ≤ r.cells) (h3 : r'.slots ≤ r.slots) (h4 : r'.locals ≤ r.locals) : s.hasRoom pl r' = true := by
  simp only [State.hasRoom, Bool.and_eq_true, decide_eq_true_eq] at h ⊢
  obtain ⟨⟨⟨⟨a1, a2, a3, a4, a5, a6⟩, a7⟩, a8⟩, a9⟩ := h
  exact ⟨⟨⟨⟨by omega, by omega, by omega, by omega, by omega, a6⟩, by omega⟩, by omega⟩, a9⟩
section RM
variable {p : Program} {l : Launch} {e : Env} {s : State} {m : MethodId} {args : Array Value} {below : List Frame} {meth : Method} {c : Code} {H : Heap} {locs : List Loc} {cells slots : Nat}
theorem W_room {R R' : Room} {Q : State → Prop} {g : JFrame} (h1 : R'.frames ≤ R.frames) (h2 : R'.cells ≤ R.cells) (h3 : R'.slots ≤ R.slots) (h4 : R'.locals ≤ R.locals) (k : W p l e R' s m args below meth c H locs cells slots Q g) : W p l e R s m args below meth c H locs cells slots Q g :=
  fun T hT X => k T hT ⟨X.admits, X.cas, X.clock, X.frames, hasRoom_less X.room h1 h2 h3 h4, X.hears, X.method, X.code, X.here, X.tail, X.warmed, X.limits, X.bytes, X.same⟩
theorem W_MQ {R : Room} {Qc : Array Value → State → Outcome → State → Prop} {a : Array Value} {mc ms mc' ms' : Nat} {free : Nat → Prop} {g : JFrame} (h1 : mc ≤ mc') (h2 : ms ≤ ms') (k : W p l e R s m args below meth c H locs cells slots (MQ below Qc a s mc ms free) g) : W p l e R s m args below meth c H locs cells slots (MQ below Qc a s mc' ms' free) g := by
  intro T hT X
  obtain ⟨t, a1, o, b1, b2, b3, L, ⟨b4, b5, b6⟩, b7⟩ := k T hT X
  exact ⟨t, a1, o, b1, b2, b3, L, ⟨b4, b5, b6.mono h1 h2⟩, b7⟩
end RM
def exB : List Cond := [.castable exIO exIO, .castable exNS exNS, .declares (Bundle.initS "java/lang/RuntimeException"), .declares (Bundle.initS "java/lang/Exception"), .declares (Bundle.initS "java/lang/Throwable")]
theorem exB_warm {s U : State} (hW : s.WarmedH U.vm) (h : ∀ w ∈ exB, va_Nw w s) : ∀ w ∈ exB, va_Nw w U := by
  intro w hw
  have h1 := h w hw
  simp only [exB, List.mem_cons, List.not_mem_nil, or_false] at hw
  rcases hw with rfl | rfl | rfl | rfl | rfl
  · exact va_Nw.warmC hW h1
  · exact va_Nw.warmC hW h1
  · exact va_Nw.warmD hW h1
  · exact va_Nw.warmD hW h1
  · exact va_Nw.warmD hW h1
theorem exB_same {U V : State} (hv : U.vm = V.vm) (h : ∀ w ∈ exB, va_Nw w U) : ∀ w ∈ exB, va_Nw w V := by
  intro w hw
  have h1 := h w hw
  simp only [exB, List.mem_cons, List.not_mem_nil, or_false] at hw
  rcases hw with rfl | rfl | rfl | rfl | rfl <;> exact va_Nw.same rfl hv h1
theorem exB_use {s : State} {args : Array Value} (h : ∀ w ∈ exB, va_Nw w s) : ∀ w ∈ exB, w.before args s = true := by
  intro w hw
  have h1 := h w hw
  simp only [exB, List.mem_cons, List.not_mem_nil, or_false] at hw
  rcases hw with rfl | rfl | rfl | rfl | rfl <;> exact va_Nw.use rfl h1
/-- a link to the next class's constructor at 13 -/
def nx_b : ByteArray := ⟨#[0x2a, 0x2b, 0xb7, 0x00, 0x0d, 0xb1]⟩
def nx_atoms (own : String) (ic : Nat) (X : String) (Y : String) (r : List String) : List Cond :=
  Bundle.throwableAtoms ++ Bundle.throwableSAtoms ++ (Bundle.passSAtoms X Y 13 nx_b ++ Bundle.chainSAtoms Y r) ++
  [.methodLink own ic (Bundle.initS X), .instantiable X 6, .castable X X, .selects X Bundle.tFill0 Bundle.tFill0, .selects X Bundle.tFill Bundle.tFill,
   .lays X Bundle.tN "cause" "Ljava/lang/Throwable;", .lays X Bundle.tN "stackTrace" Bundle.steD, .lays X Bundle.tN "suppressedExceptions" Bundle.listD, .lays X Bundle.tN "detailMessage" "Ljava/lang/String;",
   .isRef (.static Bundle.tN "UNASSIGNED_STACK" Bundle.steD), .isRef (.static Bundle.tN "SUPPRESSED_SENTINEL" Bundle.listD),
   .fieldLink Bundle.tN 198 Bundle.tN "backtrace" "Ljava/lang/Object;", .lays Bundle.tN Bundle.tN "backtrace" "Ljava/lang/Object;", .lays X Bundle.tN "backtrace" "Ljava/lang/Object;"]
def nx_atS (own : String) (ic : Nat) (X : String) (Y : String) (r : List String) : List Cond := (nx_atoms own ic X Y r).filter vx_no
/-- what throwing asks of the tables and statics -/
def EX (b : Nat) (t : Nat → Nat → Nat) (U : State) : Prop := vk_R RX10 130 "no such pond" (t 203 0) U ∧ vk_R RX10 161 "no such what" (t 203 1) U ∧ vx_Zq Bundle.tN "UNASSIGNED_STACK" Bundle.steD (fun q => b ≤ q) U U.heap ∧ vx_Zq Bundle.tN "SUPPRESSED_SENTINEL" Bundle.listD (fun q => b ≤ q) U U.heap ∧ (∀ w ∈ exB, va_Nw w U) ∧ va_Nc exNS exIO U
theorem EX.next {b : Nat} {t : Nat → Nat → Nat} {s U : State} (h : EX b t s) (hW : s.WarmedH U.vm) (hq : ∀ a : Nat, a < s.heap.size → ¬ b ≤ a → U.heap[a]? = s.heap[a]?) : EX b t U :=
  ⟨h.1.warm hW, h.2.1.warm hW, (h.2.2.1.moved hW.alike).kept hq, (h.2.2.2.1.moved hW.alike).kept hq, exB_warm hW h.2.2.2.2.1, va_Nc.moved hW.alike h.2.2.2.2.2⟩
theorem EX.same {b : Nat} {t : Nat → Nat → Nat} {U V : State} (hv : V.vm = U.vm) (hh : V.heap = U.heap) (h : EX b t U) : EX b t V := by
  have hal : U.vm.Alike V.vm := by rw [hv]; exact Vm.Alike.refl U.vm
  obtain ⟨h1, h2, h3, h4, h5, h7⟩ := h
  refine ⟨h1.same hv, h2.same hv, ?_, ?_, exB_same hv.symm h5, va_Nc.moved hal h7⟩
  · rw [hh]; exact h3.moved hal
  · rw [hh]; exact h4.moved hal
abbrev rmXp : Room := { frames := 6, cells := 1, slots := 6, locals := 240 }
set_option maxRecDepth 20000 in
theorem ex_g0 : ∀ w ∈ (vx_atS RX10 132 "java/lang/IndexOutOfBoundsException" ["java/lang/RuntimeException", "java/lang/Exception"]).filter goodWord, w ∈ lw_tbl := by decide +kernel
set_option maxRecDepth 20000 in
theorem ex_g1 : ∀ w ∈ (nx_atS RX10 163 "java/util/NoSuchElementException" "java/lang/RuntimeException" ["java/lang/Exception"]).filter goodWord, w ∈ lw_tbl := by decide +kernel
theorem ex_b0 : ∀ w ∈ (vx_atS RX10 132 "java/lang/IndexOutOfBoundsException" ["java/lang/RuntimeException", "java/lang/Exception"]).filter (fun w => !goodWord w), w ∈ exB := by decide +kernel
theorem ex_b1 : ∀ w ∈ (nx_atS RX10 163 "java/util/NoSuchElementException" "java/lang/RuntimeException" ["java/lang/Exception"]).filter (fun w => !goodWord w), w ∈ exB := by decide +kernel
theorem ex_o0 : ∀ w ∈ Cond.classLink RX10 128 "java/lang/IndexOutOfBoundsException" :: Cond.initialized "java/lang/IndexOutOfBoundsException" :: vx_atS RX10 132 "java/lang/IndexOutOfBoundsException" ["java/lang/RuntimeException", "java/lang/Exception"], vx_ot w = true := by decide +kernel
theorem ex_o1 : ∀ w ∈ Cond.classLink RX10 159 "java/util/NoSuchElementException" :: Cond.initialized "java/util/NoSuchElementException" :: nx_atS RX10 163 "java/util/NoSuchElementException" "java/lang/RuntimeException" ["java/lang/Exception"], vx_ot w = true := by decide +kernel
theorem ex_n : ∀ n ∈ ["java/lang/RuntimeException", "java/lang/Exception"], Bundle.fit n = true := by decide +kernel
theorem ex_at {args : Array Value} {s : State} {L B : List Cond} (hts : ∀ w ∈ mj_W, w.before args s = true) (h1 : ∀ w ∈ L.filter goodWord, w ∈ lw_tbl) (h2 : ∀ w ∈ L.filter (fun w => !goodWord w), w ∈ B) (h3 : ∀ w ∈ B, w.before args s = true) : ∀ w ∈ L, w.before args s = true :=
  vx_hat (fun w hw => hts w (List.mem_filter.mpr ⟨h1 w hw, (List.mem_filter.mp hw).2⟩)) h2 h3
