/-! THE CLAIM OUT OF ONE WALK OF THE LAW'S BODY. Your part is whole_start (and what it stands on); all else here is the same for every law, but numbers. -/
def R_law : String := "SidePondsLaw"
def lw_P (b : Addr) (xs : List Int32) (args : Array Value) (s : State) : Prop := args = #[.ref b] ∧ s.IntsAt b xs ∧ xs.length ≤ 3072 ∧ (Jvm.Cond.and given_1 narrow_1).before args s = true
def lw_Q (_ : Array Value) (s : State) (o : Outcome) (t : State) : Prop := o = .returned (some (.int 1)) ∧ Framed s o t [] 601024 7293034
def lw_Z (below : List Frame) (a : Array Value) (s : State) : State → Prop := fun t => ∃ o, t.status = .running ∧ Ended t below o ∧ lw_Q a s o t
/-- the law's own end, with 1 on the stack, nothing written that was there before, its room as the claim has it -/
theorem lw_ret {p : Program} {l : Launch} {e : Env} {s : State} {m : MethodId} {below : List Frame} {meth : Method} {c : Code} {b : Nat} (hx : p.tables.exec = Jvm.exec) (hb : c.code = code) (hr : meth.sig.returnType = ret) (hlocks : meth.locks = false) {pc : Nat} {H : Heap} {ls : Array Slot} (hdg : decode code pc = .ok (.ireturn, 1)) : W p l e room_1 s m #[Value.ref b] below meth c H [] 601024 7293034 (lw_Z below #[Value.ref b] s) (F0 m pc ls [.int 1]) := by
  intro T hT X
  obtain ⟨fs, hret, hrun, hended, hW, hframe⟩ := X.leave (v := some (.int 1)) (hlocks := hlocks) (fun h => by rw [hr] at h; cases h)
  have hmeth' : T.vm.method? m = some meth := X.method'
  refine ⟨T.setFrames fs, ?_, .returned (some (.int 1)), hrun, hended, rfl, ⟨_, rfl⟩, hW, hframe⟩
  jvm_step X.here [X.here.top, hx, hb, hdg, hmeth', hr, ret, narrow_b1]
  (try refine ⟨rfl, ?_⟩); (try refine ⟨rfl, ?_⟩)
  first | (intro acts; rw [hret _ acts rfl rfl rfl]) | rw [hret _ _ rfl rfl rfl]
  exact Steps.refl _
/-- what holds at the law's entry: the machine, the code, the tables' words (any of lw_tbl by 'hts w (by decide +kernel)'), the script of L ints xs at the cell b, what the Statement gives of the start (any of its parts by flat_of_before) -/
def lw_At (p : Program) (s : State) (m : MethodId) (meth : Method) (c : Code) (b L : Nat) (xs : Nat → Int32) : Prop :=
  p.tables.exec = Jvm.exec ∧ c.code = code ∧ meth.sig.returnType = ret ∧ c.maxLocals = 7 ∧ s.vm.findClass R_law = some m.cls ∧ (∀ w ∈ lw_tbl, w.before #[Value.ref b] s = true) ∧ va_X b L xs s s.heap ∧ b < s.heap.size ∧ meth.locks = false ∧ (Jvm.Cond.and given_1 narrow_1).before #[Value.ref b] s = true
abbrev LwC : Type := (Program) × (Launch) × (Env) × (State) × (MethodId) × (List Frame) × (Method) × (Code) × (Nat) × (Nat) × (Nat → Int32) × (va_G) × (ClassId × ClassId × ClassId) × (Nat) × (Nat → Nat → Nat)
abbrev LwC.p (K : LwC) : Program := K.1
abbrev LwC.l (K : LwC) : Launch := K.2.1
abbrev LwC.e (K : LwC) : Env := K.2.2.1
abbrev LwC.s (K : LwC) : State := K.2.2.2.1
abbrev LwC.m (K : LwC) : MethodId := K.2.2.2.2.1
abbrev LwC.below (K : LwC) : List Frame := K.2.2.2.2.2.1
abbrev LwC.meth (K : LwC) : Method := K.2.2.2.2.2.2.1
abbrev LwC.c (K : LwC) : Code := K.2.2.2.2.2.2.2.1
abbrev LwC.sc (K : LwC) : Nat := K.2.2.2.2.2.2.2.2.1
abbrev LwC.L (K : LwC) : Nat := K.2.2.2.2.2.2.2.2.2.1
abbrev LwC.xs (K : LwC) : Nat → Int32 := K.2.2.2.2.2.2.2.2.2.2.1
abbrev LwC.D (K : LwC) : va_G := K.2.2.2.2.2.2.2.2.2.2.2.1
abbrev LwC.G (K : LwC) : ClassId × ClassId × ClassId := K.2.2.2.2.2.2.2.2.2.2.2.2.1
abbrev LwC.b (K : LwC) : Nat := K.2.2.2.2.2.2.2.2.2.2.2.2.2.1
abbrev LwC.t (K : LwC) : Nat → Nat → Nat := K.2.2.2.2.2.2.2.2.2.2.2.2.2.2
abbrev LwC.ρ (K : LwC) : Nat → Nat → Nat := mj_rho K.b K.t
def LwE (K : LwC) : Prop := (K.p.tables.exec = Jvm.exec) ∧ (K.c.code = code) ∧ (K.c.maxLocals = 7) ∧ (K.meth.sig.returnType = ret) ∧ (K.meth.locks = false) ∧ (K.s.vm.findClass RL = some K.m.cls) ∧ (∀ w ∈ lw_tbl, w.before #[Value.ref K.sc] K.s = true) ∧ (va_K K.D vwCl (mj_ty K.G) K.s) ∧ (va_X K.sc K.L K.xs K.s K.s.heap) ∧ (K.sc < K.s.heap.size) ∧ (K.L ≤ 3072) ∧ (K.s.heap.size = K.b) ∧ (mj_Z K.ρ (fun q => K.b ≤ q) K.s K.s.heap) ∧ (K.b + 117 ≤ K.t 87 0) ∧ (K.t 88 0 = K.sc) ∧ (K.l.flags = flags0) ∧ ((Jvm.Cond.and given_1 narrow_1).before #[Value.ref K.sc] K.s = true)
theorem LwE.exec {K : LwC} (E : LwE K) : K.p.tables.exec = Jvm.exec := E.1
theorem LwE.code {K : LwC} (E : LwE K) : K.c.code = code := E.2.1
theorem LwE.ml {K : LwC} (E : LwE K) : K.c.maxLocals = 7 := E.2.2.1
theorem LwE.ret {K : LwC} (E : LwE K) : K.meth.sig.returnType = ret := E.2.2.2.1
theorem LwE.locks {K : LwC} (E : LwE K) : K.meth.locks = false := E.2.2.2.2.1
theorem LwE.own {K : LwC} (E : LwE K) : K.s.vm.findClass RL = some K.m.cls := E.2.2.2.2.2.1
theorem LwE.tbl {K : LwC} (E : LwE K) : ∀ w ∈ lw_tbl, w.before #[Value.ref K.sc] K.s = true := E.2.2.2.2.2.2.1
theorem LwE.kn {K : LwC} (E : LwE K) : va_K K.D vwCl (mj_ty K.G) K.s := E.2.2.2.2.2.2.2.1
theorem LwE.scr {K : LwC} (E : LwE K) : va_X K.sc K.L K.xs K.s K.s.heap := E.2.2.2.2.2.2.2.2.1
theorem LwE.scl {K : LwC} (E : LwE K) : K.sc < K.s.heap.size := E.2.2.2.2.2.2.2.2.2.1
theorem LwE.len {K : LwC} (E : LwE K) : K.L ≤ 3072 := E.2.2.2.2.2.2.2.2.2.2.1
theorem LwE.base {K : LwC} (E : LwE K) : K.s.heap.size = K.b := E.2.2.2.2.2.2.2.2.2.2.2.1
theorem LwE.Z {K : LwC} (E : LwE K) : mj_Z K.ρ (fun q => K.b ≤ q) K.s K.s.heap := E.2.2.2.2.2.2.2.2.2.2.2.2.1
theorem LwE.bo {K : LwC} (E : LwE K) : K.b + 117 ≤ K.t 87 0 := E.2.2.2.2.2.2.2.2.2.2.2.2.2.1
theorem LwE.sc {K : LwC} (E : LwE K) : K.t 88 0 = K.sc := E.2.2.2.2.2.2.2.2.2.2.2.2.2.2.1
theorem LwE.flags {K : LwC} (E : LwE K) : K.l.flags = flags0 := E.2.2.2.2.2.2.2.2.2.2.2.2.2.2.2.1
theorem LwE.hgv {K : LwC} (E : LwE K) : (Jvm.Cond.and given_1 narrow_1).before #[Value.ref K.sc] K.s = true := E.2.2.2.2.2.2.2.2.2.2.2.2.2.2.2.2
def LH (K : LwC) (σ τ : MS) (g : Nat → Int64) (H : Heap) : Prop := va_P K.D vwCl (mj_ws mj_OC K.G K.ρ σ) H ∧ va_P K.D vwCl (mj_ws mj_OM K.G K.ρ τ) H ∧ va_P K.D vwCl [(K.ρ 87 0, .inl (K.G.2.2, 1, .inr (.inl g)))] H
/-- from here the law comes to its end with true; n calls that may throw are left -/
def RLaw (K : LwC) (n pc : Nat) (ls : List (Option MV)) (st : List MV) (σ τ : MS) (g : Nat → Int64) : Prop :=
  LwE K → ∀ (H : Heap) (locs : List Loc) (a : Array Slot) (cells slots : Nat), LH K σ τ g H → va_S (fun q => K.b ≤ q) K.s.heap H locs → mj_L K.ρ a 7 ls → cells + n ≤ 601024 ∧ slots + 6 * n ≤ 7293034 →
    W K.p K.l K.e room_1 K.s K.m #[Value.ref K.sc] K.below K.meth K.c H locs cells slots (lw_Z K.below #[Value.ref K.sc] K.s) (F0 K.m pc a (st.map (mj_rv K.ρ)))
theorem LwE.ts {K : LwC} (E : LwE K) : ∀ w ∈ mj_W, w.before #[Value.ref K.sc] K.s = true := fun w hw => E.tbl w (mj_good w hw).1
section RL
variable {K : LwC} {n pc : Nat} {ls : List (Option MV)} {st : List MV} {σ τ : MS} {g : Nat → Int64}
theorem rl_iconst {n1 : Int} {v : Int32} (hd : decode code pc = .ok (.iconst n1, 1)) (hv : Int32.ofInt n1 = v) (h : RLaw K n (pc + 1) ls (iV v :: st) σ τ g) : RLaw K n pc ls st σ τ g := by
  intro E H locs a cells slots hP hS hL hB
  exact lv_iconst E.exec E.code hd hv (h E H locs a cells slots hP hS hL hB)
theorem rl_bipush {n1 : Int} {v : Int32} (hd : decode code pc = .ok (.bipush n1, 2)) (hv : (Int8.ofInt n1).toInt32 = v) (h : RLaw K n (pc + 2) ls (iV v :: st) σ τ g) : RLaw K n pc ls st σ τ g := by
  intro E H locs a cells slots hP hS hL hB
  exact lv_bipush E.exec E.code hd hv (h E H locs a cells slots hP hS hL hB)
theorem rl_iload {i : Nat} {x : Int32} (hd : decode code pc = .ok (.iload i, 2)) (hl : ls[i]? = some (some (iV x))) (h : RLaw K n (pc + 2) ls (iV x :: st) σ τ g) : RLaw K n pc ls st σ τ g := by
  intro E H locs a cells slots hP hS hL hB
  exact lv_iload E.exec E.code hd (hL.at hl) (h E H locs a cells slots hP hS hL hB)
theorem rl_iload_n {k : Fin 4} {i : Nat} {x : Int32} (hd : decode code pc = .ok (.iload_n k, 1)) (hi : (k : Nat) = i) (hl : ls[i]? = some (some (iV x))) (h : RLaw K n (pc + 1) ls (iV x :: st) σ τ g) : RLaw K n pc ls st σ τ g := by
  intro E H locs a cells slots hP hS hL hB
  exact lv_iload_n E.exec E.code hd hi (hL.at hl) (h E H locs a cells slots hP hS hL hB)
theorem rl_aload_n {k : Fin 4} {i : Nat} {x y : Nat} (hd : decode code pc = .ok (.aload_n k, 1)) (hi : (k : Nat) = i) (hl : ls[i]? = some (some (rV x y))) (h : RLaw K n (pc + 1) ls (rV x y :: st) σ τ g) : RLaw K n pc ls st σ τ g := by
  intro E H locs a cells slots hP hS hL hB
  exact lv_aload_n E.exec E.code hd hi (hL.at hl) (h E H locs a cells slots hP hS hL hB)
theorem rl_istore {i : Nat} {x : Int32} (hd : decode code pc = .ok (.istore i, 2)) (hn : i < 7) (hk : mj_ok ls i = true) (h : RLaw K n (pc + 2) (ls.set i (some (iV x))) st σ τ g) : RLaw K n pc ls (iV x :: st) σ τ g := by
  intro E H locs a cells slots hP hS hL hB
  exact lv_istore E.exec E.code hd hL hn rfl (fun a' hL' => h E H locs a' cells slots hP hS (mj_L.st1 hL' hk) hB)
theorem rl_iinc {i : Nat} {n1 : Int} {x v : Int32} (hd : decode code pc = .ok (.iinc i n1, 3)) (hl : ls[i]? = some (some (iV x))) (hv : x + Int32.ofInt n1 = v) (hn : i < 7) (hk : mj_ok ls i = true) (h : RLaw K n (pc + 3) (ls.set i (some (iV v))) st σ τ g) : RLaw K n pc ls st σ τ g := by
  intro E H locs a cells slots hP hS hL hB
  have hm : (i, Value.int x) ∈ mj_toL K.ρ 0 ls := (mj_toL_mem K.ρ ls 0 _).mpr ⟨i, iV x, hl, by simp [mj_rv]⟩
  obtain ⟨k, hk1⟩ := List.getElem?_of_mem hm
  exact lv_iinc E.exec E.code hd hL hk1 hv hn rfl (fun a' hL' => h E H locs a' cells slots hP hS (mj_L.st1 (v := iV v) hL' hk) hB)
theorem rl_iadd {x y : Int32} (hd : decode code pc = .ok (.iadd, 1)) (h : RLaw K n (pc + 1) ls (iV (x + y) :: st) σ τ g) : RLaw K n pc ls (iV y :: iV x :: st) σ τ g := by
  intro E H locs a cells slots hP hS hL hB
  exact lv_iadd E.exec E.code hd (h E H locs a cells slots hP hS hL hB)
theorem rl_isub {x y : Int32} (hd : decode code pc = .ok (.isub, 1)) (h : RLaw K n (pc + 1) ls (iV (x - y) :: st) σ τ g) : RLaw K n pc ls (iV y :: iV x :: st) σ τ g := by
  intro E H locs a cells slots hP hS hL hB
  exact lv_isub E.exec E.code hd (h E H locs a cells slots hP hS hL hB)
theorem rl_iand {x y : Int32} (hd : decode code pc = .ok (.iand, 1)) (h : RLaw K n (pc + 1) ls (iV (x &&& y) :: st) σ τ g) : RLaw K n pc ls (iV y :: iV x :: st) σ τ g := by
  intro E H locs a cells slots hP hS hL hB
  exact lv_iand E.exec E.code hd (h E H locs a cells slots hP hS hL hB)
theorem rl_i2l {x : Int32} {v : Int64} (hd : decode code pc = .ok (.i2l, 1)) (hv : x.toInt64 = v) (h : RLaw K n (pc + 1) ls (lV v :: st) σ τ g) : RLaw K n pc ls (iV x :: st) σ τ g := by
  intro E H locs a cells slots hP hS hL hB
  exact lv_i2l E.exec E.code hd hv (h E H locs a cells slots hP hS hL hB)
theorem rl_lcmp {x y : Int64} (hd : decode code pc = .ok (.lcmp, 1)) (h : RLaw K n (pc + 1) ls (iV (lg_cmp x y) :: st) σ τ g) : RLaw K n pc ls (lV y :: lV x :: st) σ τ g := by
  intro E H locs a cells slots hP hS hL hB
  exact W.lcmp E.exec E.code hd (h E H locs a cells slots hP hS hL hB)
theorem rl_if_eq {x : Int32} {off : Int} {tgt : Nat} (hd : decode code pc = .ok (.ifCond .eq off, 3)) (ht : (pc : Int) + off = (tgt : Int)) (kt : x = 0 → RLaw K n tgt ls st σ τ g) (kf : ¬ x = 0 → RLaw K n (pc + 3) ls st σ τ g) : RLaw K n pc ls (iV x :: st) σ τ g := by
  intro E H locs a cells slots hP hS hL hB
  exact lv_if_eq E.exec E.code hd ht (fun q => kt q E H locs a cells slots hP hS hL hB) (fun q => kf q E H locs a cells slots hP hS hL hB)
theorem rl_if_ne {x : Int32} {off : Int} {tgt : Nat} (hd : decode code pc = .ok (.ifCond .ne off, 3)) (ht : (pc : Int) + off = (tgt : Int)) (kt : ¬ x = 0 → RLaw K n tgt ls st σ τ g) (kf : x = 0 → RLaw K n (pc + 3) ls st σ τ g) : RLaw K n pc ls (iV x :: st) σ τ g := by
  intro E H locs a cells slots hP hS hL hB
  exact lv_if_ne E.exec E.code hd ht (fun q => kt q E H locs a cells slots hP hS hL hB) (fun q => kf q E H locs a cells slots hP hS hL hB)
theorem rl_icmp_gt {x y : Int32} {off : Int} {tgt : Nat} (hd : decode code pc = .ok (.if_icmp .gt off, 3)) (ht : (pc : Int) + off = (tgt : Int)) (kt : y < x → RLaw K n tgt ls st σ τ g) (kf : ¬ y < x → RLaw K n (pc + 3) ls st σ τ g) : RLaw K n pc ls (iV y :: iV x :: st) σ τ g := by
  intro E H locs a cells slots hP hS hL hB
  exact lv_icmp_gt E.exec E.code hd ht (fun q => kt q E H locs a cells slots hP hS hL hB) (fun q => kf q E H locs a cells slots hP hS hL hB)
theorem rl_icmp_eq {x y : Int32} {off : Int} {tgt : Nat} (hd : decode code pc = .ok (.if_icmp .eq off, 3)) (ht : (pc : Int) + off = (tgt : Int)) (kt : x = y → RLaw K n tgt ls st σ τ g) (kf : ¬ x = y → RLaw K n (pc + 3) ls st σ τ g) : RLaw K n pc ls (iV y :: iV x :: st) σ τ g := by
  intro E H locs a cells slots hP hS hL hB
  exact lv_icmp_eq E.exec E.code hd ht (fun q => kt q E H locs a cells slots hP hS hL hB) (fun q => kf q E H locs a cells slots hP hS hL hB)
theorem rl_goto {off : Int} {tgt : Nat} (hd : decode code pc = .ok (.goto off, 3)) (ht : (pc : Int) + off = (tgt : Int)) (h : RLaw K n tgt ls st σ τ g) : RLaw K n pc ls st σ τ g := by
  intro E H locs a cells slots hP hS hL hB
  exact lv_goto E.exec E.code hd ht (h E H locs a cells slots hP hS hL hB)
theorem rl_tableOut {dflt lo hi : Int} {offs : Array Int} {len : Nat} {x : Int32} {tgt : Nat} (hd : decode code pc = .ok (.tableswitch dflt lo hi offs, len)) (hx : x.toInt < lo ∨ hi < x.toInt) (ht : (pc : Int) + dflt = (tgt : Int)) (h : RLaw K n tgt ls st σ τ g) : RLaw K n pc ls (iV x :: st) σ τ g := by
  intro E H locs a cells slots hP hS hL hB
  exact lv_tableOut E.exec E.code hd hx ht (h E H locs a cells slots hP hS hL hB)
theorem rl_tableIn {dflt lo hi : Int} {offs : Array Int} {len : Nat} {x : Int32} {off : Int} {tgt : Nat} (hd : decode code pc = .ok (.tableswitch dflt lo hi offs, len)) (h1 : ¬ x.toInt < lo) (h2 : ¬ hi < x.toInt) (ho : offs[(x.toInt - lo).toNat]? = some off) (ht : (pc : Int) + off = (tgt : Int)) (h : RLaw K n tgt ls st σ τ g) : RLaw K n pc ls (iV x :: st) σ τ g := by
  intro E H locs a cells slots hP hS hL hB
  exact lv_tableIn E.exec E.code hd h1 h2 ho ht (h E H locs a cells slots hP hS hL hB)
theorem rl_alen (hd : decode code pc = .ok (.arraylength, 1)) (h : RLaw K n (pc + 1) ls (iV (Int32.ofNat K.L) :: st) σ τ g) : RLaw K n pc ls (rV 88 0 :: st) σ τ g := by
  intro E H locs a cells slots hP hS hL hB
  have e : K.ρ 88 0 = K.sc := E.sc
  refine W.eq (g2 := F0 K.m pc a (.ref K.sc :: st.map (mj_rv K.ρ))) (by rw [← e]; rfl) ?_
  exact va_slen E.exec E.code E.scr E.scl (by have h1 := E.scl; rw [E.base] at h1; exact Nat.not_le_of_lt h1) hS hd (h E H locs a cells slots hP hS hL hB)
theorem rl_sld {i : Int32} (hin : vp_in i K.L) (hd : decode code pc = .ok (.iaload, 1)) (h : RLaw K n (pc + 1) ls (iV (K.xs i.toNatClampNeg) :: st) σ τ g) : RLaw K n pc ls (iV i :: rV 88 0 :: st) σ τ g := by
  intro E H locs a cells slots hP hS hL hB
  have e : K.ρ 88 0 = K.sc := E.sc
  refine W.eq (g2 := F0 K.m pc a (.int i :: .ref K.sc :: st.map (mj_rv K.ρ))) (by rw [← e]; rfl) ?_
  exact va_sld E.exec E.code E.scr E.scl (by have h1 := E.scl; rw [E.base] at h1; exact Nat.not_le_of_lt h1) hS hin hd (h E H locs a cells slots hP hS hL hB)
theorem rl_out {j : Int32} (hin : vp_in j 1) (hd : decode code pc = .ok (.laload, 1)) (h : RLaw K n (pc + 1) ls (lV (g j.toNatClampNeg) :: st) σ τ g) : RLaw K n pc ls (iV j :: rV 87 0 :: st) σ τ g := by
  intro E H locs a cells slots hP hS hL hB
  exact va_lald E.exec E.code E.kn hP.2.2 0 2 rfl rfl hin hd (h E H locs a cells slots hP hS hL hB)
theorem rl_end (hd : decode code pc = .ok (.ireturn, 1)) : RLaw K n pc ls [iV 1] σ τ g := by
  intro E H locs a cells slots hP hS hL hB
  refine W.widen (k := 601024) (n := 7293034) (by omega) (by omega) (va_forget (fun q hq => by rw [E.base]; exact hS.2.2 q hq) ?_)
  exact lw_ret E.exec E.code E.ret E.locks hd
/-- the other cells stay -/
theorem LH.other {O : List (Nat × Nat)} {H H1 : Heap} (E : LwE K) (hO : O.length = O.length) (hlt : ∀ x ∈ O, K.ρ x.1 x.2 < K.b + 117) (hP : va_P K.D vwCl [(K.ρ 87 0, .inl (K.G.2.2, 1, .inr (.inl g)))] H) (hk : ∀ q : Nat, q < H.size → ¬ mj_AW O K.ρ H.size q → H1[q]? = H[q]?) : va_P K.D vwCl [(K.ρ 87 0, .inl (K.G.2.2, 1, .inr (.inl g)))] H1 := by
  refine hP.kept (fun k q hq => ?_)
  have hl := (hP k q hq).lt
  have hq1 : q.1 = K.t 87 0 := by
    have h1 := List.mem_of_getElem? hq
    rw [List.mem_singleton] at h1
    rw [h1]; rfl
  refine hk q.1 hl ?_
  rintro (⟨x, hx, h1⟩ | h1)
  · have := hlt x hx
    have := E.bo
    omega
  · omega
theorem LH.world {O O' : List (Nat × Nat)} {ρ : Nat → Nat → Nat} {D : va_G} {G : ClassId × ClassId × ClassId} {H H1 : Heap} (hne : ∀ x ∈ O, ∀ y ∈ O', ρ x.1 x.2 ≠ ρ y.1 y.2) (hP : va_P D vwCl (mj_ws O' G ρ τ) H) (hk : ∀ q : Nat, q < H.size → ¬ mj_AW O ρ H.size q → H1[q]? = H[q]?) : va_P D vwCl (mj_ws O' G ρ τ) H1 := by
  refine hP.kept (fun k q hq => ?_)
  have hl := (hP k q hq).lt
  obtain ⟨y, hy, rfl⟩ := List.mem_map.mp (List.mem_of_getElem? hq)
  refine hk _ hl ?_
  rintro (⟨x, hx, h1⟩ | h1)
  · exact hne x hx y hy h1.symm
  · exact absurd h1 (Nat.not_le_of_lt hl)
theorem mj_rho_ne {b : Nat} {t : Nat → Nat → Nat} : ∀ x ∈ mj_OC, ∀ y ∈ mj_OM, mj_rho b t x.1 x.2 ≠ mj_rho b t y.1 y.2 := by
  intro x hx y hy h
  rw [mj_rho_of (List.mem_append_left _ hx), mj_rho_of (List.mem_append_right _ hy)] at h
  have h1 : ∀ x ∈ mj_OC, mj_of x.1 x.2 < 75 := by decide +kernel
  have h2 : ∀ x ∈ mj_OM, 75 ≤ mj_of x.1 x.2 := by decide +kernel
  have := h1 x hx
  have := h2 y hy
  omega
theorem mj_rho_lt {b : Nat} {t : Nat → Nat → Nat} : ∀ x ∈ mj_OC ++ mj_OM, mj_rho b t x.1 x.2 < b + 117 ∧ b ≤ mj_rho b t x.1 x.2 := by
  intro x hx
  rw [mj_rho_of hx]
  have := mj_of_lt x hx
  omega

theorem rl_callC {M' : MI} {d na idx z : Nat} {As stk : List MV} {ls0 : List (Option MV)} (hcv : mj_CV M' na) (him : Cond.instanceMethod M'.1 ∈ mj_W) (hse : Cond.selects M'.1.cls M'.1 M'.1 ∈ mj_W) (hw : Cond.methodLink RL idx M'.1 ∈ mj_W) (hd : decode code pc = .ok (.invokevirtual idx, 3)) (hn : As.length = na) (hC : M'.1.cls = RX10) (hz : (mj_args (rV 0 0 :: As)).length + z = M'.2.2.1) (hl0 : mj_args (rV 0 0 :: As) ++ List.replicate z none = ls0) (hs : stk = As.reverse ++ rV 0 0 :: st) (hst : (st.map fun v => (mj_rv (fun _ _ => 0) v).category).sum ≤ 8) (hdn : d ≤ 2000)
    (h : R mj_OC d M' (fun r σ' => RLaw K n (pc + 3) ls (r.toList ++ st) σ' τ g) 0 ls0 [] σ) : RLaw K n pc ls stk σ τ g := by
  subst hl0
  subst hs
  intro E H locs a cells slots hP hS hL hB
  have hts := E.ts
  have hmet := mj_met K.l K.D K.G K.ρ H.size hcv.2.2.1 hz mj_rho_C h
  have hAW : ∀ q, mj_AW mj_OC K.ρ H.size q → K.b ≤ q := by
    rintro q (⟨x, hx, rfl⟩ | h)
    · exact (mj_rho_lt x (List.mem_append_left _ hx)).2
    · exact Nat.le_trans (by rw [← E.base]; exact hS.1) h
  have hB2 := rc_callB (rm' := mj_rm d) (Rm := room_1) (own := RL) hts hcv hw ⟨by show d + 1 ≤ 2048; omega, by show 8 + (M'.2.2.1 + 11) + 40 * d ≤ 84000; have := hcv.2.2.2.1; omega⟩
  have hrec : ∃ cell : Cell, H[K.ρ 0 0]? = some cell ∧ cell.vm.isStatics = false ∧ K.s.vm.findClass M'.1.cls = some cell.cls := by
    have hg := mj_ws_get (O := mj_OC) (G := K.G) (ρ := K.ρ) (σ := σ) (q := 0) (k := 0) (i := 0) rfl
    have := va_recv E.kn hP.1 (ci := 10) rfl hg
    rw [hC]
    exact this
  have hrun := va_runV (As := As.map (mj_rv K.ρ)) (b := K.ρ 0 0) (rest := st.map (mj_rv K.ρ)) (g := F0 K.m pc a ((As.reverse ++ rV 0 0 :: st).map (mj_rv K.ρ))) (e := K.e) (below := K.below) (meth := K.meth) (locs := locs) (cells := cells) (slots := slots) (H := H) (Ts := mj_W) (own := RL) ⟨E.exec, E.code, E.ml, E.own, hts⟩ hmet ⟨hB2, hts _ him, hts _ hse⟩ ⟨mj_blind, hrec, fun U hU hW => ⟨rfl, by rw [hU], by rw [hU]; exact hP.1, va_K.moved hW.alike E.kn, by rw [hU]; exact E.Z.next hW hS.2.1 hAW⟩⟩ rfl (by rw [List.length_map]; exact hn) hL.1 (by rw [List.map_append, List.map_reverse]; rfl) (lv_room (rest := (As.reverse ++ rV 0 0 :: st).map (mj_rv K.ρ)) (by rw [mj_cat]; exact hst)) hd ⟨by show cells + 0 ≤ 601024; omega, by show slots + 0 ≤ 7293034; omega⟩
  intro T hT X
  obtain ⟨v, st₀, t, T', L, h0, X', hLo, e1, e2, ⟨⟨r, σ', hv, hq, hp1⟩, hz1, hk1⟩, stp⟩ := hrun T hT X
  cases hv
  rw [h0] at hz1 hk1
  rw [← e1] at hp1
  have hk2 : ∀ q : Nat, q < H.size → ¬ mj_AW mj_OC K.ρ H.size q → T'.heap[q]? = H[q]? := fun q h1 h2 => by rw [e1]; exact hk1 q h1 h2
  have hS2 : va_S (fun q => K.b ≤ q) K.s.heap T'.heap (locs ++ L) := ⟨Nat.le_trans hS.1 (by rw [e1]; exact hz1), fun q h1 h2 => by rw [hk2 q (Nat.lt_of_lt_of_le h1 hS.1) (fun z => h2 (hAW q z))]; exact hS.2.1 q h1 h2, fun q hq => by
      rcases List.mem_append.mp hq with h | h
      · exact hS.2.2 q h
      · exact hAW _ (hLo q h)⟩
  have hk := hq E T'.heap (locs ++ L) a cells slots ⟨hp1, LH.world mj_rho_ne hP.2.1 hk2, LH.other E rfl (fun x hx => (mj_rho_lt x (List.mem_append_left _ hx)).1) hP.2.2 hk2⟩ hS2 hL hB
  rw [List.map_append] at hk
  obtain ⟨t2, a1, b1⟩ := hk T' rfl X'
  refine ⟨t2, stp t2 ?_, b1⟩
  cases r <;> exact a1
theorem rl_callM {M' : MI} {d na idx z : Nat} {As stk : List MV} {ls0 : List (Option MV)} (hcv : mj_CV M' na) (him : Cond.instanceMethod M'.1 ∈ mj_W) (hse : Cond.selects M'.1.cls M'.1 M'.1 ∈ mj_W) (hw : Cond.methodLink RL idx M'.1 ∈ mj_W) (hd : decode code pc = .ok (.invokevirtual idx, 3)) (hn : As.length = na) (hC : M'.1.cls = RX11) (hz : (mj_args (rV 45 0 :: As)).length + z = M'.2.2.1) (hl0 : mj_args (rV 45 0 :: As) ++ List.replicate z none = ls0) (hs : stk = As.reverse ++ rV 45 0 :: st) (hst : (st.map fun v => (mj_rv (fun _ _ => 0) v).category).sum ≤ 8) (hdn : d ≤ 2000)
    (h : R mj_OM d M' (fun r σ' => RLaw K n (pc + 3) ls (r.toList ++ st) σ σ' g) 0 ls0 [] τ) : RLaw K n pc ls stk σ τ g := by
  subst hl0
  subst hs
  intro E H locs a cells slots hP hS hL hB
  have hts := E.ts
  have hmet := mj_met K.l K.D K.G K.ρ H.size hcv.2.2.1 hz mj_rho_M h
  have hAW : ∀ q, mj_AW mj_OM K.ρ H.size q → K.b ≤ q := by
    rintro q (⟨x, hx, rfl⟩ | h)
    · exact (mj_rho_lt x (List.mem_append_right _ hx)).2
    · exact Nat.le_trans (by rw [← E.base]; exact hS.1) h
  have hB2 := rc_callB (rm' := mj_rm d) (Rm := room_1) (own := RL) hts hcv hw ⟨by show d + 1 ≤ 2048; omega, by show 8 + (M'.2.2.1 + 11) + 40 * d ≤ 84000; have := hcv.2.2.2.1; omega⟩
  have hrec : ∃ cell : Cell, H[K.ρ 45 0]? = some cell ∧ cell.vm.isStatics = false ∧ K.s.vm.findClass M'.1.cls = some cell.cls := by
    have hg := mj_ws_get (O := mj_OM) (G := K.G) (ρ := K.ρ) (σ := τ) (q := 0) (k := 45) (i := 0) rfl
    have := va_recv E.kn hP.2.1 (ci := 11) rfl hg
    rw [hC]
    exact this
  have hrun := va_runV (As := As.map (mj_rv K.ρ)) (b := K.ρ 45 0) (rest := st.map (mj_rv K.ρ)) (g := F0 K.m pc a ((As.reverse ++ rV 45 0 :: st).map (mj_rv K.ρ))) (e := K.e) (below := K.below) (meth := K.meth) (locs := locs) (cells := cells) (slots := slots) (H := H) (Ts := mj_W) (own := RL) ⟨E.exec, E.code, E.ml, E.own, hts⟩ hmet ⟨hB2, hts _ him, hts _ hse⟩ ⟨mj_blind, hrec, fun U hU hW => ⟨rfl, by rw [hU], by rw [hU]; exact hP.2.1, va_K.moved hW.alike E.kn, by rw [hU]; exact E.Z.next hW hS.2.1 hAW⟩⟩ rfl (by rw [List.length_map]; exact hn) hL.1 (by rw [List.map_append, List.map_reverse]; rfl) (lv_room (rest := (As.reverse ++ rV 45 0 :: st).map (mj_rv K.ρ)) (by rw [mj_cat]; exact hst)) hd ⟨by show cells + 0 ≤ 601024; omega, by show slots + 0 ≤ 7293034; omega⟩
  intro T hT X
  obtain ⟨v, st₀, t, T', L, h0, X', hLo, e1, e2, ⟨⟨r, σ', hv, hq, hp1⟩, hz1, hk1⟩, stp⟩ := hrun T hT X
  cases hv
  rw [h0] at hz1 hk1
  rw [← e1] at hp1
  have hk2 : ∀ q : Nat, q < H.size → ¬ mj_AW mj_OM K.ρ H.size q → T'.heap[q]? = H[q]? := fun q h1 h2 => by rw [e1]; exact hk1 q h1 h2
  have hS2 : va_S (fun q => K.b ≤ q) K.s.heap T'.heap (locs ++ L) := ⟨Nat.le_trans hS.1 (by rw [e1]; exact hz1), fun q h1 h2 => by rw [hk2 q (Nat.lt_of_lt_of_le h1 hS.1) (fun z => h2 (hAW q z))]; exact hS.2.1 q h1 h2, fun q hq => by
      rcases List.mem_append.mp hq with h | h
      · exact hS.2.2 q h
      · exact hAW _ (hLo q h)⟩
  have hk := hq E T'.heap (locs ++ L) a cells slots ⟨LH.world (fun x hx y hy h => mj_rho_ne y hy x hx h.symm) hP.1 hk2, hp1, LH.other E rfl (fun x hx => (mj_rho_lt x (List.mem_append_right _ hx)).1) hP.2.2 hk2⟩ hS2 hL hB
  rw [List.map_append] at hk
  obtain ⟨t2, a1, b1⟩ := hk T' rfl X'
  refine ⟨t2, stp t2 ?_, b1⟩
  cases r <;> exact a1
end RL
