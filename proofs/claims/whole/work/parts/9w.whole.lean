section LWS
variable {p : Program} {l : Launch} {e : Env} {s : State} {m : MethodId} {below : List Frame} {meth : Method} {c : Code} {sc : Nat} {D : va_G} {G : ClassId × ClassId × ClassId} {ρ : Nat → Nat → Nat}
/-- the law calls a constructor -/
theorem lw_ctor {M' : MI} {rm' : Room} {idx pc x cells slots : Nat} {a : Array Slot} {H : Heap} {locs : List Loc} {x0 : va_E} {Qh : Heap → Prop} {rest : List Value} {Qw : State → Prop} (hexec : p.tables.exec = Jvm.exec) (hcode : c.code = code) (hml : c.maxLocals = 7) (hown : s.vm.findClass RL = some m.cls) (hts : ∀ w ∈ mj_W, w.before #[Value.ref sc] s = true) (hK : va_K D vwCl (mj_ty G) s) (hZ : mj_Z ρ (fun q => s.heap.size ≤ q) s s.heap) (hN : rc_N s)
    (hy : M'.1.name = "<init>") (hret : M'.2.2.2 = none) (hcv : mj_CV M' 0) (him : Cond.instanceMethod M'.1 ∈ mj_W) (hw : Cond.methodLink RL idx M'.1 ∈ mj_W) (hd : decode code pc = .ok (.invokespecial idx, 3)) (hle : 1 ≤ M'.2.2.1) (hx : s.heap.size ≤ x) (hH : HC D x [x0] H) (hS : va_S (fun q => s.heap.size ≤ q) s.heap H locs) (hsz : a.size = 7) (hrest : (rest.map fun v => v.category).sum ≤ 8)
    (hr : rm'.frames + 1 ≤ room_1.frames ∧ 8 + (M'.2.2.1 + 11) + rm'.locals ≤ room_1.locals) (hc : cells + rm'.cells ≤ room_1.cells ∧ slots + rm'.slots ≤ room_1.slots) (hR : RC ρ D G rm' M' x Qh 0 0 0 [.ref x] [] [x0])
    (h : ∀ (H' : Heap) (locs' : List Loc), Qh H' → H.size ≤ H'.size → (∀ q : Nat, q < x → H'[q]? = H[q]?) → va_S (fun q => s.heap.size ≤ q) s.heap H' locs' → W p l e room_1 s m #[Value.ref sc] below meth c H' locs' (cells + rm'.cells) (slots + rm'.slots) Qw (F0 m (pc + 3) a rest)) :
    W p l e room_1 s m #[Value.ref sc] below meth c H locs cells slots Qw (F0 m pc a (.ref x :: rest)) := by
  have hmet := rc_met l (av := [.ref x]) hcv.2.2.1 hy hret hle hR
  have hB := rc_callB (Rm := room_1) (own := RL) hts hcv hw hr
  rw [hret] at hB
  have hrun := va_runI (As := []) (b := x) (rest := rest) (g := F0 m pc a (.ref x :: rest)) (e := e) (below := below) (meth := meth) (locs := locs) (cells := cells) (slots := slots) (H := H) (Ts := mj_W) (own := RL) (s := s) (args := #[Value.ref sc]) (R := room_1) (p := p) ⟨hexec, hcode, hml, hown, hts⟩ hmet ⟨hB, hy, hts _ him⟩ ⟨rc_blind, fun U hU hW => ⟨rfl, by rw [hU]; exact hH, va_K.moved hW.alike hK, by rw [hU]; exact hZ.next hW hS.2.1 (fun q hq => Nat.le_trans hx hq), hN.warm hW⟩⟩ rfl rfl hsz rfl (lv_room hrest) hd hc
  intro T hT X
  obtain ⟨v, st₀, t, T', L, h0, X', hLo, e1, e2, ⟨hv, hq, hz, hk⟩, stp⟩ := hrun T hT X
  cases hv
  rw [h0] at hz hk
  rw [← e1] at hq hz
  have hk2 : ∀ q : Nat, q < x → T'.heap[q]? = H[q]? := fun q h1 => by rw [e1]; exact hk q (by rw [hH.1]; omega) (by omega)
  obtain ⟨t2, a1, b1⟩ := h T'.heap (locs ++ L) hq hz hk2 ⟨Nat.le_trans hS.1 hz, fun q h1 h2 => by rw [hk2 q (by omega)]; exact hS.2.1 q h1 h2, fun q hq => by
      rcases List.mem_append.mp hq with h | h
      · exact hS.2.2 q h
      · exact Nat.le_trans hx (hLo q h)⟩ T' rfl X'
  exact ⟨t2, stp t2 a1, b1⟩
/-- a new object of the law's -/
theorem lw_new {C : String} {T : u_T} {N ci idx pc cells slots : Nat} {a : Array Slot} {H : Heap} {locs : List Loc} {rest : List Value} {Qw : State → Prop} {fs : List Value} (ty : Nat → FieldType) (hexec : p.tables.exec = Jvm.exec) (hcode : c.code = code) (hown : s.vm.findClass RL = some m.cls) (hts : ∀ w ∈ mj_W, w.before #[Value.ref sc] s = true) (hK : va_K D vwCl (mj_ty G) s)
    (hc : vwCl[ci]? = some (C, T, N)) (hin : ∀ w ∈ u_ws C T N, w ∈ mj_W) (hty : ∀ k, k < N → parseFieldDescriptor (T k).2.2.1 = some (ty k)) (hcl : Cond.classLink RL idx C ∈ mj_W) (hinst : Cond.instantiable C N ∈ mj_W) (hini : Cond.initialized C ∈ mj_W) (hfs : ∀ j, j < N → defaultValue (ty j) = vp_V fs j) (hd : decode code pc = .ok (.new idx, 3)) (hr : cells + 1 ≤ room_1.cells ∧ slots + N ≤ room_1.slots) (hS : va_S (fun q => s.heap.size ≤ q) s.heap H locs)
    (h : ∀ H1 : Heap, HC D H.size [.inr (ci, fs)] H1 → (∀ q : Nat, q < H.size → H1[q]? = H[q]?) → va_S (fun q => s.heap.size ≤ q) s.heap H1 locs → W p l e room_1 s m #[Value.ref sc] below meth c H1 locs (cells + 1) (slots + N) Qw (F0 m (pc + 3) a (.ref H.size :: rest))) :
    W p l e room_1 s m #[Value.ref sc] below meth c H locs cells slots Qw (F0 m pc a rest) := by
  have hKn := hK.1 ci _ hc
  refine W.newcK hexec hcode hown (hts _ hcl) (hts _ hinst) (hts _ hini) rfl hd hr.1 hr.2 hKn.2.1 rfl fun H1 kC hkC e1 z1 o1 => ?_
  have hH1 : HC D H.size [.inr (ci, fs)] H1 := by
    have h0 : HC D H.size [] H := ⟨rfl, fun k q hq => by simp [hc_ws] at hq⟩
    exact h0.push z1 (fun q hq => o1 q hq) ⟨_, hc, (u_born ty hts hin hKn hkC e1 hty).to hfs⟩
  exact h H1 hH1 o1 ⟨Nat.le_trans hS.1 (by omega), fun q h1 h2 => (o1 q (Nat.lt_of_lt_of_le h1 hS.1)).trans (hS.2.1 q h1 h2), hS.2.2⟩
end LWS
theorem whole_start {p : Program} {e : Env} {s : State} {m : MethodId} {below : List Frame} {meth : Method} {c : Code} (l : Launch) (hflags : l.flags = flags0) {b L : Nat} {xs : Nat → Int32} (hL : L ≤ 3072) (C0 : lw_At p s m meth c b L xs) : W p l e room_1 s m #[Value.ref b] below meth c s.heap [] 0 0 (lw_Z below #[Value.ref b] s) (entryFrame m ([Value.ref b] : List Value).toArray 7) := by
  obtain ⟨hexec, hcode, hret, hml, hown, htbl, hX, hbl, hlocks, hgv⟩ := C0
  have hown : s.vm.findClass RL = some m.cls := hown
  have hts : ∀ w ∈ mj_W, w.before #[Value.ref b] s = true := fun w hw => htbl w (mj_good w hw).1
  obtain ⟨av, vv, xv, hbeg⟩ := st_begin (sc := b) htbl hgv
  obtain ⟨D, G, hK⟩ := st_known hts
  have hN := st_nest htbl
  have hZ0 := (hbeg 0).1
  rw [lg_entry_eq]
  have hl0 := lv_entry [Value.ref b] (n := 7) (Nat.le_of_ble_eq_true rfl)
  generalize (lg_sl [Value.ref b] ++ List.replicate (7 - (lg_sl [Value.ref b]).length) Slot.unset).toArray = a0 at hl0 ⊢
  have hl0 : lv_has a0 7 [(0, .ref b)] := hl0
  have hS0 : va_S (fun q => s.heap.size ≤ q) s.heap s.heap [] := va_S.rf
  -- the class's object
  refine lw_new (ci := 10) (fs := [.null, .null, .null, .null, .null, .null, .null, .null, .null, .null, .int 0, .int 0, .int 0]) tyX10 hexec hcode hown hts hK rfl hX10 tyX10_ok qL_8 tX10 n_RX10 defX10 dL_law_0 (by decide) hS0 (fun H1 hH1 hk1 hS1 => ?_)
  refine lv_dup hexec hcode dL_law_3 rfl ?_
  refine lw_ctor (M' := mX10_init) (rm' := rmX10) (Qh := HC D s.heap.size (VX10 G s.heap.size)) hexec hcode hml hown hts hK hZ0 hN rfl rfl kX10_init i_X10_init lL_17 dL_law_4 (by decide) (Nat.le_refl _) hH1 hS1 hl0.1 (Nat.le_of_ble_eq_true rfl) ⟨by decide, by decide⟩ ⟨by decide, by decide⟩ qX10 (fun H2 locs2 hH2 hz2 hk2 hS2 => ?_)
  refine lv_astore_n (i := 1) hexec hcode dL_law_7 rfl hl0 (by decide) rfl (fun a1 hl1 => ?_)
  have hz2' : H2.size = s.heap.size + 75 := hH2.1
  -- the reference's object
  refine lw_new (ci := 11) (fs := [.int 0, .null, .int 0, .null, .null, .null, .null, .null, .null, .null, .null, .null, .null, .null, .null, .null, .null, .null, .null, .null, .null, .null, .null, .null, .int 0, .int 0, .int 0, .int 0, .int 0, .int 0, .int 0, .int 0, .int 0, .int 0, .int 0, .int 0, .int 0, .null, .null, .int 0, .null, .null, .null, .null, .null, .null, .null, .int 0, .int 0, .int 0, .int 0, .int 0, .int 0, .null, .int 0, .int 0, .int 0, .int 0, .int 0, .null, .null, .int 0, .int 0, .null, .null, .null, .null, .null, .null, .null]) tyX11 hexec hcode hown hts hK rfl hX11 tyX11_ok qL_18 tX11 n_RX11 defX11 dL_law_8 ⟨by decide, by decide⟩ hS2 (fun H3 hH3 hk3 hS3 => ?_)
  rw [hz2'] at hH3 hk3 ⊢
  refine lv_dup hexec hcode dL_law_11 rfl ?_
  refine lw_ctor (M' := mX11_init) (rm' := rmX11) (Qh := fun H => ∃ τ, MWd τ w00 ∧ va_P D vwCl (mj_ws mj_OM G (mj_rho s.heap.size (st_t 0 b av vv xv)) τ) H) hexec hcode hml hown hts hK hZ0 hN rfl rfl kX11_init i_X11_init lL_20 dL_law_12 (by decide) (Nat.le_add_right _ _) hH3 hS3 hl1.1 (Nat.le_of_ble_eq_true rfl) ⟨by decide, by decide⟩ ⟨by decide, by decide⟩ qX11 (fun H4 locs4 hH4 hz4 hk4 hS4 => ?_)
  refine lv_astore_n (i := 2) hexec hcode dL_law_15 rfl hl1 (by decide) rfl (fun a2 hl2 => ?_)
  obtain ⟨τ, hM, hP4⟩ := hH4
  -- the row for answers
  refine lv_iconst (v := 1) hexec hcode dL_law_16 (by decide) ?_
  refine va_newaK (atype := .long) hexec hcode (hts _ a_long) rfl dL_law_17 rfl (by decide) (N := 1) (by decide) (by decide) (by decide) (by decide) rfl fun H5 cA e5 z5 o5 hAr hNm => ?_
  have hcA : cA = G.2.2 := Option.some.inj (hNm.symm.trans (hK.2 2 _ rfl).2)
  subst hcA
  refine lv_astore_n (i := 3) hexec hcode dL_law_19 rfl hl2 (by decide) rfl (fun a3 hl3 => ?_)
  refine lv_iconst (v := 0) hexec hcode dL_law_20 (by decide) ?_
  refine lv_istore (i := 4) hexec hcode dL_law_21 hl3 (by decide) rfl (fun a4 hl4 => ?_)
  have hl4 : lv_has a4 7 [(4, .int 0), (3, .ref H4.size), (2, .ref (s.heap.size + 75)), (1, .ref s.heap.size), (0, .ref b)] := hl4
  have hbo : s.heap.size + 117 ≤ H4.size := by
    have h1 := (hP4 41 _ (mj_ws_get (q := 41) (k := 86) (i := 0) rfl)).lt
    have h2 : mj_rho s.heap.size (st_t 0 b av vv xv) 86 0 = s.heap.size + 116 := rfl
    have h3 : mj_rho s.heap.size (st_t 0 b av vv xv) 86 0 < H4.size := h1
    omega
  have hS5 : va_S (fun q => s.heap.size ≤ q) s.heap H5 locs4 := ⟨Nat.le_trans hS4.1 (by omega), fun q h1 h2 => (o5 q (Nat.lt_of_lt_of_le h1 hS4.1)).trans (hS4.2.1 q h1 h2), hS4.2.2⟩
  have hE : LwE (p, l, e, s, m, below, meth, c, b, L, xs, D, G, s.heap.size, st_t H4.size b av vv xv) := ⟨hexec, hcode, hml, hret, hlocks, hown, htbl, hK, hX, hbl, hL, rfl, (hbeg H4.size).1, hbo, rfl, hflags, hgv⟩
  have hP2 : va_P D vwCl (mj_ws mj_OC G (mj_rho s.heap.size (st_t H4.size b av vv xv)) sg0C) H5 := by
    refine (hc_to hH2 sg0C_at).kept (fun k q hq => ?_)
    obtain ⟨x, hx, rfl⟩ := List.mem_map.mp (List.mem_of_getElem? hq)
    have h1 : ∀ x ∈ mj_OC, mj_of x.1 x.2 < 75 := by decide +kernel
    have h2 := h1 x hx
    have h3 := mj_rho_of (b := s.heap.size) (t := st_t H4.size b av vv xv) (List.mem_append_left mj_OM hx)
    show H5[mj_rho s.heap.size (st_t H4.size b av vv xv) x.1 x.2]? = H2[mj_rho s.heap.size (st_t H4.size b av vv xv) x.1 x.2]?
    rw [h3, o5 _ (by omega), hk4 _ (by omega), hk3 _ (by omega)]
  have hP3 : va_P D vwCl (mj_ws mj_OM G (mj_rho s.heap.size (st_t H4.size b av vv xv)) τ) H5 := by
    have h1 : mj_ws mj_OM G (mj_rho s.heap.size (st_t H4.size b av vv xv)) τ = mj_ws mj_OM G (mj_rho s.heap.size (st_t 0 b av vv xv)) τ := rfl
    rw [h1]
    exact hP4.kept (fun k q hq => o5 _ ((hP4 k q hq).lt))
  have hP5 : va_P D vwCl [(H4.size, .inl (G.2.2, 1, .inr (.inl fun _ => 0)))] H5 := by
    intro k q hq
    have h1 := List.mem_of_getElem? hq
    rw [List.mem_singleton] at h1
    rw [h1]
    exact e5
  have hLs : mj_L (mj_rho s.heap.size (st_t H4.size b av vv xv)) a4 7 (l7 0) := by
    refine ⟨hl4.1, hl4.2.1, fun q hq => hl4.2.2 q ?_⟩
    have hq : q ∈ [((0 : Nat), Value.ref b), (1, .ref s.heap.size), (2, .ref (s.heap.size + 75)), (3, .ref H4.size), (4, .int 0)] := hq
    simp only [List.mem_cons, List.not_mem_nil, or_false] at hq
    rcases hq with rfl | rfl | rfl | rfl | rfl <;> simp
  exact rl_loop (K := (p, l, e, s, m, below, meth, c, b, L, xs, D, G, s.heap.size, st_t H4.size b av vv xv)) hL (hbeg H4.size).2 512 0 sg0C τ (fun _ => 0) w00 (by omega) (by show L < 0 + 6 * 512 + 6; omega) sg0C_w hM w00_wi hE H5 locs4 a4 _ _ ⟨hP2, hP3, hP5⟩ hS5 hLs ⟨by decide, by decide⟩
set_option maxHeartbeats 4000000 in
theorem lw_walk (l : Launch) (hflags : l.flags = flags0) (b : Addr) (xs : List Int32) : MetFree l x (headSpec (Jvm.Cond.code x code maxLocals ret :: tables_1) room_1) (lw_P b xs) (fun _ _ _ _ _ => True) lw_Q := by
  refine MetFree.of_bodyS (code := code) (maxLocals := maxLocals) (ret := ret) (by decide) ?_ ?_
  · intro args s m h hn
    obtain ⟨meth, c, h1, h2, h3, h4, h5, h6, -, -⟩ := Cond.code_spec hn (atoms_spec (ws := Jvm.Cond.code x code maxLocals ret :: tables_1) h _ List.mem_cons_self)
    exact ⟨meth, c, h1, h2, h3, h4, h5, h6⟩
  · intro p e s m args below meth c s₁ B hml0 hP _
    obtain ⟨rfl, hx, hbd, hgv⟩ := hP
    obtain ⟨scr, harrAt, hlist, hof, hsmall⟩ := hx
    obtain ⟨hcb, hkn, -, -⟩ := State.arrayAt?_spec harrAt
    have hown : s.vm.findClass R_law = some m.cls := findClass_of_methodNamed B.named
    have hts0 : ∀ c ∈ (Jvm.Cond.code x code maxLocals ret :: tables_1), c.before #[Value.ref b] s = true := atoms_spec (ws := Jvm.Cond.code x code maxLocals ret :: tables_1) B.pre
    have hts : ∀ w ∈ lw_tbl, w.before #[Value.ref b] s = true := k2_hts_sels lw_privs (fun w hw => hts0 w (List.mem_cons_of_mem _ hw)) lw_privs_ok
    have hml : c.maxLocals = 7 := B.maxLocals_eq (hts0 _ List.mem_cons_self)
    have X₀ : Stand p l e room_1 s m #[Value.ref b] below meth c s₁ [] 0 0 := Stand.of_body B
    have hh0 : s₁.heap = s.heap := by rw [B.state]; rfl
    have hsz : scr.slots.size = xs.length := by rw [← Array.length_toList, hlist, List.length_map]
    have hval : ∀ j : Nat, j < xs.length → scr.slots[j]? = some (.int (xs.getD j 0)) := fun j hj => by
      rw [← Array.getElem?_toList, hlist]
      simp [hj]
    have hbl : b < s.heap.size := (Array.getElem?_eq_some_iff.mp hcb).1
    have hX : va_X b xs.length (fun j => xs.getD j 0) s s.heap := ⟨scr, hcb, hof, hkn, hsz, hval⟩
    have K : W p l e room_1 s m #[Value.ref b] below meth c s₁.heap [] 0 0 (lw_Z below #[Value.ref b] s) (entryFrame m ([Value.ref b] : List Value).toArray 7) := by
      rw [hh0]
      exact whole_start l hflags hbd ⟨B.exec, B.bytes, B.returns, hml, hown, hts, hX, hbl, B.notSynchronized, hgv⟩
    obtain ⟨t, a1, o, b1, b2, b3⟩ := K s₁ rfl X₀
    exact ⟨t, o, a1, b1, b2, b3⟩
theorem lw_pre_spec {args : Array Value} {s : State} (h : (Jvm.Cond.and given_1 narrow_1).before args s = true) (hr : rest_1_c.before args s = true) : ∃ (b : Addr) (xs : List Int32), lw_P b xs args s := by
  have hs := flat_of_before _ h
  have hq := flat_of_before _ hr
  have hc : (Cond.count 1).before args s = true := hs _ (by decide +kernel)
  have harr : (Cond.arrayOf (.arg 0) .int).before args s = true := hs _ (by decide +kernel)
  have hle : (Cond.le (.length (.arg 0)) (.int 3072)).before args s = true := hs _ (by decide +kernel)
  have hlen : (Cond.isInt (.length (.arg 0))).before args s = true := hq _ (by decide +kernel)
  have hall : (Cond.all (.arg 0) (.isInt (.elem (.arg 0) (.index 0)))).before args s = true := hq _ (by decide +kernel)
  obtain ⟨b, xs, hb, hx⟩ := State.ints_of_pre rfl harr hlen hall
  have hsm : xs.length < 2 ^ 31 := hx.choose_spec.2.2.2
  have hev : (Term.length (.arg 0)).eval args s none [] s = some (.int xs.length.toInt32) := hx.length_eval hb
  have hv := Cond.le_ints hev (show (Term.int 3072).eval args s none [] s = some (.int 3072) from rfl)
  have hd : xs.length.toInt32 ≤ 3072 := by
    simpa [Cond.before, Cond.holds, hv] using hle
  have hN : xs.length ≤ 3072 := (Int32.ofNat_le_ofNat hsm (by decide)).mp (show Int32.ofNat xs.length ≤ Int32.ofNat 3072 from hd)
  exact ⟨b, xs, Cond.one_arg hc (show args[0]? = some (.ref b) from hb), hx, hN, h⟩
theorem lw_comes (l : Launch) (hflags : l.flags = flags0) : Comes l x (Jvm.Cond.code x code maxLocals ret :: tables_1) room_1 (fun tb e args s => Calls_1 tb e args s ∧ rest_1 tb e args s ∧ Pre_1 tb e args s)
    (fun _ _ args s o t => lw_Q args s o t) := by
  intro p e ha hc hk s m args below hf hfit hheap happ hpre
  obtain ⟨b, xs, hP⟩ := lw_pre_spec hpre.2.2 hpre.2.1
  obtain ⟨k, o, h1, h2, h3, hQ⟩ := lw_walk l hflags b xs p e ha hc hk s m args below hf ((Spec.applies_iff_loose hf).mp happ).1 hP trivial
  exact ⟨k, o, h1, h2, h3, hQ⟩
theorem lw_frame {s t : State} {o : Outcome} {args : Array Value} (h : Framed s o t [] 601024 7293034) :
    Framed s o t (fieldLocs frame_1_writes args s ++ arrayLocs frame_1_arrays args s ++ staticLocs frame_1_statics s) 601024 7293034 := h
theorem lw_limb (L : Cond) (hL : ∀ (args : Array Value) (s t : State), L.after args s (.returned (some (.int 1))) t = true) :
    ArmFor flags0 classFile x code maxLocals ret World_1 tables_1 room_1 Calls_1 rest_1 Pre_1
      (fun tb e a s o t => postC L tb e a s o t ∧ Framed s o t (fieldLocs frame_1_writes a s ++ arrayLocs frame_1_arrays a s ++ staticLocs frame_1_statics s) 601024 7293034) := by
  intro l hflags _ _ p e ha hc hk s m args below hf hfit hheap happ hpre
  obtain ⟨k, o, h1, h2, h3, rfl, hF⟩ := lw_comes l hflags p e ha hc hk s m args below hf hfit hheap happ hpre
  exact ⟨k, _, h1, h2, h3, hL args s _, lw_frame hF⟩
theorem i_vc : Claimed_1_1 ∧ Claimed_1_2 := ⟨lw_limb limb_1_1 (fun args s t => by simp [limb_1_1, Cond.after, Cond.holds, Cond.value]), lw_limb limb_1_2 (fun args s t => Cond.after_iff.mpr (by
  first | (rw [show limb_1_2 = Cond.eq .result (.int 1) from rfl, Cond.eq_ints (x := 1) (y := 1) rfl rfl]; simp; done) | (simp [limb_1_2, Cond.value, Term.eval]; done)))⟩
