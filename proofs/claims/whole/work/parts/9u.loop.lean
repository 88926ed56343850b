section LU
variable {K : LwC} {n pc i bb : Nat} {ls : List (Option MV)} {st : List MV} {σ τ : MS} {g : Nat → Int64} {w : WT} {cn : CA} {sn : SA}
theorem RLaw.more (h : RLaw K n pc ls st σ τ g) : RLaw K (n + 1) pc ls st σ τ g := fun E H locs a cells slots hP hS hL hB => h E H locs a cells slots hP hS hL ⟨by omega, by omega⟩
theorem RLaw.fewer {ls' : List (Option MV)} (hl : ∀ (j : Nat) (v : MV), ls'[j]? = some (some v) → ls[j]? = some (some v)) (h : RLaw K n pc ls' st σ τ g) : RLaw K n pc ls st σ τ g := by
  intro E H locs a cells slots hP hS hL hB
  refine h E H locs a cells slots hP hS ⟨hL.1, hL.2.1, fun q hq => ?_⟩ hB
  obtain ⟨j, v, h1, rfl⟩ := (mj_toL_mem K.ρ _ 0 q).mp hq
  exact hL.2.2 _ ((mj_toL_mem K.ρ _ 0 _).mpr ⟨j, v, hl j v h1, rfl⟩)
theorem LwE.noTr (E : LwE K) : K.l.stackTraces = false := by
  rw [Launch.stackTraces, E.flags]
  decide +kernel
theorem rl_pond {x y : Int32} (hEX : EX K.b K.t K.s) (hd : decode code pc = .ok (.invokestatic 39, 3)) (hst : (st.map fun v => (mj_rv (fun _ _ => 0) v).category).sum ≤ 4) (hwk : WK σ bb cn sn)
    (h : ∀ g' : Nat → Int64, (∀ p, gIx x (cn 0 0) = some p → gPondT cn x y = 0 → g' 0 = (gPondV cn sn p y).toInt64) → RLaw K n (pc + 3) ls (iV (gPondT cn x y) :: st) σ τ g') : RLaw K (n + 1) pc ls (rV 87 0 :: iV y :: iV x :: rV 0 0 :: st) σ τ g := by
  intro E H locs a cells slots hP hS hL hB
  have hts := E.ts
  have hAb : ∀ q, mj_AW mj_OC K.ρ H.size q → K.b ≤ q := by
    rintro q (⟨x, hx, rfl⟩ | h)
    · exact (mj_rho_lt x (List.mem_append_left _ hx)).2
    · exact Nat.le_trans (by rw [← E.base]; exact hS.1) h
  have hbo : K.ρ 87 0 = K.t 87 0 := rfl
  have hne : ∀ x ∈ mj_OC, K.ρ x.1 x.2 ≠ K.ρ 87 0 := by
    intro x hx h
    have h1 := (mj_rho_lt (b := K.b) (t := K.t) x (List.mem_append_left _ hx)).1
    have h2 := E.bo
    rw [hbo] at h
    have h3 : mj_rho K.b K.t x.1 x.2 = K.t 87 0 := h
    omega
  have hAL : ∀ q, lp_A K.ρ H.size q → K.b ≤ q := by
    rintro q (h | h)
    · exact hAb q h
    · rw [h, hbo]; have := E.bo; omega
  have hmet := lp_met K.l E.noTr K.D K.G K.ρ K.b H.size K.t (g := g) (x := x) (y := y) hwk mj_rho_C hne hAb
  have hG : GoodIn mj_W wsLp := by
    intro w hw
    rcases List.mem_cons.mp hw with rfl | hw
    · exact ⟨c_L_pond, (mj_good _ c_L_pond).2⟩
    · exact ⟨hw, (mj_good _ hw).2⟩
  have hCW : vx_CSW room_1 K.s #[Value.ref K.sc] RL 39 yL_pond cL_pond 5 (some .int) hhLp wsLp rmLp 1 6 4 := by
    refine ⟨⟨rfl, rfl, by decide, by decide, pay_in hts hG, List.mem_cons_self⟩, hts _ c_L_pond, hts _ n_RL, ⟨by decide +kernel, by decide +kernel⟩, fun sig hs => ?_, hts _ lL_39, hts _ s_L_pond⟩
    have h2 : (parseMethodDescriptor yL_pond.desc).map (fun d => d.parameters.length) = some 4 := by decide +kernel
    rw [hs] at h2
    exact (Option.some.inj h2).symm
  have hrun := vx_runSW (As := [rV 0 0, iV x, iV y, rV 87 0].map (mj_rv K.ρ)) (rest := st.map (mj_rv K.ρ)) (g := F0 K.m pc a ((rV 87 0 :: iV y :: iV x :: rV 0 0 :: st).map (mj_rv K.ρ))) (e := K.e) (below := K.below) (meth := K.meth) (locs := locs) (cells := cells) (slots := slots) (H := H) (Ts := mj_W) (own := RL) ⟨E.exec, E.code, E.ml, E.own, hts⟩ hmet hCW ⟨lp_blind, fun U hU hW => ⟨rfl, by rw [hU], by rw [hU]; exact hP.1, by rw [hU]; exact hP.2.2, va_K.moved hW.alike E.kn, by rw [hU]; exact E.Z.next hW hS.2.1 hAL, hEX.next hW (fun q h1 h2 => by rw [hU]; exact hS.2.1 q h1 h2)⟩⟩ rfl rfl hL.1 rfl (lv_room (rest := (rV 87 0 :: iV y :: iV x :: rV 0 0 :: st).map (mj_rv K.ρ)) (by rw [mj_cat]; omega)) hd ⟨by show cells + 1 ≤ 601024; omega, by show slots + 6 ≤ 7293034; omega⟩
  intro T hT X
  obtain ⟨v, st₀, t, T', L, h0, X', hLo, e1, e2, ⟨g', hv, hg', hp1, hp2, hz1, hk1⟩, stp⟩ := hrun T hT X
  cases hv
  rw [h0] at hz1 hk1
  rw [← e1] at hp1 hp2
  have hk2 : ∀ q : Nat, q < H.size → ¬ lp_A K.ρ H.size q → T'.heap[q]? = H[q]? := fun q h1 h2 => by rw [e1]; exact hk1 q h1 h2
  have hS2 : va_S (fun q => K.b ≤ q) K.s.heap T'.heap (locs ++ L) := ⟨Nat.le_trans hS.1 (by rw [e1]; exact hz1), fun q h1 h2 => by rw [hk2 q (Nat.lt_of_lt_of_le h1 hS.1) (fun z => h2 (hAL q z))]; exact hS.2.1 q h1 h2, fun q hq => by
      rcases List.mem_append.mp hq with h | h
      · exact hS.2.2 q h
      · exact hAL _ (hLo q h)⟩
  have hM2 : va_P K.D vwCl (mj_ws mj_OM K.G K.ρ τ) T'.heap := by
    refine hP.2.1.kept (fun k q hq => ?_)
    have hl := (hP.2.1 k q hq).lt
    obtain ⟨y9, hy9, rfl⟩ := List.mem_map.mp (List.mem_of_getElem? hq)
    refine hk2 _ hl ?_
    rintro ((⟨x9, hx9, h1⟩ | h1) | h1)
    · exact mj_rho_ne x9 hx9 y9 hy9 h1.symm
    · exact absurd h1 (Nat.not_le_of_lt hl)
    · have h3 := (mj_rho_lt (b := K.b) (t := K.t) y9 (List.mem_append_right _ hy9)).1
      have h2 := E.bo
      have h4 : mj_rho K.b K.t y9.1 y9.2 = K.t 87 0 := h1
      omega
  have hk := h g' hg' E T'.heap (locs ++ L) a (cells + 1) (slots + 6) ⟨hp1, hM2, hp2⟩ hS2 hL ⟨by omega, by omega⟩
  obtain ⟨t2, a1, b1⟩ := hk T' rfl X'
  exact ⟨t2, stp t2 a1, b1⟩
theorem gPondT_0 {c : CA} {x y : Int32} (h : gPondT c x y = 0) : ∃ p, gIx x (c 0 0) = some p := by
  cases e : gIx x (c 0 0) with
  | some p => exact ⟨p, rfl⟩
  | none => rw [gPondT, e] at h; exact absurd (show (1 : Int32) = 0 from h) (by decide)
theorem rl_argL {pc : Nat} {k : Int} {kv : Int32} (e0 : ls[0]? = some (some (rV 88 0))) (e4 : ls[4]? = some (some (iV (nI i)))) (h0 : decode code pc = .ok (.aload_n 0, 1)) (h1 : decode code (pc + 1) = .ok (.iload 4, 2)) (h2 : decode code (pc + 3) = .ok (.iconst k, 1)) (hk : Int32.ofInt k = kv) (h3 : decode code (pc + 4) = .ok (.iadd, 1)) (h4 : decode code (pc + 5) = .ok (.iaload, 1)) (hin : vp_in (nI i + kv) K.L) (h : RLaw K n (pc + 6) ls (iV (K.xs (nI i + kv).toNatClampNeg) :: st) σ τ g) : RLaw K n pc ls st σ τ g :=
  rl_aload_n (i := 0) h0 rfl e0 (rl_iload (i := 4) h1 e4 (rl_iconst (v := kv) h2 hk (rl_iadd h3 (rl_sld hin h4 h))))
theorem LB_pond (hEX : EX K.b K.t K.s) (hi : i + 6 ≤ K.L) (hL : K.L ≤ 3072) (hC : CW σ w) (hM : MWd τ w) (hW : WI w) (H : ∀ σ' τ' w' g', CW σ' w' → MWd τ' w' → WI w' → RLaw K n 1878 (l7 i) [] σ' τ' g') : RLaw K (n + 1) 384 (l7 i) [] σ τ g := by
  obtain ⟨b, hk, hfc⟩ := hC.wk
  generalize hx : K.xs (nI i + nI 1).toNatClampNeg = x
  generalize hy : K.xs (nI i + nI 2).toNatClampNeg = y
  refine rl_aload_n (i := 1) dL_law_384 rfl rfl ?_
  refine rl_arg (kv := nI 1) dL_law_385 dL_law_386 dL_law_388 rfl dL_law_389 dL_law_390 (l_in hi hL (by decide)) ?_
  refine rl_arg (kv := nI 2) dL_law_391 dL_law_392 dL_law_394 rfl dL_law_395 dL_law_396 (l_in hi hL (by decide)) ?_
  rw [hx, hy]
  refine rl_aload_n (i := 3) dL_law_397 rfl rfl ?_
  refine rl_pond (st := []) hEX dL_law_398 (Nat.zero_le _) hk (fun g' hg' => ?_)
  refine rl_istore (i := 5) dL_law_401 (by decide) rfl ?_
  refine rl_aload_n (i := 2) dL_law_403 rfl rfl ?_
  refine rl_argL (i := i) (kv := nI 1) rfl rfl dL_law_404 dL_law_405 dL_law_407 rfl dL_law_408 dL_law_409 (l_in hi hL (by decide)) ?_
  refine rl_argL (i := i) (kv := nI 2) rfl rfl dL_law_410 dL_law_411 dL_law_413 rfl dL_law_414 dL_law_415 (l_in hi hL (by decide)) ?_
  rw [hx, hy]
  refine rl_callM (M' := mX11_pond) (d := 1) (z := 0) (As := [iV x, iV y]) (ls0 := [some (rV 45 0), some (iV x), some (iV y)]) kX11_pond i_X11_pond e_X11_pond lL_44 dL_law_416 rfl rfl rfl rfl rfl (Nat.le_of_ble_eq_true rfl) (by decide) ?_
  refine M_pond hM.1 (fun τ1 v hq hT1 hv => ?_)
  have hM1 := hM.q hq
  refine rl_istore (i := 6) dL_law_419 (by decide) rfl ?_
  refine rl_aload_n (i := 2) dL_law_421 rfl rfl ?_
  refine rl_callM (M' := mX11_thrown) (d := 0) (z := 0) (As := []) (ls0 := [some (rV 45 0)]) kX11_thrown i_X11_thrown e_X11_thrown lL_45 dL_law_422 rfl rfl rfl rfl rfl (Nat.le_of_ble_eq_true rfl) (by decide) ?_
  refine M_thrown ?_
  rw [hT1]
  have go : RLaw K n 449 [some (rV 88 0), some (rV 0 0), some (rV 45 0), some (rV 87 0), some (iV (nI i)), some (iV (gPondT (wc w) x y)), some (iV v)] [] σ τ1 g' := by
    refine rl_goto (tgt := 1878) dL_law_449 rfl ?_
    refine RLaw.fewer (ls' := l7 i) (fun j v h => ?_) (H _ _ _ _ hC hM1 hW)
    match j, h with
    | 0, h => exact h
    | 1, h => exact h
    | 2, h => exact h
    | 3, h => exact h
    | 4, h => exact h
    | 5, h => exact absurd (Option.some.inj h) (fun z => by cases z)
    | 6, h => exact absurd (Option.some.inj h) (fun z => by cases z)
    | j + 7, h => exact absurd h (fun z => by simp at z)
  refine rl_iload (i := 5) (x := gPondT (wc w) x y) dL_law_425 rfl ?_
  refine rl_icmp_eq (tgt := 432) dL_law_427 rfl (fun _ => ?_) (fun z => absurd rfl z)
  refine rl_iload (i := 5) (x := gPondT (wc w) x y) dL_law_432 rfl ?_
  refine rl_if_ne (tgt := 449) dL_law_434 rfl (fun _ => go) (fun z => ?_)
  obtain ⟨pn, hp⟩ := gPondT_0 z
  refine rl_aload_n (i := 3) dL_law_437 rfl rfl ?_
  refine rl_iconst (v := 0) dL_law_438 rfl ?_
  refine rl_out (vin (p := 0) (n := 1) (by omega) (by omega) (by decide)) dL_law_439 ?_
  refine rl_iload (i := 6) (x := v) dL_law_440 rfl ?_
  refine rl_i2l (v := v.toInt64) dL_law_442 rfl ?_
  refine rl_lcmp dL_law_443 ?_
  refine rl_if_eq (tgt := 449) dL_law_444 rfl (fun _ => go) (fun q => absurd ((lg_cmp_eq _ _).mpr ?_) q)
  rw [show g' (0 : Int32).toNatClampNeg = g' 0 from rfl, hg' pn hp z, hv pn hp z]
theorem l_gt {L : Nat} (hL : L ≤ 3072) (hi : i ≤ 4000) : Int32.ofNat L - 6 < nI i ↔ L < i + 6 := by
  have e1 : (Int32.ofNat L).toInt = L := Int32.toInt_ofNat_of_lt (by omega)
  have e2 : (nI i).toInt = i := Int32.toInt_ofNat_of_lt (by omega)
  have e3 : (Int32.ofNat L - 6).toInt = (L : Int) - 6 := by
    rw [Int32.toInt_sub, e1]
    show ((L : Int) - 6).bmod (2 ^ 32) = _
    rw [Int.bmod_eq_of_le (by omega) (by omega)]
  rw [Int32.lt_iff_toInt_lt, e3, e2]
  omega
set_option maxHeartbeats 4000000 in
theorem rl_loop (hL : K.L ≤ 3072) (hEX : EX K.b K.t K.s) : ∀ (n i : Nat) (σ τ : MS) (g : Nat → Int64) (w : WT), i ≤ 3080 → K.L < i + 6 * n + 6 → CW σ w → MWd τ w → WI w → RLaw K n 23 (l7 i) [] σ τ g := by
  intro n
  induction n with
  | zero =>
    intro i σ τ g w hi hn hC hM hW
    refine rl_iload (i := 4) dL_law_23 rfl ?_
    refine rl_aload_n (i := 0) dL_law_25 rfl rfl ?_
    refine rl_alen dL_law_26 ?_
    refine rl_bipush (v := 6) dL_law_27 rfl ?_
    refine rl_isub dL_law_29 ?_
    exact rl_icmp_gt (tgt := 1884) dL_law_30 rfl (fun _ => rl_iconst (v := 1) dL_law_1884 rfl (rl_end dL_law_1885)) (fun z => absurd ((l_gt hL (by omega)).mpr (by omega)) z)
  | succ n ih =>
    intro i σ τ g w hi hn hC hM hW
    refine rl_iload (i := 4) dL_law_23 rfl ?_
    refine rl_aload_n (i := 0) dL_law_25 rfl rfl ?_
    refine rl_alen dL_law_26 ?_
    refine rl_bipush (v := 6) dL_law_27 rfl ?_
    refine rl_isub dL_law_29 ?_
    refine rl_icmp_gt (tgt := 1884) dL_law_30 rfl (fun _ => rl_iconst (v := 1) dL_law_1884 rfl (rl_end dL_law_1885)) (fun z => ?_)
    have hi : i + 6 ≤ K.L := by
      have : ¬ K.L < i + 6 := fun q => z ((l_gt hL (by omega)).mpr q)
      omega
    have next : ∀ (σ' τ' : MS) (w' : WT) (g' : Nat → Int64), CW σ' w' → MWd τ' w' → WI w' → RLaw K n 1878 (l7 i) [] σ' τ' g' := by
      intro σ' τ' w' g' hC' hM' hW'
      refine rl_iinc (i := 4) (v := nI (i + 6)) dL_law_1878 rfl (by rw [show Int32.ofInt 6 = nI 6 from rfl, nI_add]) (by decide) rfl ?_
      refine rl_goto (tgt := 23) dL_law_1881 rfl ?_
      exact ih (i + 6) σ' τ' g' w' (by omega) (by omega) hC' hM' hW'
    refine rl_aload_n (i := 0) dL_law_33 rfl rfl ?_
    refine rl_iload (i := 4) dL_law_34 rfl ?_
    refine rl_sld (vin (show i < K.L by omega) (Nat.le_refl _) (by omega)) dL_law_36 ?_
    refine rl_bipush (v := 63) dL_law_37 rfl ?_
    refine rl_iand dL_law_39 ?_
    generalize K.xs (nI i).toNatClampNeg &&& 63 = x
    by_cases hx : 0 ≤ x.toInt ∧ x.toInt ≤ 44
    · obtain ⟨k, hk⟩ : ∃ k : Nat, x.toInt = k := ⟨x.toInt.toNat, by omega⟩
      have hk44 : k ≤ 44 := by omega
      rcases (show k = 0 ∨ k = 1 ∨ k = 2 ∨ k = 3 ∨ k = 4 ∨ k = 5 ∨ k = 6 ∨ k = 7 ∨ k = 8 ∨ k = 9 ∨ k = 10 ∨ k = 11 ∨ k = 12 ∨ k = 13 ∨ k = 14 ∨ k = 15 ∨ k = 16 ∨ k = 17 ∨ k = 18 ∨ k = 19 ∨ k = 20 ∨ k = 21 ∨ k = 22 ∨ k = 23 ∨ k = 24 ∨ k = 25 ∨ k = 26 ∨ k = 27 ∨ k = 28 ∨ k = 29 ∨ k = 30 ∨ k = 31 ∨ k = 32 ∨ k = 33 ∨ k = 34 ∨ k = 35 ∨ k = 36 ∨ k = 37 ∨ k = 38 ∨ k = 39 ∨ k = 40 ∨ k = 41 ∨ k = 42 ∨ k = 43 ∨ k = 44 by omega) with rfl | rfl | rfl | rfl | rfl | rfl | rfl | rfl | rfl | rfl | rfl | rfl | rfl | rfl | rfl | rfl | rfl | rfl | rfl | rfl | rfl | rfl | rfl | rfl | rfl | rfl | rfl | rfl | rfl | rfl | rfl | rfl | rfl | rfl | rfl | rfl | rfl | rfl | rfl | rfl | rfl | rfl | rfl | rfl | rfl
      · exact rl_tableIn (tgt := 236) (off := 196) dL_law_40 (by omega) (by omega) (by rw [hk]; rfl) rfl (LB_feed hi hL hC hM hW (fun σ1 τ1 w1 c1 m1 i1 => RLaw.more (next σ1 τ1 w1 g c1 m1 i1)))
      · exact rl_tableIn (tgt := 309) (off := 269) dL_law_40 (by omega) (by omega) (by rw [hk]; rfl) rfl (LB_text hi hL hC hM hW (fun σ1 τ1 w1 c1 m1 i1 => RLaw.more (next σ1 τ1 w1 g c1 m1 i1)))
      · exact rl_tableIn (tgt := 334) (off := 294) dL_law_40 (by omega) (by omega) (by rw [hk]; rfl) rfl (LB_fault hi hL hC hM hW (fun σ1 τ1 w1 c1 m1 i1 => RLaw.more (next σ1 τ1 w1 g c1 m1 i1)))
      · exact rl_tableIn (tgt := 359) (off := 319) dL_law_40 (by omega) (by omega) (by rw [hk]; rfl) rfl (LB_named hi hL hC hM hW (fun σ1 τ1 w1 c1 m1 i1 => RLaw.more (next σ1 τ1 w1 g c1 m1 i1)))
      · exact rl_tableIn (tgt := 384) (off := 344) dL_law_40 (by omega) (by omega) (by rw [hk]; rfl) rfl (LB_pond hEX hi hL hC hM hW (fun σ1 τ1 w1 g1 c1 m1 i1 => next σ1 τ1 w1 g1 c1 m1 i1))
      · exact rl_tableIn (tgt := 452) (off := 412) dL_law_40 (by omega) (by omega) (by rw [hk]; rfl) rfl (LB_level hi hL hC hM hW (fun σ1 τ1 w1 c1 m1 i1 => RLaw.more (next σ1 τ1 w1 g c1 m1 i1)))
      · exact rl_tableIn (tgt := 489) (off := 449) dL_law_40 (by omega) (by omega) (by rw [hk]; rfl) rfl (LB_pipe hi hL hC hM hW (fun σ1 τ1 w1 c1 m1 i1 => RLaw.more (next σ1 τ1 w1 g c1 m1 i1)))
      · exact rl_tableIn (tgt := 526) (off := 486) dL_law_40 (by omega) (by omega) (by rw [hk]; rfl) rfl (LB_lock hi hL hC hM hW (fun σ1 τ1 w1 c1 m1 i1 => RLaw.more (next σ1 τ1 w1 g c1 m1 i1)))
      · exact rl_tableIn (tgt := 563) (off := 523) dL_law_40 (by omega) (by omega) (by rw [hk]; rfl) rfl (LB_boat hi hL hC hM hW (fun σ1 τ1 w1 c1 m1 i1 => RLaw.more (next σ1 τ1 w1 g c1 m1 i1)))
      · exact rl_tableIn (tgt := 600) (off := 560) dL_law_40 (by omega) (by omega) (by rw [hk]; rfl) rfl (LB_law hi hL hC hM hW (fun σ1 τ1 w1 c1 m1 i1 => RLaw.more (next σ1 τ1 w1 g c1 m1 i1)))
      · exact rl_tableIn (tgt := 638) (off := 598) dL_law_40 (by omega) (by omega) (by rw [hk]; rfl) rfl (LB_runs hi hL hC hM hW (fun σ1 τ1 w1 c1 m1 i1 => RLaw.more (next σ1 τ1 w1 g c1 m1 i1)))
      · exact rl_tableIn (tgt := 675) (off := 635) dL_law_40 (by omega) (by omega) (by rw [hk]; rfl) rfl (LB_draw hi hL hC hM hW (fun σ1 τ1 w1 c1 m1 i1 => RLaw.more (next σ1 τ1 w1 g c1 m1 i1)))
      · exact rl_tableIn (tgt := 712) (off := 672) dL_law_40 (by omega) (by omega) (by rw [hk]; rfl) rfl (LB_fill hi hL hC hM hW (fun σ1 τ1 w1 c1 m1 i1 => RLaw.more (next σ1 τ1 w1 g c1 m1 i1)))
      · exact rl_tableIn (tgt := 749) (off := 709) dL_law_40 (by omega) (by omega) (by rw [hk]; rfl) rfl (LB_spill hi hL hC hM hW (fun σ1 τ1 w1 c1 m1 i1 => RLaw.more (next σ1 τ1 w1 g c1 m1 i1)))
      · exact rl_tableIn (tgt := 786) (off := 746) dL_law_40 (by omega) (by omega) (by rw [hk]; rfl) rfl (LB_mend hi hL hC hM hW (fun σ1 τ1 w1 c1 m1 i1 => RLaw.more (next σ1 τ1 w1 g c1 m1 i1)))
      · exact rl_tableIn (tgt := 811) (off := 771) dL_law_40 (by omega) (by omega) (by rw [hk]; rfl) rfl (LB_go hi hL hC hM hW (fun σ1 τ1 w1 c1 m1 i1 => RLaw.more (next σ1 τ1 w1 g c1 m1 i1)))
      · exact rl_tableIn (tgt := 836) (off := 796) dL_law_40 (by omega) (by omega) (by rw [hk]; rfl) rfl (LB_ahead hi hL hC hM hW (fun σ1 τ1 w1 c1 m1 i1 => RLaw.more (next σ1 τ1 w1 g c1 m1 i1)))
      · exact rl_tableIn (tgt := 885) (off := 845) dL_law_40 (by omega) (by omega) (by rw [hk]; rfl) rfl (LB_upWhen hi hL hC hM hW (fun σ1 τ1 w1 c1 m1 i1 => RLaw.more (next σ1 τ1 w1 g c1 m1 i1)))
      · exact rl_tableIn (tgt := 910) (off := 870) dL_law_40 (by omega) (by omega) (by rw [hk]; rfl) rfl (LB_joined hi hL hC hM hW (fun σ1 τ1 w1 c1 m1 i1 => RLaw.more (next σ1 τ1 w1 g c1 m1 i1)))
      · exact rl_tableIn (tgt := 947) (off := 907) dL_law_40 (by omega) (by omega) (by rw [hk]; rfl) rfl (LB_needs hi hL hC hM hW (fun σ1 τ1 w1 c1 m1 i1 => RLaw.more (next σ1 τ1 w1 g c1 m1 i1)))
      · exact rl_tableIn (tgt := 984) (off := 944) dL_law_40 (by omega) (by omega) (by rw [hk]; rfl) rfl (LB_spare hi hL hC hM hW (fun σ1 τ1 w1 c1 m1 i1 => RLaw.more (next σ1 τ1 w1 g c1 m1 i1)))
      · exact rl_tableIn (tgt := 1021) (off := 981) dL_law_40 (by omega) (by omega) (by rw [hk]; rfl) rfl (LB_lift hi hL hC hM hW (fun σ1 τ1 w1 c1 m1 i1 => RLaw.more (next σ1 τ1 w1 g c1 m1 i1)))
      · exact rl_tableIn (tgt := 1046) (off := 1006) dL_law_40 (by omega) (by omega) (by rw [hk]; rfl) rfl (LB_fewest hi hL hC hM hW (fun σ1 τ1 w1 c1 m1 i1 => RLaw.more (next σ1 τ1 w1 g c1 m1 i1)))
      · exact rl_tableIn (tgt := 1095) (off := 1055) dL_law_40 (by omega) (by omega) (by rw [hk]; rfl) rfl (LB_draws hi hL hC hM hW (fun σ1 τ1 w1 c1 m1 i1 => RLaw.more (next σ1 τ1 w1 g c1 m1 i1)))
      · exact rl_tableIn (tgt := 1144) (off := 1104) dL_law_40 (by omega) (by omega) (by rw [hk]; rfl) rfl (LB_highest hi hL hC hM hW (fun σ1 τ1 w1 c1 m1 i1 => RLaw.more (next σ1 τ1 w1 g c1 m1 i1)))
      · exact rl_tableIn (tgt := 1169) (off := 1129) dL_law_40 (by omega) (by omega) (by rw [hk]; rfl) rfl (LB_apart hi hL hC hM hW (fun σ1 τ1 w1 c1 m1 i1 => RLaw.more (next σ1 τ1 w1 g c1 m1 i1)))
      · exact rl_tableIn (tgt := 1218) (off := 1178) dL_law_40 (by omega) (by omega) (by rw [hk]; rfl) rfl (LB_still hi hL hC hM hW (fun σ1 τ1 w1 c1 m1 i1 => RLaw.more (next σ1 τ1 w1 g c1 m1 i1)))
      · exact rl_tableIn (tgt := 1255) (off := 1215) dL_law_40 (by omega) (by omega) (by rw [hk]; rfl) rfl (LB_reach hi hL hC hM hW (fun σ1 τ1 w1 c1 m1 i1 => RLaw.more (next σ1 τ1 w1 g c1 m1 i1)))
      · exact rl_tableIn (tgt := 1280) (off := 1240) dL_law_40 (by omega) (by omega) (by rw [hk]; rfl) rfl (LB_pass hi hL hC hM hW (fun σ1 τ1 w1 c1 m1 i1 => RLaw.more (next σ1 τ1 w1 g c1 m1 i1)))
      · exact rl_tableIn (tgt := 1317) (off := 1277) dL_law_40 (by omega) (by omega) (by rw [hk]; rfl) rfl (LB_lockfuls hi hL hC hM hW (fun σ1 τ1 w1 c1 m1 i1 => RLaw.more (next σ1 τ1 w1 g c1 m1 i1)))
      · exact rl_tableIn (tgt := 1354) (off := 1314) dL_law_40 (by omega) (by omega) (by rw [hk]; rfl) rfl (LB_game hi hL hC hM hW (fun σ1 τ1 w1 c1 m1 i1 => RLaw.more (next σ1 τ1 w1 g c1 m1 i1)))
      · exact rl_tableIn (tgt := 1403) (off := 1363) dL_law_40 (by omega) (by omega) (by rw [hk]; rfl) rfl (LB_rests hi hL hC hM hW (fun σ1 τ1 w1 c1 m1 i1 => RLaw.more (next σ1 τ1 w1 g c1 m1 i1)))
      · exact rl_tableIn (tgt := 1440) (off := 1400) dL_law_40 (by omega) (by omega) (by rw [hk]; rfl) rfl (LB_rest hi hL hC hM hW (fun σ1 τ1 w1 c1 m1 i1 => RLaw.more (next σ1 τ1 w1 g c1 m1 i1)))
      · exact rl_tableIn (tgt := 1489) (off := 1449) dL_law_40 (by omega) (by omega) (by rw [hk]; rfl) rfl (LB_holds hi hL hC hM hW (fun σ1 τ1 w1 c1 m1 i1 => RLaw.more (next σ1 τ1 w1 g c1 m1 i1)))
      · exact rl_tableIn (tgt := 1527) (off := 1487) dL_law_40 (by omega) (by omega) (by rw [hk]; rfl) rfl (LB_see hi hL hC hM hW (fun σ1 τ1 w1 c1 m1 i1 => RLaw.more (next σ1 τ1 w1 g c1 m1 i1)))
      · exact rl_tableIn (tgt := 1604) (off := 1564) dL_law_40 (by omega) (by omega) (by rw [hk]; rfl) rfl (LB_strike hi hL hC hM hW (fun σ1 τ1 w1 c1 m1 i1 => RLaw.more (next σ1 τ1 w1 g c1 m1 i1)))
      · exact rl_tableIn (tgt := 1629) (off := 1589) dL_law_40 (by omega) (by omega) (by rw [hk]; rfl) rfl (LB_known hi hL hC hM hW (fun σ1 τ1 w1 c1 m1 i1 => RLaw.more (next σ1 τ1 w1 g c1 m1 i1)))
      · exact rl_tableIn (tgt := 1654) (off := 1614) dL_law_40 (by omega) (by omega) (by rw [hk]; rfl) rfl (LB_leaks hi hL hC hM hW (fun σ1 τ1 w1 c1 m1 i1 => RLaw.more (next σ1 τ1 w1 g c1 m1 i1)))
      · exact rl_tableIn (tgt := 1679) (off := 1639) dL_law_40 (by omega) (by omega) (by rw [hk]; rfl) rfl (LB_ask hi hL hC hM hW (fun σ1 τ1 w1 c1 m1 i1 => RLaw.more (next σ1 τ1 w1 g c1 m1 i1)))
      · exact rl_tableIn (tgt := 1716) (off := 1676) dL_law_40 (by omega) (by omega) (by rw [hk]; rfl) rfl (LB_chance hi hL hC hM hW (fun σ1 τ1 w1 c1 m1 i1 => RLaw.more (next σ1 τ1 w1 g c1 m1 i1)))
      · exact rl_tableIn (tgt := 1765) (off := 1725) dL_law_40 (by omega) (by omega) (by rw [hk]; rfl) rfl (LB_tried hi hL hC hM hW (fun σ1 τ1 w1 c1 m1 i1 => RLaw.more (next σ1 τ1 w1 g c1 m1 i1)))
      · exact rl_tableIn (tgt := 1814) (off := 1774) dL_law_40 (by omega) (by omega) (by rw [hk]; rfl) rfl (LB_undo hi hL hC hM hW (fun σ1 τ1 w1 c1 m1 i1 => RLaw.more (next σ1 τ1 w1 g c1 m1 i1)))
      · exact rl_tableIn (tgt := 1827) (off := 1787) dL_law_40 (by omega) (by omega) (by rw [hk]; rfl) rfl (LB_keep hi hL hC hM hW (fun σ1 τ1 w1 c1 m1 i1 => RLaw.more (next σ1 τ1 w1 g c1 m1 i1)))
      · exact rl_tableIn (tgt := 1840) (off := 1800) dL_law_40 (by omega) (by omega) (by rw [hk]; rfl) rfl (LB_back hi hL hC hM hW (fun σ1 τ1 w1 c1 m1 i1 => RLaw.more (next σ1 τ1 w1 g c1 m1 i1)))
      · exact rl_tableIn (tgt := 1853) (off := 1813) dL_law_40 (by omega) (by omega) (by rw [hk]; rfl) rfl (LB_count hi hL hC hM hW (fun σ1 τ1 w1 c1 m1 i1 => RLaw.more (next σ1 τ1 w1 g c1 m1 i1)))
    · exact rl_tableOut (tgt := 1878) dL_law_40 (by omega) rfl (RLaw.more (next σ τ w g hC hM hW))
end LU
