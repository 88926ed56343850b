def cp_P (D : va_G) (G : ClassId × ClassId × ClassId) (ρ : Nat → Nat → Nat) (b : Nat) (t : Nat → Nat → Nat) (sz : Nat) (σ : MS) (x y : Int32) : Array Value → State → Prop := fun a U => mj_PC mj_OC D G ρ [rV 0 0, iV x, iV y] sz σ a U ∧ EX b t U
def cp_R (σ : MS) (c : CA) (s : SA) (x y : Int32) : Option MV → MS → Prop := fun r σ' => σ' = σ ∧ ∃ p, gIx x (c 0 0) = some p ∧ gPondT c x y = 0 ∧ r = some (iV (gPondV c s p y))
def cp_X (D : va_G) (G : ClassId × ClassId × ClassId) (ρ : Nat → Nat → Nat) (A : Nat → Prop) (σ : MS) (c : CA) (x y : Int32) : String → State → State → Prop := fun E st t => ((gPondT c x y = 1 ∧ E = exIO) ∨ (gPondT c x y = 2 ∧ E = exNS)) ∧ va_P D vwCl (mj_ws mj_OC G ρ σ) t.heap ∧ va_F A st t
theorem cp_blind {D : va_G} {G : ClassId × ClassId × ClassId} {ρ : Nat → Nat → Nat} {b : Nat} {t : Nat → Nat → Nat} {sz : Nat} {σ : MS} {x y : Int32} : FrameBlind (cp_P D G ρ b t sz σ x y) := by
  intro a U g mk h
  exact ⟨mj_blind a U g mk h.1, EX.same (U := U) (V := U.calling g mk a) rfl rfl h.2⟩
section CPD
variable {σ : MS} {w : WT} {bb : Nat} {cn : CA} {sn : SA}
theorem S_pondAt {d pc : Nat} (h : WK σ bb cn sn) {p : Nat} {y : Int32} (hp : p < cn 0 0) (hpc : (pc = 52 ∧ y = 0) ∨ (pc = 62 ∧ y = 1) ∨ (pc = 72 ∧ y = 2) ∨ (pc = 82 ∧ y = 3) ∨ (pc = 92 ∧ y = 4)) {Q : Option MV → MS → Prop} (H : Q (some (iV (gPondV cn sn p y))) σ) : R mj_OC (d + 1) mX10_pond Q pc [some (rV 0 0), some (iV (nI p)), some (iV y)] [] σ := by
  have C := h.C
  have V := h.V
  have hb := h.lt
  have n7 := V.np
  have e0 : σ.2.2 0 0 = bb := h.1
  have vp : vp_in (nI p) 7 := vin (show p < 7 by omega) (Nat.le_refl _) (by omega)
  have hcv : ∀ ρ : Nat → Nat → Nat, mj_fv ρ (σ.1 0 0) (σ.2.2 0 0) 0 9 (3, 3, 0) = mj_rv ρ (rV 3 bb) := fun ρ => by show Value.ref (ρ 3 (σ.2.2 0 0)) = _; rw [e0]; rfl
  rcases hpc with ⟨rfl, rfl⟩ | ⟨rfl, rfl⟩ | ⟨rfl, rfl⟩ | ⟨rfl, rfl⟩ | ⟨rfl, rfl⟩
  · refine r_aload_n (i := 0) dX10_pond_52 rfl rfl ?_
    refine r_get (j := 9) (C := RX10) (T := TX10) (N := 13) (ci := 10) rfl rfl ho0 rfl hX10 (by decide) rfl fX10_21 dX10_pond_53 hcv ?_
    refine r_get (j := 2) (C := RX0) (T := TX0) (N := 16) (ci := 0) (v := rV 17 bb) rfl rfl (ho3 hb) rfl hX0 (by decide) rfl fX10_135 dX10_pond_56 (fun _ => rfl) ?_
    refine r_iload_n (i := 1) dX10_pond_59 rfl rfl ?_
    refine r_iald (n := 7) rfl (ho17 hb) vp dX10_pond_60 ?_
    rw [cl hp (by omega), C.area hp]
    exact r_iret dX10_pond_61 rfl H
  · refine r_aload_n (i := 0) dX10_pond_62 rfl rfl ?_
    refine r_get (j := 9) (C := RX10) (T := TX10) (N := 13) (ci := 10) rfl rfl ho0 rfl hX10 (by decide) rfl fX10_21 dX10_pond_63 hcv ?_
    refine r_get (j := 3) (C := RX0) (T := TX0) (N := 16) (ci := 0) (v := rV 18 bb) rfl rfl (ho3 hb) rfl hX0 (by decide) rfl fX10_138 dX10_pond_66 (fun _ => rfl) ?_
    refine r_iload_n (i := 1) dX10_pond_69 rfl rfl ?_
    refine r_iald (n := 7) rfl (ho18 hb) vp dX10_pond_70 ?_
    rw [cl hp (by omega), C.floor hp]
    exact r_iret dX10_pond_71 rfl H
  · refine r_aload_n (i := 0) dX10_pond_72 rfl rfl ?_
    refine r_get (j := 1) (C := RX10) (T := TX10) (N := 13) (ci := 10) (v := rV 6 0) rfl rfl ho0 rfl hX10 (by decide) rfl fX10_30 dX10_pond_73 (fun _ => rfl) ?_
    refine r_get (j := 1) (C := RX8) (T := TX8) (N := 8) (ci := 8) (v := rV 35 0) rfl rfl (ho6 (by decide)) rfl hX8 (by decide) rfl fX10_141 dX10_pond_76 (fun _ => rfl) ?_
    refine r_iload_n (i := 1) dX10_pond_79 rfl rfl ?_
    refine r_iald (n := 7) rfl (ho35 (by decide)) vp dX10_pond_80 ?_
    rw [cl hp (by omega), h.2.wr hp]
    exact r_iret dX10_pond_81 rfl H
  · refine r_aload_n (i := 0) dX10_pond_82 rfl rfl ?_
    refine r_get (j := 9) (C := RX10) (T := TX10) (N := 13) (ci := 10) rfl rfl ho0 rfl hX10 (by decide) rfl fX10_21 dX10_pond_83 hcv ?_
    refine r_get (j := 5) (C := RX0) (T := TX0) (N := 16) (ci := 0) (v := rV 20 bb) rfl rfl (ho3 hb) rfl hX0 (by decide) rfl fX10_144 dX10_pond_86 (fun _ => rfl) ?_
    refine r_iload_n (i := 1) dX10_pond_89 rfl rfl ?_
    refine r_iald (n := 7) rfl (ho20 hb) vp dX10_pond_90 ?_
    rw [cl hp (by omega), C.spring hp]
    exact r_iret dX10_pond_91 rfl H
  · refine r_aload_n (i := 0) dX10_pond_92 rfl rfl ?_
    refine r_get (j := 9) (C := RX10) (T := TX10) (N := 13) (ci := 10) rfl rfl ho0 rfl hX10 (by decide) rfl fX10_21 dX10_pond_93 hcv ?_
    refine r_get (j := 14) (C := RX0) (T := TX0) (N := 16) (ci := 0) (v := rV 4 bb) rfl rfl (ho3 hb) rfl hX0 (by decide) rfl fX10_147 dX10_pond_96 (fun _ => rfl) ?_
    refine r_iload_n (i := 1) dX10_pond_99 rfl rfl ?_
    refine r_callV (M' := mX4_ofPond) (C := RX4) (T := TX4) (N := 7) (z := 1) (As := [iV (nI p)]) (st := []) kX4_ofPond i_X4_ofPond e_X4_ofPond lX10_151 dX10_pond_100 rfl rfl (ho4 hb) rfl rfl rfl rfl rfl (by decide) ?_
    refine S_ofPond (s := cn) hb V.nl C.nl (fun l hl => ⟨C.lpond hl, by have := (V.lock hl).1; omega⟩) (by omega) ?_
    refine r_callS (M' := mX10_orWithout) (z := 0) (As := [iV (mOpt (qLk cn p))]) (st := []) kX10_orWithout s_X10_orWithout lX10_156 dX10_pond_103 rfl rfl rfl rfl (by decide) ?_
    refine S_orWithout ?_
    exact r_iret dX10_pond_106 rfl H
theorem gPondT_r {c : CA} {x y : Int32} {p : Nat} (e : gIx x (c 0 0) = some p) : gPondT c x y = if 0 ≤ y.toInt ∧ y.toInt ≤ 4 then 0 else 2 := by
  have z0 : (0 : Int32).toInt = 0 := rfl
  have z4 : (4 : Int32).toInt = 4 := rfl
  rw [gPondT, e]
  show (if y < 0 then (2 : Int32) else if y ≤ 4 then 0 else 2) = _
  by_cases h0 : y < 0
  · rw [if_pos h0]
    rw [Int32.lt_iff_toInt_lt, z0] at h0
    rw [if_neg (by omega)]
  · rw [if_neg h0]
    rw [Int32.lt_iff_toInt_lt, z0] at h0
    by_cases h4 : y ≤ 4
    · rw [if_pos h4]
      rw [Int32.le_iff_toInt_le, z4] at h4
      rw [if_pos (by omega)]
    · rw [if_neg h4]
      rw [Int32.le_iff_toInt_le, z4] at h4
      rw [if_neg (by omega)]
theorem y_of {y : Int32} {k : Int32} (h : y.toInt = k.toInt) : y = k := Int32.toInt_inj.mp h
theorem cp_met (l : Launch) (hlt : l.stackTraces = false) (D : va_G) (G : ClassId × ClassId × ClassId) (ρ : Nat → Nat → Nat) (b sz : Nat) (t : Nat → Nat → Nat) {x y : Int32} (hwk : WK σ bb cn sn)
    (hinj : ∀ (i j : Nat) (x y : Nat × Nat), mj_OC[i]? = some x → mj_OC[j]? = some y → ρ x.1 x.2 = ρ y.1 y.2 → i = j) (hAb : ∀ q, mj_AW mj_OC ρ sz q → b ≤ q) :
    vx_Met l yX10_pond (mj_wsM mX10_pond) rmXp (cp_P D G ρ b t sz σ x y) (mj_QC mj_OC D G ρ (mj_AW mj_OC ρ sz) (cp_R σ cn sn x y)) (cp_X D G ρ (mj_AW mj_OC ρ sz) σ cn x y) 1 6 (mj_AW mj_OC ρ sz) := by
  refine vx_ofW (cc := cX10_pond) (maxL := 3) (ret := some .int) (by decide +kernel) rfl ?_
  intro p e s m args below meth c s₁ B hml htab hv
  obtain ⟨⟨hargs, hsz, hP, hK, hZ⟩, hE⟩ := hv
  have hts0 := atoms_spec (ws := mj_wsM mX10_pond) B.pre
  have hts : ∀ w ∈ mj_W, w.before args s = true := fun w hw => hts0 w (List.mem_cons_of_mem _ hw)
  have hown : s.vm.findClass RX10 = some m.cls := findClass_of_methodNamed B.named
  have hA : mj_A mj_OC mX10_pond p s m args meth c D G ρ (mj_AW mj_OC ρ sz) := ⟨B.exec, B.bytes, hml, B.returns, B.notSynchronized, hown, hts, hK, ⟨hinj, fun x hx => Or.inl ⟨x, hx, rfl⟩⟩, fun q hq => Or.inr (by rw [← hsz]; exact hq), hZ⟩
  have hx := B.exec
  have hb := B.bytes
  subst hargs
  rw [lg_entry_eq]
  have hl0 := lv_entry ([rV 0 0, iV x, iV y].map (mj_rv ρ)) (n := 3) (Nat.le_of_ble_eq_true rfl)
  generalize (lg_sl ([rV 0 0, iV x, iV y].map (mj_rv ρ)) ++ List.replicate (3 - (lg_sl ([rV 0 0, iV x, iV y].map (mj_rv ρ))).length) Slot.unset).toArray = a at hl0 ⊢
  have hL : mj_L ρ a 3 [some (rV 0 0), some (iV x), some (iV y)] := by
    show lv_has _ _ (mj_toL ρ 0 (mj_args [rV 0 0, iV x, iV y] ++ List.replicate 0 none))
    rw [mj_toL_args]
    exact hl0
  refine lv_aload_n hx hb dX10_pond_0 rfl (hL.at (j := 0) (v := rV 0 0) rfl) ?_
  refine lv_iload_n hx hb dX10_pond_1 rfl (hL.at (j := 1) (v := iV x) rfl) ?_
  obtain ⟨hAW, hpc⟩ := mj_pre (As := [rV 0 0, iV x]) hA hP va_S.rf
  have hmet := mj_met l D G ρ s.heap.size kX10_isPond.2.2.1 (As := [rV 0 0, iV x]) (z := 0) rfl hinj (S_isPond (d := 0) hwk (Q := fun r σ' => σ' = σ ∧ ((∃ p, p < cn 0 0 ∧ x = nI p ∧ gIx x (cn 0 0) = some p ∧ r = some (iV 1)) ∨ (gIx x (cn 0 0) = none ∧ r = some (iV 0)))) (fun p hp ex e => ⟨rfl, Or.inl ⟨p, hp, ex, e, rfl⟩⟩) (fun e => ⟨rfl, Or.inr ⟨e, rfl⟩⟩))
  have hrec : ∃ cell : Cell, s.heap[ρ 0 0]? = some cell ∧ cell.vm.isStatics = false ∧ s.vm.findClass yX10_isPond.cls = some cell.cls := by
    have hg := mj_ws_get (O := mj_OC) (G := G) (ρ := ρ) (σ := σ) (q := 0) (k := 0) (i := 0) rfl
    exact va_recv hK hP (ci := 10) rfl hg
  have hB2 := rc_callB (rm' := mj_rm 0) (Rm := rmXp) (own := RX10) hts kX10_isPond lX10_124 ⟨by decide, by decide⟩
  have hrun := va_runV (As := [Value.int x]) (b := ρ 0 0) (rest := []) (g := F0 m 2 a [Value.int x, Value.ref (ρ 0 0)]) (e := e) (below := below) (meth := meth) (locs := []) (cells := 0) (slots := 0) (H := s.heap) (Ts := mj_W) (own := RX10) ⟨hx, hb, hml, hown, hts⟩ hmet ⟨hB2, hts _ i_X10_isPond, hts _ e_X10_isPond⟩ ⟨mj_blind, hrec, hpc⟩ rfl rfl hL.1 rfl (lv_room (Nat.zero_le _)) dX10_pond_2 ⟨Nat.zero_le _, Nat.zero_le _⟩
  refine mj_cont hrun va_S.rf hAW hAW (fun r σ' H1 locs1 hq hP1 hS1 => ?_)
  have hxx : ∀ (E : String) (t9 : State), ((gPondT cn x y = 1 ∧ E = exIO) ∨ (gPondT cn x y = 2 ∧ E = exNS)) → H1.size ≤ t9.heap.size → (∀ q : Nat, q < H1.size → t9.heap[q]? = H1[q]?) → σ' = σ → cp_X D G ρ (mj_AW mj_OC ρ sz) σ cn x y E s t9 := by
    intro E t9 hE9 h1 h2 he
    subst he
    refine ⟨hE9, hP1.kept (fun k q hk => h2 _ ((hP1 k q hk).lt)), Nat.le_trans hS1.1 h1, fun q hq hn => ?_⟩
    rw [h2 q (Nat.lt_of_lt_of_le hq hS1.1)]
    exact hS1.2.1 q hq hn
  obtain ⟨hσ, ⟨pn, hpn, ex, eix, rfl⟩ | ⟨eix, rfl⟩⟩ := hq
  · have hTr := gPondT_r (y := y) eix
    refine lv_if_ne (tgt := 18) hx hb dX10_pond_5 rfl (fun _ => ?_) (fun z => absurd z (by decide))
    refine lv_iload_n hx hb dX10_pond_18 rfl (hL.at (j := 2) (v := iV y) rfl) ?_
    by_cases hy : 0 ≤ y.toInt ∧ y.toInt ≤ 4
    · rw [if_pos hy] at hTr
      subst hσ
      subst ex
      have fin : ∀ pc, ((pc = 52 ∧ y = 0) ∨ (pc = 62 ∧ y = 1) ∨ (pc = 72 ∧ y = 2) ∨ (pc = 82 ∧ y = 3) ∨ (pc = 92 ∧ y = 4)) → W p l e rmXp s m ([rV 0 0, iV (nI pn), iV y].map (mj_rv ρ)).toArray below meth c H1 locs1 0 0 (vx_MQ below (mj_QC mj_OC D G ρ (mj_AW mj_OC ρ sz) (cp_R σ' cn sn (nI pn) y)) (cp_X D G ρ (mj_AW mj_OC ρ sz) σ' cn (nI pn) y) ([rV 0 0, iV (nI pn), iV y].map (mj_rv ρ)).toArray s 1 6 (mj_AW mj_OC ρ sz)) (F0 m pc a []) := by
        intro pc hpc
        have hR := S_pondAt (d := 0) hwk hpn hpc (Q := cp_R σ' cn sn (nI pn) y) ⟨rfl, pn, eix, hTr, rfl⟩
        exact vx_ret (W_MQ (Nat.zero_le _) (Nat.zero_le _) (W_room (R' := mj_rm 1) (by decide) (by decide) (by decide) (by decide) (hR p l e s m _ below meth c D G ρ _ hA H1 locs1 a hP1 hS1 hL)))
      rcases (show y.toInt = 0 ∨ y.toInt = 1 ∨ y.toInt = 2 ∨ y.toInt = 3 ∨ y.toInt = 4 by omega) with h | h | h | h | h
      · exact lv_tableIn (tgt := 52) (off := 33) hx hb dX10_pond_19 (by omega) (by omega) (by rw [h]; rfl) rfl (fin 52 (Or.inl ⟨rfl, y_of h⟩))
      · exact lv_tableIn (tgt := 62) (off := 43) hx hb dX10_pond_19 (by omega) (by omega) (by rw [h]; rfl) rfl (fin 62 (Or.inr (Or.inl ⟨rfl, y_of h⟩)))
      · exact lv_tableIn (tgt := 72) (off := 53) hx hb dX10_pond_19 (by omega) (by omega) (by rw [h]; rfl) rfl (fin 72 (Or.inr (Or.inr (Or.inl ⟨rfl, y_of h⟩))))
      · exact lv_tableIn (tgt := 82) (off := 63) hx hb dX10_pond_19 (by omega) (by omega) (by rw [h]; rfl) rfl (fin 82 (Or.inr (Or.inr (Or.inr (Or.inl ⟨rfl, y_of h⟩)))))
      · exact lv_tableIn (tgt := 92) (off := 73) hx hb dX10_pond_19 (by omega) (by omega) (by rw [h]; rfl) rfl (fin 92 (Or.inr (Or.inr (Or.inr (Or.inr ⟨rfl, y_of h⟩)))))
    · rw [if_neg hy] at hTr
      refine lv_tableOut (tgt := 107) hx hb dX10_pond_19 (by omega) rfl ?_
      exact nx_throwS (cls := exNS) (Y9 := "java/lang/RuntimeException") (names := ["java/lang/Exception"]) (text := "no such what") (sa := t 203 1) (A := mj_AW mj_OC ρ sz) hx hb hlt hown (by decide +kernel) (by decide +kernel) (by decide +kernel) (hts _ qX10_159) (hts _ n_java_util_NoSuchElementException) hE.2.1 (ex_at hts ex_g1 ex_b1 (exB_use hE.2.2.2.2.1)) ex_o1 (hE.2.2.1.narrow hAb) (hE.2.2.2.1.narrow hAb) hS1 (hL.1.trans hml.symm) dX10_pond_107 dX10_pond_110 dX10_pond_111 dX10_pond_113 dX10_pond_116 (fun x hx => (htab x hx).elim) (by decide) (by decide) (by decide) (by decide) B.notSynchronized (fun t9 _ h1 h2 => hxx _ t9 (Or.inr ⟨hTr, rfl⟩) h1 h2 hσ) hS1.2.2 (by decide) (by decide)
  · have hTr : gPondT cn x y = 1 := by rw [gPondT, eix]
    refine lv_if_ne (tgt := 18) hx hb dX10_pond_5 rfl (fun z => absurd rfl z) (fun _ => ?_)
    exact vx_throwS (cls := exIO) (names := ["java/lang/RuntimeException", "java/lang/Exception"]) (text := "no such pond") (sa := t 203 0) (A := mj_AW mj_OC ρ sz) hx hb hlt hown (by decide +kernel) (by decide +kernel) (hts _ qX10_128) (hts _ n_java_lang_IndexOutOfBoundsException) hE.1 (ex_at hts ex_g0 ex_b0 (exB_use hE.2.2.2.2.1)) ex_o0 (hE.2.2.1.narrow hAb) (hE.2.2.2.1.narrow hAb) hS1 (hL.1.trans hml.symm) dX10_pond_8 dX10_pond_11 dX10_pond_12 dX10_pond_14 dX10_pond_17 (fun x hx => (htab x hx).elim) (by decide) (by decide) (by decide) (by decide) B.notSynchronized (fun t9 _ h1 h2 => hxx _ t9 (Or.inl ⟨hTr, rfl⟩) h1 h2 hσ) hS1.2.2 (by decide) (by decide)
end CPD
