/-! the law's own pond: it catches -/
theorem va_set_split {D : va_G} {cl : List vw_C} {w1 : va_W} {x x' : Nat × va_E} {H : Heap} {n : Nat} (hn : n = w1.length) (h : va_P D cl ((w1 ++ [x]).set n x') H) : va_P D cl w1 H ∧ va_P D cl [x'] H := by
  subst hn
  refine ⟨fun k q hq => h k q ?_, fun k q hq => h w1.length q ?_⟩
  · have hl := (List.getElem?_eq_some_iff.mp hq).1
    rw [List.getElem?_set_ne (by omega), List.getElem?_append_left hl]
    exact hq
  · have hk : k < 1 := (List.getElem?_eq_some_iff.mp hq).1
    obtain rfl : k = 0 := by omega
    rw [List.getElem?_set_self (by rw [List.length_append]; exact Nat.lt_succ_self _)]
    exact hq
def lp_A (ρ : Nat → Nat → Nat) (sz : Nat) : Nat → Prop := fun q => mj_AW mj_OC ρ sz q ∨ q = ρ 87 0
def lp_P (D : va_G) (G : ClassId × ClassId × ClassId) (ρ : Nat → Nat → Nat) (b : Nat) (t : Nat → Nat → Nat) (sz : Nat) (σ : MS) (g : Nat → Int64) (x y : Int32) : Array Value → State → Prop := va_Pc ([rV 0 0, iV x, iV y, rV 87 0].map (mj_rv ρ)) (fun U => U.heap.size = sz ∧ va_P D vwCl (mj_ws mj_OC G ρ σ) U.heap ∧ va_P D vwCl [(ρ 87 0, .inl (G.2.2, 1, .inr (.inl g)))] U.heap ∧ va_K D vwCl (mj_ty G) U ∧ mj_Z ρ (lp_A ρ sz) U U.heap ∧ EX b t U)
def lp_Q (D : va_G) (G : ClassId × ClassId × ClassId) (ρ : Nat → Nat → Nat) (sz : Nat) (σ : MS) (c : CA) (s : SA) (x y : Int32) : Array Value → State → Outcome → State → Prop := fun _ st o tt => ∃ g' : Nat → Int64, o = .returned (some (.int (gPondT c x y))) ∧ (∀ p, gIx x (c 0 0) = some p → gPondT c x y = 0 → g' 0 = (gPondV c s p y).toInt64) ∧ va_P D vwCl (mj_ws mj_OC G ρ σ) tt.heap ∧ va_P D vwCl [(ρ 87 0, .inl (G.2.2, 1, .inr (.inl g')))] tt.heap ∧ va_F (lp_A ρ sz) st tt
theorem lp_blind {D : va_G} {G : ClassId × ClassId × ClassId} {ρ : Nat → Nat → Nat} {b : Nat} {t : Nat → Nat → Nat} {sz : Nat} {σ : MS} {g : Nat → Int64} {x y : Int32} : FrameBlind (lp_P D G ρ b t sz σ g x y) := by
  intro a U g' mk h
  obtain ⟨h1, h2, h3, h4, h5, h6, h7⟩ := h
  exact ⟨h1, h2, h3, h4, va_K.moved (u := U) (U := U.calling g' mk a) (Vm.Alike.refl U.vm) h5, mj_Z.same (U := U) (V := U.calling g' mk a) rfl rfl h6, EX.same (U := U) (V := U.calling g' mk a) rfl rfl h7⟩
abbrev rmLp : Room := { frames := 7, cells := 1, slots := 6, locals := 300 }
abbrev hhLp : List (Nat × Nat × Nat × Nat) := [(0, 10, 13, 13), (0, 10, 17, 15)]
abbrev wsLp : List Cond := .codeWith yL_pond cL_pond 5 (some .int) hhLp :: mj_W
section LPD
variable {σ : MS} {bb : Nat} {cn : CA} {sn : SA}
theorem lp_met (l : Launch) (hlt : l.stackTraces = false) (D : va_G) (G : ClassId × ClassId × ClassId) (ρ : Nat → Nat → Nat) (b sz : Nat) (t : Nat → Nat → Nat) {g : Nat → Int64} {x y : Int32} (hwk : WK σ bb cn sn)
    (hinj : ∀ (i j : Nat) (x y : Nat × Nat), mj_OC[i]? = some x → mj_OC[j]? = some y → ρ x.1 x.2 = ρ y.1 y.2 → i = j) (hne : ∀ x ∈ mj_OC, ρ x.1 x.2 ≠ ρ 87 0) (hAb : ∀ q, mj_AW mj_OC ρ sz q → b ≤ q) :
    Met l yL_pond wsLp rmLp (lp_P D G ρ b t sz σ g x y) (lp_Q D G ρ sz σ cn sn x y) 1 6 (lp_A ρ sz) := by
  refine va_MetW (cc := cL_pond) (maxL := 5) (ret := some .int) (hh := hhLp) (by decide +kernel) rfl ?_
  intro p e s m args below meth c s₁ B hml hv
  obtain ⟨hargs, hsz, hP, hO, hK, hZ, hE⟩ := hv
  have hts0 := atoms_spec (ws := wsLp) B.pre
  have hts : ∀ w ∈ mj_W, w.before args s = true := fun w hw => hts0 w (List.mem_cons_of_mem _ hw)
  have hown : s.vm.findClass RL = some m.cls := findClass_of_methodNamed B.named
  have htab : c.exceptionTable.toList = tableOf hhLp := vx_table (x := yL_pond) B (hts0 _ List.mem_cons_self)
  have hx := B.exec
  have hb := B.bytes
  have hlocks := B.notSynchronized
  have hret := B.returns
  subst hargs
  subst hsz
  rw [lg_entry_eq]
  have hl0 := lv_entry ([rV 0 0, iV x, iV y, rV 87 0].map (mj_rv ρ)) (n := 5) (Nat.le_of_ble_eq_true rfl)
  generalize (lg_sl ([rV 0 0, iV x, iV y, rV 87 0].map (mj_rv ρ)) ++ List.replicate (5 - (lg_sl ([rV 0 0, iV x, iV y, rV 87 0].map (mj_rv ρ))).length) Slot.unset).toArray = a at hl0 ⊢
  have hl : lv_has a 5 [(0, .ref (ρ 0 0)), (1, .int x), (2, .int y), (3, .ref (ρ 87 0))] := hl0
  refine lv_aload_n hx hb dL_pond_0 rfl (lv_at hl 3 rfl) ?_
  refine lv_iconst (v := 0) hx hb dL_pond_1 (by decide) ?_
  refine lv_aload_n hx hb dL_pond_2 rfl (lv_at hl 0 rfl) ?_
  refine lv_iload_n hx hb dL_pond_3 rfl (lv_at hl 1 rfl) ?_
  refine lv_iload_n hx hb dL_pond_4 rfl (lv_at hl 2 rfl) ?_
  have hmet := cp_met l hlt D G ρ b s.heap.size t (x := x) (y := y) hwk hinj hAb
  have hrec : ∃ cell : Cell, s.heap[ρ 0 0]? = some cell ∧ cell.vm.isStatics = false ∧ s.vm.findClass yX10_pond.cls = some cell.cls := by
    have hg := mj_ws_get (O := mj_OC) (G := G) (ρ := ρ) (σ := σ) (q := 0) (k := 0) (i := 0) rfl
    exact va_recv hK hP (ci := 10) rfl hg
  have hB2 := rc_callB (M' := mX10_pond) (rm' := rmXp) (Rm := rmLp) (own := RL) hts kX10_pond lL_7 ⟨by decide, by decide⟩
  have hsub : ∀ q, mj_AW mj_OC ρ s.heap.size q → lp_A ρ s.heap.size q := fun q h => Or.inl h
  have hrun := vx_runV (As := [Value.int x, Value.int y]) (b := ρ 0 0) (rest := [Value.int 0, Value.ref (ρ 87 0)]) (g := F0 m 5 a [Value.int y, Value.int x, Value.ref (ρ 0 0), Value.int 0, Value.ref (ρ 87 0)]) (e := e) (below := below) (meth := meth) (locs := []) (cells := 0) (slots := 0) (H := s.heap) (Ts := mj_W) (own := RL) ⟨hx, hb, hml, hown, hts⟩ hmet ⟨hB2, hts _ i_X10_pond, hts _ e_X10_pond⟩ ⟨cp_blind, hrec, fun U hU hW => ⟨⟨rfl, by rw [hU], by rw [hU]; exact hP, va_K.moved hW.alike hK, by rw [hU]; exact hZ.next hW (fun _ _ _ => rfl) hsub⟩, hE.next hW (fun a h1 h2 => by rw [hU])⟩⟩ rfl rfl hl.1 rfl (lv_room (Nat.le_of_ble_eq_true rfl)) dL_pond_5 ⟨by decide, by decide⟩
  have hout : ∀ (H1 : Heap), (∀ q : Nat, q < s.heap.size → ¬ mj_AW mj_OC ρ s.heap.size q → H1[q]? = s.heap[q]?) → va_P D vwCl [(ρ 87 0, .inl (G.2.2, 1, .inr (.inl g)))] H1 := by
    intro H1 hk
    refine hO.kept (fun k q hq => ?_)
    have hlq := (hO k q hq).lt
    have hq1 : q.1 = ρ 87 0 := by
      have h1 := List.mem_of_getElem? hq
      rw [List.mem_singleton] at h1
      rw [h1]
    refine hk q.1 hlq ?_
    rintro (⟨z, hz, h1⟩ | h1)
    · exact hne z hz (h1.symm.trans hq1)
    · omega
  have hS9 : ∀ (T9 : State) (L9 : List Loc), s.heap.size ≤ T9.heap.size → (∀ q : Nat, q < s.heap.size → ¬ mj_AW mj_OC ρ s.heap.size q → T9.heap[q]? = s.heap[q]?) → (∀ z ∈ L9, mj_AW mj_OC ρ s.heap.size z.base) → va_S (lp_A ρ s.heap.size) s.heap T9.heap ([] ++ L9) := fun T9 L9 h1 h2 h3 => ⟨h1, fun q hq hn => h2 q hq (fun z => hn (hsub q z)), fun z hz => hsub _ (h3 z (by simpa using hz))⟩
  intro T hT X
  rcases hrun T hT X with ⟨v, st₀, t2, T', L, h0, X', hLo, e1, e2, ⟨⟨r, σ', hv, ⟨hσ, pn, eix, hT0, hr⟩, hb2⟩, hz, hk⟩, st⟩ | ⟨q9, st₀, t2, T', L, E9, ce, h0, X', hLo, e1, e2, ⟨hcx, hb2, hz, hk⟩, hce, hcv, hcl, st⟩
  · cases hv
    subst hr
    subst hσ
    rw [h0, ← e1] at hz hk
    have hb3 : va_P D vwCl (mj_ws mj_OC G ρ σ') T'.heap := by rw [e1]; exact hb2
    have hO1 := hout T'.heap hk
    have hS1 := hS9 T' L hz hk hLo
    have hDc : va_D (lp_A ρ s.heap.size) (mj_ws mj_OC G ρ σ' ++ [(ρ 87 0, .inl (G.2.2, 1, .inr (.inl g)))]) := by
      refine va_D.app (mj_D.va ⟨hinj, fun z hz => Or.inl (Or.inl ⟨z, hz, rfl⟩)⟩ σ') ⟨fun i j p q hp hq _ => ?_, fun k q hq => ?_⟩ (fun i j p q hp hq h => ?_)
      · have h1 : i < 1 := (List.getElem?_eq_some_iff.mp hp).1
        have h2 : j < 1 := (List.getElem?_eq_some_iff.mp hq).1
        omega
      · have h1 := List.mem_of_getElem? hq
        rw [List.mem_singleton] at h1
        rw [h1]; exact Or.inr rfl
      · obtain ⟨z, hz, rfl⟩ := List.mem_map.mp (List.mem_of_getElem? hp)
        have h1 := List.mem_of_getElem? hq
        rw [List.mem_singleton] at h1
        rw [h1] at h
        exact hne z hz h
    have key : W p l e rmLp s m ([rV 0 0, iV x, iV y, rV 87 0].map (mj_rv ρ)).toArray below meth c T'.heap ([] ++ L) (0 + 1) (0 + 6) (MQ below (lp_Q D G ρ s.heap.size σ' cn sn x y) ([rV 0 0, iV x, iV y, rV 87 0].map (mj_rv ρ)).toArray s 1 6 (lp_A ρ s.heap.size)) (F0 m 8 a [Value.int (gPondV cn sn pn y), Value.int 0, Value.ref (ρ 87 0)]) := by
      refine lv_i2l hx hb dL_pond_8 rfl ?_
      refine va_last hx hb hK (hb3.app hO1) hDc hS1 (mj_ws mj_OC G ρ σ').length 2 (by rw [List.getElem?_append_right (Nat.le_refl _), Nat.sub_self]; rfl) rfl (vin (p := 0) (n := 1) (by omega) (by omega) (by decide)) dL_pond_9 (fun H1 locs1 hP1 hD1 hS2 => ?_)
      obtain ⟨hq1, hq2⟩ := va_set_split rfl hP1
      refine lv_goto (tgt := 21) hx hb dL_pond_10 rfl ?_
      refine lv_iconst (v := 0) hx hb dL_pond_21 (by decide) ?_
      refine W.iret hx hb hret (fun t9 ht9 _ => ⟨_, by rw [hT0], fun p' e' _ => ?_, by rw [ht9]; exact hq1, by rw [ht9]; exact hq2, hS2.F ht9⟩) hS2.2.2 dL_pond_22 hlocks
      rw [eix] at e'
      cases e'
      rfl
    obtain ⟨t3, a1, b1⟩ := key T' rfl X'
    exact ⟨t3, st t3 a1, b1⟩
  · rw [h0, ← e1] at hz hk
    have hb3 : va_P D vwCl (mj_ws mj_OC G ρ σ) T'.heap := by rw [e1]; exact hb2
    have hO1 := hout T'.heap hk
    have hS1 := hS9 T' L hz hk hLo
    have hce' : T'.heap[q9]? = some ce := by rw [e1]; exact hce
    have fin : ∀ (v : Int32) (T9 : State) (a9 : Array Slot), gPondT cn x y = v → ¬ v = 0 → ∀ (pc : Nat), decode cL_pond pc = .ok (.ireturn, 1) → W p l e rmLp s m ([rV 0 0, iV x, iV y, rV 87 0].map (mj_rv ρ)).toArray below meth c T'.heap ([] ++ L) (0 + 1) (0 + 6) (MQ below (lp_Q D G ρ s.heap.size σ cn sn x y) ([rV 0 0, iV x, iV y, rV 87 0].map (mj_rv ρ)).toArray s 1 6 (lp_A ρ s.heap.size)) (F0 m pc a9 [Value.int v]) := by
      intro v T9 a9 hv hv0 pc hd
      exact W.iret hx hb hret (fun t9 ht9 _ => ⟨g, by rw [hv], fun p' _ h0 => absurd (hv.symm.trans h0) hv0, by rw [ht9]; exact hb3, by rw [ht9]; exact hO1, hS1.F ht9⟩) hS1.2.2 hd hlocks
    have key : vx_W p l e rmLp s m ([rV 0 0, iV x, iV y, rV 87 0].map (mj_rv ρ)).toArray below meth c T'.heap ([] ++ L) (0 + 1) (0 + 6) (MQ below (lp_Q D G ρ s.heap.size σ cn sn x y) ([rV 0 0, iV x, iV y, rV 87 0].map (mj_rv ρ)).toArray s 1 6 (lp_A ρ s.heap.size)) (F0 m 5 a [Value.int 0, Value.ref (ρ 87 0)]) q9 := by
      rcases hcx with ⟨hT1, rfl⟩ | ⟨hT1, rfl⟩
      · refine vx_catch (own := RL) (name := exIO) hown [] ⟨0, 10, 13, 13⟩ [⟨0, 10, 17, 15⟩] htab (fun z hz => by cases hz) (by decide) (by decide) (hts _ qL_13) (exB_use hE.2.2.2.2.1 _ (by simp [exB])) hce' hcv hcl ?_
        refine lv_astore hx hb dL_pond_13 hl (by decide) rfl (fun a' hL' => ?_)
        refine lv_iconst (v := 1) hx hb dL_pond_15 (by decide) ?_
        exact fin 1 T' a' hT1 (by decide) _ dL_pond_16
      · refine vx_catch (own := RL) (name := exNS) hown [⟨0, 10, 13, 13⟩] ⟨0, 10, 17, 15⟩ [] htab (fun z hz => ?_) (by decide) (by decide) (hts _ qL_15) (exB_use hE.2.2.2.2.1 _ (by simp [exB])) hce' hcv hcl ?_
        · rw [List.mem_singleton] at hz
          subst hz
          exact Or.inr ⟨by decide, exIO, hts _ qL_13, hE.2.2.2.2.2⟩
        · refine lv_astore hx hb dL_pond_17 hl (by decide) rfl (fun a' hL' => ?_)
          refine lv_iconst (v := 2) hx hb dL_pond_19 (by decide) ?_
          exact fin 2 T' a' hT1 (by decide) _ dL_pond_20
    obtain ⟨t3, a1, b1⟩ := key T' rfl X'
    exact ⟨t3, st.trans a1, b1⟩
end LPD
