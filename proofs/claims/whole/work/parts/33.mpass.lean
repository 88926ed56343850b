/-! the reference's minute, its parts -/
/-- a boat that is IN has come from its minute on -/
def sIn (c : CA) (s : SA) : Prop := ∀ q : Nat, q < c 0 4 → s 5 q = 1 → ¬ s 0 0 < nI (c 16 q)
/-- what a minute of slot k may change -/
def SZ (k : Nat) (σ τ : MS) : Prop := SY mmL [39] σ τ ∧ ∀ j, j ≠ k → KS σ τ j
theorem SZ.rf {k : Nat} {σ : MS} : SZ k σ σ := ⟨SY.rf, fun _ _ => KS.rf⟩
theorem SZ.tr {k : Nat} {σ τ υ : MS} (h1 : SZ k σ τ) (h2 : SZ k τ υ) : SZ k σ υ := ⟨h1.1.tr h2.1, fun j hj => (h1.2 j hj).tr (h2.2 j hj)⟩
theorem SY.z {k : Nat} {L : List (Nat × Nat)} {σ τ : MS} (h : SY L [39] σ τ) (hL : ∀ x ∈ L, x ∈ mmL) (hM : L.all (fun x => !(70 ≤ x.1 && x.1 ≤ 76)) = true) : SZ k σ τ := ⟨h.wk hL (fun _ q => q), fun j _ => KS.of h.1 (by rw [List.all_cons, hM]; rfl) j⟩
theorem SB.z {k : Nat} {L : List (Nat × Nat)} {σ τ : MS} (h : SB L σ τ) (h45 : (45, 0) ∉ L) (hL : ∀ x ∈ L, x ∈ mmL) (hk : ∀ j, j ≠ k → KS σ τ j) : SZ k σ τ := ⟨(h.y (J := [39]) h45).wk hL (fun _ q => q), hk⟩
theorem SZ.u74 {k p : Nat} {σ : MS} {v : Int32} (hp : p < 7) : SZ k σ (uI σ 74 0 (7 * k + p) v) := ⟨SY.ui (by simp [mmL]) (by decide), fun _ hj => KS.u74 hj hp⟩
theorem SZ.u75 {k p : Nat} {σ : MS} {v : Int32} (hp : p < 8) : SZ k σ (uI σ 75 0 (8 * k + p) v) := ⟨SY.ui (by simp [mmL]) (by decide), fun _ hj => KS.u75 hj hp⟩
theorem SZ.u76 {k p : Nat} {σ : MS} {v : Int32} (hp : p < 8) : SZ k σ (uI σ 76 0 (8 * k + p) v) := ⟨SY.ui (by simp [mmL]) (by decide), fun _ hj => KS.u76 hj hp⟩
theorem SZ.u70 {k f : Nat} {σ : MS} {v : Int32} (hf : f ≤ 3) : SZ k σ (uI σ (70 + f) 0 k v) := ⟨SY.ui (by simp [mmL]; omega) (by omega), fun _ hj => KS.u70 hj hf⟩
section Mp
variable {d : Nat} {Q : Option MV → MS → Prop} {σ : MS} {k : Nat} {c : CA} {s : SA} {md : MD}
theorem M_more {w x : Int32} (H : Q (some (iV (gMore w x))) σ) : R mj_OM (d + 1) mX11_more Q 0 [some (rV 45 0), some (iV w), some (iV x)] [] σ := bX11_more_0 H
theorem M_boatIn (h : MB σ k c s) {l : Nat} (hl : l ≤ 2000) (H : Q (some (iV (gBoatIn c s l))) σ) : R mj_OM d mX11_boatIn Q 0 [some (rV 45 0), some (iV (nI k)), some (iV (nI l)), none] [] σ := by
  have V := h.2.2.1
  have nb := V.nb
  have nl := V.nl
  have hk := h.1
  refine bX11_boatIn_0 ?_
  have L := up_loop (n := c 0 4) (fun i => Q (some (iV (gFd (fun q => decide (s 5 q = 1 ∧ c 15 q = l)) i (c 0 4 - i)))) σ → R mj_OM d mX11_boatIn Q 2 [some (rV 45 0), some (iV (nI k)), some (iV (nI l)), some (iV (nI i))] [] σ) ?_ ?_ 0 (Nat.zero_le _) H
  · exact L
  · intro H
    refine bX11_boatIn_2 ⟨vin (p := 4) (n := 5) (by omega) (by omega) (by decide), fun _ => ?_, fun q => ?_⟩
    · rw [Nat.sub_self] at H; exact H
    · rw [h.2.1.nb] at q; exact absurd (Int32.le_refl _) q
  · intro i hi ih H
    rw [gFd_step hi] at H
    refine bX11_boatIn_2 ⟨vin (p := 4) (n := 5) (by omega) (by omega) (by decide), fun q => ?_, fun _ => ⟨vin hi (by omega) (by decide), fun q1 => ?_, fun q1 => ⟨?_, fun q2 => ?_, fun q2 => ?_⟩⟩⟩
    · rw [h.2.1.nb, nI_le2 (by omega) (by omega)] at q; omega
    · rw [cl hi (by omega), h.2.1.block hi, nI_inj (by have := (V.boat hi).1; omega) hl] at q1
      rw [if_neg (by simp [q1])] at H
      rw [nI_1]; exact ih H
    · rw [ix8]; exact vin (show 8 * k + i < 184 by omega) (Nat.le_refl _) (by decide)
    · rw [ix8, nI_clamp (by omega), h.st hi] at q2
      rw [if_neg (by simp [q2])] at H
      rw [nI_1]; exact ih H
    · rw [cl hi (by omega), h.2.1.block hi, nI_inj (by have := (V.boat hi).1; omega) hl] at q1
      rw [ix8, nI_clamp (by omega), h.st hi] at q2
      rw [if_pos (by simp [q1, q2])] at H
      exact H
theorem M_opens (h : MB σ k c s) (hm : MM σ md) (ht : SVt s) (hv : MV' c md) {n : Nat} (hn : n < c 0 2) (ho : gOpen c s md n = true) (H : ∀ τ : MS, SZ k σ τ → MB τ k c (gPipe c md n s) → Q none τ) : R mj_OM (d + 1 + 1 + 1 + 1 + 1 + 1) mX11_opens Q 0 [some (rV 45 0), some (iV (nI k)), some (iV (nI n)), some (iV (i01 md.1))] [] σ := by
  have V := h.2.2.1
  have nk := V.nk
  have hk := h.1
  have g1 := gGiver_lt (s := s) V hn
  have pp := V.pipe hn
  refine bX11_opens_0 (M_sourceOf h hn (bX11_opens_8 ⟨vin hn (by omega) (by decide), ?_⟩))
  rw [cl hn (by omega), h.2.1.wide hn]
  refine M_calls h hm ht hv g1 (by omega) (fun τ hτ hnm => ?_)
  have h1 : MB τ k c s := h.keep hτ rfl rfl
  refine bX11_opens_17 ⟨vin hn (by omega) (by decide), ?_⟩
  rw [cl hn (by omega), h1.2.1.wide hn]
  refine M_within h1.2.1 V (r := 0) (by decide) hnm (gNames_big c s md V g1 (by omega)) (most := 99) (by omega) (fun υ hυ => ?_)
  have h2 : MB υ k c s := h1.keepY hυ rfl rfl
  refine bX11_opens_33 (M_flows h2 hn (fun φ hφ hKφ h3 => bX11_opens_36 ?_))
  have y3 : SZ k σ φ := (((hτ.y (J := [39]) (by simp)).z (by simp [mmL]) rfl).tr (hυ.z (by simp [mmL]) rfl)).tr (hφ.z (by simp) (by simp [mmL]) hKφ)
  refine M_doesJam h3 (hm.keepY y3.1 (by simp)) (fun χ hχ hKχ h4 => ?_)
  have y4 : SZ k σ χ := y3.tr (hχ.z (by simp) (by simp [mmL]) hKχ)
  rw [gPipe, if_pos ho] at H
  refine bX11_opens_43 ⟨fun g => ?_, fun g => ⟨vin hk (Nat.le_refl _) (by decide), ?_⟩⟩
  · have hf : ¬ (gDraw c md (gFlow c s n (gPut (gWorth c 0 (gNames c s md (gGiver c s n) (c 11 n))) 99 (c 11 n))).2).1 = true := fun x => by rw [if_pos x] at g; exact absurd g (by decide)
    rw [gJamIt, if_neg hf] at H
    exact H χ y4 h4
  · have hf : (gDraw c md (gFlow c s n (gPut (gWorth c 0 (gNames c s md (gGiver c s n) (c 11 n))) 99 (c 11 n))).2).1 = true := by
      rcases Bool.eq_false_or_eq_true (gDraw c md (gFlow c s n (gPut (gWorth c 0 (gNames c s md (gGiver c s n) (c 11 n))) 99 (c 11 n))).2).1 with x | x
      · exact x
      · rw [x] at g; exact absurd rfl g
    rw [gJamIt, if_pos hf] at H
    rw [cl hk (by omega), h4.2.2.2.2.2.2.1]
    exact H _ (y4.tr (SZ.u70 (f := 3) (by omega))) (h4.u70 (f := 3) (by omega))
theorem M_loses (h : MB σ k c s) (hm : MM σ md) (ht : SVt s) (hv : MV' c md) {p : Nat} (hp : p < c 0 0) (H : ∀ τ : MS, SZ k σ τ → MB τ k c (gLeak c md p s) → Q none τ) : R mj_OM (d + 1 + 1 + 1 + 1) mX11_loses Q 0 [some (rV 45 0), some (iV (nI k)), some (iV (nI p)), none, none] [] σ := by
  have V := h.2.2.1
  have np := V.np
  have hk := h.1
  refine bX11_loses_0 (M_calls h hm ht hv (wide := 0) hp (by omega) (fun τ hτ hnm => ?_))
  have h1 : MB τ k c s := h.keep hτ rfl rfl
  have hm1 := hm.keep hτ (by simp)
  have y1 : SZ k σ τ := (hτ.y (J := [39]) (by simp)).z (by simp [mmL]) rfl
  have elo : (nI p = τ.1 45 0 51) ↔ md.2.2.2.1 = some p := by
    rw [hm1.2.2.2.1]
    cases hl : md.2.2.2.1 with
    | none =>
      simp only [mOpt, reduceCtorEq, iff_false]
      intro g
      have := nI_pos' (n := p) (by omega)
      rw [g] at this
      exact absurd this (by decide)
    | some q =>
      have := hv.2.1 q hl
      simp only [mOpt, Option.some.injEq]
      rw [nI_inj (by omega) (by omega)]
      exact eq_comm
  rw [ix7]
  have v1 : vp_in (nI (7 * k + p)) 161 := vin (show 7 * k + p < 161 by omega) (Nat.le_refl _) (by decide)
  refine bX11_loses_14 ⟨fun e => ?_, fun e => ⟨v1, ?_⟩⟩
  · rw [elo] at e
    rw [gLeak, if_neg e] at H
    refine M_within h1.2.1 V (r := 1) (by decide) hnm (gNames_big c s md V hp (by omega)) (most := 99) (plain := 0) (by omega) (fun υ hυ => bX11_loses_37 ⟨v1, ?_⟩)
    have h2 : MB υ k c s := h1.keepY hυ rfl rfl
    rw [nI_clamp (by omega), h2.w hp]
    exact H _ ((y1.tr (hυ.z (by simp [mmL]) rfl)).tr (SZ.u74 (by omega))) (h2.u74 hp)
  · rw [elo] at e
    rw [gLeak, if_pos e] at H
    rw [nI_clamp (by omega), h1.w hp, hm1.2.2.2.2 p e]
    exact H _ (y1.tr (SZ.u74 (by omega))) (h1.u74 hp)
theorem M_moves (h : MB σ k c s) (hm : MM σ md) (ht : SVt s) (hv : MV' c md) (hin : sIn c s) {q : Nat} (hq : q < c 0 4) (H : ∀ τ : MS, SZ k σ τ → MB τ k c (gBoat c md q s) → Q none τ) : R mj_OM (d + 1 + 1 + 1 + 1) mX11_moves Q 0 [some (rV 45 0), some (iV (nI k)), some (iV (nI q)), none, none, none, none] [] σ := by
  have V := h.2.2.1
  have np := V.np
  have nb := V.nb
  have nl := V.nl
  have hk := h.1
  have bl := (V.boat hq).1
  have lk := V.lock bl
  have v3 : vp_in (nI (8 * k + q)) 184 := vin (show 8 * k + q < 184 by omega) (Nat.le_refl _) (by decide)
  have vk : vp_in (nI k) 23 := vin hk (Nat.le_refl _) (by decide)
  have vq : vp_in (nI q) 16 := vin hq (by omega) (by decide)
  have vl : vp_in (nI (c 15 q)) 6 := vin bl (by omega) (by decide)
  have vp : vp_in (nI (c 6 (c 15 q))) 14 := vin lk.1 (by omega) (by decide)
  -- what is seen of a scene s' that differs in this boat's stage alone
  -- the end: not raised
  have wait : ∀ (τ : MS) (s' : SA), SZ k σ τ → MB τ k c s' → s' 0 0 = s 0 0 → ¬ s' 5 q = 2 → ¬ s 0 0 < nI (c 16 q) → gBoat c md q s = sU s' 6 q (s' 6 q + 1) → Q none (uI τ 76 0 (nI (8 * k + q)).toNatClampNeg (τ.1 76 0 (nI (8 * k + q)).toNatClampNeg + 1)) := by
    intro τ s' hy hb e0 h2 hlt e
    rw [nI_clamp (by omega), hb.wt hq]
    exact H _ (hy.tr (SZ.u76 (by omega))) (by rw [e]; exact hb.u76 hq)
  have eM : ∀ (τ : MS) (s' : SA), MB τ k c s' → s' 0 0 = s 0 0 → (τ.1 70 0 (nI k).toNatClampNeg < τ.1 63 0 (nI q).toNatClampNeg ↔ s 0 0 < nI (c 16 q)) := by
    intro τ s' hb e0
    rw [cl hk (by omega), cl hq (by omega), hb.2.2.2.1, hb.2.1.bfrom hq, e0]
  have eH : ∀ (τ : MS) (s' : SA), MB τ k c s' → τ.1 75 0 (nI (8 * k + q)).toNatClampNeg = s' 5 q := by
    intro τ s' hb
    rw [nI_clamp (by omega)]; exact hb.st hq
  -- IN: raised or not
  have up : ∀ (τ : MS) (s' : SA) (x6 : Int32), SZ k σ τ → MB τ k c s' → SVt s' → s' 0 0 = s 0 0 → s' 5 q = 1 → ¬ s 0 0 < nI (c 16 q) → gBoat c md q s = gRaise c md q s' → R mj_OM (d + 1 + 1 + 1) mX11_isHigh (fun r σ' => R mj_OM (d + 1 + 1 + 1 + 1) mX11_moves Q 127 [some (rV 45 0), some (iV (nI k)), some (iV (nI q)), some (iV (nI (8 * k + q))), some (iV (nI (c 15 q))), some (iV (nI (c 6 (c 15 q)))), some (iV x6)] (r.toList ++ []) σ') 0 [some (rV 45 0), some (iV (nI k)), some (iV (nI (c 6 (c 15 q)))), some (iV (nI (c 8 (c 15 q))))] [] τ := by
    intro τ s' x6 hy hb hts e0 h1 hlt e
    have hm1 := hm.keepY hy.1 (by simp)
    refine M_isHigh hb lk.1 (fun g => bX11_moves_127 ⟨fun z => absurd z (by decide), fun _ => ?_⟩) (fun g => bX11_moves_127 ⟨fun _ => ⟨v3, fun z => ?_, fun z => ⟨vk, vq, fun w => ?_, fun w => ?_⟩⟩, fun z => absurd rfl z⟩)
    · refine M_calls hb hm1 hts hv (wide := 0) lk.1 (by omega) (fun υ hυ hnm => bX11_moves_138 ⟨vk, ?_⟩)
      have hb2 : MB υ k c s' := hb.keep hυ rfl rfl
      have y2 : SZ k σ υ := hy.tr ((hυ.y (J := [39]) (by simp)).z (by simp [mmL]) rfl)
      rw [cl hk (by omega), hb2.2.2.2.2.2.1]
      refine M_within hb2.2.1 V (r := 2) (by decide) hnm (gNames_big c s' md V lk.1 (by omega)) (most := 999) (plain := 1) (by omega) (fun φ hφ => ?_)
      have hb3 : MB φ k c s' := hb2.keepY hφ rfl rfl
      have y3 : SZ k σ φ := y2.tr (hφ.z (by simp [mmL]) rfl)
      have e2 : (uI (uI φ 72 0 (nI k).toNatClampNeg (s' 2 0 + gPut (gWorth c 2 (gNames c s' md (c 6 (c 15 q)) 0)) 999 1)) 75 0 (nI (8 * k + q)).toNatClampNeg 2).1 75 0 (nI (8 * k + q)).toNatClampNeg = 2 := by simp [uI]
      refine bX11_moves_154 ⟨vk, v3, fun _ => ?_, fun z => absurd e2 z⟩
      rw [cl hk (by omega), nI_clamp (by omega)]
      refine H _ ((y3.tr (SZ.u70 (f := 2) (by omega))).tr (SZ.u75 (by omega))) ?_
      rw [e, gRaise, if_pos ⟨h1, g⟩]
      exact (hb3.u70 (f := 2) (by omega)).u75 hq
    · rw [eH τ s' hb, h1] at z; exact absurd z (by decide)
    · rw [eM τ s' hb e0] at w; exact absurd w hlt
    · refine wait τ s' hy hb e0 (by rw [h1]; decide) hlt ?_
      rw [e, gRaise, if_neg (fun z => g z.2)]
  -- neither 0 nor 1
  have same : s 5 q = 2 ∨ s 0 0 < nI (c 16 q) → Q none σ := fun g => H σ SZ.rf (by rw [gBoat, if_pos g]; exact h)
  have rest : ¬ s 5 q = 0 → ¬ s 5 q = 1 → (s 5 q = 2 → Q none σ) ∧ (¬ s 5 q = 2 → vp_in (nI k) 23 ∧ vp_in (nI q) 16 ∧ (s 0 0 < nI (c 16 q) → Q none σ) ∧ (¬ s 0 0 < nI (c 16 q) → Q none (uI σ 76 0 (nI (8 * k + q)).toNatClampNeg (σ.1 76 0 (nI (8 * k + q)).toNatClampNeg + 1)))) := by
    intro h0 h1
    refine ⟨fun g => same (Or.inl g), fun g => ⟨vk, vq, fun g2 => same (Or.inr g2), fun g2 => ?_⟩⟩
    refine wait σ s SZ.rf h rfl g g2 ?_
    have el : gLetIn c s q (c 15 q) = s := by rw [gLetIn, if_neg (fun z => h0 z.1)]
    rw [gBoat, if_neg (fun z => z.elim g g2), el, gRaise, if_neg (fun z => h1 z.1)]
  have is1 : s 5 q = 1 → ∀ x6 : Int32, R mj_OM (d + 1 + 1 + 1) mX11_isHigh (fun r σ' => R mj_OM (d + 1 + 1 + 1 + 1) mX11_moves Q 127 [some (rV 45 0), some (iV (nI k)), some (iV (nI q)), some (iV (nI (8 * k + q))), some (iV (nI (c 15 q))), some (iV (nI (c 6 (c 15 q)))), some (iV x6)] (r.toList ++ []) σ') 0 [some (rV 45 0), some (iV (nI k)), some (iV (nI (c 6 (c 15 q)))), some (iV (nI (c 8 (c 15 q))))] [] σ := by
    intro h1 x6
    have hlt := hin q hq h1
    refine up σ s x6 SZ.rf h ht rfl h1 hlt ?_
    have el : gLetIn c s q (c 15 q) = s := by rw [gLetIn, if_neg (fun z => by rw [h1] at z; exact absurd z.1 (by decide))]
    rw [gBoat, if_neg (fun z => z.elim (fun z => by rw [h1] at z; exact absurd z (by decide)) hlt), el]
  -- waits, from its minute on: the lock's boat is asked
  have ask : s 5 q = 0 → ¬ s 0 0 < nI (c 16 q) → ∀ x6 : Int32, (x6 = 0 ↔ ¬ gFull c s (c 6 (c 15 q)) ≤ nI (c 7 (c 15 q)) * nI (c 2 (c 6 (c 15 q)))) → R mj_OM (d + 1 + 1 + 1) mX11_boatIn (fun r σ' => R mj_OM (d + 1 + 1 + 1 + 1) mX11_moves Q 87 [some (rV 45 0), some (iV (nI k)), some (iV (nI q)), some (iV (nI (8 * k + q))), some (iV (nI (c 15 q))), some (iV (nI (c 6 (c 15 q)))), some (iV x6)] (r.toList ++ []) σ') 0 [some (rV 45 0), some (iV (nI k)), some (iV (nI (c 15 q))), none] [] σ := by
    intro h0 hlt x6 hx6
    have n2 : ¬ s 5 q = 2 := by rw [h0]; decide
    have n1 : ¬ s 5 q = 1 := by rw [h0]; decide
    have stay : ¬ (s 5 q = 0 ∧ gBoatIn c s (c 15 q) = -1 ∧ gFull c s (c 6 (c 15 q)) ≤ nI (c 7 (c 15 q)) * nI (c 2 (c 6 (c 15 q)))) → Q none (uI σ 76 0 (nI (8 * k + q)).toNatClampNeg (σ.1 76 0 (nI (8 * k + q)).toNatClampNeg + 1)) := by
      intro g
      refine wait σ s SZ.rf h rfl n2 hlt ?_
      have el : gLetIn c s q (c 15 q) = s := by rw [gLetIn, if_neg g]
      rw [gBoat, if_neg (fun z => z.elim n2 hlt), el, gRaise, if_neg (fun z => n1 z.1)]
    refine M_boatIn h (by omega) (bX11_moves_87 ⟨fun g => ⟨v3, fun _ => ⟨fun z => ?_, fun _ => ⟨vk, vq, fun w => ?_, fun _ => stay (fun z => g z.2.1)⟩⟩, fun z => ?_⟩, fun g => ⟨fun g2 => ⟨v3, fun _ => ⟨fun z => ?_, fun _ => ⟨vk, vq, fun w => ?_, fun _ => stay (fun z => (hx6.mp g2) z.2.2)⟩⟩, fun z => ?_⟩, fun g2 => ⟨v3, fun z => ?_, fun _ => ⟨vl, ?_⟩⟩⟩⟩)
    · rw [eH σ s h] at z; exact absurd z n2
    · rw [eM σ s h rfl] at w; exact absurd w hlt
    · rw [eH σ s h] at z; exact absurd z n1
    · rw [eH σ s h] at z; exact absurd z n2
    · rw [eM σ s h rfl] at w; exact absurd w hlt
    · rw [eH σ s h] at z; exact absurd z n1
    · exact absurd (by simp [uI]) z
    · have hc2 : s 5 q = 0 ∧ gBoatIn c s (c 15 q) = -1 ∧ gFull c s (c 6 (c 15 q)) ≤ nI (c 7 (c 15 q)) * nI (c 2 (c 6 (c 15 q))) := ⟨h0, g, Classical.byContradiction (fun z => g2 (hx6.mpr z))⟩
      have el : gLetIn c s q (c 15 q) = sU s 5 q 1 := by rw [gLetIn, if_pos hc2]
      rw [cl bl (by omega), h.2.1.high bl]
      refine up _ (sU s 5 q 1) x6 (by rw [nI_clamp (by omega)]; exact SZ.u75 (by omega)) (by rw [nI_clamp (by omega)]; exact h.u75 hq) (ht.of (by simp [sU])) (by simp [sU]) (by simp [sU]) hlt ?_
      rw [gBoat, if_neg (fun z => z.elim n2 hlt), el]
  have eF : σ.1 62 0 (nI q).toNatClampNeg = nI (c 15 q) := by rw [cl hq (by omega)]; exact h.2.1.block hq
  have eP : σ.1 53 0 (nI (c 15 q)).toNatClampNeg = nI (c 6 (c 15 q)) := by rw [cl bl (by omega)]; exact h.2.1.lpond bl
  have eLo : σ.1 54 0 (nI (c 15 q)).toNatClampNeg * σ.1 49 0 (nI (c 6 (c 15 q))).toNatClampNeg = nI (c 7 (c 15 q)) * nI (c 2 (c 6 (c 15 q))) := by rw [cl bl (by omega), cl lk.1 (by omega), h.2.1.low bl, h.2.1.area lk.1]
  have eHi : σ.1 55 0 (nI (c 15 q)).toNatClampNeg = nI (c 8 (c 15 q)) := by rw [cl bl (by omega)]; exact h.2.1.high bl
  refine bX11_moves_0 ⟨vq, by rw [eF]; exact vl, ?_⟩
  rw [eF, eP, ix8]
  refine M_fullOf h lk.1 (bX11_moves_31 ⟨vl, vp, fun g => ⟨v3, fun z => ⟨fun w => ?_, fun w => ?_⟩, fun z => ⟨vk, vq, fun w => ⟨fun x => ?_, fun x => ?_⟩, fun w => ?_⟩⟩, fun g => ⟨v3, fun z => ⟨fun w => ?_, fun w => ?_⟩, fun z => ⟨vk, vq, fun w => ⟨fun x => ?_, fun x => ?_⟩, fun w => ?_⟩⟩⟩)
  all_goals rw [eLo] at g
  all_goals rw [eH σ s h] at z
  · rw [eH σ s h] at w ⊢; rw [eM σ s h rfl]; exact rest z w
  · rw [eH σ s h] at w; rw [eHi]; exact is1 w 0
  · rw [eM σ s h rfl] at w
    rw [eH σ s h]
    exact ⟨fun y => same (Or.inl y), fun _ => ⟨fun _ => same (Or.inr w), fun y => absurd ((eM σ s h rfl).mpr w) y⟩⟩
  · rw [eH σ s h, z] at x; exact absurd x (by decide)
  · rw [eM σ s h rfl] at w
    exact ask z w 0 ⟨fun _ => Int32.not_le.mpr g, fun _ => rfl⟩
  · rw [eH σ s h] at w ⊢; rw [eM σ s h rfl]; exact rest z w
  · rw [eH σ s h] at w; rw [eHi]; exact is1 w 1
  · rw [eM σ s h rfl] at w
    rw [eH σ s h]
    exact ⟨fun y => same (Or.inl y), fun _ => ⟨fun _ => same (Or.inr w), fun y => absurd ((eM σ s h rfl).mpr w) y⟩⟩
  · rw [eH σ s h, z] at x; exact absurd x (by decide)
  · rw [eM σ s h rfl] at w
    exact ask z w 1 ⟨fun y => absurd y (by decide), fun y => absurd (Int32.not_lt.mp g) y⟩
end Mp
