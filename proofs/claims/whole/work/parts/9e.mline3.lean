section Rd
variable {d : Nat} {Q : Option MV → MS → Prop} {σ : MS} {t : Nat → Nat} {n : Nat} {s : CA}
/-- a place that counts is told anew -/
theorem MRd.set {f j v : Nat} (h : MRd t n σ s) (h1 : 1 ≤ f) (hj : j < mLn s f) : MRd t n (uI σ (47 + f) 0 (hF f + j) (nI v)) (pS s f j v) := by
  have f20 := mLn_f hj
  have y : ∀ k i, k ≠ 47 + f → (uI σ (47 + f) 0 (hF f + j) (nI v)).1 k 0 i = σ.1 k 0 i := fun k i hk => by simp only [uI]; rw [if_neg (by omega)]
  have r : ∀ g i, g ≠ f → pS s f j v g i = s g i := fun g i hg => by simp only [pS]; rw [if_neg (by omega)]
  obtain ⟨⟨a1, a2, a3⟩, ⟨b1, b2, b3, b4⟩, c0, e⟩ := h
  refine ⟨⟨by rw [y 45 26 (by omega)]; exact a1, fun i hi => by rw [y 46 i (by omega)]; exact a2 i hi, a3⟩, ⟨by rw [y 45 31 (by omega), r 30 1 (by omega)]; exact b1, by rw [r 30 1 (by omega)]; exact b2, fun q => by rw [y 45 32 (by omega), r 30 2 (by omega)]; rw [r 30 1 (by omega)] at q; exact b3 q, fun q => by rw [y 45 32 (by omega)]; rw [r 30 1 (by omega)] at q; exact b4 q⟩, ?_, fun q => ?_⟩
  · unfold MCt at c0 ⊢
    simp only [r 0 _ (show 0 ≠ f by omega)]
    exact ⟨fun i hi => by rw [y 47 _ (by omega)]; exact c0.1 i hi, by rw [y 47 17 (by omega)]; exact c0.2.1, c0.2.2⟩
  rw [r 30 1 (by omega)] at q
  obtain ⟨e1, f1, f2, f3, f4, f5, f6, f7⟩ := e q
  refine ⟨?_, fun g i w1 w2 => ?_, by rw [y 47 15 (by omega), y 47 16 (by omega), r 0 6 (by omega), r 0 7 (by omega)]; exact f2, ?_, by rw [y 45 25 (by omega), r 30 8 (by omega)]; exact f4, by rw [y 45 35 (by omega), r 30 9 (by omega)]; exact f5, by rw [y 45 36 (by omega), r 30 10 (by omega)]; exact f6, by rw [y 47 14 (by omega), r 30 11 (by omega)]; exact f7⟩
  · rw [r 30 0 (by omega)]
    unfold MTk at e1 ⊢
    rw [y 45 27 (by omega), y 45 28 (by omega), y 45 29 (by omega), y 45 30 (by omega)]; exact e1
  · rw [mLn_sub (fun i _ => r 0 i (by omega)) g] at w1
    by_cases gf : g = f
    · subst gf
      by_cases gi : i = j
      · subst gi; simp [uI, pS]
      · simp only [uI, pS]
        rw [if_neg (by omega), if_neg (by omega)]; exact f1 g i w1 w2
    · rw [y (47 + g) _ (by omega), r g i gf]; exact f1 g i w1 w2
  · unfold FT at f3 ⊢
    rw [y 45 24 (by omega), r 30 3 (by omega), r 30 4 (by omega), r 30 5 (by omega), r 30 6 (by omega), r 30 7 (by omega)]
    exact ⟨f3.1, fun i h1 h2 => by rw [r 30 i (by omega)]; exact f3.2 i h1 h2⟩
theorem MRd.u47 {c f r v : Nat} (h : MRd t n σ s) (hf : s 30 1 = 0) (hc : (c = 14 ∧ f = 30 ∧ r = 11) ∨ (c = 15 ∧ f = 0 ∧ r = 6) ∨ (c = 16 ∧ f = 0 ∧ r = 7)) : MRd t n (uI σ 47 0 c (nI v)) (pS s f r v) := by
  have y : ∀ k i, ¬ (k = 47 ∧ i = c) → (uI σ 47 0 c (nI v)).1 k 0 i = σ.1 k 0 i := fun k i hk => by simp only [uI]; rw [if_neg (by omega)]
  have yc : (uI σ 47 0 c (nI v)).1 47 0 c = nI v := by simp [uI]
  have rr : ∀ g i, ¬ (g = f ∧ i = r) → pS s f r v g i = s g i := fun g i hg => by simp only [pS]; rw [if_neg hg]
  have rc : pS s f r v f r = v := by simp [pS]
  obtain ⟨⟨a1, a2, a3⟩, ⟨b1, b2, b3, b4⟩, c0, e⟩ := h
  obtain ⟨e1, f1, f2, f3, f4, f5, f6, f7⟩ := e hf
  refine ⟨⟨by rw [y 45 26 (by omega)]; exact a1, fun i hi => by rw [y 46 i (by omega)]; exact a2 i hi, a3⟩, ⟨by rw [y 45 31 (by omega), rr 30 1 (by omega)]; exact b1, by rw [rr 30 1 (by omega)]; exact b2, fun q => by rw [rr 30 1 (by omega)] at q; exact absurd hf q, fun q => by rw [y 45 32 (by omega)]; exact b4 hf⟩, ⟨fun i hi => by rw [y 47 _ (by omega), rr 0 i (by omega)]; exact c0.1 i hi, by rw [y 47 17 (by omega), rr 0 8 (by omega)]; exact c0.2.1, by rw [rr 0 0 (by omega), rr 0 1 (by omega), rr 0 2 (by omega), rr 0 3 (by omega), rr 0 4 (by omega), rr 0 8 (by omega)]; exact c0.2.2⟩, fun q => ⟨?_, fun g i h1 h2 => ?_, ⟨?_, ?_⟩, ?_, ?_, ?_, ?_, ?_⟩⟩
  · rw [rr 30 0 (by omega)]
    unfold MTk at e1 ⊢
    rw [y 45 27 (by omega), y 45 28 (by omega), y 45 29 (by omega), y 45 30 (by omega)]; exact e1
  · have g20 := mLn_f h1
    have em : mLn (pS s f r v) g = mLn s g := by
      unfold mLn
      simp only [rr 0 0 (by omega), rr 0 1 (by omega), rr 0 2 (by omega), rr 0 3 (by omega), rr 0 4 (by omega), rr 0 8 (by omega)]
    rw [em] at h1
    rw [y (47 + g) _ (by omega), rr g i (by omega)]; exact f1 g i h1 h2
  · rcases hc with ⟨rfl, rfl, rfl⟩ | ⟨rfl, rfl, rfl⟩ | ⟨rfl, rfl, rfl⟩
    · rw [y 47 15 (by omega), rr 0 6 (by omega)]; exact f2.1
    · rw [yc, rc]
    · rw [y 47 15 (by omega), rr 0 6 (by omega)]; exact f2.1
  · rcases hc with ⟨rfl, rfl, rfl⟩ | ⟨rfl, rfl, rfl⟩ | ⟨rfl, rfl, rfl⟩
    · rw [y 47 16 (by omega), rr 0 7 (by omega)]; exact f2.2
    · rw [y 47 16 (by omega), rr 0 7 (by omega)]; exact f2.2
    · rw [yc, rc]
  · unfold FT at f3 ⊢
    rw [y 45 24 (by omega), rr 30 3 (by omega), rr 30 4 (by omega), rr 30 5 (by omega), rr 30 6 (by omega), rr 30 7 (by omega)]
    exact ⟨f3.1, fun i h1 h2 => by rw [rr 30 i (by omega)]; exact f3.2 i h1 h2⟩
  · rw [y 45 25 (by omega), rr 30 8 (by omega)]; exact f4
  · rw [y 45 35 (by omega), rr 30 9 (by omega)]; exact f5
  · rw [y 45 36 (by omega), rr 30 10 (by omega)]; exact f6
  · rcases hc with ⟨rfl, rfl, rfl⟩ | ⟨rfl, rfl, rfl⟩ | ⟨rfl, rfl, rfl⟩
    · rw [yc, rc]
    · rw [y 47 14 (by omega), rr 30 11 (by omega)]; exact f7
    · rw [y 47 14 (by omega), rr 30 11 (by omega)]; exact f7
theorem M_lnBoat (hV : CV s) (h : MRd t n σ s) (hf : s 30 1 = 0) (h8 : s 0 4 < 8) (H : ∀ τ, XR σ τ → MEn t n τ (pEnd (pTake t n (pBoatL t n s) 24)) → Q none τ) : R mj_OM (d + 1 + 1 + 1 + 1 + 1 + 1 + 1 + 1) mX11_line Q 96 [some (rV 45 0), some (iV (nI 4)), none, none, none] [] σ := by
  have e0 : σ.1 47 0 (9 + 4) = nI (s 0 4) := h.2.2.1.1 4 (by omega)
  have ec : (nI (8 + s 0 4)).toNatClampNeg = 8 + s 0 4 := cl (show 8 + s 0 4 < 16 by omega) (by omega)
  have vp : vp_in (nI (8 + s 0 4)) 16 := vin (show 8 + s 0 4 < 16 by omega) (by omega) (by decide)
  refine bX11_line_96 ⟨fun z => absurd z (by decide), fun _ => ⟨fun z => absurd z (by decide), fun _ => ⟨fun z => absurd z (by decide), fun _ => ⟨fun z => absurd z (by decide), fun _ => ⟨fun _ => M_fresher (j := 4) (by omega) (bX11_line_264 ?_), fun z => absurd rfl z⟩⟩⟩⟩⟩
  rw [e0, show (8 : Int32) = nI 8 from rfl, nI_add]
  have p0 : ∀ f j, f < 30 ∨ 3 ≤ j → pPH t n s f j = s f j := fun f j hj => pPH_row f j hj
  refine M_pondAtHandS hV.nb' h (fun τ1 p a1 a2 a3 a4 => bX11_line_276 (M_lockWith a2 (fun l hl => ?_) a3 (fun v hv => bX11_line_279 ?_)))
  · rw [p0 0 1 (by omega)] at hl
    rw [p0 6 l (by omega)]
    have := (hV.lock hl).1
    have := hV.np
    omega
  rw [ec]
  have b2 : MRd t n (uI τ1 62 0 (8 + s 0 4) v) (pPH t n s) := a2.fw (f := 15) (by omega) (fun _ => by show 8 + pPH t n s 0 4 ≤ _; have := p0 0 4 (by omega); omega)
  have k0 : (uI τ1 62 0 (8 + s 0 4) v).1 62 0 (8 + s 0 4) = v := by simp [uI]
  have x1 : XR σ (uI τ1 62 0 (8 + s 0 4) v) := a1.x.tr (XR.uf (f := 15) (by omega) (by simp [hF]))
  have z1 : τ1.1 45 0 31 = (uI τ1 62 0 (8 + s 0 4) v).1 45 0 31 := by simp [uI]
  rw [z1, k0]
  generalize uI τ1 62 0 (8 + s 0 4) v = φ at *
  have q0 : pBtN t n s 0 4 = s 0 4 := pBtN_row 0 4 (by omega)
  have q1 : pNum t n (pBtN t n s) 0 99 0 4 = s 0 4 := (pN_row 0 4 (by omega)).trans q0
  have key : ∀ τ2 : MS, XS φ τ2 → MRd t n τ2 (pBtN t n s) → (pBtN t n s 30 1 = 0 → v = nI ((qLk s (pd t n s)).getD 0)) → R mj_OM (d + 1 + 1 + 1 + 1 + 1 + 1 + 1 + 1) mX11_line Q 306 [some (rV 45 0), some (iV (nI 4)), none, some (iV (nI (8 + s 0 4))), none] [] τ2 := fun τ2 c0 b3 pe => by
    refine bX11_line_306 (M_numeralS (lo := 0) (hi := 99) (by omega) (by omega) b3 (fun τ3 v1 c1 c2 c3 => bX11_line_318 ?_))
    rw [ec]
    have b5 : MRd t n (uI τ3 63 0 (8 + s 0 4) v1) (pNum t n (pBtN t n s) 0 99) := c2.fw (f := 16) (by omega) (fun _ => by show 8 + pNum t n (pBtN t n s) 0 99 0 4 ≤ _; omega)
    have xr : XR σ (uI τ3 63 0 (8 + s 0 4) v1) := ((x1.tr c0.x).tr c1.x).tr (XR.uf (f := 16) (by omega) (by simp [hF]))
    have k62 : (uI τ3 63 0 (8 + s 0 4) v1).1 62 0 (8 + s 0 4) = v := by
      simp [uI]; rw [c1.k (by decide), c0.k (by decide)]; exact k0
    have k63 : (uI τ3 63 0 (8 + s 0 4) v1).1 63 0 (8 + s 0 4) = v1 := by simp [uI]
    generalize uI τ3 63 0 (8 + s 0 4) v1 = ψ at *
    have e5 : ψ.1 47 0 (9 + 4) = nI (s 0 4) := by rw [b5.2.2.1.1 4 (by omega), q1]
    refine ⟨vp, M_fresher (j := 4) (by omega) (bX11_line_326 (M_reads (j := 4) (by omega) (bX11_line_331 (M_lnEnd ?_ (fun ω w1 w2 => H ω ((xr.tr (XR.uf (f := 0) (i := 9 + 4) (by omega) (by simp [hF]))).tr w1) w2)))))⟩
    rw [e5, nI_1]
    by_cases fu : pNum t n (pBtN t n s) 0 99 30 1 = 0
    · have g0 := pNum_0 fu
      have h0 := pe g0.1
      have h1 := (c3 fu).1
      have eq : pBoatL t n s = pS (pS (pS (pNum t n (pBtN t n s) 0 99) 15 (s 0 4) ((qLk s (pd t n s)).getD 0)) 16 (s 0 4) (kv t n (pBtN t n s))) 0 4 (s 0 4 + 1) := by
        unfold pBoatL pAddB
        rw [if_pos fu, q1]
      generalize pNum t n (pBtN t n s) 0 99 = u at *
      rw [← q1] at k62 k63 ⊢
      refine (b5.cnt (J := 4) fu (by omega) (fun j => ?_) (fun j hj => ?_) ?_ ?_ (fun f j p1 p2 p3 => ?_) (fun f p1 p2 p3 => ?_)).en
      · rw [eq]; simp [pS]
      · rw [eq]; simp [pS, hj]
      · rw [eq]; simp [pS, q1]
      · have := b5.2.2.1.2.2
        rw [eq]; simp [pS]; omega
      · have o := (oF_e (f := f)).2.2.2.2
        rw [eq]; simp only [pS]
        rw [if_neg (by omega), if_neg (by omega), if_neg (by omega)]
      · have o := (oF_e (f := f)).2.2.2.2.mp p3
        rcases (show f = 15 ∨ f = 16 by omega) with rfl | rfl
        · show ψ.1 62 0 (8 + u 0 4) = _
          rw [k62, h0, eq]; simp [pS, q1]
        · show ψ.1 63 0 (8 + u 0 4) = _
          rw [k63, h1, eq]; simp [pS, q1]
    · have eq : pBoatL t n s = pNum t n (pBtN t n s) 0 99 := by
        unfold pBoatL pAddB
        rw [if_neg fu]
      rw [eq]
      exact b5.enF fu rfl rfl (by simp [uI]) (by simp [uI])
  refine ⟨vp, fun y => ?_, fun y => ⟨vp, ?_⟩⟩
  · have nf : ¬ pPH t n s 30 1 = 0 := fun q => y (b2.z.mpr q)
    have e := pPH_f nf
    have eL : pBtN t n s = pPH t n s := (pBtN_f e.2).trans e.1
    refine M_goOnS b2 (fun τ2 c1 c2 => key τ2 c1 ?_ (fun q => ?_))
    · rw [pGo_f nf] at c2; rw [eL]; exact c2
    · rw [eL] at q; exact absurd q nf
  · have f0 : pPH t n s 30 1 = 0 := b2.z.mp y
    obtain ⟨r1, r2, r3, r4⟩ := pPH_0 f0
    have hp := a4 f0
    rw [r4] at hp
    have hpe : pd t n s = p := by injection hp
    have hv := hv f0
    rw [r3] at b2 hv
    cases hq : qLk s p with
    | none =>
      rw [hq] at hv
      have eL : pBtN t n s = pFail s 4 (kp t n s) := by unfold pBtN; rw [if_pos r1, if_pos r2, if_neg (by rw [r4]; simp), hpe, if_pos hq]
      have nf : ¬ pFail s 4 (kp t n s) 30 1 = 0 := by rw [(pF_0 hf).1]; omega
      refine ⟨fun z => absurd hv z, fun _ => M_wrongS (e := 4) (by omega) b2 (fun τ2 c1 c2 => bX11_line_302 (M_goOnS c2 (fun τ3 c3 c4 => key τ3 (c1.tr c3) ?_ (fun q => absurd (eL ▸ q) nf))))⟩
      rw [pGo_f nf] at c4; rw [eL]; exact c4
    | some l =>
      rw [hq] at hv
      have eL : pBtN t n s = pAdv s := by unfold pBtN; rw [if_pos r1, if_pos r2, if_neg (by rw [r4]; simp), hpe, if_neg (by rw [hq]; simp)]
      have := qLk_lt hq
      have := hV.nl
      refine ⟨fun _ => M_goOnS b2 (fun τ2 c1 c2 => key τ2 c1 ?_ (fun _ => by rw [hpe, hq]; exact hv)), fun z => absurd (hv.symm.trans z) (nI_m1 (by omega))⟩
      rw [pGo_0 hf] at c2; rw [eL]; exact c2
theorem M_lnSpr (hV : CV s) (h : MRd t n σ s) (hf : s 30 1 = 0) (H : ∀ τ, XR σ τ → MEn t n τ (pEnd (pTake t n (pSprL t n s) 24)) → Q none τ) : R mj_OM (d + 1 + 1 + 1 + 1 + 1 + 1 + 1 + 1) mX11_line Q 96 [some (rV 45 0), some (iV (nI 5)), none, none, none] [] σ := by
  have p0 : ∀ f j, f < 30 ∨ 3 ≤ j → pPH t n s f j = s f j := fun f j hj => pPH_row f j hj
  refine bX11_line_96 ⟨fun z => absurd z (by decide), fun _ => ⟨fun z => absurd z (by decide), fun _ => ⟨fun z => absurd z (by decide), fun _ => ⟨fun z => absurd z (by decide), fun _ => ⟨fun z => absurd z (by decide), fun _ => ⟨fun _ => M_pondAtHandS hV.nb' h (fun τ1 p a1 a2 a3 a4 => bX11_line_338 ?_), fun z => absurd rfl z⟩⟩⟩⟩⟩⟩
  have ec : (nI (7 + p)).toNatClampNeg = 7 + p := cl (show 7 + p < 14 by omega) (by omega)
  have vp : vp_in (nI (7 + p)) 14 := vin (show 7 + p < 14 by omega) (by omega) (by decide)
  have r0 : ∀ f j, f < 30 ∨ 3 ≤ j → pNum t n (pSpN t n s) 0 9 f j = s f j := fun f j hj => (pN_row f j hj).trans (pSpN_row f j hj)
  have key : ∀ τ2 : MS, XS τ1 τ2 → MRd t n τ2 (pSpN t n s) → (pSpN t n s 30 1 = 0 → p = pd t n s ∧ p < s 0 0) → R mj_OM (d + 1 + 1 + 1 + 1 + 1 + 1 + 1 + 1) mX11_line Q 370 [some (rV 45 0), some (iV (nI 5)), none, none, some (iV (nI p))] [] τ2 := fun τ2 c0 b3 pe => by
    refine bX11_line_370 (M_numeralS (lo := 0) (hi := 9) (by omega) (by omega) b3 (fun τ3 v1 c1 c2 c3 => bX11_line_386 ?_))
    rw [show (7 : Int32) + nI p = nI (7 + p) from by rw [show (7 : Int32) = nI 7 from rfl, nI_add], ec]
    refine ⟨vp, M_fresher (j := 5) (by omega) (bX11_line_394 (M_reads (j := 5) (by omega) (bX11_line_402 (M_lnEnd ?_ (fun ω w1 w2 => H ω ?_ w2)))))⟩
    · by_cases fu : pNum t n (pSpN t n s) 0 9 30 1 = 0
      · have g0 := pNum_0 fu
        obtain ⟨h0, h0'⟩ := pe g0.1
        have h1 := (c3 fu).1
        rw [h1]
        have b5 : MRd t n (uI τ3 52 0 (7 + p) (nI (kv t n (pSpN t n s)))) (pS (pNum t n (pSpN t n s) 0 9) 5 p (kv t n (pSpN t n s))) := c2.set (f := 5) (by omega) (by show p < pNum t n (pSpN t n s) 0 9 0 0; rw [r0 0 0 (by omega)]; exact h0')
        have f5 : pS (pNum t n (pSpN t n s) 0 9) 5 p (kv t n (pSpN t n s)) 30 1 = 0 := by simp only [pS]; rw [if_neg (by omega)]; exact fu
        have e14 : (uI τ3 52 0 (7 + p) (nI (kv t n (pSpN t n s)))).1 47 0 (9 + 5) = nI (pNum t n (pSpN t n s) 0 9 30 11) := by
          have := (b5.2.2.2 f5).2.2.2.2.2.2.2
          rw [this]
          simp only [pS]; rw [if_neg (by omega)]
        rw [e14, bit_or (by omega)]
        have eq : pSprL t n s = pS (pS (pNum t n (pSpN t n s) 0 9) 5 p (kv t n (pSpN t n s))) 30 11 (pNum t n (pSpN t n s) 0 9 30 11 ||| 2 ^ p) := by
          unfold pSprL pAddS
          rw [if_pos fu, h0]
        rw [eq]
        exact (b5.u47 f5 (Or.inl ⟨rfl, rfl, rfl⟩)).en
      · have eq : pSprL t n s = pNum t n (pSpN t n s) 0 9 := by
          unfold pSprL pAddS
          rw [if_neg fu]
        rw [eq]
        exact c2.enF fu rfl rfl (by simp [uI]) (by simp [uI])
    · exact (((((a1.x.tr c0.x).tr c1.x).tr (XR.uf (f := 5) (by omega) (by simp [hF]))).tr (XR.uf (f := 0) (i := 9 + 5) (by omega) (by simp [hF])))).tr w1
  refine ⟨fun y => ?_, fun y => M_fresher (j := 5) (by omega) (bX11_line_352 ?_)⟩
  · have nf : ¬ pPH t n s 30 1 = 0 := fun q => y (a2.z.mpr q)
    have e := pPH_f nf
    have eL : pSpN t n s = pPH t n s := (pSpN_f e.2).trans e.1
    refine M_goOnS a2 (fun τ2 c1 c2 => key τ2 c1 ?_ (fun q => ?_))
    · rw [pGo_f nf] at c2; rw [eL]; exact c2
    · rw [eL] at q; exact absurd q nf
  · have f0 : pPH t n s 30 1 = 0 := a2.z.mp y
    obtain ⟨r1, r2, r3, r4⟩ := pPH_0 f0
    have hp := a4 f0
    have hlt := gNm_lt hp
    rw [r4] at hp
    have hpe : pd t n s = p := by injection hp
    rw [r3] at a2
    have e14 : τ1.1 47 0 (9 + 5) = nI (s 30 11) := (a2.2.2.2 r1).2.2.2.2.2.2.2
    have tb : (((nI (s 30 11)) >>> (nI p &&& 31)) &&& 1 = 1) ↔ (s 30 11).testBit p = true := by
      rw [bt_sh (by omega), bt_nI (by omega)]
    rw [e14, tb]
    refine ⟨fun z => M_goOnS a2 (fun τ2 c1 c2 => key τ2 c1 ?_ (fun _ => ⟨hpe.symm, hlt⟩)), fun z => ?_⟩
    · have eL : pSpN t n s = pAdv s := by unfold pSpN; rw [if_pos r1, if_pos r2, if_neg (by rw [r4]; simp), hpe, if_neg z]
      rw [pGo_0 hf] at c2; rw [eL]; exact c2
    · have eL : pSpN t n s = pFail s 3 (kp t n s) := by unfold pSpN; rw [if_pos r1, if_pos r2, if_neg (by rw [r4]; simp), hpe, if_pos z]
      have nf : ¬ pFail s 3 (kp t n s) 30 1 = 0 := by rw [(pF_0 hf).1]; omega
      refine M_wrongS (e := 3) (by omega) a2 (fun τ2 c1 c2 => bX11_line_366 (M_goOnS c2 (fun τ3 c3 c4 => key τ3 (c1.tr c3) ?_ (fun q => absurd (eL ▸ q) nf))))
      rw [pGo_f nf] at c4; rw [eL]; exact c4
theorem M_lnJam (h : MRd t n σ (pS s 30 3 1)) (H : ∀ τ, XR σ τ → MEn t n τ (pEnd (pTake t n (pJamL t n s) 24)) → Q none τ) : R mj_OM (d + 1 + 1 + 1 + 1 + 1 + 1 + 1 + 1) mX11_line Q 96 [some (rV 45 0), some (iV (nI 6)), none, none, none] [] σ := by
  refine bX11_line_96 ⟨fun z => absurd z (by decide), fun _ => ⟨fun z => absurd z (by decide), fun _ => ⟨fun z => absurd z (by decide), fun _ => ⟨fun z => absurd z (by decide), fun _ => ⟨fun z => absurd z (by decide), fun _ => ⟨fun z => absurd z (by decide), fun _ => ⟨fun _ => M_numeralS (lo := 0) (hi := 100) (by omega) (by omega) h (fun τ1 v1 c1 c2 c3 => bX11_line_415 (M_reads (j := 6) (by omega) (bX11_line_418 (M_lnEnd ?_ (fun ω w1 w2 => H ω ((c1.x.tr (XR.uf (f := 0) (i := 9 + 6) (by omega) (by simp [hF]))).tr w1) w2))))), fun z => absurd rfl z⟩⟩⟩⟩⟩⟩⟩
  by_cases fu : pNum t n (pS s 30 3 1) 0 100 30 1 = 0
  · have eq : pJamL t n s = pS (pNum t n (pS s 30 3 1) 0 100) 0 6 (kv t n s) := by unfold pJamL; rw [if_pos fu]
    rw [eq, (c3 fu).1, (kd_30 (by omega)).2.1]
    exact (c2.u47 fu (Or.inr (Or.inl ⟨rfl, rfl, rfl⟩))).en
  · have eq : pJamL t n s = pNum t n (pS s 30 3 1) 0 100 := by unfold pJamL; rw [if_neg fu]
    rw [eq]
    exact c2.enF fu rfl rfl (by simp [uI]) (by simp [uI])
theorem M_lnSeed (h : MRd t n σ (pS s 30 4 1)) (H : ∀ τ, XR σ τ → MEn t n τ (pEnd (pTake t n (pSeedL t n s) 24)) → Q none τ) : R mj_OM (d + 1 + 1 + 1 + 1 + 1 + 1 + 1 + 1) mX11_line Q 96 [some (rV 45 0), some (iV (nI 7)), none, none, none] [] σ := by
  refine bX11_line_96 ⟨fun z => absurd z (by decide), fun _ => ⟨fun z => absurd z (by decide), fun _ => ⟨fun z => absurd z (by decide), fun _ => ⟨fun z => absurd z (by decide), fun _ => ⟨fun z => absurd z (by decide), fun _ => ⟨fun z => absurd z (by decide), fun _ => ⟨fun z => absurd z (by decide), fun _ => ⟨fun _ => M_numeralS (lo := 0) (hi := 99999) (by omega) (by omega) h (fun τ1 v1 c1 c2 c3 => bX11_line_431 (M_reads (j := 7) (by omega) (bX11_line_434 (M_lnEnd ?_ (fun ω w1 w2 => H ω ((c1.x.tr (XR.uf (f := 0) (i := 9 + 7) (by omega) (by simp [hF]))).tr w1) w2))))), fun z => absurd rfl z⟩⟩⟩⟩⟩⟩⟩⟩
  by_cases fu : pNum t n (pS s 30 4 1) 0 99999 30 1 = 0
  · have eq : pSeedL t n s = pS (pNum t n (pS s 30 4 1) 0 99999) 0 7 (kv t n s) := by unfold pSeedL; rw [if_pos fu]
    rw [eq, (c3 fu).1, (kd_30 (by omega)).2.1]
    exact (c2.u47 fu (Or.inr (Or.inr ⟨rfl, rfl, rfl⟩))).en
  · have eq : pSeedL t n s = pNum t n (pS s 30 4 1) 0 99999 := by unfold pSeedL; rw [if_neg fu]
    rw [eq]
    exact c2.enF fu rfl rfl (by simp [uI]) (by simp [uI])
end Rd
