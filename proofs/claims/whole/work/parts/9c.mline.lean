theorem oF_e {f : Nat} : (oF f = 0 ↔ f ≤ 5) ∧ (oF f = 1 ↔ 6 ≤ f ∧ f ≤ 8) ∧ (oF f = 2 ↔ 9 ≤ f ∧ f ≤ 11) ∧ (oF f = 3 ↔ 12 ≤ f ∧ f ≤ 14) ∧ (oF f = 4 ↔ 15 ≤ f ∧ f ≤ 16) := by
  refine ⟨?_, ?_, ?_, ?_, ?_⟩ <;> (unfold oF; split; omega; split; omega; split; omega; split; omega; split <;> omega)
section Rb
variable {d : Nat} {Q : Option MV → MS → Prop} {σ : MS} {t : Nat → Nat} {n : Nat} {s : CA}
theorem pPH_row (f j : Nat) (h : f < 30 ∨ 3 ≤ j) : pPH t n s f j = s f j := by
  unfold pPH
  split
  · split
    · split
      · exact pF_row f j (by omega)
      · rfl
    · exact pF_row f j (by omega)
  · rfl
theorem M_lnPond (hV : CV s) (h : MRd t n σ s) (h7 : s 0 0 < 7) (H : ∀ τ, XR σ τ → MEn t n τ (pEnd (pTake t n (pPondL t n s) 24)) → Q none τ) : R mj_OM (d + 1 + 1 + 1 + 1 + 1 + 1 + 1) mX11_line Q 96 [some (rV 45 0), some (iV (nI 0)), none, none, none] [] σ := by
  have e0 : σ.1 47 0 (9 + 0) = nI (s 0 0) := h.2.2.1.1 0 (by omega)
  refine bX11_line_96 ⟨fun _ => M_fresher (j := 0) (by omega) (bX11_line_151 (M_fresher (j := 0) (by omega) (bX11_line_170 ?_))), fun z => absurd rfl z⟩
  rw [e0, show (7 : Int32) = nI 7 from rfl, nI_add]
  refine M_freshS hV.nb' h (fun τ1 v0 a1 a2 a3 => bX11_line_173 ?_)
  have ec : (nI (7 + s 0 0)).toNatClampNeg = 7 + s 0 0 := cl (show 7 + s 0 0 < 14 by omega) (by omega)
  have vp : vp_in (nI (7 + s 0 0)) 14 := vin (show 7 + s 0 0 < 14 by omega) (by omega) (by decide)
  have q0 : pOwnN t n s 0 0 = s 0 0 := pO_row 0 0 (by omega)
  have q1 : pNum t n (pOwnN t n s) 1 20 0 0 = s 0 0 := (pN_row 0 0 (by omega)).trans q0
  have q2 : pNum t n (pNum t n (pOwnN t n s) 1 20) 0 99 0 0 = s 0 0 := (pN_row 0 0 (by omega)).trans q1
  have q3 : pNum t n (pNum t n (pNum t n (pOwnN t n s) 1 20) 0 99) 0 999 0 0 = s 0 0 := (pN_row 0 0 (by omega)).trans q2
  rw [ec]
  refine ⟨vp, ?_⟩
  have b2 : MRd t n (uI τ1 48 0 (7 + s 0 0) v0) (pOwnN t n s) := a2.fw (f := 1) (by omega) (fun _ => by show 7 + pOwnN t n s 0 0 ≤ _; omega)
  refine M_numeralS (lo := 1) (hi := 20) (by omega) (by omega) b2 (fun τ2 v1 c1 c2 c3 => bX11_line_186 ?_)
  rw [ec]
  refine ⟨vp, ?_⟩
  have b3 : MRd t n (uI τ2 49 0 (7 + s 0 0) v1) (pNum t n (pOwnN t n s) 1 20) := c2.fw (f := 2) (by omega) (fun _ => by show 7 + pNum t n (pOwnN t n s) 1 20 0 0 ≤ _; omega)
  refine M_numeralS (lo := 0) (hi := 99) (by omega) (by omega) b3 (fun τ3 v2 d1 d2 d3 => bX11_line_199 ?_)
  rw [ec]
  refine ⟨vp, ?_⟩
  have b4 : MRd t n (uI τ3 50 0 (7 + s 0 0) v2) (pNum t n (pNum t n (pOwnN t n s) 1 20) 0 99) := d2.fw (f := 3) (by omega) (fun _ => by show 7 + pNum t n (pNum t n (pOwnN t n s) 1 20) 0 99 0 0 ≤ _; omega)
  refine M_numeralS (lo := 0) (hi := 999) (by omega) (by omega) b4 (fun τ4 v3 f1 f2 f3 => bX11_line_213 ?_)
  rw [ec]
  have b5 : MRd t n (uI (uI τ4 51 0 (7 + s 0 0) v3) 52 0 (7 + s 0 0) 0) (pNum t n (pNum t n (pNum t n (pOwnN t n s) 1 20) 0 99) 0 999) := (f2.fw (f := 4) (by omega) (fun _ => by show 7 + pNum t n (pNum t n (pNum t n (pOwnN t n s) 1 20) 0 99) 0 999 0 0 ≤ _; omega)).fw (f := 5) (by omega) (fun _ => by show 7 + pNum t n (pNum t n (pNum t n (pOwnN t n s) 1 20) 0 99) 0 999 0 0 ≤ _; omega)
  have xr : XR σ (uI (uI τ4 51 0 (7 + s 0 0) v3) 52 0 (7 + s 0 0) 0) := ((((((((a1.x.tr (XR.uf (f := 1) (by omega) (by simp [hF]))).tr c1.x).tr (XR.uf (f := 2) (by omega) (by simp [hF]))).tr d1.x).tr (XR.uf (f := 3) (by omega) (by simp [hF]))).tr f1.x).tr (XR.uf (f := 4) (by omega) (by simp [hF]))).tr (XR.uf (f := 5) (by omega) (by simp [hF])))
  have k48 : (uI (uI τ4 51 0 (7 + s 0 0) v3) 52 0 (7 + s 0 0) 0).1 48 0 (7 + s 0 0) = v0 := by
    simp [uI]; rw [f1.k (by decide)]; simp [uI]; rw [d1.k (by decide)]; simp [uI]; rw [c1.k (by decide)]; simp [uI]
  have k49 : (uI (uI τ4 51 0 (7 + s 0 0) v3) 52 0 (7 + s 0 0) 0).1 49 0 (7 + s 0 0) = v1 := by
    simp [uI]; rw [f1.k (by decide)]; simp [uI]; rw [d1.k (by decide)]; simp [uI]
  have k50 : (uI (uI τ4 51 0 (7 + s 0 0) v3) 52 0 (7 + s 0 0) 0).1 50 0 (7 + s 0 0) = v2 := by
    simp [uI]; rw [f1.k (by decide)]; simp [uI]
  have k51 : (uI (uI τ4 51 0 (7 + s 0 0) v3) 52 0 (7 + s 0 0) 0).1 51 0 (7 + s 0 0) = v3 := by simp [uI]
  have k52 : (uI (uI τ4 51 0 (7 + s 0 0) v3) 52 0 (7 + s 0 0) 0).1 52 0 (7 + s 0 0) = 0 := by simp [uI]
  generalize uI (uI τ4 51 0 (7 + s 0 0) v3) 52 0 (7 + s 0 0) 0 = φ at *
  have e5 : φ.1 47 0 (9 + 0) = nI (s 0 0) := by rw [b5.2.2.1.1 0 (by omega), q3]
  refine ⟨vp, vp, M_fresher (j := 0) (by omega) (bX11_line_228 (M_reads (j := 0) (by omega) (bX11_line_233 (M_lnEnd ?_ (fun ω w1 w2 => H ω ((xr.tr (XR.uf (f := 0) (i := 9 + 0) (by omega) (by simp [hF]))).tr w1) w2)))))⟩
  rw [e5, nI_1]
  by_cases fu : pNum t n (pNum t n (pNum t n (pOwnN t n s) 1 20) 0 99) 0 999 30 1 = 0
  · have g2 := pNum_0 fu
    have g1 := pNum_0 g2.1
    have g0 := pNum_0 g1.1
    have h0 := a3 g0.1
    have h1 := (c3 g1.1).1
    have h2 := (d3 g2.1).1
    have h3 := (f3 fu).1
    have eq : pPondL t n s = pS (pS (pS (pS (pS (pS (pNum t n (pNum t n (pNum t n (pOwnN t n s) 1 20) 0 99) 0 999) 1 (s 0 0) (kv t n s)) 2 (s 0 0) (kv t n (pOwnN t n s))) 3 (s 0 0) (kv t n (pNum t n (pOwnN t n s) 1 20))) 4 (s 0 0) (kv t n (pNum t n (pNum t n (pOwnN t n s) 1 20) 0 99))) 5 (s 0 0) 0) 0 0 (s 0 0 + 1) := by
      unfold pPondL pAddP
      rw [if_pos fu, q3]
    generalize pNum t n (pNum t n (pNum t n (pOwnN t n s) 1 20) 0 99) 0 999 = u at *
    rw [← q3] at k48 k49 k50 k51 k52 ⊢
    refine (b5.cnt (J := 0) fu (by omega) (fun j => ?_) (fun j hj => ?_) ?_ ?_ (fun f j p1 p2 p3 => ?_) (fun f p1 p2 p3 => ?_)).en
    · rw [eq]; simp [pS]
    · rw [eq]; simp [pS, hj]
    · rw [eq]; simp [pS, q3]
    · have := b5.2.2.1.2.2
      rw [eq]; simp [pS]; omega
    · have o := (oF_e (f := f)).1
      rw [eq]; simp only [pS]
      rw [if_neg (by omega), if_neg (by omega), if_neg (by omega), if_neg (by omega), if_neg (by omega), if_neg (by omega)]
    · have o := (oF_e (f := f)).1.mp p3
      rcases (show f = 1 ∨ f = 2 ∨ f = 3 ∨ f = 4 ∨ f = 5 by omega) with rfl | rfl | rfl | rfl | rfl
      · show φ.1 48 0 (7 + u 0 0) = _
        rw [k48, h0, eq]; simp [pS, q3]
      · show φ.1 49 0 (7 + u 0 0) = _
        rw [k49, h1, eq]; simp [pS, q3]
      · show φ.1 50 0 (7 + u 0 0) = _
        rw [k50, h2, eq]; simp [pS, q3]
      · show φ.1 51 0 (7 + u 0 0) = _
        rw [k51, h3, eq]; simp [pS, q3]
      · show φ.1 52 0 (7 + u 0 0) = _
        rw [k52, eq]; simp [pS, q3]; rfl
  · have eq : pPondL t n s = pNum t n (pNum t n (pNum t n (pOwnN t n s) 1 20) 0 99) 0 999 := by
      unfold pPondL pAddP
      rw [if_neg fu]
    rw [eq]
    exact b5.enF fu rfl rfl (by simp [uI]) (by simp [uI])
theorem M_lnLock (hV : CV s) (h : MRd t n σ s) (hf : s 30 1 = 0) (h3 : s 0 1 < 3) (H : ∀ τ, XR σ τ → MEn t n τ (pEnd (pTake t n (pLockL t n s) 24)) → Q none τ) : R mj_OM (d + 1 + 1 + 1 + 1 + 1 + 1 + 1 + 1) mX11_line Q 96 [some (rV 45 0), some (iV (nI 1)), none, none, none] [] σ := by
  have e0 : σ.1 47 0 (9 + 1) = nI (s 0 1) := h.2.2.1.1 1 (by omega)
  have ec : (nI (3 + s 0 1)).toNatClampNeg = 3 + s 0 1 := cl (show 3 + s 0 1 < 6 by omega) (by omega)
  have vp : vp_in (nI (3 + s 0 1)) 6 := vin (show 3 + s 0 1 < 6 by omega) (by omega) (by decide)
  refine bX11_line_96 ⟨fun z => absurd z (by decide), fun _ => ⟨fun _ => bX11_lockLine_0 (M_fresher (j := 1) (by omega) (bX11_lockLine_6 ?_)), fun z => absurd rfl z⟩⟩
  rw [e0, show (3 : Int32) = nI 3 from rfl, nI_add]
  refine M_pondAtHandS hV.nb' h (fun τ1 p a1 a2 a3 a4 => bX11_lockLine_17 ?_)
  rw [ec]
  have p0 : ∀ f j, f < 30 ∨ 3 ≤ j → pPH t n s f j = s f j := fun f j hj => pPH_row f j hj
  have b2 : MRd t n (uI τ1 53 0 (3 + s 0 1) (nI p)) (pPH t n s) := a2.fw (f := 6) (by omega) (fun _ => by show 3 + pPH t n s 0 1 ≤ _; have := p0 0 1 (by omega); omega)
  have k0 : (uI τ1 53 0 (3 + s 0 1) (nI p)).1 53 0 (3 + s 0 1) = nI p := by simp [uI]
  have x1 : XR σ (uI τ1 53 0 (3 + s 0 1) (nI p)) := a1.x.tr (XR.uf (f := 6) (by omega) (by simp [hF]))
  have z1 : τ1.1 45 0 31 = (uI τ1 53 0 (3 + s 0 1) (nI p)).1 45 0 31 := by simp [uI]
  rw [z1, k0]
  generalize uI τ1 53 0 (3 + s 0 1) (nI p) = φ at *
  have q0 : pLkN t n s 0 1 = s 0 1 := pLkN_row 0 1 (by omega)
  have q1 : pNum t n (pLkN t n s) 0 199 0 1 = s 0 1 := (pN_row 0 1 (by omega)).trans q0
  have q2 : pNum t n (pNum t n (pLkN t n s) 0 199) 0 199 0 1 = s 0 1 := (pN_row 0 1 (by omega)).trans q1
  have key : ∀ τ2 : MS, XS φ τ2 → MRd t n τ2 (pLkN t n s) → (pLkN t n s 30 1 = 0 → p = pd t n s) → R mj_OM (d + 1 + 1 + 1 + 1 + 1 + 1 + 1) mX11_lockLine (fun r σ' => R mj_OM (d + 1 + 1 + 1 + 1 + 1 + 1 + 1 + 1) mX11_line Q 240 [some (rV 45 0), some (iV (nI 1)), none, none, none] (r.toList ++ []) σ') 48 [some (rV 45 0), some (iV (nI (3 + s 0 1)))] [] τ2 := fun τ2 c0 b3 pe => by
    refine bX11_lockLine_48 (M_numeralS (lo := 0) (hi := 199) (by omega) (by omega) b3 (fun τ3 v1 c1 c2 c3 => bX11_lockLine_61 ?_))
    rw [ec]
    refine ⟨vp, ?_⟩
    have b4 : MRd t n (uI τ3 54 0 (3 + s 0 1) v1) (pNum t n (pLkN t n s) 0 199) := c2.fw (f := 7) (by omega) (fun _ => by show 3 + pNum t n (pLkN t n s) 0 199 0 1 ≤ _; omega)
    refine M_numeralS (lo := 0) (hi := 199) (by omega) (by omega) b4 (fun τ4 v2 d1 d2 d3 => bX11_lockLine_75 ?_)
    rw [ec]
    have b5 : MRd t n (uI τ4 55 0 (3 + s 0 1) v2) (pNum t n (pNum t n (pLkN t n s) 0 199) 0 199) := d2.fw (f := 8) (by omega) (fun _ => by show 3 + pNum t n (pNum t n (pLkN t n s) 0 199) 0 199 0 1 ≤ _; omega)
    have xr : XR σ (uI τ4 55 0 (3 + s 0 1) v2) := ((((x1.tr c0.x).tr c1.x).tr (XR.uf (f := 7) (by omega) (by simp [hF]))).tr d1.x).tr (XR.uf (f := 8) (by omega) (by simp [hF]))
    have k53 : (uI τ4 55 0 (3 + s 0 1) v2).1 53 0 (3 + s 0 1) = nI p := by
      simp [uI]; rw [d1.k (by decide)]; simp [uI]; rw [c1.k (by decide), c0.k (by decide)]; exact k0
    have k54 : (uI τ4 55 0 (3 + s 0 1) v2).1 54 0 (3 + s 0 1) = v1 := by
      simp [uI]; rw [d1.k (by decide)]; simp [uI]
    have k55 : (uI τ4 55 0 (3 + s 0 1) v2).1 55 0 (3 + s 0 1) = v2 := by simp [uI]
    generalize uI τ4 55 0 (3 + s 0 1) v2 = ψ at *
    have e5 : ψ.1 47 0 (9 + 1) = nI (s 0 1) := by rw [b5.2.2.1.1 1 (by omega), q2]
    refine ⟨vp, M_fresher (j := 1) (by omega) (bX11_lockLine_83 (M_reads (j := 1) (by omega) (bX11_lockLine_88 (bX11_line_240 (M_lnEnd ?_ (fun ω w1 w2 => H ω ((xr.tr (XR.uf (f := 0) (i := 9 + 1) (by omega) (by simp [hF]))).tr w1) w2))))))⟩
    rw [e5, nI_1]
    by_cases fu : pNum t n (pNum t n (pLkN t n s) 0 199) 0 199 30 1 = 0
    · have g1 := pNum_0 fu
      have g0 := pNum_0 g1.1
      have h0 := pe g0.1
      have h1 := (c3 g1.1).1
      have h2 := (d3 fu).1
      have eq : pLockL t n s = pS (pS (pS (pS (pNum t n (pNum t n (pLkN t n s) 0 199) 0 199) 6 (s 0 1) (pd t n s)) 7 (s 0 1) (kv t n (pLkN t n s))) 8 (s 0 1) (kv t n (pNum t n (pLkN t n s) 0 199))) 0 1 (s 0 1 + 1) := by
        unfold pLockL pAddL
        rw [if_pos fu, q2]
      generalize pNum t n (pNum t n (pLkN t n s) 0 199) 0 199 = u at *
      rw [← q2] at k53 k54 k55 ⊢
      refine (b5.cnt (J := 1) fu (by omega) (fun j => ?_) (fun j hj => ?_) ?_ ?_ (fun f j p1 p2 p3 => ?_) (fun f p1 p2 p3 => ?_)).en
      · rw [eq]; simp [pS]
      · rw [eq]; simp [pS, hj]
      · rw [eq]; simp [pS, q2]
      · have := b5.2.2.1.2.2
        rw [eq]; simp [pS]; omega
      · have o := (oF_e (f := f)).2.1
        rw [eq]; simp only [pS]
        rw [if_neg (by omega), if_neg (by omega), if_neg (by omega), if_neg (by omega)]
      · have o := (oF_e (f := f)).2.1.mp p3
        rcases (show f = 6 ∨ f = 7 ∨ f = 8 by omega) with rfl | rfl | rfl
        · show ψ.1 53 0 (3 + u 0 1) = _
          rw [k53, h0, eq]; simp [pS, q2]
        · show ψ.1 54 0 (3 + u 0 1) = _
          rw [k54, h1, eq]; simp [pS, q2]
        · show ψ.1 55 0 (3 + u 0 1) = _
          rw [k55, h2, eq]; simp [pS, q2]
    · have eq : pLockL t n s = pNum t n (pNum t n (pLkN t n s) 0 199) 0 199 := by
        unfold pLockL pAddL
        rw [if_neg fu]
      rw [eq]
      exact b5.enF fu rfl rfl (by simp [uI]) (by simp [uI])
  refine ⟨vp, fun y => ?_, fun y => ⟨vp, ?_⟩⟩
  · have nf : ¬ pPH t n s 30 1 = 0 := fun q => y (b2.z.mpr q)
    have e := pPH_f nf
    have eL : pLkN t n s = pPH t n s := (pLkN_f e.2).trans e.1
    refine M_goOnS b2 (fun τ2 c1 c2 => key τ2 c1 ?_ (fun q => ?_))
    · rw [pGo_f nf] at c2; rw [eL]; exact c2
    · rw [eL] at q; exact absurd q nf
  · have f0 : pPH t n s 30 1 = 0 := b2.z.mp y
    obtain ⟨r1, r2, r3, r4⟩ := pPH_0 f0
    have hp := a4 f0
    rw [r4] at hp
    have hpe : pd t n s = p := by injection hp
    rw [r3] at b2
    refine M_lockWith b2 (fun l hl => by have := (hV.lock hl).1; have := hV.np; omega) a3 (fun v hv => ?_)
    have hv := hv hf
    cases hq : qLk s p with
    | none =>
      rw [hq] at hv
      have eL : pLkN t n s = pAdv s := by unfold pLkN; rw [if_pos r1, if_pos r2, if_neg (by rw [r4]; simp), hpe, if_pos hq]
      refine bX11_lockLine_35 ⟨fun _ => M_goOnS b2 (fun τ2 c1 c2 => key τ2 c1 ?_ (fun _ => hpe.symm)), fun z => absurd hv z⟩
      rw [pGo_0 hf] at c2; rw [eL]; exact c2
    | some l =>
      rw [hq] at hv
      have eL : pLkN t n s = pFail s 3 (kp t n s) := by unfold pLkN; rw [if_pos r1, if_pos r2, if_neg (by rw [r4]; simp), hpe, if_neg (by rw [hq]; simp)]
      have nf : ¬ pFail s 3 (kp t n s) 30 1 = 0 := by rw [(pF_0 hf).1]; omega
      have := qLk_lt hq
      refine bX11_lockLine_35 ⟨fun z => absurd (hv.symm.trans z) (nI_m1 (by omega)), fun _ => M_wrongS (e := 3) (by omega) b2 (fun τ2 c1 c2 => bX11_lockLine_44 (M_goOnS c2 (fun τ3 c3 c4 => key τ3 (c1.tr c3) ?_ (fun _ => hpe.symm))))⟩
      rw [pGo_f nf] at c4; rw [eL]; exact c4
end Rb
