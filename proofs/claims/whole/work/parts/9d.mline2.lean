theorem sp_iff : ∀ a b p q, a < 7 → b < 7 → p < 7 → q < 7 → ((a + b = p + q ∧ a * b = p * q) ↔ ((a = p ∧ b = q) ∨ (a = q ∧ b = p))) := by
  have h : ∀ a b p q : Fin 7, ((a.val + b.val = p.val + q.val ∧ a.val * b.val = p.val * q.val) ↔ ((a.val = p.val ∧ b.val = q.val) ∨ (a.val = q.val ∧ b.val = p.val))) := by decide +kernel
  exact fun a b p q ha hb hp hq => h ⟨a, ha⟩ ⟨b, hb⟩ ⟨p, hp⟩ ⟨q, hq⟩
theorem gPp_self {s : CA} (h : ∀ k, k < s 0 2 → s 9 k ≠ s 10 k) (p : Nat) : gPp s p p = false := by
  have : ∀ m k, k + m = s 0 2 → gPpG s p p m k = false := by
    intro m
    induction m with
    | zero => intro k _; rfl
    | succ m ih =>
      intro k hk
      have := h k (by omega)
      rw [gPpG, if_neg (by omega)]
      exact ih (k + 1) (by omega)
  exact this (s 0 2) 0 (by omega)
section Rc
variable {d : Nat} {Q : Option MV → MS → Prop} {σ : MS} {t : Nat → Nat} {n : Nat} {s : CA}
theorem M_lnPipe (hV : CV s) (h : MRd t n σ s) (hf : s 30 1 = 0) (h10 : s 0 2 < 10) (H : ∀ τ, XR σ τ → MEn t n τ (pEnd (pTake t n (pPipeL t n s) 24)) → Q none τ) : R mj_OM (d + 1 + 1 + 1 + 1 + 1 + 1 + 1 + 1) mX11_line Q 96 [some (rV 45 0), some (iV (nI 2)), none, none, none] [] σ := by
  have e0 : σ.1 47 0 (9 + 2) = nI (s 0 2) := h.2.2.1.1 2 (by omega)
  have ec : (nI (10 + s 0 2)).toNatClampNeg = 10 + s 0 2 := cl (show 10 + s 0 2 < 20 by omega) (by omega)
  have vp : vp_in (nI (10 + s 0 2)) 20 := vin (show 10 + s 0 2 < 20 by omega) (by omega) (by decide)
  refine bX11_line_96 ⟨fun z => absurd z (by decide), fun _ => ⟨fun z => absurd z (by decide), fun _ => ⟨fun _ => bX11_pipeLine_0 (M_fresher (j := 2) (by omega) (bX11_pipeLine_7 ?_)), fun z => absurd rfl z⟩⟩⟩
  rw [e0, show (10 : Int32) = nI 10 from rfl, nI_add]
  refine M_pondAtHandS hV.nb' h (fun τ1 p a1 a2 a3 a4 => bX11_pipeLine_18 ?_)
  rw [ec]
  have b2 : MRd t n (uI τ1 56 0 (10 + s 0 2) (nI p)) (pPH t n s) := a2.fw (f := 9) (by omega) (fun _ => by show 10 + pPH t n s 0 2 ≤ _; have := pPH_row (t := t) (n := n) (s := s) 0 2 (by omega); omega)
  have k0 : (uI τ1 56 0 (10 + s 0 2) (nI p)).1 56 0 (10 + s 0 2) = nI p := by simp [uI]
  have x1 : XR σ (uI τ1 56 0 (10 + s 0 2) (nI p)) := a1.x.tr (XR.uf (f := 9) (by omega) (by simp [hF]))
  generalize uI τ1 56 0 (10 + s 0 2) (nI p) = φ1 at *
  refine ⟨vp, M_goOnS b2 (fun τ2 c1 c2 => bX11_pipeLine_23 ?_)⟩
  rw [← pPond_eq] at c2
  have hw : ∀ f j, f < 30 ∨ 3 ≤ j → pPond t n s f j = s f j := fun f j hj => pPo_row f j hj
  have hVw : CV (pPond t n s) := hV.r (fun f hf => funext fun j => hw f j (Or.inl hf))
  have hp1 : pPond t n s 30 1 = 0 → p = pd t n s := fun hw1 => by
    have f0 : pPH t n s 30 1 = 0 := by
      by_cases g : pPH t n s 30 1 = 0
      · exact g
      · exact absurd hw1 (pPH_f g).2
    have a := a4 f0
    rw [(pPH_0 f0).2.2.2] at a
    injection a with a
    exact a.symm
  have w02 : pPond t n s 0 2 = s 0 2 := hw 0 2 (by omega)
  have epl : pPipeL t n s = pAddK (pNum t n (pPpN t n (pPond t n s) (pd t n s)) 1 99) (pd t n s) (pd t n (pPond t n s)) (kv t n (pPpN t n (pPond t n s) (pd t n s))) := rfl
  have pPf : ¬ pPond t n s 30 1 = 0 → ∀ r, pPpN t n (pPond t n s) r = pPond t n s := fun g r => by unfold pPpN; rw [if_neg g]
  rw [epl] at H
  generalize pPond t n s = w at *
  refine M_pondAtHandS hVw.nb' c2 (fun τ3 q d1 d2 d3 d4 => bX11_pipeLine_32 ?_)
  rw [ec]
  have b3 : MRd t n (uI τ3 57 0 (10 + s 0 2) (nI q)) (pPH t n w) := d2.fw (f := 10) (by omega) (fun _ => by show 10 + pPH t n w 0 2 ≤ _; have := pPH_row (t := t) (n := n) (s := w) 0 2 (by omega); omega)
  have k57 : (uI τ3 57 0 (10 + s 0 2) (nI q)).1 57 0 (10 + s 0 2) = nI q := by simp [uI]
  have k56t : τ3.1 56 0 (10 + s 0 2) = nI p := by rw [d1.k (by decide), c1.k (by decide)]; exact k0
  have k56 : (uI τ3 57 0 (10 + s 0 2) (nI q)).1 56 0 (10 + s 0 2) = nI p := by simp [uI]; exact k56t
  have x2 : XR σ (uI τ3 57 0 (10 + s 0 2) (nI q)) := ((x1.tr c1.x).tr d1.x).tr (XR.uf (f := 10) (by omega) (by simp [hF]))
  have z1 : τ3.1 45 0 31 = (uI τ3 57 0 (10 + s 0 2) (nI q)).1 45 0 31 := by simp [uI]
  rw [z1, k56t, k57]
  generalize uI τ3 57 0 (10 + s 0 2) (nI q) = φ at *
  have q0 : pPpN t n w (pd t n s) 0 2 = s 0 2 := (pPpN_row 0 2 (by omega)).trans w02
  have q1 : pNum t n (pPpN t n w (pd t n s)) 1 99 0 2 = s 0 2 := (pN_row 0 2 (by omega)).trans q0
  have key : ∀ (τ4 : MS) (x : Int32), XS φ τ4 → MRd t n τ4 (pPpN t n w (pd t n s)) → (pPpN t n w (pd t n s) 30 1 = 0 → p = pd t n s ∧ q = pd t n w) → R mj_OM (d + 1 + 1 + 1 + 1 + 1 + 1 + 1) mX11_pipeLine (fun r σ' => R mj_OM (d + 1 + 1 + 1 + 1 + 1 + 1 + 1 + 1) mX11_line Q 247 [some (rV 45 0), some (iV (nI 2)), none, none, none] (r.toList ++ []) σ') 148 [some (rV 45 0), some (iV (nI (10 + s 0 2))), some (iV x)] [] τ4 := fun τ4 x c0 b4 pe => by
    refine bX11_pipeLine_148 (M_numeralS (lo := 1) (hi := 99) (by omega) (by omega) b4 (fun τ5 v1 g1 g2 g3 => bX11_pipeLine_160 ?_))
    rw [ec]
    have b5 : MRd t n (uI τ5 58 0 (10 + s 0 2) v1) (pNum t n (pPpN t n w (pd t n s)) 1 99) := g2.fw (f := 11) (by omega) (fun _ => by show 10 + pNum t n (pPpN t n w (pd t n s)) 1 99 0 2 ≤ _; omega)
    have xr : XR σ (uI τ5 58 0 (10 + s 0 2) v1) := ((x2.tr c0.x).tr g1.x).tr (XR.uf (f := 11) (by omega) (by simp [hF]))
    have j56 : (uI τ5 58 0 (10 + s 0 2) v1).1 56 0 (10 + s 0 2) = nI p := by
      simp [uI]; rw [g1.k (by decide), c0.k (by decide)]; exact k56
    have j57 : (uI τ5 58 0 (10 + s 0 2) v1).1 57 0 (10 + s 0 2) = nI q := by
      simp [uI]; rw [g1.k (by decide), c0.k (by decide)]; exact k57
    have j58 : (uI τ5 58 0 (10 + s 0 2) v1).1 58 0 (10 + s 0 2) = v1 := by simp [uI]
    generalize uI τ5 58 0 (10 + s 0 2) v1 = ψ at *
    have e5 : ψ.1 47 0 (9 + 2) = nI (s 0 2) := by rw [b5.2.2.1.1 2 (by omega), q1]
    refine ⟨vp, M_fresher (j := 2) (by omega) (bX11_pipeLine_168 (M_reads (j := 2) (by omega) (bX11_pipeLine_173 (bX11_line_247 (M_lnEnd ?_ (fun ω w1 w2 => H ω ((xr.tr (XR.uf (f := 0) (i := 9 + 2) (by omega) (by simp [hF]))).tr w1) w2))))))⟩
    rw [e5, nI_1]
    by_cases fu : pNum t n (pPpN t n w (pd t n s)) 1 99 30 1 = 0
    · have g0 := pNum_0 fu
      obtain ⟨h0, h1⟩ := pe g0.1
      have h2 := (g3 fu).1
      have eq : pAddK (pNum t n (pPpN t n w (pd t n s)) 1 99) (pd t n s) (pd t n w) (kv t n (pPpN t n w (pd t n s))) = pS (pS (pS (pS (pNum t n (pPpN t n w (pd t n s)) 1 99) 9 (s 0 2) (pd t n s)) 10 (s 0 2) (pd t n w)) 11 (s 0 2) (kv t n (pPpN t n w (pd t n s)))) 0 2 (s 0 2 + 1) := by
        unfold pAddK
        rw [if_pos fu, q1]
      generalize pNum t n (pPpN t n w (pd t n s)) 1 99 = u at *
      rw [eq]
      rw [← q1] at j56 j57 j58 ⊢
      refine (b5.cnt (J := 2) fu (by omega) (fun j => ?_) (fun j hj => ?_) ?_ ?_ (fun f j p1 p2 p3 => ?_) (fun f p1 p2 p3 => ?_)).en
      · simp [pS]
      · simp [pS, hj]
      · simp [pS]
      · have := b5.2.2.1.2.2
        simp [pS]; omega
      · have o := (oF_e (f := f)).2.2.1
        simp only [pS]
        rw [if_neg (by omega), if_neg (by omega), if_neg (by omega), if_neg (by omega)]
      · have o := (oF_e (f := f)).2.2.1.mp p3
        rcases (show f = 9 ∨ f = 10 ∨ f = 11 by omega) with rfl | rfl | rfl
        · show ψ.1 56 0 (10 + u 0 2) = _
          rw [j56, h0]; simp [pS]
        · show ψ.1 57 0 (10 + u 0 2) = _
          rw [j57, h1]; simp [pS]
        · show ψ.1 58 0 (10 + u 0 2) = _
          rw [j58, h2]; simp [pS]
    · have eq : pAddK (pNum t n (pPpN t n w (pd t n s)) 1 99) (pd t n s) (pd t n w) (kv t n (pPpN t n w (pd t n s))) = pNum t n (pPpN t n w (pd t n s)) 1 99 := by
        unfold pAddK
        rw [if_neg fu]
      rw [eq]
      exact b5.enF fu rfl rfl (by simp [uI]) (by simp [uI])
  -- in a fault the loop does nothing
  have stop : ∀ (τ4 : MS) (u : CA) (x : Int32), XS φ τ4 → MRd t n τ4 u → ¬ u 30 1 = 0 → pPpN t n w (pd t n s) = u → R mj_OM (d + 1 + 1 + 1 + 1 + 1 + 1 + 1) mX11_pipeLine (fun r σ' => R mj_OM (d + 1 + 1 + 1 + 1 + 1 + 1 + 1 + 1) mX11_line Q 247 [some (rV 45 0), some (iV (nI 2)), none, none, none] (r.toList ++ []) σ') 63 [some (rV 45 0), some (iV (nI (10 + s 0 2))), some (iV x)] [] τ4 := fun τ4 u x c0 hu nf ep => by
    have G : ∀ x : Int32, R mj_OM (d + 1 + 1 + 1 + 1 + 1 + 1) mX11_goOn (fun r σ' => R mj_OM (d + 1 + 1 + 1 + 1 + 1 + 1 + 1) mX11_pipeLine (fun r σ' => R mj_OM (d + 1 + 1 + 1 + 1 + 1 + 1 + 1 + 1) mX11_line Q 247 [some (rV 45 0), some (iV (nI 2)), none, none, none] (r.toList ++ []) σ') 148 [some (rV 45 0), some (iV (nI (10 + s 0 2))), some (iV x)] (r.toList ++ []) σ') 0 [some (rV 45 0)] [] τ4 := fun x => M_goOnS hu (fun τ5 g1 g2 => key τ5 x (c0.tr g1) (by rw [pGo_f nf] at g2; rw [ep]; exact g2) (fun e => absurd (ep ▸ e) nf))
    exact bX11_pipeLine_63 ⟨fun _ => G x, fun _ => ⟨fun _ => G x, fun y => absurd (hu.z.mp y) nf⟩⟩
  refine ⟨vp, fun y => ?_, fun y => ⟨vp, ?_⟩⟩
  · have nf : ¬ pPH t n w 30 1 = 0 := fun e => y (b3.z.mpr e)
    have e := pPH_f nf
    exact stop φ _ _ XS.rf b3 nf ((pPpN_f e.2).trans e.1)
  · have f0 : pPH t n w 30 1 = 0 := b3.z.mp y
    obtain ⟨r1, r2, r3, r4⟩ := pPH_0 f0
    have hq := d4 f0
    rw [r4] at hq
    have hqe : pd t n w = q := by injection hq
    have hpe := hp1 r1
    rw [r3] at b3
    have go5 : p = q → R mj_OM (d + 1 + 1 + 1 + 1 + 1 + 1) mX11_wrong (fun r σ' => R mj_OM (d + 1 + 1 + 1 + 1 + 1 + 1 + 1) mX11_pipeLine (fun r σ' => R mj_OM (d + 1 + 1 + 1 + 1 + 1 + 1 + 1 + 1) mX11_line Q 247 [some (rV 45 0), some (iV (nI 2)), none, none, none] (r.toList ++ []) σ') 60 [some (rV 45 0), some (iV (nI (10 + s 0 2))), none] (r.toList ++ []) σ') 0 [some (rV 45 0), some (iV (5 : Int32))] [] φ := fun e => by
      have eP : pPpN t n w (pd t n s) = pFail w 5 (kp t n w) := by
        unfold pPpN
        rw [if_pos r1, if_pos r2, if_neg (by rw [r4]; simp), hqe, ← hpe, e, if_neg (by rw [gPp_self (fun k hk => (hVw.pipe hk).2.2.1)]; simp), if_pos rfl]
      refine M_wrongS (e := 5) (by omega) b3 (fun τ4 g1 g2 => bX11_pipeLine_60 (stop τ4 _ _ g1 g2 (by rw [(pF_0 r1).1]; omega) eP))
    have loop : p ≠ q → ∀ m k, k + m = s 0 2 → gPpG w p q m k = gPp w p q → R mj_OM (d + 1 + 1 + 1 + 1 + 1 + 1 + 1) mX11_pipeLine (fun r σ' => R mj_OM (d + 1 + 1 + 1 + 1 + 1 + 1 + 1 + 1) mX11_line Q 247 [some (rV 45 0), some (iV (nI 2)), none, none, none] (r.toList ++ []) σ') 63 [some (rV 45 0), some (iV (nI (10 + s 0 2))), some (iV (nI (10 + k)))] [] φ := fun hpq => by
      intro m
      induction m with
      | zero =>
        intro k hk hg
        have eP : pPpN t n w (pd t n s) = pAdv w := by
          unfold pPpN
          rw [if_pos r1, if_pos r2, if_neg (by rw [r4]; simp), hqe, ← hpe, ← hg, if_neg (by simp [gPpG]), if_neg hpq]
        refine bX11_pipeLine_63 ⟨fun _ => M_goOnS b3 (fun τ5 g1 g2 => key τ5 _ g1 (by rw [pGo_0 r1] at g2; rw [eP]; exact g2) (fun _ => ⟨hpe, hqe.symm⟩)), fun z => ?_⟩
        rw [nI_le2 (by omega) (by omega)] at z; omega
      | succ m ih =>
        intro k hk hg
        have hk2 : k < w 0 2 := by omega
        have pk := hVw.pipe hk2
        have np := hVw.np
        have c9 : φ.1 56 0 (10 + k) = nI (w 9 k) := (b3.2.2.2 r1).2.1 9 k hk2 (by omega)
        have c10 : φ.1 57 0 (10 + k) = nI (w 10 k) := (b3.2.2.2 r1).2.1 10 k hk2 (by omega)
        have sp := sp_iff (w 9 k) (w 10 k) p q (by omega) (by omega) (by omega) (by omega)
        have b9 : w 9 k * w 10 k ≤ 36 := Nat.mul_le_mul (show w 9 k ≤ 6 by omega) (show w 10 k ≤ 6 by omega)
        have bp : p * q ≤ 36 := Nat.mul_le_mul a3 d3
        have nx : ¬ ((w 9 k = p ∧ w 10 k = q) ∨ (w 9 k = q ∧ w 10 k = p)) → R mj_OM (d + 1 + 1 + 1 + 1 + 1 + 1 + 1) mX11_pipeLine (fun r σ' => R mj_OM (d + 1 + 1 + 1 + 1 + 1 + 1 + 1 + 1) mX11_line Q 247 [some (rV 45 0), some (iV (nI 2)), none, none, none] (r.toList ++ []) σ') 63 [some (rV 45 0), some (iV (nI (10 + s 0 2))), some (iV (nI (10 + k) + 1))] [] φ := fun g => by
          rw [nI_1, show 10 + k + 1 = 10 + (k + 1) by omega]
          exact ih (k + 1) (by omega) (by rw [← hg, gPpG, if_neg g])
        refine bX11_pipeLine_63 ⟨fun z => ?_, fun _ => ⟨fun z => absurd y z, fun _ => ?_⟩⟩
        · rw [nI_le2 (by omega) (by omega)] at z; omega
        · rw [ec, cl (show 10 + k < 20 by omega) (by omega), k56, k57, c9, c10, nI_add, nI_add, pk_mul, pk_mul]
          refine ⟨vin (show 10 + k < 20 by omega) (by omega) (by decide), vp, fun z => nx (fun g => ?_), fun z => ⟨fun z2 => nx (fun g => ?_), fun z2 => ?_⟩⟩
          · exact z (by rw [(sp.mpr g).1])
          · exact z2 (by rw [(sp.mpr g).2])
          · rw [nI_inj (by omega) (by omega)] at z z2
            have g := sp.mp ⟨z, z2⟩
            have hg1 : gPp w p q = true := by rw [← hg, gPpG, if_pos g]
            have eP : pPpN t n w (pd t n s) = pFail w 3 (kp t n w) := by
              unfold pPpN
              rw [if_pos r1, if_pos r2, if_neg (by rw [r4]; simp), hqe, ← hpe, if_pos hg1]
            refine M_wrongS (e := 3) (by omega) b3 (fun τ4 g1 g2 => bX11_pipeLine_138 (stop τ4 _ _ g1 g2 (by rw [(pF_0 r1).1]; omega) eP))
    refine ⟨fun z => loop (fun e => z (by rw [e])) (s 0 2) 0 (by omega) (by rw [← w02]; rfl), fun z => go5 ?_⟩
    exact (nI_inj (by omega) (by omega)).mp z
theorem M_lnTurn (h : MRd t n σ s) (hf : s 30 1 = 0) (h12 : s 0 3 < 12) (h10 : s 0 2 ≤ 10) (H : ∀ τ, XR σ τ → MEn t n τ (pEnd (pTake t n (pTurnL t n s) 24)) → Q none τ) : R mj_OM (d + 1 + 1 + 1 + 1 + 1 + 1 + 1 + 1) mX11_line Q 96 [some (rV 45 0), some (iV (nI 3)), none, none, none] [] σ := by
  have e0 : σ.1 47 0 (9 + 3) = nI (s 0 3) := h.2.2.1.1 3 (by omega)
  have e2 : σ.1 47 0 (9 + 2) = nI (s 0 2) := h.2.2.1.1 2 (by omega)
  have ec : (nI (12 + s 0 3)).toNatClampNeg = 12 + s 0 3 := cl (show 12 + s 0 3 < 24 by omega) (by omega)
  have vp : vp_in (nI (12 + s 0 3)) 24 := vin (show 12 + s 0 3 < 24 by omega) (by omega) (by decide)
  obtain ⟨m, F⟩ := h.2.2.2 hf
  have so := m.so
  refine bX11_line_96 ⟨fun z => absurd z (by decide), fun _ => ⟨fun z => absurd z (by decide), fun _ => ⟨fun z => absurd z (by decide), fun _ => ⟨fun _ => bX11_turnLine_0 (M_fresher (j := 3) (by omega) (bX11_turnLine_7 ?_)), fun z => absurd rfl z⟩⟩⟩⟩
  rw [e0, show (12 : Int32) = nI 12 from rfl, nI_add]
  have q0 : pTnN t n s 0 3 = s 0 3 := pTnN_row 0 3 (by omega)
  have q1 : pNum t n (pTnN t n s) 0 99 0 3 = s 0 3 := (pN_row 0 3 (by omega)).trans q0
  have q2 : pNum t n (pNum t n (pTnN t n s) 0 99) 1 20 0 3 = s 0 3 := (pN_row 0 3 (by omega)).trans q1
  have key : ∀ (τ1 : MS) (v0 : Int32), XS σ τ1 → MRd t n τ1 (pTnN t n s) → (pTnN t n s 30 1 = 0 → v0 = nI (kv t n s)) → R mj_OM (d + 1 + 1 + 1 + 1 + 1 + 1 + 1) mX11_turnLine (fun r σ' => R mj_OM (d + 1 + 1 + 1 + 1 + 1 + 1 + 1 + 1) mX11_line Q 254 [some (rV 45 0), some (iV (nI 3)), none, none, none] (r.toList ++ []) σ') 55 [some (rV 45 0), some (iV (nI (12 + s 0 3)))] [iV v0, iV (nI (12 + s 0 3)), rV 59 0] τ1 := fun τ1 v0 a1 a2 pe => by
    refine bX11_turnLine_55 ?_
    rw [ec]
    refine ⟨vp, ?_⟩
    have b2 : MRd t n (uI τ1 59 0 (12 + s 0 3) v0) (pTnN t n s) := a2.fw (f := 12) (by omega) (fun _ => by show 12 + pTnN t n s 0 3 ≤ _; omega)
    refine M_numeralS (lo := 0) (hi := 99) (by omega) (by omega) b2 (fun τ2 v1 c1 c2 c3 => bX11_turnLine_68 ?_)
    rw [ec]
    refine ⟨vp, ?_⟩
    have b3 : MRd t n (uI τ2 60 0 (12 + s 0 3) v1) (pNum t n (pTnN t n s) 0 99) := c2.fw (f := 13) (by omega) (fun _ => by show 12 + pNum t n (pTnN t n s) 0 99 0 3 ≤ _; omega)
    refine M_numeralS (lo := 1) (hi := 20) (by omega) (by omega) b3 (fun τ3 v2 d1 d2 d3 => bX11_turnLine_81 ?_)
    rw [ec]
    have b5 : MRd t n (uI τ3 61 0 (12 + s 0 3) v2) (pNum t n (pNum t n (pTnN t n s) 0 99) 1 20) := d2.fw (f := 14) (by omega) (fun _ => by show 12 + pNum t n (pNum t n (pTnN t n s) 0 99) 1 20 0 3 ≤ _; omega)
    have xr : XR σ (uI τ3 61 0 (12 + s 0 3) v2) := ((((a1.x.tr (XR.uf (f := 12) (by omega) (by simp [hF]))).tr c1.x).tr (XR.uf (f := 13) (by omega) (by simp [hF]))).tr d1.x).tr (XR.uf (f := 14) (by omega) (by simp [hF]))
    have j59 : (uI τ3 61 0 (12 + s 0 3) v2).1 59 0 (12 + s 0 3) = v0 := by
      simp [uI]; rw [d1.k (by decide)]; simp [uI]; rw [c1.k (by decide)]; simp [uI]
    have j60 : (uI τ3 61 0 (12 + s 0 3) v2).1 60 0 (12 + s 0 3) = v1 := by
      simp [uI]; rw [d1.k (by decide)]; simp [uI]
    have j61 : (uI τ3 61 0 (12 + s 0 3) v2).1 61 0 (12 + s 0 3) = v2 := by simp [uI]
    generalize uI τ3 61 0 (12 + s 0 3) v2 = ψ at *
    have e5 : ψ.1 47 0 (9 + 3) = nI (s 0 3) := by rw [b5.2.2.1.1 3 (by omega), q2]
    refine ⟨vp, M_fresher (j := 3) (by omega) (bX11_turnLine_89 (M_reads (j := 3) (by omega) (bX11_turnLine_94 (bX11_line_254 (M_lnEnd ?_ (fun ω w1 w2 => H ω ((xr.tr (XR.uf (f := 0) (i := 9 + 3) (by omega) (by simp [hF]))).tr w1) w2))))))⟩
    rw [e5, nI_1]
    by_cases fu : pNum t n (pNum t n (pTnN t n s) 0 99) 1 20 30 1 = 0
    · have g1 := pNum_0 fu
      have g0 := pNum_0 g1.1
      have h0 := pe g0.1
      have h1 := (c3 g1.1).1
      have h2 := (d3 fu).1
      have eq : pTurnL t n s = pS (pS (pS (pS (pNum t n (pNum t n (pTnN t n s) 0 99) 1 20) 12 (s 0 3) (kv t n s)) 13 (s 0 3) (kv t n (pTnN t n s))) 14 (s 0 3) (kv t n (pNum t n (pTnN t n s) 0 99))) 0 3 (s 0 3 + 1) := by
        unfold pTurnL pAddT
        rw [if_pos fu, q2]
      generalize pNum t n (pNum t n (pTnN t n s) 0 99) 1 20 = u at *
      rw [← q2] at j59 j60 j61 ⊢
      refine (b5.cnt (J := 3) fu (by omega) (fun j => ?_) (fun j hj => ?_) ?_ ?_ (fun f j p1 p2 p3 => ?_) (fun f p1 p2 p3 => ?_)).en
      · rw [eq]; simp [pS]
      · rw [eq]; simp [pS, hj]
      · rw [eq]; simp [pS, q2]
      · have := b5.2.2.1.2.2
        rw [eq]; simp [pS]; omega
      · have o := (oF_e (f := f)).2.2.2.1
        rw [eq]; simp only [pS]
        rw [if_neg (by omega), if_neg (by omega), if_neg (by omega), if_neg (by omega)]
      · have o := (oF_e (f := f)).2.2.2.1.mp p3
        rcases (show f = 12 ∨ f = 13 ∨ f = 14 by omega) with rfl | rfl | rfl
        · show ψ.1 59 0 (12 + u 0 3) = _
          rw [j59, h0, eq]; simp [pS, q2]
        · show ψ.1 60 0 (12 + u 0 3) = _
          rw [j60, h1, eq]; simp [pS, q2]
        · show ψ.1 61 0 (12 + u 0 3) = _
          rw [j61, h2, eq]; simp [pS, q2]
    · have eq : pTurnL t n s = pNum t n (pNum t n (pTnN t n s) 0 99) 1 20 := by
        unfold pTurnL pAddT
        rw [if_neg fu]
      rw [eq]
      exact b5.enF fu rfl rfl (by simp [uI]) (by simp [uI])
  have plain : pNum t n s 0 9 = pTnN t n s → R mj_OM (d + 1 + 1 + 1 + 1 + 1 + 1) mX11_numeral (fun r σ' => R mj_OM (d + 1 + 1 + 1 + 1 + 1 + 1 + 1) mX11_turnLine (fun r σ' => R mj_OM (d + 1 + 1 + 1 + 1 + 1 + 1 + 1 + 1) mX11_line Q 254 [some (rV 45 0), some (iV (nI 3)), none, none, none] (r.toList ++ []) σ') 55 [some (rV 45 0), some (iV (nI (12 + s 0 3)))] (r.toList ++ [iV (nI (12 + s 0 3)), rV 59 0]) σ') 0 [some (rV 45 0), some (iV (0 : Int32)), some (iV (9 : Int32)), none] [] σ := fun e => M_numeralS (lo := 0) (hi := 9) (by omega) (by omega) h (fun τ1 v a1 a2 a3 => key τ1 v a1 (by rw [← e]; exact a2) (fun q => (a3 (by rw [e]; exact q)).1))
  refine ⟨fun y => plain ?_, fun y => ⟨fun y2 => plain ?_, fun y2 => M_fresher (j := 2) (by omega) (bX11_turnLine_35 ?_)⟩⟩
  · have k23 : ¬ kd t n s = 23 := fun e => y (so.2.2.1.mpr e)
    unfold pNum pTnN
    rw [if_pos hf, if_neg k23, if_pos hf, if_neg k23]
  · have k23 : kd t n s = 23 := so.2.2.1.mp y
    have big : 9 < kv t n s := by
      rcases m.nm k23 with ⟨v1, v2⟩ | ⟨v1, _⟩
      · rw [v2, show (10 : Int32) = nI 10 from rfl, nI_leI (by omega) (by omega)] at y2
        show 9 < tV t n (s 30 0)
        omega
      · show 9 < tV t n (s 30 0)
        omega
    unfold pNum pTnN
    rw [if_pos hf, if_pos k23, if_pos (by omega), if_pos hf, if_pos k23, if_pos big]
  · have k23 : kd t n s = 23 := so.2.2.1.mp y
    have sm : kv t n s ≤ 9 ∧ σ.1 45 0 30 = nI (kv t n s) := by
      rcases m.nm k23 with ⟨v1, v2⟩ | ⟨v1, w, w1, w2, w3⟩
      · rw [v2, show (10 : Int32) = nI 10 from rfl, nI_leI (by omega) (by omega)] at y2
        exact ⟨by show tV t n (s 30 0) ≤ 9; omega, v2⟩
      · rw [w3, show (10 : Int32) = nI 10 from rfl, nI_leI (by omega) (by omega)] at y2; omega
    rw [sm.2, e2, nI_ltI (by omega) (by omega)]
    refine ⟨fun z => plain ?_, fun z => ?_⟩
    · unfold pNum pTnN
      rw [if_pos hf, if_pos k23, if_neg (by omega), if_pos hf, if_pos k23, if_neg (by omega), if_neg (by omega)]
    · have eP : pTnN t n s = pFail s 4 (kp t n s) := by
        unfold pTnN
        rw [if_pos hf, if_pos k23, if_neg (by omega), if_pos (by omega)]
      have nf : ¬ pFail s 4 (kp t n s) 30 1 = 0 := by rw [(pF_0 hf).1]; omega
      refine M_wrongS (e := 4) (by omega) h (fun τ1 a1 a2 => bX11_turnLine_43 (M_numeralS (lo := 0) (hi := 9) (by omega) (by omega) a2 (fun τ2 v c1 c2 c3 => key τ2 v (a1.tr c1) (by rw [pN_f nf] at c2; rw [eP]; exact c2) (fun q => absurd (eP ▸ q) nf))))
end Rc
