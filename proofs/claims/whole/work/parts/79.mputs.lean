def pKn (t : Nat → Nat) (n : Nat) (s : CA) : CA := if s 30 1 = 0 then (if s 30 10 < 64 then pS s 30 10 (s 30 10 + 1) else pFail s 2 (kp t n s)) else s
def pPH (t : Nat → Nat) (n : Nat) (s : CA) : CA := if s 30 1 = 0 then (if kd t n s = 22 then (if gNm s (kv t n s) = none then pFail s 4 (kp t n s) else s) else pFail s 1 (kp t n s)) else s
section Mm
variable {d : Nat} {Q : Option MV → MS → Prop} {σ : MS} {t : Nat → Nat} {n : Nat} {s : CA}
theorem pKnot_eq : pKnot t n s = pGo (pKn t n s) := by
  unfold pKnot pGo pKn
  by_cases hf : s 30 1 = 0
  · rw [if_pos hf, if_pos hf]
    by_cases h : s 30 10 < 64
    · rw [if_pos h, if_pos h, if_pos (by simp [pS]; exact hf)]
    · rw [if_neg h, if_neg h, if_neg (by rw [(pF_0 hf).1]; omega)]
  · rw [if_neg hf, if_neg hf, if_neg hf]
theorem pPond_eq : pPond t n s = pGo (pPH t n s) := by
  unfold pPond pGo pPH
  by_cases hf : s 30 1 = 0
  · rw [if_pos hf, if_pos hf]
    by_cases h : kd t n s = 22
    · rw [if_pos h, if_pos h]
      by_cases g : gNm s (kv t n s) = none
      · rw [if_pos g, if_pos g, if_neg (by rw [(pF_0 hf).1]; omega)]
      · rw [if_neg g, if_neg g, if_pos hf]
    · rw [if_neg h, if_neg h, if_neg (by rw [(pF_0 hf).1]; omega)]
  · rw [if_neg hf, if_neg hf, if_neg hf]
theorem pGo_add {so v : Nat} : pGo (pAdd s so v) = pAdd (pGo s) so v := by
  unfold pGo pAdd
  by_cases hf : s 30 1 = 0
  · rw [if_pos hf, if_pos (by simp [pS]; exact hf), if_pos hf, if_pos (by rw [pAdv_1]; exact hf)]
    funext f j
    simp only [pAdv, pS]
    by_cases h1 : f = 30 ∧ j = 0
    · obtain ⟨rfl, rfl⟩ := h1
      simp
    · by_cases h2 : f = 0 ∧ j = 8
      · obtain ⟨rfl, rfl⟩ := h2
        simp
      · simp [h1, h2]
  · simp [hf]
theorem MRd.u36 (h : MRd t n σ s) (hf : s 30 1 = 0) {c r v : Nat} (hcr : (c = 36 ∧ r = 10) ∨ (c = 35 ∧ r = 9) ∨ (c = 25 ∧ r = 8)) : MRd t n (uI σ 45 0 c (nI v)) (pS s 30 r v) := by
  obtain ⟨⟨a1, a2, a3⟩, ⟨b1, b2, b3, b4⟩, c0, e⟩ := h
  obtain ⟨e1, f1, f2, f3, f4, f5, f6, f7⟩ := e hf
  have x : ∀ j, (uI σ 45 0 c (nI v)).1 45 0 j = if j = c then nI v else σ.1 45 0 j := fun j => by simp [uI]
  have y : ∀ k j, k ≠ 45 → (uI σ 45 0 c (nI v)).1 k 0 j = σ.1 k 0 j := fun k j hk => by simp [uI, hk]
  have e30 : ∀ j, pS s 30 r v 30 j = if j = r then v else s 30 j := fun j => by simp [pS]
  have eo : ∀ f j, f ≠ 30 → pS s 30 r v f j = s f j := fun f j hj => by simp [pS, hj]
  have n1 : pS s 30 r v 30 1 = s 30 1 := by rw [e30, if_neg (by omega)]
  have n0 : pS s 30 r v 30 0 = s 30 0 := by rw [e30, if_neg (by omega)]
  refine ⟨⟨by rw [x, if_neg (by omega)]; exact a1, fun i hi => by rw [y 46 i (by omega)]; exact a2 i hi, a3⟩, ⟨by rw [x, if_neg (by omega), n1]; exact b1, by rw [n1]; exact b2, fun q => by rw [n1] at q; exact absurd hf q, fun _ => by rw [x, if_neg (by omega)]; exact b4 hf⟩, ?_, fun _ => ⟨?_, ?_, ?_, ?_, ?_, ?_, ?_, ?_⟩⟩
  · have := c0.km (τ := uI σ 45 0 c (nI v)) (SB.uI (by simp))
    unfold MCt at this ⊢
    simp only [eo 0 _ (by omega)]
    exact this
  · rw [n0]
    unfold MTk at e1 ⊢
    rw [x 27, x 28, x 29, x 30, if_neg (by omega), if_neg (by omega), if_neg (by omega), if_neg (by omega)]
    exact e1
  · intro f j h1 h2
    have : mLn (pS s 30 r v) f = mLn s f := mLn_sub (fun j hj => eo 0 j (by omega)) f
    rw [this] at h1
    have hf20 := mLn_f h1
    rw [y (47 + f) _ (by omega), eo f j (by omega)]
    exact f1 f j h1 h2
  · rw [y 47 _ (by omega), y 47 _ (by omega), eo 0 6 (by omega), eo 0 7 (by omega)]; exact f2
  · unfold FT
    rw [x 24, if_neg (by omega), e30 3, e30 4, e30 5, e30 6, e30 7, if_neg (by omega), if_neg (by omega), if_neg (by omega), if_neg (by omega), if_neg (by omega)]
    exact ⟨f3.1, fun j h1 h2 => by rw [e30, if_neg (by omega)]; exact f3.2 j h1 h2⟩
  · rw [x, e30]
    rcases hcr with ⟨rfl, rfl⟩ | ⟨rfl, rfl⟩ | ⟨rfl, rfl⟩ <;> simp <;> assumption
  · rw [x, e30]
    rcases hcr with ⟨rfl, rfl⟩ | ⟨rfl, rfl⟩ | ⟨rfl, rfl⟩ <;> simp <;> assumption
  · rw [x, e30]
    rcases hcr with ⟨rfl, rfl⟩ | ⟨rfl, rfl⟩ | ⟨rfl, rfl⟩ <;> simp <;> assumption
  · rw [y 47 _ (by omega), e30, if_neg (by omega)]; exact f7
theorem M_knot (hB : PBk s 0) (h : MRd t n σ s) (H : ∀ τ : MS, XR σ τ → MRd t n τ (pKn t n s) → Q none τ) : R mj_OM (d + 1) mX11_knot Q 0 [some (rV 45 0)] [] σ := by
  refine bX11_knot_0 ⟨fun y => ?_, fun y => ?_⟩
  · have hf := h.z.mp y
    have b := hB hf
    have e36 : σ.1 45 0 36 = nI (s 30 10) := (h.2.2.2 hf).2.2.2.2.2.2.1
    have c : σ.1 45 0 36 = (64 : Int32) ↔ s 30 10 = 64 := by rw [e36]; exact nI_inj (b := 64) (by omega) (by omega)
    refine ⟨fun z => ?_, fun z => ?_⟩
    · rw [c] at z
      rw [e36, nI_1]
      refine H _ (XR.u45 (by omega)) ?_
      unfold pKn
      rw [if_pos hf, if_pos (by omega)]
      exact h.u36 hf (by omega)
    · rw [c] at z
      refine M_wrong (e := 2) (by omega) h (fun τ h1 h2 => bX11_knot_22 (H τ h1 ?_))
      unfold pKn
      rw [if_pos hf, if_neg (by omega)]
      exact h2
  · have hf : ¬ s 30 1 = 0 := fun q => y (h.z.mpr q)
    exact H σ XR.rf (by unfold pKn; rw [if_neg hf]; exact h)
theorem M_puts {so v : Nat} (h : MRd t n σ s) (h8 : s 30 1 = 0 → s 0 8 < 64) (H : ∀ τ : MS, XR σ τ → MRd t n τ (pAdd s so v) → Q none τ) : R mj_OM (d + 1) mX11_puts Q 0 [some (rV 45 0), some (iV (nI so)), some (iV (nI v))] [] σ := by
  refine bX11_puts_0 ⟨fun y => ?_, fun y => ?_⟩
  · have hf := h.z.mp y
    have h8 := h8 hf
    have e17 : σ.1 47 0 17 = nI (s 0 8) := h.2.2.1.2.1
    refine M_fresher (j := 8) (by omega) (bX11_puts_20 ?_)
    rw [show 9 + 8 = 17 by rfl, e17, show (64 : Int32) = nI 64 from rfl, nI_add, cl (show 64 + s 0 8 < 128 by omega) (by omega)]
    refine ⟨vin (show 64 + s 0 8 < 128 by omega) (by omega) (by decide), M_fresher (j := 8) (by omega) (bX11_puts_35 ?_)⟩
    have e17b : (uI σ 66 0 (64 + s 0 8) (nI so)).1 47 0 (9 + 8) = nI (s 0 8) := by simp [uI]; exact e17
    rw [e17b, nI_add, cl (show 64 + s 0 8 < 128 by omega) (by omega)]
    refine ⟨vin (show 64 + s 0 8 < 128 by omega) (by omega) (by decide), M_fresher (j := 8) (by omega) (bX11_puts_47 ?_)⟩
    have e17c : (uI (uI σ 66 0 (64 + s 0 8) (nI so)) 67 0 (64 + s 0 8) (nI v)).1 47 0 (9 + 8) = nI (s 0 8) := by simp [uI]; exact e17
    rw [e17c, nI_1]
    refine M_reads (j := 8) (by omega) (bX11_puts_52 (H _ (((XR.uf (f := 19) (by omega) (by simp [hF])).tr (XR.uf (f := 20) (by omega) (by simp [hF]))).tr (XR.uf (f := 0) (i := 17) (by omega) (by simp [hF]))) ?_))
    have eA : pAdd s so v = pS (pS (pS s 19 (s 0 8) so) 20 (s 0 8) v) 0 8 (s 0 8 + 1) := by unfold pAdd; rw [if_pos hf]
    rw [eA]
    obtain ⟨⟨a1, a2, a3⟩, ⟨b1, b2, b3, b4⟩, c0, e⟩ := h
    obtain ⟨e1, f1, f2, f3, f4, f5, f6, f7⟩ := e hf
    have r30 : ∀ j, pS (pS (pS s 19 (s 0 8) so) 20 (s 0 8) v) 0 8 (s 0 8 + 1) 30 j = s 30 j := fun j => by simp [pS]
    have r0 : ∀ j, j ≠ 8 → pS (pS (pS s 19 (s 0 8) so) 20 (s 0 8) v) 0 8 (s 0 8 + 1) 0 j = s 0 j := fun j hj => by simp [pS, hj]
    have r8 : pS (pS (pS s 19 (s 0 8) so) 20 (s 0 8) v) 0 8 (s 0 8 + 1) 0 8 = s 0 8 + 1 := by simp [pS]
    have x45 : ∀ j, (uI (uI (uI σ 66 0 (64 + s 0 8) (nI so)) 67 0 (64 + s 0 8) (nI v)) 47 0 (9 + 8) (nI (s 0 8 + 1))).1 45 0 j = σ.1 45 0 j := fun j => by simp [uI]
    have x46 : ∀ j, (uI (uI (uI σ 66 0 (64 + s 0 8) (nI so)) 67 0 (64 + s 0 8) (nI v)) 47 0 (9 + 8) (nI (s 0 8 + 1))).1 46 0 j = σ.1 46 0 j := fun j => by simp [uI]
    have x47 : ∀ j, j ≠ 17 → (uI (uI (uI σ 66 0 (64 + s 0 8) (nI so)) 67 0 (64 + s 0 8) (nI v)) 47 0 (9 + 8) (nI (s 0 8 + 1))).1 47 0 j = σ.1 47 0 j := fun j hj => by simp [uI, hj]
    refine ⟨⟨by rw [x45]; exact a1, fun i hi => by rw [x46]; exact a2 i hi, a3⟩, ⟨by rw [x45, r30]; exact b1, by rw [r30]; exact b2, fun q => by rw [r30] at q; exact absurd hf q, fun _ => by rw [x45]; exact b4 hf⟩, ⟨fun j hj => by rw [x47 _ (by omega), r0 j (by omega)]; exact c0.1 j hj, by rw [r8]; simp [uI], ?_⟩, fun _ => ⟨?_, fun f j h1 h2 => ?_, ?_, ?_, ?_, ?_, ?_, ?_⟩⟩
    · rw [r8, r0 0 (by omega), r0 1 (by omega), r0 2 (by omega), r0 3 (by omega), r0 4 (by omega)]
      have := c0.2.2
      omega
    · rw [r30]
      unfold MTk at e1 ⊢
      rw [x45 27, x45 28, x45 29, x45 30]
      exact e1
    · by_cases g : f = 19 ∨ f = 20
      · have hj : j < s 0 8 + 1 := by
          rcases g with rfl | rfl
          · have : mLn (pS (pS (pS s 19 (s 0 8) so) 20 (s 0 8) v) 0 8 (s 0 8 + 1)) 19 = s 0 8 + 1 := r8
            omega
          · have : mLn (pS (pS (pS s 19 (s 0 8) so) 20 (s 0 8) v) 0 8 (s 0 8 + 1)) 20 = s 0 8 + 1 := r8
            omega
        by_cases gj : j = s 0 8
        · subst gj
          rcases g with rfl | rfl <;> simp [uI, pS, hF]
        · have o := f1 f j (by rcases g with rfl | rfl <;> (show j < s 0 8; omega)) h2
          rcases g with rfl | rfl
          · simp [hF] at o ⊢
            simp [uI, pS, gj]; exact o
          · simp [hF] at o ⊢
            simp [uI, pS, gj]; exact o
      · have hm : mLn (pS (pS (pS s 19 (s 0 8) so) 20 (s 0 8) v) 0 8 (s 0 8 + 1)) f = mLn s f := by
          unfold mLn
          simp only [r0 0 (by omega), r0 1 (by omega), r0 2 (by omega), r0 3 (by omega), r0 4 (by omega)]
          split <;> first | rfl | (exfalso; exact g (Or.inl rfl)) | (exfalso; exact g (Or.inr rfl))
        rw [hm] at h1
        have := f1 f j h1 h2
        have ef : pS (pS (pS s 19 (s 0 8) so) 20 (s 0 8) v) 0 8 (s 0 8 + 1) f j = s f j := by
          simp only [pS]
          rw [if_neg (by omega), if_neg (by omega), if_neg (by omega)]
        rw [ef]
        have ec : (uI (uI (uI σ 66 0 (64 + s 0 8) (nI so)) 67 0 (64 + s 0 8) (nI v)) 47 0 (9 + 8) (nI (s 0 8 + 1))).1 (47 + f) 0 (hF f + j) = σ.1 (47 + f) 0 (hF f + j) := by
          show (if 47 + f = 47 ∧ 0 = 0 ∧ hF f + j = 9 + 8 then _ else (if 47 + f = 67 ∧ 0 = 0 ∧ hF f + j = 64 + s 0 8 then _ else (if 47 + f = 66 ∧ 0 = 0 ∧ hF f + j = 64 + s 0 8 then _ else _))) = _
          rw [if_neg (by omega), if_neg (by omega), if_neg (by omega)]
        rw [ec]; exact this
    · rw [x47 _ (by omega), x47 _ (by omega), r0 6 (by omega), r0 7 (by omega)]; exact f2
    · unfold FT
      rw [x45, r30, r30, r30, r30, r30]
      exact ⟨f3.1, fun j h1 h2 => by rw [r30]; exact f3.2 j h1 h2⟩
    · rw [x45, r30]; exact f4
    · rw [x45, r30]; exact f5
    · rw [x45, r30]; exact f6
    · rw [x47 _ (by omega), r30]; exact f7
  · have hf : ¬ s 30 1 = 0 := fun q => y (h.z.mpr q)
    exact H σ XR.rf (by rw [pAdd_f hf]; exact h)
theorem M_pondAtHand (hN : NB s) (h : MRd t n σ s) (H : ∀ (τ : MS) (p : Nat), XR σ τ → MRd t n τ (pPH t n s) → p ≤ 6 → ((pPH t n s) 30 1 = 0 → gNm s (kv t n s) = some p) → Q (some (iV (nI p))) τ) : R mj_OM (d + 1) mX11_pondAtHand Q 0 [some (rV 45 0), none] [] σ := by
  have pb : ∀ {a p : Nat} (m q : Nat), gNmG s a m q = some p → p < q + m := by
    intro a p m
    induction m with
    | zero => intro q e; exact absurd e (by simp [gNmG])
    | succ m ih =>
      intro q e
      rw [gNmG] at e
      split at e
      · injection e with e; omega
      · have := ih (q + 1) e; omega
  refine bX11_pondAtHand_0 ⟨fun y => ?_, fun y => ?_⟩
  · have hf := h.z.mp y
    obtain ⟨m, F⟩ := h.2.2.2 hf
    have so := m.so
    have hC := h.2.2.1
    refine ⟨fun y2 => ⟨fun z => absurd y z, fun _ => ?_⟩, fun y2 => ?_⟩
    · have k22 : kd t n s = 22 := so.2.1.mp y2
      refine M_fresher (j := 0) (by omega) (bX11_pondAtHand_40 ?_)
      rw [hC.1 0 (by omega), m.o k22]
      refine M_found (s := s) (a := kv t n s) hC.2.2.1 (fun p hp => ⟨F.1 1 p hp (by omega), hN p hp⟩) (kv_22 k22) rfl ?_
      cases hg : gNm s (kv t n s) with
      | none =>
        have hP : pPH t n s = pFail s 4 (kp t n s) := by unfold pPH; rw [if_pos hf, if_pos k22, if_pos hg]
        have nf : ¬ (pPH t n s) 30 1 = 0 := by rw [hP, (pF_0 hf).1]; omega
        refine bX11_pondAtHand_47 ⟨fun z => absurd y z, fun _ => ⟨fun z => absurd rfl z, fun _ => ?_⟩⟩
        refine M_wrong (e := 4) (by omega) h (fun τ h1 h2 => ?_)
        rw [← hP] at h2
        exact bX11_pondAtHand_69 ⟨fun z => absurd (h2.z.mp z) nf, fun _ => H τ 0 h1 h2 (by omega) (fun q => absurd q nf)⟩
      | some p =>
        have hP : pPH t n s = s := by unfold pPH; rw [if_pos hf, if_pos k22, if_neg (by rw [hg]; simp)]
        have := pb (s 0 0) 0 hg
        have := hC.2.2.1
        refine bX11_pondAtHand_47 ⟨fun z => absurd y z, fun _ => ⟨fun _ => ⟨fun _ => H σ p XR.rf (by rw [hP]; exact h) (by omega) (fun _ => hg), fun z => absurd y z⟩, fun z => absurd z (nI_m1 (by omega))⟩⟩
    · have k22 : ¬ kd t n s = 22 := fun e => y2 (so.2.1.mpr e)
      have hP : pPH t n s = pFail s 1 (kp t n s) := by unfold pPH; rw [if_pos hf, if_neg k22]
      have nf : ¬ (pPH t n s) 30 1 = 0 := by rw [hP, (pF_0 hf).1]; omega
      refine M_wrong (e := 1) (by omega) h (fun τ h1 h2 => ?_)
      rw [← hP] at h2
      have nz : ¬ τ.1 45 0 31 = 0 := fun z => nf (h2.z.mp z)
      exact bX11_pondAtHand_22 ⟨fun _ => ⟨fun _ => ⟨fun z => absurd z nz, fun _ => H τ 0 h1 h2 (by omega) (fun q => absurd q nf)⟩, fun z => absurd z nz⟩, fun z => absurd z nz⟩
  · have hf : ¬ s 30 1 = 0 := fun q => y (h.z.mpr q)
    have hP : pPH t n s = s := by unfold pPH; rw [if_neg hf]
    exact H σ 0 XR.rf (by rw [hP]; exact h) (by omega) (fun q => by rw [hP] at q; exact absurd q hf)
/-! in a fault an expression reads nothing -/
theorem M_pf (h : MRd t n σ s) (hf : ¬ s 30 1 = 0) (H : Q none σ) : R mj_OM (d + 1) mX11_primary Q 0 [some (rV 45 0), none] [] σ := bX11_primary_0 ⟨fun z => absurd (h.z.mp z) hf, fun _ => H⟩
theorem M_4f {m K : Nat} (h : MRd t n σ s) (hf : ¬ s 30 1 = 0) (hK : 24 ≤ K ∧ K < 37) (H : Q (some (iV 0)) σ) : R mj_OM d mX11_isSign Q 0 [some (rV 45 0), some (iV (nI (sgV K)))] [] σ := M_isSign hK h (fun v hv => by rw [hv.mpr (fun e => hf e.1)]; exact H)
theorem M_5f (h : MRd t n σ s) (hf : ¬ s 30 1 = 0) (H : Q none σ) : R mj_OM (d + 1 + 1) mX11_product Q 0 [some (rV 45 0), none] [] σ :=
  bX11_product_0 (M_pf h hf (bX11_product_4 (M_4f (m := 0) (K := 29) h hf (by omega) (bX11_product_10 ⟨fun z => absurd rfl z, fun _ => M_4f (m := 0) (K := 30) h hf (by omega) (bX11_product_19 ⟨fun _ => H, fun z => absurd rfl z⟩)⟩))))
theorem M_sf (h : MRd t n σ s) (hf : ¬ s 30 1 = 0) (H : Q none σ) : R mj_OM (d + 1 + 1 + 1) mX11_sum Q 0 [some (rV 45 0), none] [] σ :=
  bX11_sum_0 (M_5f h hf (bX11_sum_4 (M_4f (m := 0) (K := 27) h hf (by omega) (bX11_sum_10 ⟨fun z => absurd rfl z, fun _ => M_4f (m := 0) (K := 28) h hf (by omega) (bX11_sum_19 ⟨fun _ => H, fun z => absurd rfl z⟩)⟩))))
theorem M_wf {K : Nat} (h : MRd t n σ s) (hf : ¬ s 30 1 = 0) (hK : K < 22) (H : Q (some (iV 0)) σ) : R mj_OM d mX11_isWord Q 0 [some (rV 45 0), some (iV (nI K))] [] σ := M_isWord hK h (fun v hv => by rw [hv.mpr (fun e => hf e.1)]; exact H)
theorem M_nf (h : MRd t n σ s) (hf : ¬ s 30 1 = 0) (H : Q none σ) : R mj_OM (d + 1 + 1 + 1 + 1) mX11_negation Q 0 [some (rV 45 0), none] [] σ :=
  bX11_negation_0 (M_wf (K := 14) h hf (by omega) (bX11_negation_6 ⟨fun _ => M_sf h hf (bX11_negation_34 ⟨fun _ => H, fun z => absurd (h.z.mp z) hf⟩), fun z => absurd rfl z⟩))
theorem M_cf (h : MRd t n σ s) (hf : ¬ s 30 1 = 0) (H : Q none σ) : R mj_OM (d + 1 + 1 + 1 + 1 + 1) mX11_conjunction Q 0 [some (rV 45 0)] [] σ :=
  bX11_conjunction_0 (M_nf h hf (bX11_conjunction_4 (M_wf (K := 13) h hf (by omega) (bX11_conjunction_10 ⟨fun _ => H, fun z => absurd rfl z⟩))))
theorem M_ef (h : MRd t n σ s) (hf : ¬ s 30 1 = 0) (H : Q none σ) : R mj_OM (d + 1 + 1 + 1 + 1 + 1 + 1) mX11_expression Q 0 [some (rV 45 0)] [] σ :=
  bX11_expression_0 (M_cf h hf (bX11_expression_4 (M_wf (K := 12) h hf (by omega) (bX11_expression_10 ⟨fun _ => H, fun z => absurd rfl z⟩))))
end Mm
