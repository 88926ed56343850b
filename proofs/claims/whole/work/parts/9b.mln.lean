/-! the reference's lines: where it reads, nothing but the token's cells changes -/
def XS (σ τ : MS) : Prop := SB [(45, 0)] σ τ ∧ ∀ j, ¬ (27 ≤ j ∧ j ≤ 32) → τ.1 45 0 j = σ.1 45 0 j
theorem XS.rf {σ : MS} : XS σ σ := ⟨SB.rf, fun _ _ => rfl⟩
theorem XS.tr {σ τ υ : MS} (a : XS σ τ) (b : XS τ υ) : XS σ υ := ⟨a.1.tr b.1, fun j hj => (b.2 j hj).trans (a.2 j hj)⟩
theorem XS.x {σ τ : MS} (h : XS σ τ) : XR σ τ := ⟨h.1.wk (by decide), fun f j _ _ => h.1.i (by simp; omega) j, fun j h1 h2 h3 => h.2 j (by omega)⟩
theorem KM.s {σ τ : MS} (k : KM σ τ) : XS σ τ := ⟨k.1, fun j hj => k.2 j (by omega)⟩
theorem XS.u45 {σ : MS} {j : Nat} {v : Int32} (hj : 27 ≤ j ∧ j ≤ 32) : XS σ (uI σ 45 0 j v) := ⟨SB.uI (by simp), fun i hi => by simp [uI]; intro e; omega⟩
theorem XS.k {σ τ : MS} (h : XS σ τ) {k : Nat} (hk : k ≠ 45) (j : Nat) : τ.1 k 0 j = σ.1 k 0 j := h.1.i (by simp [hk]) j
section Ra
variable {d : Nat} {Q : Option MV → MS → Prop} {σ : MS} {t : Nat → Nat} {n : Nat} {s : CA}
theorem M_tokS (h : MRd t n σ s) (hf : s 30 1 = 0) (H : ∀ τ : MS, XS σ τ → MRd t n τ (pAdv s) → Q none τ) : R mj_OM (d + 1 + 1 + 1 + 1 + 1) mX11_token Q 0 [some (rV 45 0), none] [] σ := by
  obtain ⟨⟨a1, a2, a3⟩, ⟨b1, b2, b3, b4⟩, c, e⟩ := h
  obtain ⟨e1, e2⟩ := e hf
  have r : ∀ f j, ¬ (f = 30 ∧ j = 0) → pAdv s f j = s f j := fun f j hj => by simp only [pAdv, pS]; rw [if_neg hj]
  have r1 := r 30 1 (by omega)
  have r0 : pAdv s 30 0 = s 30 0 + 1 := by simp [pAdv, pS]
  refine M_token a3 a2 a1 e1.1 (fun τ k m => H τ k.s ⟨⟨by rw [k.2 26 (by omega)]; exact a1, a2.keep k, a3⟩, ⟨by rw [k.2 31 (by omega), r1]; exact b1, by rw [r1]; exact b2, fun q => by rw [r1] at q; exact absurd hf q, fun _ => by rw [k.2 32 (by omega)]; exact b4 hf⟩, ?_, fun _ => ⟨by rw [r0]; exact m, ?_⟩⟩)
  · have := c.km k.1
    exact this
  · exact (e2.km k).r (fun f j hj => r f j (by omega))
theorem M_goOnS (h : MRd t n σ s) (H : ∀ τ : MS, XS σ τ → MRd t n τ (pGo s) → Q none τ) : R mj_OM (d + 1 + 1 + 1 + 1 + 1 + 1) mX11_goOn Q 0 [some (rV 45 0)] [] σ := by
  refine bX11_goOn_0 ⟨fun y => ?_, fun y => ?_⟩
  · rw [h.z] at y
    refine H σ XS.rf ?_
    unfold pGo; rw [if_neg y]; exact h
  · rw [h.z] at y
    refine M_tokS h y (fun τ h1 h2 => bX11_goOn_11 (H τ h1 ?_))
    unfold pGo; rw [if_pos y]; exact h2
theorem M_wrongS {e : Nat} (he : 1 ≤ e ∧ e ≤ 5) (h : MRd t n σ s) (H : ∀ τ : MS, XS σ τ → MRd t n τ (pFail s e (kp t n s)) → Q none τ) : R mj_OM d mX11_wrong Q 0 [some (rV 45 0), some (iV (nI e))] [] σ := by
  refine bX11_wrong_0 ⟨fun y => ?_, fun y => ?_⟩
  · have hf := h.z.mp y
    obtain ⟨⟨a1, a2, a3⟩, ⟨b1, b2, b3, b4⟩, c, f⟩ := h
    have p0 := pF_0 (s := s) (e := e) (pl := kp t n s) hf
    have e28 : σ.1 45 0 28 = nI (kp t n s) := (f hf).1.2.1
    refine H _ ((XS.u45 (by omega)).tr (XS.u45 (by omega))) ⟨⟨by simp [uI]; exact a1, fun i hi => by simp [uI]; exact a2 i hi, a3⟩, ⟨by rw [p0.1]; simp [uI], by rw [p0.1]; omega, fun _ => by rw [p0.2]; simp [uI]; exact e28, fun q => by rw [p0.1] at q; omega⟩, ?_, fun q => by rw [p0.1] at q; omega⟩
    have cc := c.km (τ := uI (uI σ 45 0 31 (nI e)) 45 0 32 (σ.1 45 0 28)) ((SB.uI (by simp)).tr (SB.uI (by simp)))
    have r0 : ∀ j, pFail s e (kp t n s) 0 j = s 0 j := fun j => pF_row 0 j (Or.inl (by omega))
    unfold MCt at cc ⊢
    simp only [r0]
    exact cc
  · have hf : ¬ s 30 1 = 0 := fun q => y (h.z.mpr q)
    exact H σ XS.rf (by rw [pFail_f hf]; exact h)
theorem M_numeralS {lo hi : Nat} (hlo : lo ≤ hi) (hh : hi ≤ 99999) (h : MRd t n σ s) (H : ∀ (τ : MS) (v : Int32), XS σ τ → MRd t n τ (pNum t n s lo hi) → ((pNum t n s lo hi) 30 1 = 0 → v = nI (kv t n s) ∧ lo ≤ kv t n s ∧ kv t n s ≤ hi) → Q (some (iV v)) τ) : R mj_OM (d + 1 + 1 + 1 + 1 + 1 + 1) mX11_numeral Q 0 [some (rV 45 0), some (iV (nI lo)), some (iV (nI hi)), none] [] σ := by
  refine bX11_numeral_0 ⟨fun y => ?_, fun y => ?_⟩
  · have hf := h.z.mp y
    have m := (h.2.2.2 hf).1
    have so := m.so
    refine ⟨fun y2 => ?_, fun y2 => ?_⟩
    · have k23 : kd t n s = 23 := so.2.2.1.mp y2
      have bad : (kv t n s < lo ∨ hi < kv t n s) → R mj_OM (d + 1 + 1 + 1 + 1 + 1) mX11_wrong (fun r σ' => R mj_OM (d + 1 + 1 + 1 + 1 + 1 + 1) mX11_numeral Q 46 [some (rV 45 0), some (iV (nI lo)), some (iV (nI hi)), none] (r.toList ++ []) σ') 0 [some (rV 45 0), some (iV (2 : Int32))] [] σ := fun g => by
        have eN : pNum t n s lo hi = pFail s 2 (kp t n s) := by unfold pNum; rw [if_pos hf, if_pos k23, if_pos g]
        have nf := pNum_fail hf eN (by omega)
        refine M_wrongS (e := 2) (by omega) h (fun τ h1 h2 => ?_)
        rw [← eN] at h2
        exact bX11_numeral_46 ⟨fun z => absurd (h2.z.mp z) nf, fun _ => H τ _ h1 h2 (fun q => absurd q nf)⟩
      rcases m.nm k23 with ⟨v1, v2⟩ | ⟨v1, w, w1, w2, w3⟩
      · have c1 : σ.1 45 0 30 < nI lo ↔ kv t n s < lo := by rw [v2]; exact nI_ltI (by omega) (by omega)
        have c2 : σ.1 45 0 30 ≤ nI hi ↔ kv t n s ≤ hi := by rw [v2]; exact nI_leI (by omega) (by omega)
        refine ⟨fun z => bad (Or.inl (c1.mp z)), fun z => ⟨fun z2 => ⟨fun _ => ?_, fun z3 => absurd y z3⟩, fun z2 => bad (Or.inr ?_)⟩⟩
        · rw [c1] at z
          rw [c2] at z2
          have eN : pNum t n s lo hi = pAdv s := by unfold pNum; rw [if_pos hf, if_pos k23, if_neg (by omega)]
          refine M_tokS h hf (fun τ h1 h2 => bX11_numeral_64 (H τ _ h1 (by rw [eN]; exact h2) (fun _ => ⟨v2, by omega, z2⟩)))
        · rw [c2] at z2; omega
      · have c1 : σ.1 45 0 30 < nI lo ↔ w < lo := by rw [w3]; exact nI_ltI (by omega) (by omega)
        have c2 : σ.1 45 0 30 ≤ nI hi ↔ w ≤ hi := by rw [w3]; exact nI_leI (by omega) (by omega)
        have v1' : 99999 < kv t n s := v1
        exact ⟨fun z => bad (Or.inr (by omega)), fun z => ⟨fun z2 => absurd (c2.mp z2) (by omega), fun _ => bad (Or.inr (by omega))⟩⟩
    · have k23 : ¬ kd t n s = 23 := fun e => y2 (so.2.2.1.mpr e)
      have eN : pNum t n s lo hi = pFail s 1 (kp t n s) := by unfold pNum; rw [if_pos hf, if_neg k23]
      have nf := pNum_fail hf eN (by omega)
      refine M_wrongS (e := 1) (by omega) h (fun τ h1 h2 => ?_)
      rw [← eN] at h2
      exact bX11_numeral_22 ⟨fun z => absurd (h2.z.mp z) nf, fun _ => H τ _ h1 h2 (fun q => absurd q nf)⟩
  · have hf : ¬ s 30 1 = 0 := fun q => y (h.z.mpr q)
    exact H σ _ XS.rf (by rw [pN_f hf]; exact h) (fun q => by rw [pN_f hf] at q; exact absurd q hf)
theorem M_pondAtHandS (hN : NB s) (h : MRd t n σ s) (H : ∀ (τ : MS) (p : Nat), XS σ τ → MRd t n τ (pPH t n s) → p ≤ 6 → ((pPH t n s) 30 1 = 0 → gNm s (kv t n s) = some p) → Q (some (iV (nI p))) τ) : R mj_OM (d + 1) mX11_pondAtHand Q 0 [some (rV 45 0), none] [] σ := by
  have pb : ∀ {a p : Nat} (m q : Nat), gNmG s a m q = some p → p < q + m := by
    intro a p m
    induction m with
    | zero => intro q e; exact absurd e (by simp [gNmG])
    | succ m ih =>
      intro q e
      rw [gNmG] at e
      split at e
      · injection e with e; omega
      · have := ih (q + 1) e; omega
  refine bX11_pondAtHand_0 ⟨fun y => ?_, fun y => ?_⟩
  · have hf := h.z.mp y
    obtain ⟨m, F⟩ := h.2.2.2 hf
    have so := m.so
    have hC := h.2.2.1
    refine ⟨fun y2 => ⟨fun z => absurd y z, fun _ => ?_⟩, fun y2 => ?_⟩
    · have k22 : kd t n s = 22 := so.2.1.mp y2
      refine M_fresher (j := 0) (by omega) (bX11_pondAtHand_40 ?_)
      rw [hC.1 0 (by omega), m.o k22]
      refine M_found (s := s) (a := kv t n s) hC.2.2.1 (fun p hp => ⟨F.1 1 p hp (by omega), hN p hp⟩) (kv_22 k22) rfl ?_
      cases hg : gNm s (kv t n s) with
      | none =>
        have hP : pPH t n s = pFail s 4 (kp t n s) := by unfold pPH; rw [if_pos hf, if_pos k22, if_pos hg]
        have nf : ¬ (pPH t n s) 30 1 = 0 := by rw [hP, (pF_0 hf).1]; omega
        refine bX11_pondAtHand_47 ⟨fun z => absurd y z, fun _ => ⟨fun z => absurd rfl z, fun _ => ?_⟩⟩
        refine M_wrongS (e := 4) (by omega) h (fun τ h1 h2 => ?_)
        rw [← hP] at h2
        exact bX11_pondAtHand_69 ⟨fun z => absurd (h2.z.mp z) nf, fun _ => H τ 0 h1 h2 (by omega) (fun q => absurd q nf)⟩
      | some p =>
        have hP : pPH t n s = s := by unfold pPH; rw [if_pos hf, if_pos k22, if_neg (by rw [hg]; simp)]
        have := pb (s 0 0) 0 hg
        have := hC.2.2.1
        refine bX11_pondAtHand_47 ⟨fun z => absurd y z, fun _ => ⟨fun _ => ⟨fun _ => H σ p XS.rf (by rw [hP]; exact h) (by omega) (fun _ => hg), fun z => absurd y z⟩, fun z => absurd z (nI_m1 (by omega))⟩⟩
    · have k22 : ¬ kd t n s = 22 := fun e => y2 (so.2.1.mpr e)
      have hP : pPH t n s = pFail s 1 (kp t n s) := by unfold pPH; rw [if_pos hf, if_neg k22]
      have nf : ¬ (pPH t n s) 30 1 = 0 := by rw [hP, (pF_0 hf).1]; omega
      refine M_wrongS (e := 1) (by omega) h (fun τ h1 h2 => ?_)
      rw [← hP] at h2
      have nz : ¬ τ.1 45 0 31 = 0 := fun z => nf (h2.z.mp z)
      exact bX11_pondAtHand_22 ⟨fun _ => ⟨fun _ => ⟨fun z => absurd z nz, fun _ => H τ 0 h1 h2 (by omega) (fun q => absurd q nf)⟩, fun z => absurd z nz⟩, fun z => absurd z nz⟩
  · have hf : ¬ s 30 1 = 0 := fun q => y (h.z.mpr q)
    have hP : pPH t n s = s := by unfold pPH; rw [if_neg hf]
    exact H σ 0 XS.rf (by rw [hP]; exact h) (by omega) (fun q => by rw [hP] at q; exact absurd q hf)
theorem M_freshS (hN : NB s) (h : MRd t n σ s) (H : ∀ (τ : MS) (v : Int32), XS σ τ → MRd t n τ (pOwnN t n s) → ((pOwnN t n s) 30 1 = 0 → v = nI (kv t n s)) → Q (some (iV v)) τ) : R mj_OM (d + 1 + 1 + 1 + 1 + 1 + 1) mX11_fresh Q 0 [some (rV 45 0), some (rV 48 0), some (iV (nI 7)), some (iV (nI (s 0 0))), none] [] σ := by
  refine bX11_fresh_0 (n1 := 14) rfl (by decide) ⟨fun y => ?_, fun y => ?_⟩
  · have hf := h.z.mp y
    obtain ⟨m, F⟩ := h.2.2.2 hf
    have so := m.so
    have hC := h.2.2.1
    refine ⟨fun y2 => ?_, fun y2 => ?_⟩
    · have k22 : kd t n s = 22 := so.2.1.mp y2
      have e30 : σ.1 45 0 30 = nI (kv t n s) := m.o k22
      rw [e30]
      refine M_found (s := s) (a := kv t n s) hC.2.2.1 (fun p hp => ⟨F.1 1 p hp (by omega), hN p hp⟩) (kv_22 k22) rfl ?_
      cases hg : gNm s (kv t n s) with
      | none =>
        have hP : pOwnN t n s = pAdv s := by unfold pOwnN; rw [if_pos hf, if_pos k22, if_pos hg]
        refine bX11_fresh_35 (n1 := 14) rfl (by decide) ⟨fun _ => ⟨fun _ => ?_, fun z => absurd y z⟩, fun z => absurd rfl z⟩
        exact M_tokS h hf (fun τ h1 h2 => bX11_fresh_63 (n1 := 14) rfl (by decide) (H τ _ h1 (by rw [hP]; exact h2) (fun _ => e30)))
      | some p =>
        have hP : pOwnN t n s = pFail s 3 (kp t n s) := by unfold pOwnN; rw [if_pos hf, if_pos k22, if_neg (by rw [hg]; simp)]
        have nf : ¬ (pOwnN t n s) 30 1 = 0 := by rw [hP, (pF_0 hf).1]; omega
        have := gNm_lt hg
        have := hC.2.2.1
        refine bX11_fresh_35 (n1 := 14) rfl (by decide) ⟨fun z => absurd z (nI_m1 (by omega)), fun _ => M_wrongS (e := 3) (by omega) h (fun τ h1 h2 => ?_)⟩
        rw [← hP] at h2
        exact bX11_fresh_44 (n1 := 14) rfl (by decide) ⟨fun z => absurd (h2.z.mp z) nf, fun _ => H τ _ h1 h2 (fun q => absurd q nf)⟩
    · have k22 : ¬ kd t n s = 22 := fun e => y2 (so.2.1.mpr e)
      have hP : pOwnN t n s = pFail s 1 (kp t n s) := by unfold pOwnN; rw [if_pos hf, if_neg k22]
      have nf : ¬ (pOwnN t n s) 30 1 = 0 := by rw [hP, (pF_0 hf).1]; omega
      refine M_wrongS (e := 1) (by omega) h (fun τ h1 h2 => ?_)
      rw [← hP] at h2
      exact bX11_fresh_22 (n1 := 14) rfl (by decide) ⟨fun z => absurd (h2.z.mp z) nf, fun _ => H τ _ h1 h2 (fun q => absurd q nf)⟩
  · have hf : ¬ s 30 1 = 0 := fun q => y (h.z.mpr q)
    exact H σ 0 XS.rf (by rw [pO_f hf]; exact h) (fun q => by rw [pO_f hf] at q; exact absurd q hf)
/-- a write behind all that counts, or in a fault -/
theorem MRd.fw {f i : Nat} {v : Int32} (h : MRd t n σ s) (hf : 1 ≤ f) (hi : s 30 1 = 0 → hF f + mLn s f ≤ i) : MRd t n (uI σ (47 + f) 0 i v) s := by
  have y : ∀ k j, k ≠ 47 + f → (uI σ (47 + f) 0 i v).1 k 0 j = σ.1 k 0 j := fun k j hk => by simp only [uI]; rw [if_neg (by omega)]
  obtain ⟨⟨a1, a2, a3⟩, ⟨b1, b2, b3, b4⟩, c0, e⟩ := h
  refine ⟨⟨by rw [y 45 26 (by omega)]; exact a1, fun j hj => by rw [y 46 j (by omega)]; exact a2 j hj, a3⟩, ⟨by rw [y 45 31 (by omega)]; exact b1, b2, fun q => by rw [y 45 32 (by omega)]; exact b3 q, fun q => by rw [y 45 32 (by omega)]; exact b4 q⟩, ⟨fun j hj => by rw [y 47 _ (by omega)]; exact c0.1 j hj, by rw [y 47 17 (by omega)]; exact c0.2.1, c0.2.2⟩, fun q => ?_⟩
  obtain ⟨e1, f1, f2, f3, f4, f5, f6, f7⟩ := e q
  refine ⟨?_, fun g j h1 h2 => ?_, by rw [y 47 15 (by omega), y 47 16 (by omega)]; exact f2, by rw [y 45 24 (by omega)]; exact f3, by rw [y 45 25 (by omega)]; exact f4, by rw [y 45 35 (by omega)]; exact f5, by rw [y 45 36 (by omega)]; exact f6, by rw [y 47 14 (by omega)]; exact f7⟩
  · unfold MTk at e1 ⊢
    rw [y 45 27 (by omega), y 45 28 (by omega), y 45 29 (by omega), y 45 30 (by omega)]; exact e1
  · by_cases gf : g = f
    · subst gf
      have := hi q
      simp only [uI]; rw [if_neg (by omega)]; exact f1 g j h1 h2
    · rw [y (47 + g) _ (by omega)]; exact f1 g j h1 h2
/-- which count a field's places follow -/
def oF (f : Nat) : Nat := if f ≤ 5 then 0 else if f ≤ 8 then 1 else if f ≤ 11 then 2 else if f ≤ 14 then 3 else if f ≤ 16 then 4 else 9
theorem mLn_o {s : CA} : ∀ f, 1 ≤ f → f ≤ 16 → mLn s f = s 0 (oF f)
  | 0, h, _ => by omega
  | 1, _, _ => rfl | 2, _, _ => rfl | 3, _, _ => rfl | 4, _, _ => rfl | 5, _, _ => rfl | 6, _, _ => rfl | 7, _, _ => rfl | 8, _, _ => rfl
  | 9, _, _ => rfl | 10, _, _ => rfl | 11, _, _ => rfl | 12, _, _ => rfl | 13, _, _ => rfl | 14, _, _ => rfl | 15, _, _ => rfl | 16, _, _ => rfl
  | f + 17, _, h => by omega
theorem mLn_h {s s' : CA} (h8 : s' 0 8 = s 0 8) : ∀ f, 17 ≤ f → mLn s' f = mLn s f
  | 17, _ => rfl | 18, _ => rfl | 19, _ => h8 | 20, _ => h8
  | f + 21, _ => rfl
  | 0, h => by omega
  | 1, h => by omega | 2, h => by omega | 3, h => by omega | 4, h => by omega | 5, h => by omega | 6, h => by omega | 7, h => by omega | 8, h => by omega
  | 9, h => by omega | 10, h => by omega | 11, h => by omega | 12, h => by omega | 13, h => by omega | 14, h => by omega | 15, h => by omega | 16, h => by omega
/-- one more of a kind is told -/
theorem MRd.cnt {J : Nat} {s' : CA} (h : MRd t n σ s) (hf : s 30 1 = 0) (hJ : J < 5) (e30 : ∀ j, s' 30 j = s 30 j) (e0 : ∀ j, j ≠ J → s' 0 j = s 0 j) (eJ : s' 0 J = s 0 J + 1) (hb : s' 0 0 ≤ 7 ∧ s' 0 1 ≤ 3 ∧ s' 0 2 ≤ 10 ∧ s' 0 3 ≤ 12 ∧ s' 0 4 ≤ 8) (hr : ∀ f j, 1 ≤ f → f ≤ 20 → ¬ (oF f = J ∧ j = s 0 J) → s' f j = s f j) (hc : ∀ f, 1 ≤ f → f ≤ 16 → oF f = J → σ.1 (47 + f) 0 (hF f + s 0 J) = nI (s' f (s 0 J))) : MRd t n (uI σ 47 0 (9 + J) (nI (s 0 J + 1))) s' := by
  have y : ∀ k j, ¬ (k = 47 ∧ j = 9 + J) → (uI σ 47 0 (9 + J) (nI (s 0 J + 1))).1 k 0 j = σ.1 k 0 j := fun k j hk => by simp only [uI]; rw [if_neg (by omega)]
  obtain ⟨⟨a1, a2, a3⟩, ⟨b1, b2, b3, b4⟩, c0, e⟩ := h
  obtain ⟨e1, f1, f2, f3, f4, f5, f6, f7⟩ := e hf
  refine ⟨⟨by rw [y 45 26 (by omega)]; exact a1, fun j hj => by rw [y 46 j (by omega)]; exact a2 j hj, a3⟩, ⟨by rw [y 45 31 (by omega), e30]; exact b1, by rw [e30]; exact b2, fun q => by rw [e30] at q; exact absurd hf q, fun q => by rw [y 45 32 (by omega)]; exact b4 hf⟩, ⟨fun j hj => ?_, by rw [y 47 17 (by omega), e0 8 (by omega)]; exact c0.2.1, hb.1, hb.2.1, hb.2.2.1, hb.2.2.2.1, hb.2.2.2.2, by rw [e0 8 (by omega)]; exact c0.2.2.2.2.2.2.2⟩, fun q => ⟨?_, fun g j h1 h2 => ?_, ?_, ?_, ?_, ?_, ?_, ?_⟩⟩
  · by_cases g : j = J
    · subst g; rw [eJ]; simp [uI]
    · rw [y 47 _ (by omega), e0 j g]; exact c0.1 j hj
  · rw [e30]
    unfold MTk at e1 ⊢
    rw [y 45 27 (by omega), y 45 28 (by omega), y 45 29 (by omega), y 45 30 (by omega)]; exact e1
  · have g20 := mLn_f h1
    rw [y (47 + g) _ (by omega)]
    by_cases g16 : g ≤ 16
    · rw [mLn_o g (by omega) g16] at h1
      by_cases o : oF g = J
      · rw [o, eJ] at h1
        by_cases gj : j = s 0 J
        · subst gj; exact hc g (by omega) g16 o
        · rw [hr g j (by omega) g20 (by omega)]
          exact f1 g j (by rw [mLn_o g (by omega) g16, o]; omega) h2
      · rw [e0 _ o] at h1
        rw [hr g j (by omega) g20 (by omega)]
        exact f1 g j (by rw [mLn_o g (by omega) g16]; exact h1) h2
    · have o : oF g = 9 := by unfold oF; rw [if_neg (by omega), if_neg (by omega), if_neg (by omega), if_neg (by omega), if_neg (by omega)]
      rw [mLn_h (e0 8 (by omega)) g (by omega)] at h1
      rw [hr g j (by omega) g20 (by omega)]
      exact f1 g j h1 h2
  · rw [y 47 15 (by omega), y 47 16 (by omega), e0 6 (by omega), e0 7 (by omega)]; exact f2
  · unfold FT at f3 ⊢
    rw [y 45 24 (by omega), e30, e30, e30, e30, e30]
    exact ⟨f3.1, fun j h1 h2 => by rw [e30]; exact f3.2 j h1 h2⟩
  · rw [y 45 25 (by omega), e30]; exact f4
  · rw [y 45 35 (by omega), e30]; exact f5
  · rw [y 45 36 (by omega), e30]; exact f6
  · rw [y 47 14 (by omega), e30]; exact f7
/-- where a line's body ends -/
def MEn (t : Nat → Nat) (n : Nat) (σ : MS) (s : CA) : Prop := (σ.1 45 0 31 = nI (s 30 1) ∧ s 30 1 ≤ 5 ∧ (¬ s 30 1 = 0 → σ.1 45 0 32 = nI (s 30 2))) ∧ (s 30 1 = 0 → MRd t n σ s)
theorem MRd.en (h : MRd t n σ s) : MEn t n σ s := ⟨⟨h.2.1.1, h.2.1.2.1, h.2.1.2.2.1⟩, fun _ => h⟩
theorem MRd.enF {u u' : CA} {τ : MS} (h : MRd t n σ u) (hf : ¬ u 30 1 = 0) (e1 : u' 30 1 = u 30 1) (e2 : u' 30 2 = u 30 2) (h1 : τ.1 45 0 31 = σ.1 45 0 31) (h2 : τ.1 45 0 32 = σ.1 45 0 32) : MEn t n τ u' := ⟨⟨by rw [h1, e1]; exact h.2.1.1, by rw [e1]; exact h.2.1.2.1, fun _ => by rw [h2, e2]; exact h.2.1.2.2.1 hf⟩, fun q => absurd (e1 ▸ q) hf⟩
theorem MEn.z (h : MEn t n σ s) : σ.1 45 0 31 = 0 ↔ s 30 1 = 0 := by
  have := h.1.2.1
  rw [h.1.1, show (0 : Int32) = nI 0 from rfl, nI_inj (by omega) (by omega)]
theorem M_lnEnd {x1 : Int32} (h : MEn t n σ s) (H : ∀ τ, XR σ τ → MEn t n τ (pEnd (pTake t n s 24)) → Q none τ) : ((σ.1 45 0 31 = 0 → R mj_OM (d + 1 + 1 + 1 + 1 + 1) mX11_isSign (fun r σ' => R mj_OM (d + 1 + 1 + 1 + 1 + 1 + 1) mX11_line Q 455 [some (rV 45 0), some (iV x1), none, none, none] (r.toList ++ []) σ') 0 [some (rV 45 0), some (iV (59 : Int32))] [] σ) ∧ (¬ σ.1 45 0 31 = 0 → Q none σ)) := by
  refine ⟨fun y => ?_, fun y => ?_⟩
  · have hf := h.z.mp y
    have hm := h.2 hf
    refine M_isSign (K := 24) (by omega) hm (fun v hv => ?_)
    by_cases k : kd t n s = 24
    · have v0 : ¬ v = 0 := fun e => (hv.mp e) ⟨hf, k⟩
      have eT : pTake t n s 24 = pAdv s := by unfold pTake; rw [if_pos hf, if_pos k]
      refine bX11_line_455 ⟨fun _ => M_tok hm hf (fun τ h1 h2 => bX11_line_470 (H _ (h1.tr (XR.u45 (by omega))) ?_)), fun e => absurd e v0⟩
      have fa : pAdv s 30 1 = 0 := by rw [pAdv_1]; exact hf
      have e25 : τ.1 45 0 25 = nI (pAdv s 30 8) := (h2.2.2.2 fa).2.2.2.2.1
      rw [e25, nI_1, eT]
      unfold pEnd
      rw [if_pos fa]
      exact (h2.u36 fa (Or.inr (Or.inr ⟨rfl, rfl⟩))).en
    · have v0 : v = 0 := hv.mpr (fun e => k e.2)
      have eT : pTake t n s 24 = pFail s 1 (kp t n s) := by unfold pTake; rw [if_pos hf, if_neg k]
      have nf : ¬ pFail s 1 (kp t n s) 30 1 = 0 := by rw [(pF_0 hf).1]; omega
      refine bX11_line_455 ⟨fun e => absurd v0 e, fun _ => M_wrong (e := 1) (by omega) hm (fun τ h1 h2 => bX11_line_463 (H _ (h1.tr (XR.u45 (by omega))) ?_))⟩
      rw [eT]
      unfold pEnd
      rw [if_neg nf]
      exact h2.enF nf rfl rfl (by simp [uI]) (by simp [uI])
  · have hf : ¬ s 30 1 = 0 := fun q => y (h.z.mpr q)
    refine H σ XR.rf ?_
    rw [pT_f hf]
    unfold pEnd
    rw [if_neg hf]; exact h
theorem pPH_0 (h : pPH t n s 30 1 = 0) : s 30 1 = 0 ∧ kd t n s = 22 ∧ pPH t n s = s ∧ gNm s (kv t n s) = some (pd t n s) := by
  unfold pPH at h ⊢
  by_cases hf : s 30 1 = 0
  · rw [if_pos hf] at h ⊢
    by_cases k : kd t n s = 22
    · rw [if_pos k] at h ⊢
      cases g : gNm s (kv t n s) with
      | none => rw [if_pos g, (pF_0 hf).1] at h; omega
      | some p => exact ⟨hf, k, if_neg (by simp), by unfold pd; rw [g]; rfl⟩
    · rw [if_neg k, (pF_0 hf).1] at h; omega
  · rw [if_neg hf] at h; exact absurd h hf
theorem pPH_f (h : ¬ pPH t n s 30 1 = 0) : pPond t n s = pPH t n s ∧ ¬ pPond t n s 30 1 = 0 := by
  have e : pPond t n s = pPH t n s := by rw [pPond_eq]; unfold pGo; rw [if_neg h]
  exact ⟨e, by rw [e]; exact h⟩
theorem pGo_f (h : ¬ s 30 1 = 0) : pGo s = s := by unfold pGo; rw [if_neg h]
theorem pGo_0 (h : s 30 1 = 0) : pGo s = pAdv s := by unfold pGo; rw [if_pos h]
theorem M_lockWith {p : Nat} (h : MRd t n σ s) (hL : ∀ l, l < s 0 1 → s 6 l < 7) (hp : p ≤ 6) (H : ∀ v : Int32, (s 30 1 = 0 → v = mOpt (qLk s p)) → Q (some (iV v)) σ) : R mj_OM (d + 1) mX11_lockWith Q 0 [some (rV 45 0), some (iV (nI p)), none] [] σ := by
  have hC := h.2.2.1
  have e1 : σ.1 47 0 (9 + 1) = nI (s 0 1) := hC.1 1 (by omega)
  have h3 := hC.2.2.2.1
  have L : ∀ (m k : Nat), k + m = s 0 1 → (s 30 1 = 0 → qLkG s p m k = qLk s p) → R mj_OM (d + 1) mX11_lockWith Q 2 [some (rV 45 0), some (iV (nI p)), some (iV (nI k))] [] σ := by
    intro m
    induction m with
    | zero =>
      intro k hk hq
      refine bX11_lockWith_2 (M_fresher (j := 1) (by omega) (bX11_lockWith_8 ⟨fun _ => H _ (fun q => by rw [← hq q]; rfl), fun z => ?_⟩))
      rw [e1, nI_le2 (by omega) (by omega)] at z; omega
    | succ m ih =>
      intro k hk hq
      refine bX11_lockWith_2 (M_fresher (j := 1) (by omega) (bX11_lockWith_8 ⟨fun z => ?_, fun _ => ?_⟩))
      · rw [e1, nI_le2 (by omega) (by omega)] at z; omega
      · rw [show (3 : Int32) = nI 3 from rfl, nI_add, cl (show 3 + k < 6 by omega) (by omega)]
        have e53 : s 30 1 = 0 → σ.1 53 0 (3 + k) = nI (s 6 k) := fun q => (h.2.2.2 q).2.1 6 k (show k < s 0 1 by omega) (by omega)
        refine ⟨vin (show 3 + k < 6 by omega) (by omega) (by decide), fun z => ?_, fun z => H _ (fun q => ?_)⟩
        · rw [nI_1]
          refine ih (k + 1) (by omega) (fun q => ?_)
          rw [← hq q, qLkG, if_neg]
          intro e
          exact z (by rw [e53 q, e])
        · rw [← hq q, qLkG, if_pos]
          · rfl
          · rw [e53 q] at z
            exact (nI_inj (by have := hL k (by omega); omega) (by omega)).mp z
  exact bX11_lockWith_0 (L (s 0 1) 0 (by omega) (fun _ => rfl))
end Ra
