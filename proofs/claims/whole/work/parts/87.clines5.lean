section Pr
variable {d : Nat} {Q : Option MV → MS → Prop} {σ : MS} {t : Nat → Nat} {n T b : Nat} {s : CA}
theorem SRd.cell {kd0 c r f v : Nat} (h : SRd t n T b σ s) (hf : s 30 1 = 0) (hc : (kd0 = 20 ∧ f = 5 ∧ c = r ∧ r < s 0 0) ∨ (kd0 = 3 ∧ c = 12 ∧ f = 0 ∧ r = 6) ∨ (kd0 = 3 ∧ c = 13 ∧ f = 0 ∧ r = 7)) : SRd t n T b (uI σ kd0 b c (nI v)) (pS s f r v) := by
  obtain ⟨⟨a1, a2, a3, a4⟩, ⟨c1, c2, c3, c4⟩, ⟨kk, k1, k2, k3⟩, i, ⟨L, l1, l2⟩, m⟩ := h
  have M := m hf
  have y : ∀ q j i', ¬ (q = kd0 ∧ i' = b ∧ j = c) → (uI σ kd0 b c (nI v)).1 q i' j = σ.1 q i' j := fun q j i' hn => by
    simp only [uI]; rw [if_neg hn]
  have r30 : ∀ j, pS s f r v 30 j = s 30 j := fun j => by simp only [pS]; rw [if_neg (by omega)]
  have r0 : ∀ j, j ≠ 6 → j ≠ 7 → pS s f r v 0 j = s 0 j := fun j h1 h2 => by simp only [pS]; rw [if_neg (by omega)]
  refine ⟨⟨a1, a2, fun q hq => by rw [y 13 q 0 (by omega), y 14 q 0 (by omega), y 15 q 0 (by omega)]; exact a3 q hq, by rw [y 2 5 0 (by omega), y 2 0 0 (by omega)]; exact a4⟩, ⟨by rw [r30, y 1 2 0 (by omega)]; exact c1, by rw [r30]; exact c2, fun q => by rw [r30] at q; exact absurd hf q, fun _ => by rw [y 1 3 0 (by omega)]; exact c4 hf⟩, ⟨kk, k1, by rw [y 2 6 0 (by omega)]; exact k2, fun _ => by rw [r30]; exact k3 hf⟩, ⟨by rw [r0 0 (by omega) (by omega)]; exact i.1, by rw [r0 0 (by omega) (by omega), y 3 0 b (by omega)]; exact i.2⟩, ⟨L, l1, by rw [y 5 0 b (by omega)]; exact l2⟩, fun _ => ⟨fun g j hj => ?_, fun i hi => ?_, fun mm hm => ?_, ?_, ?_, ?_, ?_, ?_, ?_⟩⟩
  · have eL : cL (pS s f r v) g = cL s g := by
      unfold cL
      simp only [r0 0 (by omega) (by omega), r0 1 (by omega) (by omega), r0 2 (by omega) (by omega), r0 4 (by omega) (by omega)]
    rw [eL] at hj
    by_cases g0 : g = f ∧ j = r
    · obtain ⟨rfl, rfl⟩ := g0
      rcases hc with ⟨rfl, rfl, rfl, h1⟩ | ⟨rfl, rfl, rfl, rfl⟩ | ⟨rfl, rfl, rfl, rfl⟩ <;> simp [cCv, uI, pS]
    · have ef : pS s f r v g j = s g j := by simp only [pS]; rw [if_neg g0]
      rw [ef, ← M.1 g j hj]
      unfold cCv
      split <;> first | rfl | (refine y _ _ _ ?_; rcases hc with ⟨rfl, rfl, rfl, h1⟩ | ⟨rfl, rfl, rfl, rfl⟩ | ⟨rfl, rfl, rfl, rfl⟩ <;> omega) | (refine y _ _ _ ?_; omega)
  · rw [r0 8 (by omega) (by omega)] at hi
    have := M.2.1 i hi
    rw [y 30 i b (by omega), y 31 i b (by omega)]
    have e19 : pS s f r v 19 i = s 19 i := by simp only [pS]; rw [if_neg (by omega)]
    have e20 : pS s f r v 20 i = s 20 i := by simp only [pS]; rw [if_neg (by omega)]
    rw [e19, e20]
    exact this
  · obtain ⟨w, w1, w2, w3⟩ := M.2.2.1 mm hm
    refine ⟨w, by rw [y 24 mm b (by omega)]; exact w1, w2, fun q => ?_⟩
    rw [w3 q]
    have e : ∀ g j, 12 ≤ g → pS s f r v g j = s g j := fun g j hg => by simp only [pS]; rw [if_neg (by omega)]
    simp only [r0 3 (by omega) (by omega), e 12 _ (by omega), e 13 _ (by omega), e 14 _ (by omega)]
  · rw [r30, y 1 4 0 (by omega)]; exact M.2.2.2.1
  · rw [r30, y 1 5 0 (by omega)]; exact M.2.2.2.2.1
  · rw [r30, y 1 6 0 (by omega)]; exact M.2.2.2.2.2.1
  · rw [r30, y 1 7 0 (by omega)]; exact M.2.2.2.2.2.2.1
  · rw [r30, y 1 8 0 (by omega)]; exact M.2.2.2.2.2.2.2.1
  · rw [r30, y 1 9 0 (by omega)]; exact M.2.2.2.2.2.2.2.2
/-- in a fault a canal's own number may be anything -/
theorem SRd.cellF {c : Nat} {v : Int32} (h : SRd t n T b σ s) (hf : ¬ s 30 1 = 0) (hc : c = 12 ∨ c = 13) : SRd t n T b (uI σ 3 b c v) s := by
  obtain ⟨⟨a1, a2, a3, a4⟩, ⟨c1, c2, c3, c4⟩, ⟨kk, k1, k2, k3⟩, i, ⟨L, l1, l2⟩, m⟩ := h
  have y : ∀ q j i', ¬ (q = 3 ∧ i' = b ∧ j = c) → (uI σ 3 b c v).1 q i' j = σ.1 q i' j := fun q j i' hn => by
    simp only [uI]; rw [if_neg hn]
  exact ⟨⟨a1, a2, fun q hq => by rw [y 13 q 0 (by omega), y 14 q 0 (by omega), y 15 q 0 (by omega)]; exact a3 q hq, by rw [y 2 5 0 (by omega), y 2 0 0 (by omega)]; exact a4⟩, ⟨by rw [y 1 2 0 (by omega)]; exact c1, c2, fun q => by rw [y 1 3 0 (by omega)]; exact c3 q, fun q => absurd q hf⟩, ⟨kk, k1, by rw [y 2 6 0 (by omega)]; exact k2, fun q => absurd q hf⟩, ⟨i.1, by rw [y 3 0 b (by omega)]; exact i.2⟩, ⟨L, l1, by rw [y 5 0 b (by omega)]; exact l2⟩, fun q => absurd q hf⟩
theorem kd_30 {j v : Nat} (hj : j ≠ 0) : kd t n (pS s 30 j v) = kd t n s ∧ kv t n (pS s 30 j v) = kv t n s ∧ kp t n (pS s 30 j v) = kp t n s := by
  have : pS s 30 j v 30 0 = s 30 0 := by simp only [pS]; rw [if_neg (by omega)]
  exact ⟨by unfold kd; rw [this], by unfold kv; rw [this], by unfold kp; rw [this]⟩
theorem S_readJam (hT : TF t n T) (h : SRd t n T b σ s) (hf : s 30 1 = 0) (H : ∀ τ : MS, SB (rdL b) σ τ → SRd t n T b τ (pJamL t n s) → Q none τ) : R mj_OC (d + 1 + 1 + 1) mX7_readJam Q 0 [some (rV 1 0)] [] σ := by
  have b2 : b < 2 := h.1.2.1
  have hb := h.1.1
  have hu := h.u30 (c := 6) (r := 3) (v := 1) hf (by unfold rdP; omega)
  refine bX7_readJam_0 ?_
  rw [show σ.2.2 1 0 = b from hb]
  refine S_number (lo := 0) (hi := 100) hT (by omega) (by omega) hu (fun τ v h1 h2 h3 => bX7_readJam_16 b2 (H _ (((SB.uI (by simp [rdL])).tr h1).tr (SB.uI (by simp [rdL]))) ?_))
  by_cases f0 : pNum t n (pS s 30 3 1) 0 100 30 1 = 0
  · unfold pJamL
    rw [if_pos f0, (h3 f0).1, (kd_30 (by omega)).2.1]
    exact h2.cell f0 (Or.inr (Or.inl ⟨rfl, rfl, rfl, rfl⟩))
  · unfold pJamL
    rw [if_neg f0]
    exact h2.cellF f0 (Or.inl rfl)
theorem S_readSeed (hT : TF t n T) (h : SRd t n T b σ s) (hf : s 30 1 = 0) (H : ∀ τ : MS, SB (rdL b) σ τ → SRd t n T b τ (pSeedL t n s) → Q none τ) : R mj_OC (d + 1 + 1 + 1) mX7_readSeed Q 0 [some (rV 1 0)] [] σ := by
  have b2 : b < 2 := h.1.2.1
  have hb := h.1.1
  have hu := h.u30 (c := 7) (r := 4) (v := 1) hf (by unfold rdP; omega)
  refine bX7_readSeed_0 ?_
  rw [show σ.2.2 1 0 = b from hb]
  refine S_number (lo := 0) (hi := 99999) hT (by omega) (by omega) hu (fun τ v h1 h2 h3 => bX7_readSeed_16 b2 (H _ (((SB.uI (by simp [rdL])).tr h1).tr (SB.uI (by simp [rdL]))) ?_))
  by_cases f0 : pNum t n (pS s 30 4 1) 0 99999 30 1 = 0
  · unfold pSeedL
    rw [if_pos f0, (h3 f0).1, (kd_30 (by omega)).2.1]
    exact h2.cell f0 (Or.inr (Or.inr ⟨rfl, rfl, rfl, rfl⟩))
  · unfold pSeedL
    rw [if_neg f0]
    exact h2.cellF f0 (Or.inr rfl)
theorem S_readSpring (hT : TF t n T) (h : SRd t n T b σ s) (hV : CV s) (hm : s 30 11 < 2 ^ 31) (H : ∀ τ : MS, SB (rdL b) σ τ → SRd t n T b τ (pSprL t n s) → Q none τ) : R mj_OC (d + 1 + 1 + 1 + 1) mX7_readSpring Q 0 [some (rV 1 0), none, none, none] [] σ := by
  have b2 : b < 2 := h.1.2.1
  have np := hV.np
  refine bX7_readSpring_0 (S_place hT h (fun pl hpl => bX7_readSpring_7 (S_toldPond hT h hV.nb' (fun τ v h1 h2 h3' => ?_))))
  have K : ∀ υ : MS, SB (rdL b) σ υ → SRd t n T b υ (pSpN t n s) → (pSpN t n s 30 1 = 0 → v = nI (pd t n s) ∧ pd t n s < s 0 0) → R mj_OC (d + 1 + 1 + 1) mX7_number (fun r σ' => R mj_OC (d + 1 + 1 + 1 + 1) mX7_readSpring Q 45 [some (rV 1 0), some (iV (nI pl)), some (iV v), none] (r.toList ++ []) σ') 0 [some (rV 1 0), some (iV (0 : Int32)), some (iV (9 : Int32)), none, none] [] υ := by
    intro υ u1 u2 u3
    refine S_number (lo := 0) (hi := 9) hT (by omega) (by omega) u2 (fun υ1 v1 w1 w2 w3 => bX7_readSpring_45 ⟨fun z => ?_, fun z => ⟨by rw [w2.1.1]; exact b2, ?_⟩⟩)
    · refine H υ1 (u1.tr w1) ?_
      unfold pSprL pAddS
      rw [if_neg (fun e => z (w2.z.mpr e))]
      exact w2
    · have f1 := w2.z.mp z
      have f0 := pN_0 f1
      obtain ⟨ev, plt⟩ := u3 f0
      have M := w2.2.2.2.2.2 f1
      have e5 : υ1.1 1 0 5 = nI (s 30 11) := by
        have := M.2.2.2.2.1
        rw [pN_row 30 11 (by omega), pSpN_row 30 11 (by omega)] at this
        exact this
      rw [w2.1.1, ev, (w3 f1).1, e5, bit_or (by omega), cl (show pd t n s < 7 by omega) (by omega)]
      refine ⟨vin (show pd t n s < 7 by omega) (by omega) (by decide), H _ (((u1.tr w1).tr (SB.uI (by simp [rdL]))).tr (SB.uI (by simp [rdL]))) ?_⟩
      unfold pSprL pAddS
      rw [if_pos f1]
      have a := w2.u30 (c := 5) (r := 11) (v := s 30 11 ||| 2 ^ pd t n s) f1 (by unfold rdP; omega)
      have c := a.cell (kd0 := 20) (c := pd t n s) (r := pd t n s) (f := 5) (v := kv t n (pSpN t n s)) (by simp only [pS]; rw [if_neg (by omega)]; exact f1) (Or.inl ⟨rfl, rfl, rfl, by simp only [pS]; rw [if_neg (by omega), pN_row 0 0 (by omega), pSpN_row 0 0 (by omega)]; exact plt⟩)
      have ee : pS (pS (pNum t n (pSpN t n s) 0 9) 5 (pd t n s) (kv t n (pSpN t n s))) 30 11 (pNum t n (pSpN t n s) 0 9 30 11 ||| 2 ^ pd t n s) = pS (pS (pNum t n (pSpN t n s) 0 9) 30 11 (s 30 11 ||| 2 ^ pd t n s)) 5 (pd t n s) (kv t n (pSpN t n s)) := by
        rw [pN_row 30 11 (by omega), pSpN_row 30 11 (by omega)]
        funext g j
        simp only [pS]
        by_cases g1 : g = 30 ∧ j = 11
        · obtain ⟨rfl, rfl⟩ := g1
          simp
        · simp [g1]
      rw [ee]
      exact c
  refine bX7_readSpring_12 ⟨fun z => ?_, fun z => ?_⟩
  · have nf : ¬ pPond t n s 30 1 = 0 := fun e => z (h2.z.mpr e)
    exact K τ h1 (by rw [pSpN_f nf]; exact h2) (fun q => by rw [pSpN_f nf] at q; exact absurd q nf)
  · have f0 := h2.z.mp z
    obtain ⟨hf, k22, hg, eP⟩ := pPond_0 f0
    obtain ⟨p, hp, ev⟩ := h3' f0
    rw [hg] at hp
    injection hp with hp
    rw [← hp] at ev
    have plt := gNm_lt hg
    have M := h2.2.2.2.2.2 f0
    have e5 : τ.1 1 0 5 = nI (s 30 11) := by
      have := M.2.2.2.2.1
      rw [pPo_row 30 11 (by omega)] at this
      exact this
    have K' := K
    subst ev
    have K' := K
    have cc : ((τ.1 1 0 5 >>> (nI (pd t n s) &&& 31)) &&& 1 = (1 : Int32)) ↔ (s 30 11).testBit (pd t n s) = true := by
      rw [bt_sh (by omega), e5, bt_nI (by omega)]
    refine ⟨fun y => ?_, fun y => ?_⟩
    · rw [cc] at y
      have eL : pSpN t n s = pAdv s := by unfold pSpN; rw [if_pos hf, if_pos k22, if_neg (by rw [hg]; simp), if_neg y]
      exact K' τ h1 (by rw [eL, ← eP]; exact h2) (fun _ => ⟨rfl, plt⟩)
    · rw [cc] at y
      have eL : pSpN t n s = pFail s 3 (kp t n s) := by unfold pSpN; rw [if_pos hf, if_pos k22, if_neg (by rw [hg]; simp), if_pos y]
      have nf : ¬ pSpN t n s 30 1 = 0 := by rw [eL, (pF_0 hf).1]; omega
      rw [hpl hf] at K' ⊢
      refine S_fail (e := 3) (by omega) h2 (fun υ u1 u2 => bX7_readSpring_38 (K' υ (h1.tr u1) ?_ (fun q => absurd q nf)))
      rw [eL]
      exact SRd.late hf (by omega) f0 (pPo_row 0 0 (by omega)) u2
end Pr
