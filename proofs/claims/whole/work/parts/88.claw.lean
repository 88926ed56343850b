section Ps
variable {d : Nat} {Q : Option MV → MS → Prop} {σ : MS} {t : Nat → Nat} {n T b : Nat} {s : CA}
theorem SRd.cell3 {kd0 c r f v : Nat} (h : SRd t n T b σ s) (hf : s 30 1 = 0) (hc : (kd0 = 32 ∧ f = 17 ∧ c = r ∧ r < 3) ∨ (kd0 = 33 ∧ f = 18 ∧ c = r ∧ r < 3)) : SRd t n T b (uI σ kd0 b c (nI v)) (pS s f r v) := by
  obtain ⟨⟨a1, a2, a3, a4⟩, ⟨c1, c2, c3, c4⟩, ⟨kk, k1, k2, k3⟩, i, ⟨L, l1, l2⟩, m⟩ := h
  have M := m hf
  have y : ∀ q j i', ¬ (q = kd0 ∧ i' = b ∧ j = c) → (uI σ kd0 b c (nI v)).1 q i' j = σ.1 q i' j := fun q j i' hn => by
    simp only [uI]; rw [if_neg hn]
  have r30 : ∀ j, pS s f r v 30 j = s 30 j := fun j => by simp only [pS]; rw [if_neg (by omega)]
  have r0 : ∀ j, j ≠ 6 → j ≠ 7 → pS s f r v 0 j = s 0 j := fun j h1 h2 => by simp only [pS]; rw [if_neg (by omega)]
  refine ⟨⟨a1, a2, fun q hq => by rw [y 13 q 0 (by omega), y 14 q 0 (by omega), y 15 q 0 (by omega)]; exact a3 q hq, by rw [y 2 5 0 (by omega), y 2 0 0 (by omega)]; exact a4⟩, ⟨by rw [r30, y 1 2 0 (by omega)]; exact c1, by rw [r30]; exact c2, fun q => by rw [r30] at q; exact absurd hf q, fun _ => by rw [y 1 3 0 (by omega)]; exact c4 hf⟩, ⟨kk, k1, by rw [y 2 6 0 (by omega)]; exact k2, fun _ => by rw [r30]; exact k3 hf⟩, ⟨by rw [r0 0 (by omega) (by omega)]; exact i.1, by rw [r0 0 (by omega) (by omega), y 3 0 b (by omega)]; exact i.2⟩, ⟨L, l1, by rw [y 5 0 b (by omega)]; exact l2⟩, fun _ => ⟨fun g j hj => ?_, fun i hi => ?_, fun mm hm => ?_, ?_, ?_, ?_, ?_, ?_, ?_⟩⟩
  · have eL : cL (pS s f r v) g = cL s g := by
      unfold cL
      simp only [r0 0 (by omega) (by omega), r0 1 (by omega) (by omega), r0 2 (by omega) (by omega), r0 4 (by omega) (by omega)]
    rw [eL] at hj
    by_cases g0 : g = f ∧ j = r
    · obtain ⟨rfl, rfl⟩ := g0
      rcases hc with ⟨rfl, rfl, rfl, h1⟩ | ⟨rfl, rfl, rfl, h1⟩ <;> simp [cCv, uI, pS]
    · have ef : pS s f r v g j = s g j := by simp only [pS]; rw [if_neg g0]
      rw [ef, ← M.1 g j hj]
      unfold cCv
      split <;> first | rfl | (refine y _ _ _ ?_; rcases hc with ⟨rfl, rfl, rfl, h1⟩ | ⟨rfl, rfl, rfl, h1⟩ <;> omega) | (refine y _ _ _ ?_; omega)
  · rw [r0 8 (by omega) (by omega)] at hi
    have := M.2.1 i hi
    rw [y 30 i b (by omega), y 31 i b (by omega)]
    have e19 : pS s f r v 19 i = s 19 i := by simp only [pS]; rw [if_neg (by omega)]
    have e20 : pS s f r v 20 i = s 20 i := by simp only [pS]; rw [if_neg (by omega)]
    rw [e19, e20]
    exact this
  · obtain ⟨w, w1, w2, w3⟩ := M.2.2.1 mm hm
    refine ⟨w, by rw [y 24 mm b (by omega)]; exact w1, w2, fun q => ?_⟩
    rw [w3 q]
    have e : ∀ g j, 12 ≤ g → g ≤ 14 → pS s f r v g j = s g j := fun g j hg hg2 => by simp only [pS]; rw [if_neg (by omega)]
    simp only [r0 3 (by omega) (by omega), e 12 _ (by omega) (by omega), e 13 _ (by omega) (by omega), e 14 _ (by omega) (by omega)]
  · rw [r30, y 1 4 0 (by omega)]; exact M.2.2.2.1
  · rw [r30, y 1 5 0 (by omega)]; exact M.2.2.2.2.1
  · rw [r30, y 1 6 0 (by omega)]; exact M.2.2.2.2.2.1
  · rw [r30, y 1 7 0 (by omega)]; exact M.2.2.2.2.2.2.1
  · rw [r30, y 1 8 0 (by omega)]; exact M.2.2.2.2.2.2.2.1
  · rw [r30, y 1 9 0 (by omega)]; exact M.2.2.2.2.2.2.2.2
theorem SRd.cellF3 {c : Nat} {v : Int32} (h : SRd t n T b σ s) (hf : ¬ s 30 1 = 0)  : SRd t n T b (uI σ 33 b c v) s := by
  obtain ⟨⟨a1, a2, a3, a4⟩, ⟨c1, c2, c3, c4⟩, ⟨kk, k1, k2, k3⟩, i, ⟨L, l1, l2⟩, m⟩ := h
  have y : ∀ q j i', ¬ (q = 33 ∧ i' = b ∧ j = c) → (uI σ 33 b c v).1 q i' j = σ.1 q i' j := fun q j i' hn => by
    simp only [uI]; rw [if_neg hn]
  exact ⟨⟨a1, a2, fun q hq => by rw [y 13 q 0 (by omega), y 14 q 0 (by omega), y 15 q 0 (by omega)]; exact a3 q hq, by rw [y 2 5 0 (by omega), y 2 0 0 (by omega)]; exact a4⟩, ⟨by rw [y 1 2 0 (by omega)]; exact c1, c2, fun q => by rw [y 1 3 0 (by omega)]; exact c3 q, fun q => absurd q hf⟩, ⟨kk, k1, by rw [y 2 6 0 (by omega)]; exact k2, fun q => absurd q hf⟩, ⟨i.1, by rw [y 3 0 b (by omega)]; exact i.2⟩, ⟨L, l1, by rw [y 5 0 b (by omega)]; exact l2⟩, fun q => absurd q hf⟩
/-- rows that the class has no cell for -/
theorem SRd.r57 {j v : Nat} (h : SRd t n T b σ s) (hj : 5 ≤ j ∧ j ≤ 7) : SRd t n T b σ (pS s 30 j v) := by
  obtain ⟨⟨a1, a2, a3, a4⟩, ⟨c1, c2, c3, c4⟩, ⟨kk, k1, k2, k3⟩, i, ⟨L, l1, l2⟩, m⟩ := h
  have e : ∀ f i, ¬ (f = 30 ∧ i = j) → pS s 30 j v f i = s f i := fun f i hn => by simp only [pS]; rw [if_neg hn]
  have e1 := e 30 1 (by omega)
  refine ⟨⟨a1, a2, a3, a4⟩, ⟨by rw [e1]; exact c1, by rw [e1]; exact c2, fun q => by rw [e1] at q; rw [e 30 2 (by omega)]; exact c3 q, fun q => by rw [e1] at q; exact c4 q⟩, ⟨kk, k1, k2, fun q => by rw [e1] at q; rw [e 30 0 (by omega)]; exact k3 q⟩, by rw [e 0 0 (by omega)]; exact i, ⟨L, l1, l2⟩, fun q => ?_⟩
  rw [e1] at q
  have M := m q
  refine M.keep (fun _ _ _ => rfl) (fun f i hf => e f i (by omega)) ?_ ?_ ?_ ?_ ?_ ?_
  · rw [e 30 8 (by omega)]; exact M.2.2.2.1
  · rw [e 30 11 (by omega)]; exact M.2.2.2.2.1
  · rw [e 30 3 (by omega)]; exact M.2.2.2.2.2.1
  · rw [e 30 4 (by omega)]; exact M.2.2.2.2.2.2.1
  · rw [e 30 10 (by omega)]; exact M.2.2.2.2.2.2.2.1
  · rw [e 30 9 (by omega)]; exact M.2.2.2.2.2.2.2.2
/-- knots put and taken, at a line's beginning -/
def PB2 (s : CA) : Prop := s 30 1 = 0 → s 0 8 ≤ s 30 10 ∧ s 30 10 ≤ 64
/-- ahead of a law's expression -/
def pLawB (s : CA) (r : Nat) : CA := pS (pS (pS (pAdv s) 30 9 0) 17 r (s 0 8)) 30 (5 + r) 1
def pLawL (t : Nat → Nat) (n : Nat) (s : CA) : CA :=
  if kd t n s < 9 ∨ 11 < kd t n s then pFail s 1 (kp t n s)
  else if s 17 (kd t n s - 9) < s 18 (kd t n s - 9) then pFail s 3 (kp t n s)
  else if pX t n 14100 0 (pLawB s (kd t n s - 9)) 30 1 = 0 then pS (pX t n 14100 0 (pLawB s (kd t n s - 9))) 18 (kd t n s - 9) (pX t n 14100 0 (pLawB s (kd t n s - 9)) 0 8) else pX t n 14100 0 (pLawB s (kd t n s - 9))
theorem pLawB_row {r : Nat} (hr : r < 3) : (∀ j, j ≠ 0 → j ≠ 9 → j ≠ 5 + r → pLawB s r 30 j = s 30 j) ∧ pLawB s r 30 0 = s 30 0 + 1 ∧ pLawB s r 30 9 = 0 ∧ (∀ j, pLawB s r 0 j = s 0 j) := by
  refine ⟨fun j h1 h2 h3 => ?_, ?_, ?_, fun j => ?_⟩
  · simp [pLawB, pAdv, pS, h1, h2, h3]
  · simp only [pLawB, pAdv, pS]; rw [if_neg (by omega)]; simp
  · simp only [pLawB, pAdv, pS]; rw [if_neg (by omega)]; simp
  · simp [pLawB, pAdv, pS]
theorem S_readLaw {D : Nat} (hT : TF t n T) (h : SRd t n T b σ s) (hf : s 30 1 = 0) (hV : CV s) (hB : PB2 s) (hD : 180 ≤ D) (H : ∀ τ : MS, SB (rdL b) σ τ → SRd t n T b τ (pLawL t n s) → Q none τ) : R mj_OC (D + 1) mX7_readLaw Q 0 [some (rV 1 0), none] [] σ := by
  have b2 : b < 2 := h.1.2.1
  have k38 := kd_le (t := t) (n := n) (s := s)
  have hBf := hB hf
  have M := h.2.2.2.2.2 hf
  obtain ⟨D, rfl⟩ : ∃ D', D = D' + 1 := ⟨D - 1, by omega⟩
  have c9 : nI (kd t n s) < (9 : Int32) ↔ kd t n s < 9 := nI_ltI (b := 9) (by omega) (by omega)
  have c11 : nI (kd t n s) ≤ (11 : Int32) ↔ kd t n s ≤ 11 := nI_le2 (b := 11) (by omega) (by omega)
  have bad : (kd t n s < 9 ∨ 11 < kd t n s) → R mj_OC (D + 1) mX9_place (fun r σ' => R mj_OC (D + 1 + 1) mX7_readLaw Q 33 [some (rV 1 0), none] (r.toList ++ [iV (1 : Int32), rV 1 0]) σ') 0 [some (rV 2 0)] [] σ := fun g => by
    refine S_place hT h (fun pl hpl => bX7_readLaw_33 ?_)
    rw [hpl hf]
    refine S_fail (e := 1) (by omega) h (fun τ h1 h2 => bX7_readLaw_36 (H τ h1 ?_))
    unfold pLawL; rw [if_pos g]; exact h2
  refine bX7_readLaw_0 (S_kind hT h (fun v hv => ?_))
  rw [hv hf]
  refine bX7_readLaw_7 ⟨fun z => bad (Or.inl (c9.mp z)), fun z => S_kind hT h (fun v2 hv2 => ?_)⟩
  rw [c9] at z
  rw [hv2 hf]
  refine bX7_readLaw_19 ⟨fun z2 => S_kind hT h (fun v3 hv3 => ?_), fun z2 => bad (Or.inr (by rw [c11] at z2; omega))⟩
  rw [c11] at z2
  rw [hv3 hf]
  refine bX7_readLaw_44 ⟨by rw [h.1.1]; exact b2, ?_⟩
  rw [h.1.1, show (9 : Int32) = nI 9 from rfl, pk_sub (by omega)]
  have r3 : kd t n s - 9 < 3 := by omega
  have lw := hV.law r3
  have no := hV.no
  have e32 : σ.1 32 b (kd t n s - 9) = nI (s 17 (kd t n s - 9)) := M.1.lfrom r3
  have e33 : σ.1 33 b (kd t n s - 9) = nI (s 18 (kd t n s - 9)) := M.1.lto r3
  have e50 : σ.1 5 b 0 = nI (s 0 8) := M.1.no
  refine bX3_isTold_0 b2 ?_
  rw [cl (show kd t n s - 9 < 3 by omega) (by omega), e32, e33, nI_le2 (by omega) (by omega)]
  refine ⟨vin r3 (by omega) (by decide), fun g => bX7_readLaw_59 ⟨fun _ => ?_, fun y => absurd rfl y⟩, fun g => bX7_readLaw_59 ⟨fun y => absurd y (by decide), fun _ => ?_⟩⟩
  · -- told now
    have eP : pLawL t n s = if pX t n 14100 0 (pLawB s (kd t n s - 9)) 30 1 = 0 then pS (pX t n 14100 0 (pLawB s (kd t n s - 9))) 18 (kd t n s - 9) (pX t n 14100 0 (pLawB s (kd t n s - 9)) 0 8) else pX t n 14100 0 (pLawB s (kd t n s - 9)) := by
      unfold pLawL; rw [if_neg (by omega), if_neg (by omega)]
    rw [eP] at H
    obtain ⟨q1, q2, q3, q4⟩ := pLawB_row (s := s) r3
    refine S_tAdv hT h hf (by omega) (fun τ h1 h2 => bX7_readLaw_82 ⟨by rw [h2.1.1]; exact b2, ?_⟩)
    rw [h2.1.1]
    have fa : pAdv s 30 1 = 0 := by rw [pAdv_1]; exact hf
    have h3 := h2.u30 (c := 9) (r := 9) (v := 0) fa (by unfold rdP; omega)
    have f3 : pS (pAdv s) 30 9 0 30 1 = 0 := by simp only [pS]; rw [if_neg (by omega)]; exact fa
    have e5t : (uI τ 1 0 9 (nI 0)).1 5 b 0 = nI (s 0 8) := by
      have := (h3.2.2.2.2.2 f3).1.no
      exact this
    have h4 := h3.cell3 (kd0 := 32) (f := 17) (c := kd t n s - 9) (r := kd t n s - 9) (v := s 0 8) f3 (Or.inl ⟨rfl, rfl, rfl, r3⟩)
    have h5 := h4.r57 (j := 5 + (kd t n s - 9)) (v := 1) (by omega)
    refine bX3_begin_0 b2 ?_
    rw [cl (show kd t n s - 9 < 3 by omega) (by omega)]
    refine ⟨vin r3 (by omega) (by decide), bX7_readLaw_98 ?_⟩
    rw [show (uI τ 1 0 9 (0 : Int32)).1 5 b 0 = nI (s 0 8) from e5t]
    have tkT := (h.tk hf).1
    have := hT.1
    have := hT.2.1
    refine (S_X hT 14100).1 0 (pLawB s (kd t n s - 9)) (D + 1) _ _ (by omega) (fun _ => by omega) (fun _ => ?_) (fun _ => by rw [q3]; omega) (by omega) h5 (fun υ u1 u2 => bX7_readLaw_103 ⟨by rw [u2.1.1]; exact b2, ?_⟩)
    · rw [q3, q4, q1 10 (by omega) (by omega) (by omega)]; omega
    · rw [u2.1.1]
      refine bX3_end_0 b2 ?_
      rw [cl (show kd t n s - 9 < 3 by omega) (by omega)]
      refine ⟨vin r3 (by omega) (by decide), bX7_readLaw_114 (H _ ((((h1.tr (SB.uI (by simp [rdL]))).tr (SB.uI (by simp [rdL]))).tr u1).tr (SB.uI (by simp [rdL]))) ?_)⟩
      by_cases fx : pX t n 14100 0 (pLawB s (kd t n s - 9)) 30 1 = 0
      · rw [if_pos fx, show υ.1 5 b 0 = nI (pX t n 14100 0 (pLawB s (kd t n s - 9)) 0 8) from (u2.2.2.2.2.2 fx).1.no]
        exact u2.cell3 (kd0 := 33) (f := 18) fx (Or.inr ⟨rfl, rfl, rfl, r3⟩)
      · rw [if_neg fx]
        exact u2.cellF3 fx
  · have eP : pLawL t n s = pFail s 3 (kp t n s) := by unfold pLawL; rw [if_neg (by omega), if_pos (by omega)]
    refine S_place hT h (fun pl hpl => bX7_readLaw_71 ?_)
    rw [hpl hf]
    exact S_fail (e := 3) (by omega) h (fun τ h1 h2 => bX7_readLaw_74 (H τ h1 (by rw [eP]; exact h2)))
end Ps
