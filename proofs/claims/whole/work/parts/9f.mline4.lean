/-- what is told by a word, or (from 16 on) of a law -/
def pTd (s : CA) (k : Nat) : CA := if k = 6 then pS s 30 3 1 else if k = 7 then pS s 30 4 1 else if 16 ≤ k then pS s 30 (k - 11) 1 else s
section Re
variable {d : Nat} {Q : Option MV → MS → Prop} {σ : MS} {t : Nat → Nat} {n T : Nat} {s : CA}
theorem pTd_r {k : Nat} (hk : k ≤ 8 ∨ (16 ≤ k ∧ k ≤ 18)) (f j : Nat) (h : ¬ (f = 30 ∧ 3 ≤ j ∧ j ≤ 7)) : pTd s k f j = s f j := by
  unfold pTd
  split
  · simp only [pS]; rw [if_neg (by omega)]
  · split
    · simp only [pS]; rw [if_neg (by omega)]
    · split
      · simp only [pS]; rw [if_neg (by omega)]
      · rfl
theorem pTd_v {k : Nat} (hk : k ≤ 8 ∨ (16 ≤ k ∧ k ≤ 18)) : pTd s k 30 3 = (if k = 6 then 1 else s 30 3) ∧ pTd s k 30 4 = (if k = 7 then 1 else s 30 4) ∧ pTd s k 30 5 = (if k = 16 then 1 else s 30 5) ∧ pTd s k 30 6 = (if k = 17 then 1 else s 30 6) ∧ pTd s k 30 7 = (if k = 18 then 1 else s 30 7) := by
  rcases (show k = 0 ∨ k = 1 ∨ k = 2 ∨ k = 3 ∨ k = 4 ∨ k = 5 ∨ k = 6 ∨ k = 7 ∨ k = 8 ∨ k = 16 ∨ k = 17 ∨ k = 18 by omega) with rfl | rfl | rfl | rfl | rfl | rfl | rfl | rfl | rfl | rfl | rfl | rfl <;> simp [pTd, pS]
theorem MRd.told {k : Nat} (h : MRd t n σ s) (hf : s 30 1 = 0) (hk : k ≤ 8 ∨ (16 ≤ k ∧ k ≤ 18)) : MRd t n (uI σ 45 0 24 (σ.1 45 0 24 ||| ((1 : Int32) <<< (nI k &&& 31)))) (pTd s k) := by
  have y : ∀ c j, ¬ (c = 45 ∧ j = 24) → (uI σ 45 0 24 (σ.1 45 0 24 ||| ((1 : Int32) <<< (nI k &&& 31)))).1 c 0 j = σ.1 c 0 j := fun c i hc => by simp only [uI]; rw [if_neg (by omega)]
  have yc : (uI σ 45 0 24 (σ.1 45 0 24 ||| ((1 : Int32) <<< (nI k &&& 31)))).1 45 0 24 = σ.1 45 0 24 ||| ((1 : Int32) <<< (nI k &&& 31)) := by simp [uI]
  have r := fun f j g => pTd_r (s := s) hk f j g
  obtain ⟨v3, v4, v5, v6, v7⟩ := pTd_v (s := s) hk
  obtain ⟨⟨a1, a2, a3⟩, ⟨b1, b2, b3, b4⟩, c0, e⟩ := h
  obtain ⟨e1, f1, f2, f3, f4, f5, f6, f7⟩ := e hf
  refine ⟨⟨by rw [y 45 26 (by omega)]; exact a1, fun i hi => by rw [y 46 i (by omega)]; exact a2 i hi, a3⟩, ⟨by rw [y 45 31 (by omega), r 30 1 (by omega)]; exact b1, by rw [r 30 1 (by omega)]; exact b2, fun q => by rw [r 30 1 (by omega)] at q; exact absurd hf q, fun q => by rw [y 45 32 (by omega)]; exact b4 hf⟩, ?_, fun q => ⟨?_, fun g i h1 h2 => ?_, by rw [y 47 15 (by omega), y 47 16 (by omega), r 0 6 (by omega), r 0 7 (by omega)]; exact f2, ⟨?_, fun j h1 h2 => ?_⟩, by rw [y 45 25 (by omega), r 30 8 (by omega)]; exact f4, by rw [y 45 35 (by omega), r 30 9 (by omega)]; exact f5, by rw [y 45 36 (by omega), r 30 10 (by omega)]; exact f6, by rw [y 47 14 (by omega), r 30 11 (by omega)]; exact f7⟩⟩
  · unfold MCt at c0 ⊢
    simp only [fun j => r 0 j (show ¬ (0 = 30 ∧ 3 ≤ j ∧ j ≤ 7) by omega)]
    exact ⟨fun i hi => by rw [y 47 _ (by omega)]; exact c0.1 i hi, by rw [y 47 17 (by omega)]; exact c0.2.1, c0.2.2⟩
  · rw [r 30 0 (by omega)]
    unfold MTk at e1 ⊢
    rw [y 45 27 (by omega), y 45 28 (by omega), y 45 29 (by omega), y 45 30 (by omega)]; exact e1
  · rw [mLn_sub (fun i _ => r 0 i (by omega)) g] at h1
    have g20 := mLn_f h1
    rw [y (47 + g) _ (by omega), r g i (by omega)]; exact f1 g i h1 h2
  · have bb : ∀ j, j < 32 → bt (σ.1 45 0 24 ||| ((1 : Int32) <<< (nI k &&& 31))) j = (bt (σ.1 45 0 24) j || decide (k = j)) := fun j hj => by rw [bt_or, bt_1 (by omega) hj]
    obtain ⟨w3, w4, w5, w6, w7⟩ := f3.1
    unfold FT
    rw [yc, bb 6 (by omega), bb 7 (by omega), bb 16 (by omega), bb 17 (by omega), bb 18 (by omega), w3, w4, w5, w6, w7, v3, v4, v5, v6, v7]
    refine ⟨?_, ?_, ?_, ?_, ?_⟩
    · by_cases g : k = 6 <;> simp [g]
    · by_cases g : k = 7 <;> simp [g]
    · by_cases g : k = 16 <;> simp [g]
    · by_cases g : k = 17 <;> simp [g]
    · by_cases g : k = 18 <;> simp [g]
  · have := f3.2 j h1 h2
    rcases (show j = 3 ∨ j = 4 ∨ j = 5 ∨ j = 6 ∨ j = 7 by omega) with rfl | rfl | rfl | rfl | rfl
    · rw [v3]; split <;> omega
    · rw [v4]; split <;> omega
    · rw [v5]; split <;> omega
    · rw [v6]; split <;> omega
    · rw [v7]; split <;> omega
theorem pLawB_eq {r : Nat} (h9 : s 30 9 = 0) (hr : r < 3) : pS (pAdv (pTd s (16 + r))) 17 r (s 0 8) = pLawB s r := by
  have e : pTd s (16 + r) = pS s 30 (5 + r) 1 := by
    unfold pTd
    rw [if_neg (by omega), if_neg (by omega), if_pos (by omega), show 16 + r - 11 = 5 + r by omega]
  rw [e]
  have e0 : pS s 30 (5 + r) 1 30 0 = s 30 0 := by simp only [pS]; rw [if_neg (by omega)]
  funext f j
  simp only [pLawB, pAdv, e0]
  by_cases g2 : f = 30 ∧ j = 5 + r
  · obtain ⟨rfl, rfl⟩ := g2
    simp [pS]
  · by_cases g1 : f = 17 ∧ j = r
    · obtain ⟨rfl, rfl⟩ := g1
      simp [pS]
    · by_cases g3 : f = 30 ∧ j = 0
      · obtain ⟨rfl, rfl⟩ := g3
        simp [pS, show ¬ (0 = 5 + r) by omega]
      · by_cases g4 : f = 30 ∧ j = 9
        · obtain ⟨rfl, rfl⟩ := g4
          simp [pS, h9]
        · simp [pS, g1, g2, g3, g4]
theorem M_lnLaw {D : Nat} (hT : TF t n T) (hL : LI s) (hLT : LT s) (h : MRd t n σ s) (hf : s 30 1 = 0) (hD : 160 ≤ D) (H : ∀ τ, XR σ τ → MEn t n τ (pEnd (pTake t n (pLawL t n s) 24)) → Q none τ) : R mj_OM (D + 1 + 1) mX11_line Q 96 [some (rV 45 0), some (iV (nI 8)), none, none, none] [] σ := by
  obtain ⟨D, rfl⟩ : ∃ D', D = D' + 1 + 1 + 1 + 1 + 1 := ⟨D - 5, by omega⟩
  have k38 := kd_le (t := t) (n := n) (s := s)
  obtain ⟨m, F⟩ := h.2.2.2 hf
  have so := m.so
  have y0 := h.z.mpr hf
  obtain ⟨hB1, hB2⟩ := hL.2.1 hf
  have no := hL.1.no
  have fin : ∀ τ, XR σ τ → MEn t n τ (pLawL t n s) → R mj_OM (D + 1 + 1 + 1 + 1 + 1 + 1 + 1) mX11_line Q 441 [some (rV 45 0), some (iV (nI 8)), none, none, none] [] τ := fun τ x e => bX11_line_441 (M_lnEnd e (fun ω w1 w2 => H ω (x.tr w1) w2))
  have bad : (kd t n s < 9 ∨ 11 < kd t n s) → R mj_OM (D + 1 + 1 + 1 + 1 + 1) mX11_wrong (fun r σ' => R mj_OM (D + 1 + 1 + 1 + 1 + 1 + 1) mX11_lawLine (fun r σ' => R mj_OM (D + 1 + 1 + 1 + 1 + 1 + 1 + 1) mX11_line Q 441 [some (rV 45 0), some (iV (nI 8)), none, none, none] (r.toList ++ []) σ') 30 [some (rV 45 0), none] (r.toList ++ []) σ') 0 [some (rV 45 0), some (iV (1 : Int32))] [] σ := fun g => by
    have eP : pLawL t n s = pFail s 1 (kp t n s) := by unfold pLawL; rw [if_pos g]
    have nf : ¬ pFail s 1 (kp t n s) 30 1 = 0 := by rw [(pF_0 hf).1]; omega
    refine M_wrong (e := 1) (by omega) h (fun τ h1 h2 => bX11_lawLine_30 ⟨fun _ => ⟨fun z => absurd (h2.z.mp z) nf, fun _ => fin τ h1 (by rw [eP]; exact h2.en)⟩, fun z => absurd (h2.z.mp z) nf⟩)
  refine bX11_line_96 ⟨fun z => absurd z (by decide), fun _ => ⟨fun z => absurd z (by decide), fun _ => ⟨fun z => absurd z (by decide), fun _ => ⟨fun z => absurd z (by decide), fun _ => ⟨fun z => absurd z (by decide), fun _ => ⟨fun z => absurd z (by decide), fun _ => ⟨fun z => absurd z (by decide), fun _ => ⟨fun z => absurd z (by decide), fun _ => bX11_lawLine_0 ⟨fun y => bad ?_, fun y => ?_⟩⟩⟩⟩⟩⟩⟩⟩⟩
  · have : ¬ kd t n s < 22 := fun e => y (so.1.mpr e)
    omega
  have k22 : kd t n s < 22 := so.1.mp y
  have e30 : σ.1 45 0 30 = nI (kd t n s) := m.w k22
  have c9 : nI (kd t n s) < (9 : Int32) ↔ kd t n s < 9 := nI_ltI (b := 9) (by omega) (by omega)
  have c11 : nI (kd t n s) ≤ (11 : Int32) ↔ kd t n s ≤ 11 := nI_le2 (b := 11) (by omega) (by omega)
  rw [e30]
  refine ⟨fun z => bad (Or.inl (c9.mp z)), fun z => ⟨fun z2 => ?_, fun z2 => bad (Or.inr (by rw [c11] at z2; omega))⟩⟩
  rw [c9] at z
  rw [c11] at z2
  rw [show (9 : Int32) = nI 9 from rfl, pk_sub (by omega), show (16 : Int32) = nI 16 from rfl, nI_add]
  have r3 : kd t n s - 9 < 3 := by omega
  have eP0 : pLawL t n s = (if s 17 (kd t n s - 9) < s 18 (kd t n s - 9) then pFail s 3 (kp t n s) else if pX t n 14100 0 (pLawB s (kd t n s - 9)) 30 1 = 0 then pS (pX t n 14100 0 (pLawB s (kd t n s - 9))) 18 (kd t n s - 9) (pX t n 14100 0 (pLawB s (kd t n s - 9)) 0 8) else pX t n 14100 0 (pLawB s (kd t n s - 9))) := by
    unfold pLawL; rw [if_neg (by omega)]
  rw [eP0] at fin
  have tb : (((σ.1 45 0 24) >>> (nI (16 + (kd t n s - 9)) &&& 31)) &&& 1 = 1) ↔ s 17 (kd t n s - 9) < s 18 (kd t n s - 9) := by
    have q := (hLT.2 (kd t n s - 9) r3).2
    rw [bt_sh (by omega), ← q]
    obtain ⟨_, _, w5, w6, w7⟩ := F.2.2.1.1
    rcases (show kd t n s - 9 = 0 ∨ kd t n s - 9 = 1 ∨ kd t n s - 9 = 2 by omega) with e | e | e
    · rw [e, show 16 + 0 = 16 from rfl, w5]; simp
    · rw [e, show 16 + 1 = 17 from rfl, w6]; simp
    · rw [e, show 16 + 2 = 18 from rfl, w7]; simp
  have ht := h.told (k := 16 + (kd t n s - 9)) hf (by omega)
  have eB := pLawB_eq (s := s) (r := kd t n s - 9) hLT.1 r3
  obtain ⟨q1, q2, q3, q4⟩ := pLawB_row (s := s) r3
  generalize kd t n s - 9 = r at *
  rw [tb]
  refine ⟨fun z => absurd y0 z, fun _ => ⟨fun g => ⟨fun _ => ?_, fun z => absurd y0 z⟩, fun g => ?_⟩⟩
  · rw [if_neg g] at fin
    have f1 : pTd s (16 + r) 30 1 = 0 := by rw [pTd_r (by omega) 30 1 (by omega)]; exact hf
    refine M_tok ht f1 (fun τ h1 h2 => bX11_lawLine_92 (M_fresher (j := 8) (by omega) (bX11_lawLine_105 ?_)))
    have ec : (nI (3 + r)).toNatClampNeg = 3 + r := cl (show 3 + r < 6 by omega) (by omega)
    have vp : vp_in (nI (3 + r)) 6 := vin (show 3 + r < 6 by omega) (by omega) (by decide)
    have e8 : τ.1 47 0 (9 + 8) = nI (s 0 8) := by
      rw [show 9 + 8 = 17 from rfl, h2.2.2.1.2.1, pA_row 0 8 (by omega), pTd_r (by omega) 0 8 (by omega)]
    rw [show (3 : Int32) = nI 3 from rfl, nI_add, ec, e8]
    have h3 : MRd t n (uI τ 64 0 (3 + r) (nI (s 0 8))) (pLawB s r) := by
      rw [← eB]
      exact h2.set (f := 17) (by omega) (show r < 3 from r3)
    have := hT.1
    have := hT.2.1
    have hB0 := (show s 0 8 ≤ 64 by omega)
    refine ⟨vp, (show mXr (D + 1 + 1 + 1 + 1 + 1) _ _ 0 from M_X hT 14100 0 (pLawB s r) _ _ _ (fun _ => by rw [if_pos (by omega)]; omega) (fun _ => by rw [q3, q4, q1 10 (by omega) (by omega) (by omega)]; omega) (fun _ => by rw [q3, q1 10 (by omega) (by omega) (by omega)]; show _ + (7 - 0) + 12 ≤ _; omega) (by show 12 + (7 - 0) ≤ _; omega) h3 (fun υ u1 u2 => bX11_lawLine_110 (M_fresher (j := 8) (by omega) (bX11_lawLine_123 ?_))))⟩
    have x0 : XR σ υ := (((XR.u45 (by omega)).tr h1).tr (XR.uf (f := 17) (by omega) (by simp [hF]))).tr u1
    have e8 : υ.1 47 0 (9 + 8) = nI (pX t n 14100 0 (pLawB s r) 0 8) := u2.2.2.1.2.1
    rw [show (3 : Int32) = nI 3 from rfl, nI_add, ec, e8]
    refine ⟨vp, fin _ (x0.tr (XR.uf (f := 18) (by omega) (by simp [hF]))) ?_⟩
    by_cases fu : pX t n 14100 0 (pLawB s r) 30 1 = 0
    · rw [if_pos fu]
      exact (u2.set (f := 18) (by omega) (show r < 3 from r3)).en
    · rw [if_neg fu]
      exact u2.enF fu rfl rfl (by simp [uI]) (by simp [uI])
  · rw [if_pos g] at fin
    have nf : ¬ pFail s 3 (kp t n s) 30 1 = 0 := by rw [(pF_0 hf).1]; omega
    refine M_wrong (e := 3) (by omega) h (fun τ h1 h2 => bX11_lawLine_65 ⟨fun z => absurd (h2.z.mp z) nf, fun _ => fin τ h1 h2.en⟩)
theorem M_isFull {k : Nat} (hk : k ≤ 8) (h : MRd t n σ s) (H1 : pFull s k → Q (some (iV 1)) σ) (H0 : ¬ pFull s k → Q (some (iV 0)) σ) : R mj_OM (d + 1) mX11_isFull Q 0 [some (rV 45 0), some (iV (nI k))] [] σ := by
  obtain ⟨c, _, c0, c1, c2, c3, c4, _⟩ := h.2.2.1
  have e : ∀ m : Nat, m < 9 → (nI k = nI m ↔ k = m) := fun m hm => nI_inj (by omega) (by omega)
  have e0 : nI k = (0 : Int32) ↔ k = 0 := e 0 (by omega)
  have e1 : nI k = (1 : Int32) ↔ k = 1 := e 1 (by omega)
  have e2 : nI k = (2 : Int32) ↔ k = 2 := e 2 (by omega)
  have e3 : nI k = (3 : Int32) ↔ k = 3 := e 3 (by omega)
  have e4 : nI k = (4 : Int32) ↔ k = 4 := e 4 (by omega)
  have f0 : σ.1 47 0 (9 + 0) = (7 : Int32) ↔ s 0 0 = 7 := by rw [c 0 (by omega)]; exact nI_inj (b := 7) (by omega) (by omega)
  have f1 : σ.1 47 0 (9 + 1) = (3 : Int32) ↔ s 0 1 = 3 := by rw [c 1 (by omega)]; exact nI_inj (b := 3) (by omega) (by omega)
  have f2 : σ.1 47 0 (9 + 2) = (10 : Int32) ↔ s 0 2 = 10 := by rw [c 2 (by omega)]; exact nI_inj (b := 10) (by omega) (by omega)
  have f3 : σ.1 47 0 (9 + 3) = (12 : Int32) ↔ s 0 3 = 12 := by rw [c 3 (by omega)]; exact nI_inj (b := 12) (by omega) (by omega)
  have f4 : σ.1 47 0 (9 + 4) = (8 : Int32) ↔ s 0 4 = 8 := by rw [c 4 (by omega)]; exact nI_inj (b := 8) (by omega) (by omega)
  unfold pFull at H1 H0
  refine bX11_isFull_0 ?_
  rw [e0, e1, e2, e3, e4]
  refine ⟨fun g => M_fresher (j := 0) (by omega) (bX11_isFull_41 ?_), fun g0 => ⟨fun g => M_fresher (j := 1) (by omega) (bX11_isFull_57 ?_), fun g1 => ⟨fun g => M_fresher (j := 2) (by omega) (bX11_isFull_72 ?_), fun g2 => ⟨fun g => M_fresher (j := 3) (by omega) (bX11_isFull_88 ?_), fun g3 => ⟨fun g => M_fresher (j := 4) (by omega) (bX11_isFull_104 ?_), fun g4 => H0 (by omega)⟩⟩⟩⟩⟩
  · rw [f0]; exact ⟨fun z => H0 (by omega), fun z => H1 (by omega)⟩
  · rw [f1]; exact ⟨fun z => H0 (by omega), fun z => H1 (by omega)⟩
  · rw [f2]; exact ⟨fun z => H0 (by omega), fun z => H1 (by omega)⟩
  · rw [f3]; exact ⟨fun z => H0 (by omega), fun z => H1 (by omega)⟩
  · rw [f4]; exact ⟨fun z => H0 (by omega), fun z => H1 (by omega)⟩
theorem M_line {D : Nat} (hT : TF t n T) (h : MRd t n σ s) (hf : s 30 1 = 0) (hL : LI s) (hLT : LT s) (hD : 160 ≤ D) (H : ∀ τ, XR σ τ → MEn t n τ (pLine t n s) → Q none τ) : R mj_OM (D + 1 + 1) mX11_line Q 0 [some (rV 45 0), none, none, none, none] [] σ := by
  obtain ⟨E, rfl⟩ : ∃ E, D = E + 1 + 1 + 1 + 1 + 1 + 1 := ⟨D - 6, by omega⟩
  have k38 := kd_le (t := t) (n := n) (s := s)
  obtain ⟨m, F⟩ := h.2.2.2 hf
  have so := m.so
  have y0 := h.z.mpr hf
  have bad : 8 < kd t n s → R mj_OM (E + 1 + 1 + 1 + 1 + 1 + 1 + 1) mX11_wrong (fun r σ' => R mj_OM (E + 1 + 1 + 1 + 1 + 1 + 1 + 1 + 1) mX11_line Q 21 [some (rV 45 0), none, none, none, none] (r.toList ++ []) σ') 0 [some (rV 45 0), some (iV (1 : Int32))] [] σ := fun g =>
    M_wrong (e := 1) (by omega) h (fun τ h1 h2 => bX11_line_21 (H τ h1 (by unfold pLine; rw [if_pos g]; exact h2.en)))
  refine bX11_line_0 ⟨fun y => bad ?_, fun y => ?_⟩
  · have : ¬ kd t n s < 22 := fun e => y (so.1.mpr e)
    omega
  have k22 : kd t n s < 22 := so.1.mp y
  have e30 : σ.1 45 0 30 = nI (kd t n s) := m.w k22
  rw [e30]
  have c8 : nI (kd t n s) ≤ (8 : Int32) ↔ kd t n s ≤ 8 := nI_le2 (b := 8) (by omega) (by omega)
  refine ⟨fun z => ?_, fun z => bad (by rw [c8] at z; omega)⟩
  rw [c8] at z
  refine M_isFull z h (fun g => bX11_line_32 ⟨fun e => absurd e (by decide), fun _ => ?_⟩) (fun g => ?_)
  · have nf : ¬ pFail s 2 (kp t n s) 30 1 = 0 := by rw [(pF_0 hf).1]; omega
    refine M_wrong (e := 2) (by omega) h (fun τ h1 h2 => bX11_line_40 ⟨fun e => absurd (h2.z.mp e) nf, fun _ => H τ h1 ?_⟩)
    unfold pLine; rw [if_neg (by omega), if_pos g]; exact h2.en
  · have c6 : nI (kd t n s) = (6 : Int32) ↔ kd t n s = 6 := nI_inj (b := 6) (by omega) (by omega)
    have c7 : nI (kd t n s) = (7 : Int32) ↔ kd t n s = 7 := nI_inj (b := 7) (by omega) (by omega)
    have told : pTold s (kd t n s) → R mj_OM (E + 1 + 1 + 1 + 1 + 1 + 1 + 1) mX11_wrong (fun r σ' => R mj_OM (E + 1 + 1 + 1 + 1 + 1 + 1 + 1 + 1) mX11_line Q 72 [some (rV 45 0), some (iV (nI (kd t n s))), none, none, none] (r.toList ++ []) σ') 0 [some (rV 45 0), some (iV (3 : Int32))] [] σ := fun g2 => by
      have nf : ¬ pFail s 3 (kp t n s) 30 1 = 0 := by rw [(pF_0 hf).1]; omega
      refine M_wrong (e := 3) (by omega) h (fun τ h1 h2 => bX11_line_72 ⟨fun e => absurd (h2.z.mp e) nf, fun _ => H τ h1 ?_⟩)
      unfold pLine; rw [if_neg (by omega), if_neg g, if_pos g2]; exact h2.en
    have go : ¬ pTold s (kd t n s) → (σ.1 45 0 31 = 0 → R mj_OM (E + 1 + 1 + 1 + 1 + 1 + 1 + 1) mX11_token (fun r σ' => R mj_OM (E + 1 + 1 + 1 + 1 + 1 + 1 + 1 + 1) mX11_line Q 96 [some (rV 45 0), some (iV (nI (kd t n s))), none, none, none] (r.toList ++ []) σ') 0 [some (rV 45 0), none] [] (uI σ 45 0 24 ((σ.1 45 0 24) ||| ((1 : Int32) <<< (nI (kd t n s) &&& 31))))) ∧ (¬ σ.1 45 0 31 = 0 → Q none σ) := fun g2 => ⟨fun _ => by
      have eL : pLine t n s = pEnd (pTake t n (pBody t n (kd t n s) (pAdv s)) 24) := by unfold pLine; rw [if_neg (by omega), if_neg g, if_neg g2]
      rw [eL] at H
      have f1 : pTd s (kd t n s) 30 1 = 0 := by rw [pTd_r (by omega) 30 1 (by omega)]; exact hf
      have xt : XR σ (uI σ 45 0 24 ((σ.1 45 0 24) ||| ((1 : Int32) <<< (nI (kd t n s) &&& 31)))) := XR.u45 (by omega)
      refine M_tok (h.told hf (by omega)) f1 (fun τ h1 h2 => ?_)
      have H' : ∀ ω, XR τ ω → MEn t n ω (pEnd (pTake t n (pBody t n (kd t n s) (pAdv s)) 24)) → Q none ω := fun ω w1 w2 => H ω ((xt.tr h1).tr w1) w2
      have fa : pAdv s 30 1 = 0 := by rw [pAdv_1]; exact hf
      have hVa : CV (pAdv s) := hL.1.r (fun f hf => pA_f hf)
      have e0 : ∀ j, pAdv s 0 j = s 0 j := fun j => pA_row 0 j (by omega)
      unfold pFull at g
      have a0 := hVa.nk
      rcases (show kd t n s = 0 ∨ kd t n s = 1 ∨ kd t n s = 2 ∨ kd t n s = 3 ∨ kd t n s = 4 ∨ kd t n s = 5 ∨ kd t n s = 6 ∨ kd t n s = 7 ∨ kd t n s = 8 by omega) with e | e | e | e | e | e | e | e | e
      · rw [e] at h2 H' g ⊢
        exact M_lnPond hVa h2 (by rw [e0]; omega) H'
      · rw [e] at h2 H' g ⊢
        exact M_lnLock hVa h2 fa (by rw [e0]; omega) H'
      · rw [e] at h2 H' g ⊢
        exact M_lnPipe hVa h2 fa (by rw [e0]; omega) H'
      · rw [e] at h2 H' g ⊢
        exact M_lnTurn (s := pAdv s) h2 fa (by rw [e0]; omega) a0 H'
      · rw [e] at h2 H' g ⊢
        exact M_lnBoat hVa h2 fa (by rw [e0]; omega) H'
      · rw [e] at h2 H' g ⊢
        exact M_lnSpr hVa h2 fa H'
      · rw [e] at h2 H' g ⊢
        have ec : pAdv (pTd s 6) = pS (pAdv s) 30 3 1 := by
          rw [show pTd s 6 = pS s 30 3 1 from rfl]
          funext f j
          simp only [pAdv, pS]
          by_cases q1 : f = 30 ∧ j = 0
          · obtain ⟨rfl, rfl⟩ := q1; simp
          · simp [q1]
        rw [ec] at h2
        exact M_lnJam h2 H'
      · rw [e] at h2 H' g ⊢
        have ec : pAdv (pTd s 7) = pS (pAdv s) 30 4 1 := by
          rw [show pTd s 7 = pS s 30 4 1 from rfl]
          funext f j
          simp only [pAdv, pS]
          by_cases q1 : f = 30 ∧ j = 0
          · obtain ⟨rfl, rfl⟩ := q1; simp
          · simp [q1]
        rw [ec] at h2
        exact M_lnSeed h2 H'
      · rw [e] at h2 H' g ⊢
        exact M_lnLaw hT (hL.nx hf (fun f j h => pA_row f j (by omega)) fa) (pt_adv.lt fa hLT) h2 fa hD H', fun e => absurd y0 e⟩
    have b6 : bt (σ.1 45 0 24) 6 = true ↔ s 30 3 ≠ 0 := by
      have := F.2.2.1.2 3 (by omega) (by omega)
      rw [F.2.2.1.1.1, decide_eq_true_iff]; omega
    have b7 : bt (σ.1 45 0 24) 7 = true ↔ s 30 4 ≠ 0 := by
      have := F.2.2.1.2 4 (by omega) (by omega)
      rw [F.2.2.1.1.2.1, decide_eq_true_iff]; omega
    have tb : (((σ.1 45 0 24) >>> (nI (kd t n s) &&& 31)) &&& 1 = 1) ↔ bt (σ.1 45 0 24) (kd t n s) = true := bt_sh (by omega)
    refine bX11_line_32 ⟨fun _ => ?_, fun e => absurd rfl e⟩
    rw [c6, c7, tb]
    refine ⟨fun k6 => ?_, fun k6 => ⟨fun k7 => go (by unfold pTold; omega), fun k7 => ?_⟩⟩
    · rw [k6] at tb go told ⊢
      rw [b6]
      exact ⟨fun z => go (by unfold pTold; omega), fun z => told (by unfold pTold; omega)⟩
    · rw [k7] at tb go told ⊢
      rw [b7]
      exact ⟨fun z => go (by unfold pTold; omega), fun z => told (by unfold pTold; omega)⟩
end Re
