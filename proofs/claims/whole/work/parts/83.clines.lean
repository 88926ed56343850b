section Pn
variable {d : Nat} {Q : Option MV → MS → Prop} {σ : MS} {t : Nat → Nat} {n T b : Nat} {s : CA}
theorem S_addLock {p lo hi : Nat} (h : SRd t n T b σ s) (hf : s 30 1 = 0) (h7 : s 0 1 < 3) (H : ∀ τ : MS, SB (rdL b) σ τ → SRd t n T b τ (pAddL s p lo hi) → Q none τ) : R mj_OC d mX4_add Q 0 [some (rV 4 b), some (iV (nI p)), some (iV (nI lo)), some (iV (nI hi))] [] σ := by
  obtain ⟨⟨a1, a2, a3, a4⟩, ⟨c1, c2, c3, c4⟩, ⟨k, k1, k2, k3⟩, i, ⟨L, l1, l2⟩, m⟩ := h
  have M := m hf
  have ec : σ.1 4 b 0 = nI (s 0 1) := M.1 0 1 (show 1 < 9 by omega)
  refine bX4_add_0 a2 ⟨fun z => ?_, fun _ => ?_⟩
  · rw [ec, show (3 : Int32) = nI 3 from rfl, nI_le2 (by omega) (by omega)] at z; omega
  rw [ec, cl (show s 0 1 < 3 by omega) (by omega), nI_1]
  have fr : ∀ v0 v1 v2 v3 : Int32, SB (rdL b) σ (uI (uI (uI (uI σ 25 b (s 0 1) v0) 26 b (s 0 1) v1) 27 b (s 0 1) v2) 4 b 0 v3) := fun v0 v1 v2 v3 => ((((SB.uI (by simp [rdL])).tr (SB.uI (by simp [rdL]))).tr (SB.uI (by simp [rdL]))).tr (SB.uI (by simp [rdL])))
  refine ⟨vin (show s 0 1 < 3 by omega) (by omega) (by decide), H _ (fr _ _ _ _) ?_⟩
  unfold pAddL
  rw [if_pos hf]
  have r30 : ∀ j, pS (pS (pS (pS s 6 (s 0 1) p) 7 (s 0 1) lo) 8 (s 0 1) hi) 0 1 (s 0 1 + 1) 30 j = s 30 j := fun j => by simp [pS]
  have r0 : ∀ j, j ≠ 1 → pS (pS (pS (pS s 6 (s 0 1) p) 7 (s 0 1) lo) 8 (s 0 1) hi) 0 1 (s 0 1 + 1) 0 j = s 0 j := fun j hj => by simp [pS, hj]
  have r00 : pS (pS (pS (pS s 6 (s 0 1) p) 7 (s 0 1) lo) 8 (s 0 1) hi) 0 1 (s 0 1 + 1) 0 1 = s 0 1 + 1 := by simp [pS]
  refine ⟨⟨a1, a2, fun k hk => by have := a3 k hk; simp [uI]; exact this, by simp [uI]; exact a4⟩, ⟨by rw [r30]; simp [uI]; exact c1, by rw [r30]; exact c2, fun q => by rw [r30] at q; exact absurd hf q, fun _ => by simp [uI]; exact c4 hf⟩, ⟨k, k1, by simp [uI]; exact k2, fun _ => by rw [r30]; exact k3 hf⟩, ⟨by rw [r0 0 (by omega)]; exact i.1, by rw [r0 0 (by omega)]; simp [uI]; exact i.2⟩, ⟨L, l1, by simp [uI]; exact l2⟩, fun _ => ⟨fun g j hj => ?_, fun i hi => ?_, fun mm hm => ?_, ?_, ?_, ?_, ?_, ?_, ?_⟩⟩
  · by_cases g15 : 6 ≤ g ∧ g ≤ 8
    · have eL : cL (pS (pS (pS (pS s 6 (s 0 1) p) 7 (s 0 1) lo) 8 (s 0 1) hi) 0 1 (s 0 1 + 1)) g = s 0 1 + 1 := by
        rcases (show g = 6 ∨ g = 7 ∨ g = 8 by omega) with rfl | rfl | rfl <;> exact r00
      rw [eL] at hj
      by_cases gj : j = s 0 1
      · subst gj
        rcases (show g = 6 ∨ g = 7 ∨ g = 8 by omega) with rfl | rfl | rfl <;> simp [cCv, uI, pS]
      · have o := M.1 g j (by rcases (show g = 6 ∨ g = 7 ∨ g = 8 by omega) with rfl | rfl | rfl <;> (show j < s 0 1; omega))
        rcases (show g = 6 ∨ g = 7 ∨ g = 8 by omega) with rfl | rfl | rfl <;> (simp [cCv] at o; simp [cCv, uI, pS, gj]; exact o)
    · have eL : cL (pS (pS (pS (pS s 6 (s 0 1) p) 7 (s 0 1) lo) 8 (s 0 1) hi) 0 1 (s 0 1 + 1)) g = cL s g := by
        unfold cL
        simp only [r0 0 (by omega), r0 2 (by omega), r0 4 (by omega)]
        split <;> first | rfl | (exfalso; omega)
      rw [eL] at hj
      by_cases g0 : g = 0 ∧ j = 1
      · obtain ⟨rfl, rfl⟩ := g0
        simp [cCv, uI, pS]
      · have ef : pS (pS (pS (pS s 6 (s 0 1) p) 7 (s 0 1) lo) 8 (s 0 1) hi) 0 1 (s 0 1 + 1) g j = s g j := by
          simp only [pS]
          rw [if_neg g0, if_neg (by omega), if_neg (by omega), if_neg (by omega)]
        rw [ef, ← M.1 g j hj]
        unfold cCv
        split <;> first | (exfalso; omega) | simp [uI]
  · have hi' : i < s 0 8 := by simpa [pS] using hi
    have := M.2.1 i hi'
    simp [pS, uI]
    exact this
  · have := M.2.2.1 mm hm
    simp only [r0 3 (by omega)]
    simp [uI, pS]
    exact this
  all_goals rw [r30]; simp [uI]
  · exact M.2.2.2.1
  · exact M.2.2.2.2.1
  · exact M.2.2.2.2.2.1
  · exact M.2.2.2.2.2.2.1
  · exact M.2.2.2.2.2.2.2.1
  · exact M.2.2.2.2.2.2.2.2
theorem S_addPipe {p q w : Nat} (h : SRd t n T b σ s) (hf : s 30 1 = 0) (h7 : s 0 2 < 10) (H : ∀ τ : MS, SB (rdL b) σ τ → SRd t n T b τ (pAddK s p q w) → Q none τ) : R mj_OC d mX0_addPipe Q 0 [some (rV 3 b), some (iV (nI p)), some (iV (nI q)), some (iV (nI w))] [] σ := by
  obtain ⟨⟨a1, a2, a3, a4⟩, ⟨c1, c2, c3, c4⟩, ⟨k, k1, k2, k3⟩, i, ⟨L, l1, l2⟩, m⟩ := h
  have M := m hf
  have ec : σ.1 3 b 6 = nI (s 0 2) := M.1 0 2 (show 2 < 9 by omega)
  refine bX0_addPipe_0 a2 ⟨fun z => ?_, fun _ => ?_⟩
  · rw [ec, show (10 : Int32) = nI 10 from rfl, nI_le2 (by omega) (by omega)] at z; omega
  rw [ec, cl (show s 0 2 < 10 by omega) (by omega), nI_1]
  have fr : ∀ v0 v1 v2 v3 : Int32, SB (rdL b) σ (uI (uI (uI (uI σ 21 b (s 0 2) v0) 22 b (s 0 2) v1) 23 b (s 0 2) v2) 3 b 6 v3) := fun v0 v1 v2 v3 => ((((SB.uI (by simp [rdL])).tr (SB.uI (by simp [rdL]))).tr (SB.uI (by simp [rdL]))).tr (SB.uI (by simp [rdL])))
  refine ⟨vin (show s 0 2 < 10 by omega) (by omega) (by decide), H _ (fr _ _ _ _) ?_⟩
  unfold pAddK
  rw [if_pos hf]
  have r30 : ∀ j, pS (pS (pS (pS s 9 (s 0 2) p) 10 (s 0 2) q) 11 (s 0 2) w) 0 2 (s 0 2 + 1) 30 j = s 30 j := fun j => by simp [pS]
  have r0 : ∀ j, j ≠ 2 → pS (pS (pS (pS s 9 (s 0 2) p) 10 (s 0 2) q) 11 (s 0 2) w) 0 2 (s 0 2 + 1) 0 j = s 0 j := fun j hj => by simp [pS, hj]
  have r00 : pS (pS (pS (pS s 9 (s 0 2) p) 10 (s 0 2) q) 11 (s 0 2) w) 0 2 (s 0 2 + 1) 0 2 = s 0 2 + 1 := by simp [pS]
  refine ⟨⟨a1, a2, fun k hk => by have := a3 k hk; simp [uI]; exact this, by simp [uI]; exact a4⟩, ⟨by rw [r30]; simp [uI]; exact c1, by rw [r30]; exact c2, fun q => by rw [r30] at q; exact absurd hf q, fun _ => by simp [uI]; exact c4 hf⟩, ⟨k, k1, by simp [uI]; exact k2, fun _ => by rw [r30]; exact k3 hf⟩, ⟨by rw [r0 0 (by omega)]; exact i.1, by rw [r0 0 (by omega)]; simp [uI]; exact i.2⟩, ⟨L, l1, by simp [uI]; exact l2⟩, fun _ => ⟨fun g j hj => ?_, fun i hi => ?_, fun mm hm => ?_, ?_, ?_, ?_, ?_, ?_, ?_⟩⟩
  · by_cases g15 : 9 ≤ g ∧ g ≤ 11
    · have eL : cL (pS (pS (pS (pS s 9 (s 0 2) p) 10 (s 0 2) q) 11 (s 0 2) w) 0 2 (s 0 2 + 1)) g = s 0 2 + 1 := by
        rcases (show g = 9 ∨ g = 10 ∨ g = 11 by omega) with rfl | rfl | rfl <;> exact r00
      rw [eL] at hj
      by_cases gj : j = s 0 2
      · subst gj
        rcases (show g = 9 ∨ g = 10 ∨ g = 11 by omega) with rfl | rfl | rfl <;> simp [cCv, uI, pS]
      · have o := M.1 g j (by rcases (show g = 9 ∨ g = 10 ∨ g = 11 by omega) with rfl | rfl | rfl <;> (show j < s 0 2; omega))
        rcases (show g = 9 ∨ g = 10 ∨ g = 11 by omega) with rfl | rfl | rfl <;> (simp [cCv] at o; simp [cCv, uI, pS, gj]; exact o)
    · have eL : cL (pS (pS (pS (pS s 9 (s 0 2) p) 10 (s 0 2) q) 11 (s 0 2) w) 0 2 (s 0 2 + 1)) g = cL s g := by
        unfold cL
        simp only [r0 0 (by omega), r0 1 (by omega), r0 4 (by omega)]
        split <;> first | rfl | (exfalso; omega)
      rw [eL] at hj
      by_cases g0 : g = 0 ∧ j = 2
      · obtain ⟨rfl, rfl⟩ := g0
        simp [cCv, uI, pS]
      · have ef : pS (pS (pS (pS s 9 (s 0 2) p) 10 (s 0 2) q) 11 (s 0 2) w) 0 2 (s 0 2 + 1) g j = s g j := by
          simp only [pS]
          rw [if_neg g0, if_neg (by omega), if_neg (by omega), if_neg (by omega)]
        rw [ef, ← M.1 g j hj]
        unfold cCv
        split <;> first | (exfalso; omega) | simp [uI]
  · have hi' : i < s 0 8 := by simpa [pS] using hi
    have := M.2.1 i hi'
    simp [pS, uI]
    exact this
  · have := M.2.2.1 mm hm
    simp only [r0 3 (by omega)]
    simp [uI, pS]
    exact this
  all_goals rw [r30]; simp [uI]
  · exact M.2.2.2.1
  · exact M.2.2.2.2.1
  · exact M.2.2.2.2.2.1
  · exact M.2.2.2.2.2.2.1
  · exact M.2.2.2.2.2.2.2.1
  · exact M.2.2.2.2.2.2.2.2
theorem S_addBoat {l a : Nat} (h : SRd t n T b σ s) (hf : s 30 1 = 0) (h7 : s 0 4 < 8) (H : ∀ τ : MS, SB (rdL b) σ τ → SRd t n T b τ (pAddB s l a) → Q none τ) : R mj_OC d mX4_addBoat Q 0 [some (rV 4 b), some (iV (nI l)), some (iV (nI a))] [] σ := by
  obtain ⟨⟨a1, a2, a3, a4⟩, ⟨c1, c2, c3, c4⟩, ⟨k, k1, k2, k3⟩, i, ⟨L, l1, l2⟩, m⟩ := h
  have M := m hf
  have ec : σ.1 4 b 4 = nI (s 0 4) := M.1 0 4 (show 4 < 9 by omega)
  refine bX4_addBoat_0 a2 ⟨fun z => ?_, fun _ => ?_⟩
  · rw [ec, show (8 : Int32) = nI 8 from rfl, nI_le2 (by omega) (by omega)] at z; omega
  rw [ec, cl (show s 0 4 < 8 by omega) (by omega), nI_1]
  have fr : ∀ v0 v1 v2 : Int32, SB (rdL b) σ (uI (uI (uI σ 28 b (s 0 4) v0) 29 b (s 0 4) v1) 4 b 4 v2) := fun v0 v1 v2 => (((SB.uI (by simp [rdL])).tr (SB.uI (by simp [rdL]))).tr (SB.uI (by simp [rdL])))
  refine ⟨vin (show s 0 4 < 8 by omega) (by omega) (by decide), H _ (fr _ _ _) ?_⟩
  unfold pAddB
  rw [if_pos hf]
  have r30 : ∀ j, pS (pS (pS s 15 (s 0 4) l) 16 (s 0 4) a) 0 4 (s 0 4 + 1) 30 j = s 30 j := fun j => by simp [pS]
  have r0 : ∀ j, j ≠ 4 → pS (pS (pS s 15 (s 0 4) l) 16 (s 0 4) a) 0 4 (s 0 4 + 1) 0 j = s 0 j := fun j hj => by simp [pS, hj]
  have r00 : pS (pS (pS s 15 (s 0 4) l) 16 (s 0 4) a) 0 4 (s 0 4 + 1) 0 4 = s 0 4 + 1 := by simp [pS]
  refine ⟨⟨a1, a2, fun k hk => by have := a3 k hk; simp [uI]; exact this, by simp [uI]; exact a4⟩, ⟨by rw [r30]; simp [uI]; exact c1, by rw [r30]; exact c2, fun q => by rw [r30] at q; exact absurd hf q, fun _ => by simp [uI]; exact c4 hf⟩, ⟨k, k1, by simp [uI]; exact k2, fun _ => by rw [r30]; exact k3 hf⟩, ⟨by rw [r0 0 (by omega)]; exact i.1, by rw [r0 0 (by omega)]; simp [uI]; exact i.2⟩, ⟨L, l1, by simp [uI]; exact l2⟩, fun _ => ⟨fun g j hj => ?_, fun i hi => ?_, fun mm hm => ?_, ?_, ?_, ?_, ?_, ?_, ?_⟩⟩
  · by_cases g15 : 15 ≤ g ∧ g ≤ 16
    · have eL : cL (pS (pS (pS s 15 (s 0 4) l) 16 (s 0 4) a) 0 4 (s 0 4 + 1)) g = s 0 4 + 1 := by
        rcases (show g = 15 ∨ g = 16 by omega) with rfl | rfl <;> exact r00
      rw [eL] at hj
      by_cases gj : j = s 0 4
      · subst gj
        rcases (show g = 15 ∨ g = 16 by omega) with rfl | rfl <;> simp [cCv, uI, pS]
      · have o := M.1 g j (by rcases (show g = 15 ∨ g = 16 by omega) with rfl | rfl <;> (show j < s 0 4; omega))
        rcases (show g = 15 ∨ g = 16 by omega) with rfl | rfl <;> (simp [cCv] at o; simp [cCv, uI, pS, gj]; exact o)
    · have eL : cL (pS (pS (pS s 15 (s 0 4) l) 16 (s 0 4) a) 0 4 (s 0 4 + 1)) g = cL s g := by
        unfold cL
        simp only [r0 0 (by omega), r0 1 (by omega), r0 2 (by omega)]
        split <;> first | rfl | (exfalso; omega)
      rw [eL] at hj
      by_cases g0 : g = 0 ∧ j = 4
      · obtain ⟨rfl, rfl⟩ := g0
        simp [cCv, uI, pS]
      · have ef : pS (pS (pS s 15 (s 0 4) l) 16 (s 0 4) a) 0 4 (s 0 4 + 1) g j = s g j := by
          simp only [pS]
          rw [if_neg g0, if_neg (by omega), if_neg (by omega)]
        rw [ef, ← M.1 g j hj]
        unfold cCv
        split <;> first | (exfalso; omega) | simp [uI]
  · have hi' : i < s 0 8 := by simpa [pS] using hi
    have := M.2.1 i hi'
    simp [pS, uI]
    exact this
  · have := M.2.2.1 mm hm
    simp only [r0 3 (by omega)]
    simp [uI, pS]
    exact this
  all_goals rw [r30]; simp [uI]
  · exact M.2.2.2.1
  · exact M.2.2.2.2.1
  · exact M.2.2.2.2.2.1
  · exact M.2.2.2.2.2.2.1
  · exact M.2.2.2.2.2.2.2.1
  · exact M.2.2.2.2.2.2.2.2
theorem S_readPond (hT : TF t n T) (h : SRd t n T b σ s) (hN : NB s) (h7 : s 0 0 < 7) (H : ∀ τ : MS, SB (rdL b) σ τ → SRd t n T b τ (pPondL t n s) → Q none τ) : R mj_OC (d + 1 + 1 + 1) mX7_readPond Q 0 [some (rV 1 0), none, none, none, none, none] [] σ := by
  refine bX7_readPond_0 (S_place hT h (fun pl hpl => bX7_readPond_7 (S_ownWord hT h (fun τ v h1 h2 h3 => bX7_readPond_12 ⟨by rw [h2.1.1]; exact h2.1.2.1, ?_⟩))))
  rw [h2.1.1]
  have b2 : b < 2 := h.1.2.1
  have s0 : ∀ f j, f < 30 → pTake t n s 22 f j = s f j := fun f j hj => by
    unfold pTake
    split
    · split
      · exact pA_row f j (by omega)
      · exact pF_row f j (Or.inl hj)
    · rfl
  have h00 := h2.2.2.2.1
  rw [s0 0 0 (by omega)] at h00
  -- the three numbers, and the pond put
  have K : ∀ υ : MS, SB (rdL b) σ υ → SRd t n T b υ (pOwnN t n s) → (pOwnN t n s 30 1 = 0 → v = nI (kv t n s)) → R mj_OC (d + 1 + 1) mX7_number (fun r σ' => R mj_OC (d + 1 + 1 + 1) mX7_readPond Q 38 [some (rV 1 0), some (iV (nI pl)), some (iV v), none, none, none] (r.toList ++ []) σ') 0 [some (rV 1 0), some (iV (1 : Int32)), some (iV (20 : Int32)), none, none] [] υ := by
    intro υ u1 u2 u3
    refine S_number (lo := 1) (hi := 20) hT (by omega) (by omega) u2 (fun υ1 v1 w1 w2 w3 => bX7_readPond_38 (S_number (lo := 0) (hi := 99) hT (by omega) (by omega) w2 (fun υ2 v2 x1 x2 x3 => bX7_readPond_46 (S_number (lo := 0) (hi := 999) hT (by omega) (by omega) x2 (fun υ3 v3 y1 y2 y3 => bX7_readPond_56 ⟨fun z => ?_, fun z => ⟨by rw [y2.1.1]; exact b2, ?_⟩⟩)))))
    · refine H υ3 (((u1.tr w1).tr x1).tr y1) ?_
      unfold pPondL pAddP
      rw [if_neg (fun e => z (y2.z.mpr e))]
      exact y2
    · have f3 := y2.z.mp z
      have f2 := pN_0 f3
      have f1 := pN_0 f2
      have f0 := pN_0 f1
      rw [y2.1.1, u3 f0, (w3 f1).1, (x3 f2).1, (y3 f3).1]
      refine S_addPond y2 f3 ?_ (fun υ4 z1 z2 => bX7_readPond_78 (H υ4 ((((u1.tr w1).tr x1).tr y1).tr z1) z2))
      rw [pN_row 0 0 (by omega), pN_row 0 0 (by omega), pN_row 0 0 (by omega), pO_row 0 0 (by omega)]
      exact h7
  refine S_pNamed (s := s) (a := kv t n s) b2 h00.1 h00.2 (fun x hx => ?_)
  by_cases hf : s 30 1 = 0
  · by_cases k22 : kd t n s = 22
    · have eT : pTake t n s 22 = pAdv s := by unfold pTake; rw [if_pos hf, if_pos k22]
      have hfT : pTake t n s 22 30 1 = 0 := by rw [eT, pAdv_1]; exact hf
      have C := (h2.2.2.2.2.2 hfT).1
      have ev : x = mOpt (gNm s (kv t n s)) := hx (fun p hp => by
        have := C.name (p := p) (by rw [s0 0 0 (by omega)]; exact hp)
        rw [s0 1 p (by omega)] at this
        exact ⟨this, hN p hp⟩) (kv_22 k22) (h3 hfT)
      cases hg : gNm s (kv t n s) with
      | none =>
        rw [hg] at ev
        have eO : pOwnN t n s = pAdv s := by unfold pOwnN; rw [if_pos hf, if_pos k22, if_pos hg]
        exact bX7_readPond_21 ⟨fun _ => K τ h1 (by rw [eO, ← eT]; exact h2) (fun _ => h3 hfT), fun y => absurd ev y⟩
      | some p =>
        rw [hg] at ev
        have eO : pOwnN t n s = pFail s 3 (kp t n s) := by unfold pOwnN; rw [if_pos hf, if_pos k22, if_neg (by rw [hg]; simp)]
        have nf : ¬ pOwnN t n s 30 1 = 0 := by rw [eO, (pF_0 hf).1]; omega
        have pb : ∀ m q, gNmG s (kv t n s) m q = some p → p < q + m := by
          intro m
          induction m with
          | zero => intro q e; exact absurd e (by simp [gNmG])
          | succ m ih =>
            intro q e
            rw [gNmG] at e
            split at e
            · injection e with e; omega
            · have := ih (q + 1) e; omega
        have := pb (s 0 0) 0 hg
        refine bX7_readPond_21 ⟨fun y => ?_, fun _ => ?_⟩
        · rw [ev] at y; exact absurd y (nI_m1 (by omega))
        · rw [hpl hf]
          have K' := K
          rw [hpl hf] at K'
          refine S_fail (e := 3) (by omega) h2 (fun υ u1 u2 => bX7_readPond_31 (K' υ (h1.tr u1) ?_ (fun q => absurd q nf)))
          rw [eO]
          exact SRd.late hf (by omega) hfT (s0 0 0 (by omega)) u2
    · have eT : pTake t n s 22 = pFail s 1 (kp t n s) := by unfold pTake; rw [if_pos hf, if_neg k22]
      have eO : pOwnN t n s = pFail s 1 (kp t n s) := by unfold pOwnN; rw [if_pos hf, if_neg k22]
      have nf : ¬ pFail s 1 (kp t n s) 30 1 = 0 := by rw [(pF_0 hf).1]; omega
      rw [eT] at h2
      refine bX7_readPond_21 ⟨fun _ => K τ h1 (by rw [eO]; exact h2) (fun q => by rw [eO] at q; exact absurd q nf), fun _ => ?_⟩
      refine S_fail (e := 3) (by omega) h2 (fun υ u1 u2 => bX7_readPond_31 (K υ (h1.tr u1) ?_ (fun q => by rw [eO] at q; exact absurd q nf)))
      rw [pFail_f nf] at u2; rw [eO]; exact u2
  · have eO : pOwnN t n s = s := pO_f hf
    rw [pT_f hf] at h2
    refine bX7_readPond_21 ⟨fun _ => K τ h1 (by rw [eO]; exact h2) (fun q => by rw [eO] at q; exact absurd q hf), fun _ => ?_⟩
    refine S_fail (e := 3) (by omega) h2 (fun υ u1 u2 => bX7_readPond_31 (K υ (h1.tr u1) ?_ (fun q => by rw [eO] at q; exact absurd q hf)))
    rw [pFail_f hf] at u2; rw [eO]; exact u2
end Pn
