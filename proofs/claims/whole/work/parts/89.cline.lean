abbrev pFull (s : CA) (k : Nat) : Prop := (k = 0 ∧ 7 ≤ s 0 0) ∨ (k = 1 ∧ 3 ≤ s 0 1) ∨ (k = 2 ∧ 10 ≤ s 0 2) ∨ (k = 3 ∧ 12 ≤ s 0 3) ∨ (k = 4 ∧ 8 ≤ s 0 4)
abbrev pTold (s : CA) (k : Nat) : Prop := (k = 6 ∧ s 30 3 ≠ 0) ∨ (k = 7 ∧ s 30 4 ≠ 0)
def pEnd (s : CA) : CA := if s 30 1 = 0 then pS s 30 8 (s 30 8 + 1) else s
section Pt
variable (t : Nat → Nat) (n : Nat)
def pBody (k : Nat) (a : CA) : CA := if k = 0 then pPondL t n a else if k = 1 then pLockL t n a else if k = 2 then pPipeL t n a else if k = 3 then pTurnL t n a else if k = 4 then pBoatL t n a else if k = 5 then pSprL t n a else if k = 6 then pJamL t n a else if k = 7 then pSeedL t n a else pLawL t n a
def pLine (s : CA) : CA := if 8 < kd t n s then pFail s 1 (kp t n s) else if pFull s (kd t n s) then pFail s 2 (kp t n s) else if pTold s (kd t n s) then pFail s 3 (kp t n s) else pEnd (pTake t n (pBody t n (kd t n s) (pAdv s)) 24)
def pRead : Nat → CA → CA
  | 0, s => s
  | m + 1, s => if s 30 1 = 0 then (if kd t n s = 37 then s else pRead m (pLine t n s)) else s
end Pt
/-- what holds where a line begins -/
def LI (s : CA) : Prop := CV s ∧ PB2 s ∧ s 30 11 < 2 ^ 31 ∧ s 30 3 ≤ 1 ∧ s 30 4 ≤ 1
section Pu
variable {d : Nat} {Q : Option MV → MS → Prop} {σ : MS} {t : Nat → Nat} {n T b : Nat} {s : CA}
theorem kdep_r {c c' : CA} (h19 : c' 19 = c 19) (h20 : c' 20 = c 20) : ∀ (m i dp : Nat), kdep c' i m dp = kdep c i m dp := by
  intro m
  induction m with
  | zero => intro i dp; rfl
  | succ m ih =>
    intro i dp
    unfold kdep
    rw [h19, h20, ih, ih, ih]
theorem CV.r {s' : CA} (h : CV s) (hs : ∀ f, f < 30 → s' f = s f) : CV s' := by
  have e0 := hs 0 (by omega)
  have e1 := hs 1 (by omega)
  have e2 := hs 2 (by omega)
  have e3 := hs 3 (by omega)
  have e4 := hs 4 (by omega)
  have e5 := hs 5 (by omega)
  have e6 := hs 6 (by omega)
  have e7 := hs 7 (by omega)
  have e8 := hs 8 (by omega)
  have e9 := hs 9 (by omega)
  have e10 := hs 10 (by omega)
  have e11 := hs 11 (by omega)
  have e12 := hs 12 (by omega)
  have e13 := hs 13 (by omega)
  have e14 := hs 14 (by omega)
  have e15 := hs 15 (by omega)
  have e16 := hs 16 (by omega)
  have e17 := hs 17 (by omega)
  have e18 := hs 18 (by omega)
  have e19 := hs 19 (by omega)
  have e20 := hs 20 (by omega)
  unfold CV at h ⊢
  simp only [e0, e1, e2, e3, e4, e5, e6, e7, e8, e9, e10, e11, e12, e13, e14, e15, e16, e17, e18, kdep_r e19 e20]
  rw [e19, e20]
  exact h
theorem pA_f {f : Nat} (hf : f < 30) : pAdv s f = s f := funext fun j => pA_row f j (by omega)
theorem S_hasAllOf {k : Nat} (hb : b < 2) (hk : k ≤ 8) (h0 : σ.1 3 b 0 = nI (s 0 0)) (h1 : σ.1 4 b 0 = nI (s 0 1)) (h2 : σ.1 3 b 6 = nI (s 0 2)) (h3 : σ.1 3 b 10 = nI (s 0 3)) (h4 : σ.1 4 b 4 = nI (s 0 4)) (hV : CV s) (H1 : pFull s k → Q (some (iV 1)) σ) (H0 : ¬ pFull s k → Q (some (iV 0)) σ) : R mj_OC d mX0_hasAllOf Q 0 [some (rV 3 b), some (iV (nI k))] [] σ := by
  have a0 := hV.np
  have a1 := hV.nl
  have a2 := hV.nk
  have a3 := hV.nt
  have a4 := hV.nb
  have c : ∀ m : Nat, m < 9 → (nI k = nI m ↔ k = m) := fun m hm => nI_inj (by omega) (by omega)
  have c0 : nI k = (0 : Int32) ↔ k = 0 := c 0 (by omega)
  have c1 : nI k = (1 : Int32) ↔ k = 1 := c 1 (by omega)
  have c2 : nI k = (2 : Int32) ↔ k = 2 := c 2 (by omega)
  have c3 : nI k = (3 : Int32) ↔ k = 3 := c 3 (by omega)
  have c4 : nI k = (4 : Int32) ↔ k = 4 := c 4 (by omega)
  refine bX0_hasAllOf_0 hb ?_
  rw [h0, h1, h2, h3, h4, c0, c1, c2, c3, c4, show (7 : Int32) = nI 7 from rfl, show (3 : Int32) = nI 3 from rfl, show (10 : Int32) = nI 10 from rfl, show (12 : Int32) = nI 12 from rfl, show (8 : Int32) = nI 8 from rfl, nI_ltI (by omega) (by omega), nI_ltI (by omega) (by omega), nI_ltI (by omega) (by omega), nI_ltI (by omega) (by omega), nI_ltI (by omega) (by omega)]
  unfold pFull at H1 H0
  exact ⟨fun g => ⟨fun z => H0 (by omega), fun z => H1 (by omega)⟩, fun g0 => ⟨fun g => ⟨fun z => H0 (by omega), fun z => H1 (by omega)⟩, fun g1 => ⟨fun g => ⟨fun z => H0 (by omega), fun z => H1 (by omega)⟩, fun g2 => ⟨fun g => ⟨fun z => H0 (by omega), fun z => H1 (by omega)⟩, fun g3 => ⟨fun g => ⟨fun z => H0 (by omega), fun z => H1 (by omega)⟩, fun g4 => H0 (by omega)⟩⟩⟩⟩⟩
theorem S_readLine {D : Nat} (hT : TF t n T) (h : SRd t n T b σ s) (hf : s 30 1 = 0) (hL : LI s) (hD : 181 ≤ D) (H : ∀ τ : MS, SB (rdL b) σ τ → SRd t n T b τ (pLine t n s) → Q none τ) : R mj_OC (D + 1) mX7_readLine Q 0 [some (rV 1 0), none] [] σ := by
  obtain ⟨hV, hB, h11, h33, h34⟩ := hL
  have b2 : b < 2 := h.1.2.1
  have k38 := kd_le (t := t) (n := n) (s := s)
  have M := h.2.2.2.2.2 hf
  have a0 := hV.np
  have a1 := hV.nl
  have a2 := hV.nk
  have a3 := hV.nt
  have a4 := hV.nb
  obtain ⟨D, rfl⟩ : ∃ D', D = D' + 1 + 1 + 1 + 1 := ⟨D - 4, by omega⟩
  refine bX7_readLine_0 (S_kind hT h (fun v hv => ?_))
  rw [hv hf]
  have c8 : nI (kd t n s) ≤ (8 : Int32) ↔ kd t n s ≤ 8 := nI_le2 (b := 8) (by omega) (by omega)
  refine bX7_readLine_7 ⟨fun z => ⟨by rw [h.1.1]; exact b2, ?_⟩, fun z => ?_⟩
  · rw [c8] at z
    rw [h.1.1]
    refine S_hasAllOf (s := s) b2 z M.1.np M.1.nl M.1.nk M.1.nt M.1.nb hV (fun g => bX7_readLine_35 ⟨fun y => absurd y (by decide), fun _ => ?_⟩) (fun g => ?_)
    · refine S_place hT h (fun pl hpl => bX7_readLine_47 ?_)
      rw [hpl hf]
      refine S_fail (e := 2) (by omega) h (fun τ h1 h2 => bX7_readLine_50 (H τ h1 ?_))
      unfold pLine; rw [if_neg (by omega), if_pos g]; exact h2
    · have c : ∀ m : Nat, m < 9 → (nI (kd t n s) = nI m ↔ kd t n s = m) := fun m hm => nI_inj (by omega) (by omega)
      have c0 : nI (kd t n s) = (0 : Int32) ↔ kd t n s = 0 := c 0 (by omega)
      have c1 : nI (kd t n s) = (1 : Int32) ↔ kd t n s = 1 := c 1 (by omega)
      have c2 : nI (kd t n s) = (2 : Int32) ↔ kd t n s = 2 := c 2 (by omega)
      have c3 : nI (kd t n s) = (3 : Int32) ↔ kd t n s = 3 := c 3 (by omega)
      have c4 : nI (kd t n s) = (4 : Int32) ↔ kd t n s = 4 := c 4 (by omega)
      have c5 : nI (kd t n s) = (5 : Int32) ↔ kd t n s = 5 := c 5 (by omega)
      have c6 : nI (kd t n s) = (6 : Int32) ↔ kd t n s = 6 := c 6 (by omega)
      have c7 : nI (kd t n s) = (7 : Int32) ↔ kd t n s = 7 := c 7 (by omega)
      have t6 : σ.1 1 0 6 = (0 : Int32) ↔ s 30 3 = 0 := by rw [M.2.2.2.2.2.1]; exact nI_inj (b := 0) (by omega) (by omega)
      have t7 : σ.1 1 0 7 = (0 : Int32) ↔ s 30 4 = 0 := by rw [M.2.2.2.2.2.2.1]; exact nI_inj (b := 0) (by omega) (by omega)
      have told : pTold s (kd t n s) → R mj_OC (D + 1 + 1 + 1 + 1) mX9_place (fun r σ' => R mj_OC (D + 1 + 1 + 1 + 1 + 1) mX7_readLine Q 86 [some (rV 1 0), some (iV (nI (kd t n s)))] (r.toList ++ [iV (3 : Int32), rV 1 0]) σ') 0 [some (rV 2 0)] [] σ := fun g2 => by
        refine S_place hT h (fun pl hpl => bX7_readLine_86 ?_)
        rw [hpl hf]
        refine S_fail (e := 3) (by omega) h (fun τ h1 h2 => bX7_readLine_89 (H τ h1 ?_))
        unfold pLine; rw [if_neg (by omega), if_neg g, if_pos g2]; exact h2
      have go : ¬ pTold s (kd t n s) → R mj_OC (D + 1 + 1 + 1 + 1) mX9_advance (fun r σ' => R mj_OC (D + 1 + 1 + 1 + 1 + 1) mX7_readLine Q 97 [some (rV 1 0), some (iV (nI (kd t n s)))] (r.toList ++ []) σ') 0 [some (rV 2 0)] [] σ := fun g2 => by
        have eL : pLine t n s = pEnd (pTake t n (pBody t n (kd t n s) (pAdv s)) 24) := by unfold pLine; rw [if_neg (by omega), if_neg g, if_neg g2]
        rw [eL] at H
        refine S_tAdv hT h hf (by omega) (fun τ h1 h2 => bX7_readLine_97 ?_)
        have fa : pAdv s 30 1 = 0 := by rw [pAdv_1]; exact hf
        have hVa : CV (pAdv s) := hV.r (fun f hf => pA_f hf)
        have hBa : PB2 (pAdv s) := fun q => by
          rw [pA_row 0 8 (by omega), pA_row 30 10 (by omega)]; exact hB hf
        have e0 : ∀ j, pAdv s 0 j = s 0 j := fun j => pA_row 0 j (by omega)
        unfold pFull at g
        have fin : ∀ υ : MS, SB (rdL b) σ υ → SRd t n T b υ (pTake t n (pBody t n (kd t n s) (pAdv s)) 24) → R mj_OC (D + 1 + 1 + 1 + 1 + 1) mX7_readLine Q 210 [some (rV 1 0), some (iV (nI (kd t n s)))] [] υ := fun υ u1 u2 => by
          refine bX7_readLine_210 (H _ (u1.tr (SB.uI (by simp [rdL]))) ?_)
          unfold pEnd
          by_cases fe : pTake t n (pBody t n (kd t n s) (pAdv s)) 24 30 1 = 0
          · rw [if_pos fe, (u2.2.2.2.2.2 fe).2.2.2.1, nI_1]
            exact u2.u30 (c := 4) (r := 8) fe (by unfold rdP; omega)
          · rw [if_neg fe]
            exact u2.uf fe (by omega)
        rw [c0, c1, c2, c3, c4, c5, c6, c7]
        refine ⟨fun z => ?_, fun n0 => ⟨fun z => ?_, fun n1 => ⟨fun z => ?_, fun n2 => ⟨fun z => ?_, fun n3 => ⟨fun z => ?_, fun n4 => ⟨fun z => ?_, fun n5 => ⟨fun z => ?_, fun n6 => ⟨fun z => ?_, fun n7 => ?_⟩⟩⟩⟩⟩⟩⟩⟩
        · have eb : pBody t n (kd t n s) (pAdv s) = pPondL t n (pAdv s) := by unfold pBody; rw [if_pos z]
          rw [eb] at fin
          exact S_readPond hT h2 hVa.nb' (by rw [e0]; omega) (fun υ u1 u2 => bX7_readLine_148 (S_take (K := 24) hT (by omega) u2 (fun ω w1 w2 => fin ω ((h1.tr u1).tr w1) w2)))
        · have eb : pBody t n (kd t n s) (pAdv s) = pLockL t n (pAdv s) := by unfold pBody; rw [if_neg n0, if_pos z]
          rw [eb] at fin
          exact S_readLock hT h2 hVa (by rw [e0]; omega) (fun υ u1 u2 => bX7_readLine_155 (S_take (K := 24) hT (by omega) u2 (fun ω w1 w2 => fin ω ((h1.tr u1).tr w1) w2)))
        · have eb : pBody t n (kd t n s) (pAdv s) = pPipeL t n (pAdv s) := by unfold pBody; rw [if_neg n0, if_neg n1, if_pos z]
          rw [eb] at fin
          exact S_readPipe hT h2 hVa (by rw [e0]; omega) (fun υ u1 u2 => bX7_readLine_162 (S_take (K := 24) hT (by omega) u2 (fun ω w1 w2 => fin ω ((h1.tr u1).tr w1) w2)))
        · have eb : pBody t n (kd t n s) (pAdv s) = pTurnL t n (pAdv s) := by unfold pBody; rw [if_neg n0, if_neg n1, if_neg n2, if_pos z]
          rw [eb] at fin
          exact S_readTurn hT h2 hVa (by rw [e0]; omega) (fun υ u1 u2 => bX7_readLine_169 (S_take (K := 24) hT (by omega) u2 (fun ω w1 w2 => fin ω ((h1.tr u1).tr w1) w2)))
        · have eb : pBody t n (kd t n s) (pAdv s) = pBoatL t n (pAdv s) := by unfold pBody; rw [if_neg n0, if_neg n1, if_neg n2, if_neg n3, if_pos z]
          rw [eb] at fin
          exact S_readBoat hT h2 hVa (by rw [e0]; omega) (fun υ u1 u2 => bX7_readLine_176 (S_take (K := 24) hT (by omega) u2 (fun ω w1 w2 => fin ω ((h1.tr u1).tr w1) w2)))
        · have eb : pBody t n (kd t n s) (pAdv s) = pSprL t n (pAdv s) := by unfold pBody; rw [if_neg n0, if_neg n1, if_neg n2, if_neg n3, if_neg n4, if_pos z]
          rw [eb] at fin
          exact S_readSpring hT h2 hVa (by rw [pA_row 30 11 (by omega)]; exact h11) (fun υ u1 u2 => bX7_readLine_183 (S_take (K := 24) hT (by omega) u2 (fun ω w1 w2 => fin ω ((h1.tr u1).tr w1) w2)))
        · have eb : pBody t n (kd t n s) (pAdv s) = pJamL t n (pAdv s) := by unfold pBody; rw [if_neg n0, if_neg n1, if_neg n2, if_neg n3, if_neg n4, if_neg n5, if_pos z]
          rw [eb] at fin
          exact S_readJam hT h2 fa (fun υ u1 u2 => bX7_readLine_190 (S_take (K := 24) hT (by omega) u2 (fun ω w1 w2 => fin ω ((h1.tr u1).tr w1) w2)))
        · have eb : pBody t n (kd t n s) (pAdv s) = pSeedL t n (pAdv s) := by unfold pBody; rw [if_neg n0, if_neg n1, if_neg n2, if_neg n3, if_neg n4, if_neg n5, if_neg n6, if_pos z]
          rw [eb] at fin
          exact S_readSeed hT h2 fa (fun υ u1 u2 => bX7_readLine_197 (S_take (K := 24) hT (by omega) u2 (fun ω w1 w2 => fin ω ((h1.tr u1).tr w1) w2)))
        · have eb : pBody t n (kd t n s) (pAdv s) = pLawL t n (pAdv s) := by unfold pBody; rw [if_neg n0, if_neg n1, if_neg n2, if_neg n3, if_neg n4, if_neg n5, if_neg n6, if_neg n7]
          rw [eb] at fin
          exact S_readLaw hT h2 fa hVa hBa (by omega) (fun υ u1 u2 => bX7_readLine_204 (S_take (K := 24) hT (by omega) u2 (fun ω w1 w2 => fin ω ((h1.tr u1).tr w1) w2)))
      unfold pTold at told go
      refine bX7_readLine_35 ⟨fun _ => ?_, fun y => absurd rfl y⟩
      rw [c6, c7, t6, t7]
      exact ⟨fun g6 => ⟨fun g7 => go (by omega), fun g7 => ⟨fun z => go (by omega), fun z => told (by omega)⟩⟩, fun g6 => ⟨fun z => told (by omega), fun z => ⟨fun g7 => go (by omega), fun g7 => absurd g7 (by omega)⟩⟩⟩
  · rw [c8] at z
    refine S_place hT h (fun pl hpl => bX7_readLine_23 ?_)
    rw [hpl hf]
    refine S_fail (e := 1) (by omega) h (fun τ h1 h2 => bX7_readLine_26 (H τ h1 ?_))
    unfold pLine; rw [if_pos (by omega)]; exact h2
end Pu
