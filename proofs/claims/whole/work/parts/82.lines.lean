/-! the lines, as canals -/
def qLkG (s : CA) (p : Nat) : Nat → Nat → Option Nat
  | 0, _ => none
  | m + 1, l => if s 6 l = p then some l else qLkG s p m (l + 1)
/-- the lock of a pond -/
def qLk (s : CA) (p : Nat) : Option Nat := qLkG s p (s 0 1) 0
def gPpG (s : CA) (p q : Nat) : Nat → Nat → Bool
  | 0, _ => false
  | m + 1, k => if (s 9 k = p ∧ s 10 k = q) ∨ (s 9 k = q ∧ s 10 k = p) then true else gPpG s p q m (k + 1)
/-- whether a pipe between two ponds is told -/
def gPp (s : CA) (p q : Nat) : Bool := gPpG s p q (s 0 2) 0
def pAddP (s : CA) (nm a f w : Nat) : CA := if s 30 1 = 0 then pS (pS (pS (pS (pS (pS s 1 (s 0 0) nm) 2 (s 0 0) a) 3 (s 0 0) f) 4 (s 0 0) w) 5 (s 0 0) 0) 0 0 (s 0 0 + 1) else s
def pAddL (s : CA) (p lo hi : Nat) : CA := if s 30 1 = 0 then pS (pS (pS (pS s 6 (s 0 1) p) 7 (s 0 1) lo) 8 (s 0 1) hi) 0 1 (s 0 1 + 1) else s
def pAddK (s : CA) (p q w : Nat) : CA := if s 30 1 = 0 then pS (pS (pS (pS s 9 (s 0 2) p) 10 (s 0 2) q) 11 (s 0 2) w) 0 2 (s 0 2 + 1) else s
def pAddT (s : CA) (k a f : Nat) : CA := if s 30 1 = 0 then pS (pS (pS (pS s 12 (s 0 3) k) 13 (s 0 3) a) 14 (s 0 3) f) 0 3 (s 0 3 + 1) else s
def pAddB (s : CA) (l a : Nat) : CA := if s 30 1 = 0 then pS (pS (pS s 15 (s 0 4) l) 16 (s 0 4) a) 0 4 (s 0 4 + 1) else s
def pAddS (s : CA) (p v : Nat) : CA := if s 30 1 = 0 then pS (pS s 5 p v) 30 11 (s 30 11 ||| 2 ^ p) else s
section Pl
variable (t : Nat → Nat) (n : Nat)
/-- a pond's own name -/
def pOwnN (s : CA) : CA := if s 30 1 = 0 then (if kd t n s = 22 then (if gNm s (kv t n s) = none then pAdv s else pFail s 3 (kp t n s)) else pFail s 1 (kp t n s)) else s
def pPondL (s : CA) : CA := pAddP (pNum t n (pNum t n (pNum t n (pOwnN t n s) 1 20) 0 99) 0 999) (kv t n s) (kv t n (pOwnN t n s)) (kv t n (pNum t n (pOwnN t n s) 1 20)) (kv t n (pNum t n (pNum t n (pOwnN t n s) 1 20) 0 99))
def pd (s : CA) : Nat := (gNm s (kv t n s)).getD 0
def pLkN (s : CA) : CA := if s 30 1 = 0 then (if kd t n s = 22 then (if gNm s (kv t n s) = none then pFail s 4 (kp t n s) else if qLk s (pd t n s) = none then pAdv s else pFail s 3 (kp t n s)) else pFail s 1 (kp t n s)) else s
def pLockL (s : CA) : CA := pAddL (pNum t n (pNum t n (pLkN t n s) 0 199) 0 199) (pd t n s) (kv t n (pLkN t n s)) (kv t n (pNum t n (pLkN t n s) 0 199))
def pPpN (s : CA) (p : Nat) : CA := if s 30 1 = 0 then (if kd t n s = 22 then (if gNm s (kv t n s) = none then pFail s 4 (kp t n s) else if gPp s p (pd t n s) = true then pFail s 3 (kp t n s) else if p = pd t n s then pFail s 5 (kp t n s) else pAdv s) else pFail s 1 (kp t n s)) else s
def pPipeL (s : CA) : CA := pAddK (pNum t n (pPpN t n (pPond t n s) (pd t n s)) 1 99) (pd t n s) (pd t n (pPond t n s)) (kv t n (pPpN t n (pPond t n s) (pd t n s)))
def pTnN (s : CA) : CA := if s 30 1 = 0 then (if kd t n s = 23 then (if 9 < kv t n s then pFail s 2 (kp t n s) else if s 0 2 ≤ kv t n s then pFail s 4 (kp t n s) else pAdv s) else pFail s 1 (kp t n s)) else s
def pTurnL (s : CA) : CA := pAddT (pNum t n (pNum t n (pTnN t n s) 0 99) 1 20) (kv t n s) (kv t n (pTnN t n s)) (kv t n (pNum t n (pTnN t n s) 0 99))
def pBtN (s : CA) : CA := if s 30 1 = 0 then (if kd t n s = 22 then (if gNm s (kv t n s) = none then pFail s 4 (kp t n s) else if qLk s (pd t n s) = none then pFail s 4 (kp t n s) else pAdv s) else pFail s 1 (kp t n s)) else s
def pBoatL (s : CA) : CA := pAddB (pNum t n (pBtN t n s) 0 99) ((qLk s (pd t n s)).getD 0) (kv t n (pBtN t n s))
def pSpN (s : CA) : CA := if s 30 1 = 0 then (if kd t n s = 22 then (if gNm s (kv t n s) = none then pFail s 4 (kp t n s) else if (s 30 11).testBit (pd t n s) = true then pFail s 3 (kp t n s) else pAdv s) else pFail s 1 (kp t n s)) else s
def pSprL (s : CA) : CA := pAddS (pNum t n (pSpN t n s) 0 9) (pd t n s) (kv t n (pSpN t n s))
def pJamL (s : CA) : CA := if (pNum t n (pS s 30 3 1) 0 100) 30 1 = 0 then pS (pNum t n (pS s 30 3 1) 0 100) 0 6 (kv t n s) else pNum t n (pS s 30 3 1) 0 100
def pSeedL (s : CA) : CA := if (pNum t n (pS s 30 4 1) 0 99999) 30 1 = 0 then pS (pNum t n (pS s 30 4 1) 0 99999) 0 7 (kv t n s) else pNum t n (pS s 30 4 1) 0 99999
end Pl
section Pm
variable {d : Nat} {Q : Option MV → MS → Prop} {σ : MS} {t : Nat → Nat} {n T b : Nat} {s : CA}
/-- in a fault only the fault itself counts -/
theorem SRd.ff {u u' : CA} (h : SRd t n T b σ u) (hf : ¬ u 30 1 = 0) (h1 : u' 30 1 = u 30 1) (h2 : u' 30 2 = u 30 2) (h0 : u' 0 0 = u 0 0) : SRd t n T b σ u' := by
  obtain ⟨a, ⟨c1, c2, c3, c4⟩, ⟨k, k1, k2, k3⟩, i, l, m⟩ := h
  exact ⟨a, ⟨by rw [h1]; exact c1, by rw [h1]; exact c2, fun q => by rw [h2]; exact c3 hf, fun q => by rw [h1] at q; exact absurd q hf⟩, ⟨k, k1, k2, fun q => by rw [h1] at q; exact absurd q hf⟩, by rw [h0]; exact i, l, fun q => by rw [h1] at q; exact absurd q hf⟩
/-- a fault told of a token that was passed -/
theorem SRd.late {u : CA} {e pl : Nat} (hf : s 30 1 = 0) (he : 1 ≤ e) (hu : u 30 1 = 0) (h0 : u 0 0 = s 0 0) (h : SRd t n T b σ (pFail u e pl)) : SRd t n T b σ (pFail s e pl) := by
  have a := pF_0 (s := u) (e := e) (pl := pl) hu
  have c := pF_0 (s := s) (e := e) (pl := pl) hf
  exact h.ff (by rw [a.1]; omega) (by rw [a.1, c.1]) (by rw [a.2, c.2]) (by rw [pF_row 0 0 (Or.inl (by omega)), pF_row 0 0 (Or.inl (by omega)), h0])
theorem pA_row (f j : Nat) (h : ¬ (f = 30 ∧ j = 0)) : pAdv s f j = s f j := by simp only [pAdv, pS]; rw [if_neg h]
theorem pN_row {lo hi : Nat} (f j : Nat) (h : f < 30 ∨ 3 ≤ j) : pNum t n s lo hi f j = s f j := by
  unfold pNum
  split
  · split
    · split
      · exact pF_row f j (by omega)
      · exact pA_row f j (by omega)
    · exact pF_row f j (by omega)
  · rfl
theorem pO_row (f j : Nat) (h : f < 30 ∨ 3 ≤ j) : pOwnN t n s f j = s f j := by
  unfold pOwnN
  split
  · split
    · split
      · exact pA_row f j (by omega)
      · exact pF_row f j (by omega)
    · exact pF_row f j (by omega)
  · rfl
theorem pN_0 {lo hi : Nat} (h : pNum t n s lo hi 30 1 = 0) : s 30 1 = 0 := by
  by_cases g : s 30 1 = 0
  · exact g
  · rw [pN_f g] at h; exact absurd h g
theorem pO_0 (h : pOwnN t n s 30 1 = 0) : s 30 1 = 0 ∧ kd t n s = 22 := by
  unfold pOwnN at h
  by_cases g : s 30 1 = 0
  · rw [if_pos g] at h
    by_cases k : kd t n s = 22
    · exact ⟨g, k⟩
    · rw [if_neg k, (pF_0 g).1] at h; omega
  · rw [if_neg g] at h; exact absurd h g
theorem pO_f (h : ¬ s 30 1 = 0) : pOwnN t n s = s := by unfold pOwnN; rw [if_neg h]
/-- a pond put into the class's canal -/
theorem S_addPond {nm a f w : Nat} (h : SRd t n T b σ s) (hf : s 30 1 = 0) (h7 : s 0 0 < 7) (H : ∀ τ : MS, SB (rdL b) σ τ → SRd t n T b τ (pAddP s nm a f w) → Q none τ) : R mj_OC d mX0_addPond Q 0 [some (rV 3 b), some (iV (nI nm)), some (iV (nI a)), some (iV (nI f)), some (iV (nI w))] [] σ := by
  obtain ⟨⟨a1, a2, a3, a4⟩, ⟨c1, c2, c3, c4⟩, ⟨k, k1, k2, k3⟩, i, ⟨L, l1, l2⟩, m⟩ := h
  have M := m hf
  refine bX0_addPond_0 a2 ⟨fun z => ?_, fun _ => ?_⟩
  · rw [i.2, show (7 : Int32) = nI 7 from rfl, nI_le2 (by omega) (by omega)] at z; omega
  rw [i.2, cl (show s 0 0 < 7 by omega) (by omega), nI_1]
  have fr : ∀ v1 v2 v3 v4 v5 v6 : Int32, SB (rdL b) σ (uI (uI (uI (uI (uI (uI σ 16 b (s 0 0) v1) 17 b (s 0 0) v2) 18 b (s 0 0) v3) 19 b (s 0 0) v4) 20 b (s 0 0) v5) 3 b 0 v6) := fun v1 v2 v3 v4 v5 v6 =>
    (((((SB.uI (by simp [rdL])).tr (SB.uI (by simp [rdL]))).tr (SB.uI (by simp [rdL]))).tr (SB.uI (by simp [rdL]))).tr (SB.uI (by simp [rdL]))).tr (SB.uI (by simp [rdL]))
  refine ⟨vin (show s 0 0 < 7 by omega) (by omega) (by decide), H _ (fr _ _ _ _ _ _) ?_⟩
  unfold pAddP
  rw [if_pos hf]
  have r30 : ∀ j, pS (pS (pS (pS (pS (pS s 1 (s 0 0) nm) 2 (s 0 0) a) 3 (s 0 0) f) 4 (s 0 0) w) 5 (s 0 0) 0) 0 0 (s 0 0 + 1) 30 j = s 30 j := fun j => by simp [pS]
  have r0 : ∀ j, j ≠ 0 → pS (pS (pS (pS (pS (pS s 1 (s 0 0) nm) 2 (s 0 0) a) 3 (s 0 0) f) 4 (s 0 0) w) 5 (s 0 0) 0) 0 0 (s 0 0 + 1) 0 j = s 0 j := fun j hj => by simp [pS, hj]
  have r00 : pS (pS (pS (pS (pS (pS s 1 (s 0 0) nm) 2 (s 0 0) a) 3 (s 0 0) f) 4 (s 0 0) w) 5 (s 0 0) 0) 0 0 (s 0 0 + 1) 0 0 = s 0 0 + 1 := by simp [pS]
  refine ⟨⟨a1, a2, fun k hk => by have := a3 k hk; simp [uI]; exact this, by simp [uI]; exact a4⟩, ⟨by rw [r30]; simp [uI]; exact c1, by rw [r30]; exact c2, fun q => by rw [r30] at q; exact absurd hf q, fun _ => by simp [uI]; exact c4 hf⟩, ⟨k, k1, by simp [uI]; exact k2, fun _ => by rw [r30]; exact k3 hf⟩, ⟨by rw [r00]; omega, by rw [r00]; simp [uI]⟩, ⟨L, l1, by simp [uI]; exact l2⟩, fun _ => ⟨fun g j hj => ?_, fun i hi => ?_, fun mm hm => ?_, ?_, ?_, ?_, ?_, ?_, ?_⟩⟩
  · by_cases g15 : 1 ≤ g ∧ g ≤ 5
    · have eL : cL (pS (pS (pS (pS (pS (pS s 1 (s 0 0) nm) 2 (s 0 0) a) 3 (s 0 0) f) 4 (s 0 0) w) 5 (s 0 0) 0) 0 0 (s 0 0 + 1)) g = s 0 0 + 1 := by
        rcases (show g = 1 ∨ g = 2 ∨ g = 3 ∨ g = 4 ∨ g = 5 by omega) with rfl | rfl | rfl | rfl | rfl <;> exact r00
      rw [eL] at hj
      by_cases gj : j = s 0 0
      · subst gj
        rcases (show g = 1 ∨ g = 2 ∨ g = 3 ∨ g = 4 ∨ g = 5 by omega) with rfl | rfl | rfl | rfl | rfl <;> simp [cCv, uI, pS] <;> rfl
      · have o := M.1 g j (by rcases (show g = 1 ∨ g = 2 ∨ g = 3 ∨ g = 4 ∨ g = 5 by omega) with rfl | rfl | rfl | rfl | rfl <;> (show j < s 0 0; omega))
        rcases (show g = 1 ∨ g = 2 ∨ g = 3 ∨ g = 4 ∨ g = 5 by omega) with rfl | rfl | rfl | rfl | rfl <;> (simp [cCv] at o; simp [cCv, uI, pS, gj]; exact o)
    · have eL : cL (pS (pS (pS (pS (pS (pS s 1 (s 0 0) nm) 2 (s 0 0) a) 3 (s 0 0) f) 4 (s 0 0) w) 5 (s 0 0) 0) 0 0 (s 0 0 + 1)) g = cL s g := by
        unfold cL
        simp only [r0 1 (by omega), r0 2 (by omega), r0 4 (by omega)]
        split <;> first | rfl | (exfalso; omega)
      rw [eL] at hj
      by_cases g0 : g = 0 ∧ j = 0
      · obtain ⟨rfl, rfl⟩ := g0
        simp [cCv, uI, pS]
      · have ef : pS (pS (pS (pS (pS (pS s 1 (s 0 0) nm) 2 (s 0 0) a) 3 (s 0 0) f) 4 (s 0 0) w) 5 (s 0 0) 0) 0 0 (s 0 0 + 1) g j = s g j := by
          simp only [pS]
          rw [if_neg g0, if_neg (by omega), if_neg (by omega), if_neg (by omega), if_neg (by omega), if_neg (by omega)]
        rw [ef, ← M.1 g j hj]
        unfold cCv
        split <;> first | (exfalso; omega) | simp [uI]
  · have hi' : i < s 0 8 := by simpa [pS] using hi
    have := M.2.1 i hi'
    simp [pS, uI]
    exact this
  · have := M.2.2.1 mm hm
    simp only [r0 3 (by omega)]
    simp [uI, pS]
    exact this
  all_goals rw [r30]; simp [uI]
  · exact M.2.2.2.1
  · exact M.2.2.2.2.1
  · exact M.2.2.2.2.2.1
  · exact M.2.2.2.2.2.2.1
  · exact M.2.2.2.2.2.2.2.1
  · exact M.2.2.2.2.2.2.2.2
end Pm
