section Qa
variable {t : Nat → Nat} {n T : Nat} {s : CA}
theorem pPpN_1 {p : Nat} (h : pPpN t n s p 30 1 = 0) : s 30 1 = 0 ∧ pd t n s < s 0 0 ∧ p ≠ pd t n s := by
  obtain ⟨a, k, b, _⟩ := pPond_0 (pPpN_0 h)
  refine ⟨a, gNm_lt b, fun e => ?_⟩
  unfold pPpN at h
  rw [if_pos a, if_pos k, if_neg (by rw [b]; simp)] at h
  by_cases g : gPp s p (pd t n s) = true
  · rw [if_pos g, (pF_0 a).1] at h; omega
  · rw [if_neg g, if_pos e, (pF_0 a).1] at h; omega
theorem LI.pipe (hs : LI s) (h3 : s 0 2 < 10) (hf : (pPipeL t n s) 30 1 = 0) : LI (pPipeL t n s) := by
  have e1 : ∀ (x : CA) (a b c : Nat), pAddK x a b c 30 1 = x 30 1 := fun x a b c => by unfold pAddK; split <;> simp [pS]
  unfold pPipeL at hf ⊢
  rw [e1] at hf
  have f0 := pNum_0 hf
  have g := pPpN_1 f0.1
  obtain ⟨q1, _, q3, _⟩ := pPond_0 g.1
  have q4 := gNm_lt q3
  have row : ∀ f j, f < 30 ∨ 3 ≤ j → pNum t n (pPpN t n (pPond t n s) (pd t n s)) 1 99 f j = s f j := fun f j h => by rw [pN_row f j h, pPpN_row f j h, pPo_row f j h]
  have hx := hs.nx q1 row hf
  have g2 := g.2.1
  rw [pPo_row 0 0 (by omega)] at g2
  refine hx.mk' (hx.1.addK hf (by rw [row 0 2 (by omega)]; exact h3) (by rw [row 0 0 (by omega)]; exact q4) (by rw [row 0 0 (by omega)]; exact g2) g.2.2 ⟨f0.2.2.1, f0.2.2.2.1⟩) ?_ (fun j h1 h2 => ?_) ?_ (e1 _ _ _ _)
  · unfold pAddK; rw [if_pos hf]; simp [pS]
  · unfold pAddK; rw [if_pos hf]; simp [pS]
  · have : pAddK (pNum t n (pPpN t n (pPond t n s) (pd t n s)) 1 99) (pd t n s) (pd t n (pPond t n s)) (kv t n (pPpN t n (pPond t n s) (pd t n s))) 30 11 = s 30 11 := by
      rw [← row 30 11 (by omega)]; unfold pAddK; rw [if_pos hf]; simp [pS]
    rw [this]; exact hs.2.2.1
theorem pBtN_1 (h : pBtN t n s 30 1 = 0) : s 30 1 = 0 ∧ (qLk s (pd t n s)).getD 0 < s 0 1 := by
  have g : pPond t n s 30 1 = 0 := by
    by_cases g : pPond t n s 30 1 = 0
    · exact g
    · rw [pBtN_f g] at h; exact absurd h g
  obtain ⟨a, k, b, _⟩ := pPond_0 g
  refine ⟨a, ?_⟩
  unfold pBtN at h
  rw [if_pos a, if_pos k, if_neg (by rw [b]; simp)] at h
  cases hq : qLk s (pd t n s) with
  | none => rw [hq, if_pos rfl, (pF_0 a).1] at h; omega
  | some l => exact qLk_lt hq
theorem LI.boat (hs : LI s) (h3 : s 0 4 < 8) (hf : (pBoatL t n s) 30 1 = 0) : LI (pBoatL t n s) := by
  have e1 : ∀ (x : CA) (a b : Nat), pAddB x a b 30 1 = x 30 1 := fun x a b => by unfold pAddB; split <;> simp [pS]
  unfold pBoatL at hf ⊢
  rw [e1] at hf
  have f0 := pNum_0 hf
  have g := pBtN_1 f0.1
  have row : ∀ f j, f < 30 ∨ 3 ≤ j → pNum t n (pBtN t n s) 0 99 f j = s f j := fun f j h => by rw [pN_row f j h, pBtN_row f j h]
  have hx := hs.nx g.1 row hf
  refine hx.mk' (hx.1.addB hf (by rw [row 0 4 (by omega)]; exact h3) (by rw [row 0 1 (by omega)]; exact g.2) f0.2.2.2.1) ?_ (fun j h1 h2 => ?_) ?_ (e1 _ _ _)
  · unfold pAddB; rw [if_pos hf]; simp [pS]
  · unfold pAddB; rw [if_pos hf]; simp [pS]
  · have : pAddB (pNum t n (pBtN t n s) 0 99) ((qLk s (pd t n s)).getD 0) (kv t n (pBtN t n s)) 30 11 = s 30 11 := by
      rw [← row 30 11 (by omega)]; unfold pAddB; rw [if_pos hf]; simp [pS]
    rw [this]; exact hs.2.2.1
theorem pSpN_1 (h : pSpN t n s 30 1 = 0) : s 30 1 = 0 ∧ pd t n s < s 0 0 := by
  have g : pPond t n s 30 1 = 0 := by
    by_cases g : pPond t n s 30 1 = 0
    · exact g
    · rw [pSpN_f g] at h; exact absurd h g
  obtain ⟨a, _, b, _⟩ := pPond_0 g
  exact ⟨a, gNm_lt b⟩
theorem LI.spr (hs : LI s) (hf : (pSprL t n s) 30 1 = 0) : LI (pSprL t n s) := by
  have e1 : ∀ (x : CA) (a b : Nat), pAddS x a b 30 1 = x 30 1 := fun x a b => by unfold pAddS; split <;> simp [pS]
  unfold pSprL at hf ⊢
  rw [e1] at hf
  have f0 := pNum_0 hf
  have g := pSpN_1 f0.1
  have np := hs.1.np
  have row : ∀ f j, f < 30 ∨ 3 ≤ j → pNum t n (pSpN t n s) 0 9 f j = s f j := fun f j h => by rw [pN_row f j h, pSpN_row f j h]
  have hx := hs.nx g.1 row hf
  refine hx.mk' (hx.1.addS hf f0.2.2.2.1) ?_ (fun j h1 h2 => ?_) ?_ (e1 _ _ _)
  · unfold pAddS; rw [if_pos hf]; simp [pS]
  · unfold pAddS; rw [if_pos hf]; simp only [pS]; rw [if_neg (by omega), if_neg (by omega)]
  · have : pAddS (pNum t n (pSpN t n s) 0 9) (pd t n s) (kv t n (pSpN t n s)) 30 11 = s 30 11 ||| 2 ^ pd t n s := by
      unfold pAddS; rw [if_pos hf, row 30 11 (by omega)]; simp [pS]
    rw [this]; exact Nat.or_lt_two_pow hs.2.2.1 (Nat.pow_lt_pow_right (by omega) (by omega))
theorem LI.told {j : Nat} (hs : LI s) (hj : j = 3 ∨ j = 4) : LI (pS s 30 j 1) := by
  have e : ∀ f i, ¬ (f = 30 ∧ i = j) → pS s 30 j 1 f i = s f i := fun f i h => by simp only [pS]; rw [if_neg h]
  obtain ⟨a1, a2, a3, a4, a5⟩ := hs
  refine ⟨a1.r (fun f hf => funext fun i => e f i (by omega)), fun hf => ?_, by rw [e 30 11 (by omega)]; exact a3, ?_, ?_⟩
  · rw [e 30 1 (by omega)] at hf
    rw [e 0 8 (by omega), e 30 10 (by omega)]
    exact a2 hf
  · by_cases g : j = 3
    · subst g; simp [pS]
    · rw [e 30 3 (by omega)]; exact a4
  · by_cases g : j = 4
    · subst g; simp [pS]
    · rw [e 30 4 (by omega)]; exact a5
theorem LI.jam (hs : LI s) (hf0 : s 30 1 = 0) (hf : (pJamL t n s) 30 1 = 0) : LI (pJamL t n s) := by
  unfold pJamL at hf ⊢
  by_cases g : pNum t n (pS s 30 3 1) 0 100 30 1 = 0
  · rw [if_pos g]
    have f0 := pNum_0 g
    have hx := (hs.told (Or.inl rfl)).nx f0.1 (fun f j h => pN_row f j h) g
    have kk := f0.2.2.2.1
    rw [(kd_30 (by omega)).2.1] at kk
    refine hx.mk' (hx.1.u0 (Or.inl ⟨rfl, kk⟩)) (by simp [pS]) (fun j h1 h2 => by simp [pS]) (by simp only [pS]; rw [if_neg (by omega)]; exact hx.2.2.1) (by simp [pS])
  · rw [if_neg g] at hf; exact absurd hf g
theorem LI.seed (hs : LI s) (hf0 : s 30 1 = 0) (hf : (pSeedL t n s) 30 1 = 0) : LI (pSeedL t n s) := by
  unfold pSeedL at hf ⊢
  by_cases g : pNum t n (pS s 30 4 1) 0 99999 30 1 = 0
  · rw [if_pos g]
    have f0 := pNum_0 g
    have hx := (hs.told (Or.inr rfl)).nx f0.1 (fun f j h => pN_row f j h) g
    have kk := f0.2.2.2.1
    rw [(kd_30 (by omega)).2.1] at kk
    refine hx.mk' (hx.1.u0 (Or.inr ⟨rfl, kk⟩)) (by simp [pS]) (fun j h1 h2 => by simp [pS]) (by simp only [pS]; rw [if_neg (by omega)]; exact hx.2.2.1) (by simp [pS])
  · rw [if_neg g] at hf; exact absurd hf g
end Qa
