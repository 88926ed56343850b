/-! the expression's reader: q is a rank, or ten and a rank for what stands behind its first side -/
def rkO (k : Nat) : Nat := if k = 12 then 0 else if k = 13 then 1 else if k = 27 ∨ k = 28 then 4 else if k = 29 ∨ k = 30 then 5 else if 31 ≤ k ∧ k ≤ 36 then 3 else 9
def sgC (k : Nat) : Nat := if k = 12 then 262 else if k = 13 then 261 else if k = 14 then 260 else sgV k
def pBr (s : CA) : CA := if s 30 1 = 0 then pS s 30 9 (s 30 9 - 1) else s
section Ph
variable (t : Nat → Nat) (n : Nat)
def pX : Nat → Nat → CA → CA
  | 0, _, s => s
  | m + 1, q, s =>
    if s 30 1 = 0 then
      (if q = 6 then
        (if (kd t n s = 25 ∧ 8 ≤ s 30 9) ∨ (kd t n s = 23 ∧ 9999 < kv t n s) then pFail s 2 (kp t n s)
         else if kd t n s = 25 then pBr (pTake t n (pX m 0 (pAdv (pS s 30 9 (s 30 9 + 1)))) 26)
         else if kd t n s = 23 then pAdd (pKnot t n s) 0 (kv t n s)
         else if 15 ≤ kd t n s ∧ kd t n s ≤ 21 then pAdd (pKnot t n s) 1 (kd t n s - 15)
         else pFail s 1 (kp t n s))
      else if q = 2 then (if kd t n s = 14 then pAdd (pX m 2 (pKnot t n s)) 2 260 else pX m 3 s)
      else if q < 6 then pX m (q + 10) (pX m (q + 1) s)
      else if rkO (kd t n s) = q - 10 then
        (if q = 13 then pAdd (pX m (q - 9) (pKnot t n s)) 2 (sgC (kd t n s)) else pX m q (pAdd (pX m (q - 9) (pKnot t n s)) 2 (sgC (kd t n s))))
      else s)
    else s
end Ph
/-- what an expression's reading leaves -/
def PE (s s' : CA) : Prop := s' 30 1 = 0 → s 30 1 = 0 ∧ s 30 0 ≤ s' 30 0 ∧ s' 30 9 = s 30 9 ∧ (∀ f j, f ≠ 19 → f ≠ 20 → f ≠ 30 → ¬ (f = 0 ∧ j = 8) → s' f j = s f j) ∧ (∀ j, j ≠ 0 → j ≠ 9 → j ≠ 10 → s' 30 j = s 30 j) ∧ s' 30 10 + s 0 8 = s 30 10 + s' 0 8 ∧ s 0 8 ≤ s' 0 8 ∧ (s 30 10 ≤ 64 → s' 30 10 ≤ 64) ∧ ∀ i, i < s 0 8 → s' 19 i = s 19 i ∧ s' 20 i = s 20 i
section Pi
variable {t : Nat → Nat} {n : Nat} {s : CA}
theorem PE.rf {s : CA} : PE s s := fun h => ⟨h, Nat.le_refl _, rfl, fun _ _ _ _ _ _ => rfl, fun _ _ _ _ => rfl, rfl, Nat.le_refl _, fun x => x, fun _ _ => ⟨rfl, rfl⟩⟩
theorem PE.tr {s u v : CA} (a : PE s u) (b : PE u v) : PE s v := fun h => by
  obtain ⟨b1, b2, b3, b4, b5, b6, b7, b8, b9⟩ := b h
  obtain ⟨a1, a2, a3, a4, a5, a6, a7, a8, a9⟩ := a b1
  refine ⟨a1, by omega, by omega, fun f j h1 h2 h3 h4 => (b4 f j h1 h2 h3 h4).trans (a4 f j h1 h2 h3 h4), fun j h1 h2 h3 => (b5 j h1 h2 h3).trans (a5 j h1 h2 h3), by omega, by omega, fun x => b8 (a8 x), fun i hi => ?_⟩
  have x := a9 i hi
  have y := b9 i (by omega)
  exact ⟨y.1.trans x.1, y.2.trans x.2⟩
theorem PE.fail {s s0 : CA} {e pl : Nat} (he : 1 ≤ e) : PE s0 (pFail s e pl) ∨ ¬ s 30 1 = 0 := by
  by_cases hf : s 30 1 = 0
  · exact Or.inl (fun h => by rw [(pF_0 hf).1] at h; omega)
  · exact Or.inr hf
theorem PE.fl {s s0 : CA} {e pl : Nat} (he : 1 ≤ e) (hf : s 30 1 = 0) : PE s0 (pFail s e pl) := fun h => by rw [(pF_0 hf).1] at h; omega
theorem PE.adv {s : CA} : PE s (pAdv s) := fun h => by
  rw [pAdv_1] at h
  refine ⟨h, by simp [pAdv, pS], by simp [pAdv, pS], fun f j h1 h2 h3 h4 => by simp [pAdv, pS, h3], fun j h1 h2 h3 => by simp [pAdv, pS, h1], by simp [pAdv, pS], by simp [pAdv, pS], fun x => by simpa [pAdv, pS] using x, fun i hi => by simp [pAdv, pS]⟩
/-- a knot taken and put -/
theorem PE.knot {u : CA} {so v : Nat} (h : PE (pKnot t n s) u) : PE s (pAdd u so v) := fun hh => by
  have fu : u 30 1 = 0 := by
    by_cases g : u 30 1 = 0
    · exact g
    · unfold pAdd at hh; rw [if_neg g] at hh; exact absurd hh g
  obtain ⟨a1, a2, a3, a4, a5, a6, a7, a8, a9⟩ := h fu
  have hf : s 30 1 = 0 := by
    by_cases g : s 30 1 = 0
    · exact g
    · unfold pKnot at a1; rw [if_neg g] at a1; exact absurd a1 g
  have h64 : s 30 10 < 64 := by
    rcases Nat.lt_or_ge (s 30 10) 64 with l | l
    · exact l
    · unfold pKnot at a1; rw [if_pos hf, if_neg (by omega), (pF_0 hf).1] at a1; omega
  have eK : pKnot t n s = pAdv (pS s 30 10 (s 30 10 + 1)) := by unfold pKnot; rw [if_pos hf, if_pos h64]
  rw [eK] at a2 a3 a4 a5 a6 a7 a8 a9
  have eA : pAdd u so v = pS (pS (pS u 19 (u 0 8) so) 20 (u 0 8) v) 0 8 (u 0 8 + 1) := by unfold pAdd; rw [if_pos fu]
  rw [eA]
  have k0 : pAdv (pS s 30 10 (s 30 10 + 1)) 30 0 = s 30 0 + 1 := by simp [pAdv, pS]
  have k8 : pAdv (pS s 30 10 (s 30 10 + 1)) 0 8 = s 0 8 := by simp [pAdv, pS]
  have k10 : pAdv (pS s 30 10 (s 30 10 + 1)) 30 10 = s 30 10 + 1 := by simp [pAdv, pS]
  rw [k0] at a2
  rw [k8] at a6 a7
  rw [k10] at a6 a8
  have z30 : ∀ j, pS (pS (pS u 19 (u 0 8) so) 20 (u 0 8) v) 0 8 (u 0 8 + 1) 30 j = u 30 j := fun j => by simp [pS]
  have z08 : pS (pS (pS u 19 (u 0 8) so) 20 (u 0 8) v) 0 8 (u 0 8 + 1) 0 8 = u 0 8 + 1 := by simp [pS]
  refine ⟨hf, by rw [z30]; omega, by rw [z30, a3]; simp [pAdv, pS], fun f j h1 h2 h3 h4 => ?_, fun j h1 h2 h3 => ?_, by rw [z30, z08]; omega, by rw [z08]; omega, fun _ => by rw [z30]; exact a8 (by omega), fun i hi => ?_⟩
  · have := a4 f j h1 h2 h3 h4
    rw [show pS (pS (pS u 19 (u 0 8) so) 20 (u 0 8) v) 0 8 (u 0 8 + 1) f j = u f j by simp only [pS]; rw [if_neg h4, if_neg (fun e => h2 e.1), if_neg (fun e => h1 e.1)], this]
    simp [pAdv, pS, h3]
  · rw [z30, a5 j h1 h2 h3]
    simp [pAdv, pS, h1, h3]
  · have := a9 i (by rw [k8]; exact hi)
    have ne : ¬ i = u 0 8 := by omega
    simp [pS, ne]
    rw [this.1, this.2]
    simp [pAdv, pS]
theorem pX_f {m q : Nat} (h : ¬ s 30 1 = 0) : pX t n m q s = s := by
  cases m with
  | zero => rfl
  | succ m => rw [pX, if_neg h]
theorem pAdd_f {so v : Nat} (h : ¬ s 30 1 = 0) : pAdd s so v = s := by unfold pAdd; rw [if_neg h]
theorem pKnot_f (h : ¬ s 30 1 = 0) : pKnot t n s = s := by unfold pKnot; rw [if_neg h]
theorem pX_E : ∀ (m q : Nat) (s : CA), PE s (pX t n m q s) := by
  intro m
  induction m with
  | zero => intro q s; exact PE.rf
  | succ m ih =>
    intro q s
    rw [pX]
    by_cases hf : s 30 1 = 0
    · rw [if_pos hf]
      by_cases q6 : q = 6
      · rw [if_pos q6]
        split
        · exact PE.fl (by omega) hf
        · split
          · -- a bracket
            intro h
            have a := ih 0 (pAdv (pS s 30 9 (s 30 9 + 1)))
            generalize pX t n m 0 (pAdv (pS s 30 9 (s 30 9 + 1))) = u at *
            have fu : pTake t n u 26 30 1 = 0 := by
              by_cases g : pTake t n u 26 30 1 = 0
              · exact g
              · unfold pBr at h; rw [if_neg g] at h; exact absurd h g
            have fu2 : u 30 1 = 0 := by
              by_cases g : u 30 1 = 0
              · exact g
              · rw [pT_f g] at fu; exact absurd fu g
            have k26 : kd t n u = 26 := by
              by_cases g : kd t n u = 26
              · exact g
              · unfold pTake at fu; rw [if_pos fu2, if_neg g, (pF_0 fu2).1] at fu; omega
            have eT : pTake t n u 26 = pAdv u := by unfold pTake; rw [if_pos fu2, if_pos k26]
            have eB : pBr (pTake t n u 26) = pS (pAdv u) 30 9 (u 30 9 - 1) := by
              unfold pBr; rw [if_pos fu, eT]
              congr 1
            rw [eB]
            obtain ⟨a1, a2, a3, a4, a5, a6, a7, a8, a9⟩ := a fu2
            have k0 : pAdv (pS s 30 9 (s 30 9 + 1)) 30 0 = s 30 0 + 1 := by simp [pAdv, pS]
            have k9 : pAdv (pS s 30 9 (s 30 9 + 1)) 30 9 = s 30 9 + 1 := by simp [pAdv, pS]
            have k8 : pAdv (pS s 30 9 (s 30 9 + 1)) 0 8 = s 0 8 := by simp [pAdv, pS]
            have k10 : pAdv (pS s 30 9 (s 30 9 + 1)) 30 10 = s 30 10 := by simp [pAdv, pS]
            rw [k0] at a2
            rw [k9] at a3
            rw [k8] at a6 a7
            rw [k10] at a6 a8
            refine ⟨hf, by simp [pAdv, pS]; omega, by simp [pAdv, pS]; omega, fun f j h1 h2 h3 h4 => ?_, fun j h1 h2 h3 => ?_, by simp [pAdv, pS]; omega, by simp [pAdv, pS]; omega, fun x => by simp [pAdv, pS]; exact a8 x, fun i hi => ?_⟩
            · have := a4 f j h1 h2 h3 h4
              simp [pAdv, pS, h3] at this ⊢
              exact this
            · have := a5 j h1 h2 h3
              simp [pAdv, pS, h1, h2] at this ⊢
              exact this
            · have := a9 i (by rw [k8]; exact hi)
              simp [pAdv, pS] at this ⊢
              exact this
          · split
            · exact PE.knot PE.rf
            · split
              · exact PE.knot PE.rf
              · exact PE.fl (by omega) hf
      · rw [if_neg q6]
        by_cases q2 : q = 2
        · rw [if_pos q2]
          split
          · exact PE.knot (ih _ _)
          · exact ih _ _
        · rw [if_neg q2]
          split
          · exact (ih _ _).tr (ih _ _)
          · split
            · split
              · exact PE.knot (ih _ _)
              · exact (PE.knot (ih _ _)).tr (ih _ _)
            · exact PE.rf
    · rw [if_neg hf]; exact PE.rf
end Pi
