section Px
variable {s : CA}
theorem CV.addK {p q w : Nat} (h : CV s) (hf : s 30 1 = 0) (h3 : s 0 2 < 10) (hp : p < s 0 0) (hq : q < s 0 0) (hpq : p ≠ q) (hw : 1 ≤ w ∧ w ≤ 99) : CV (pAddK s p q w) := by
  have eq : pAddK s p q w = pS (pS (pS (pS s 9 (s 0 2) p) 10 (s 0 2) q) 11 (s 0 2) w) 0 2 (s 0 2 + 1) := by unfold pAddK; rw [if_pos hf]
  have e0 : ∀ j, pAddK s p q w 0 j = if j = 2 then s 0 2 + 1 else s 0 j := fun j => by rw [eq]; simp [pS]
  have e9 : ∀ j, pAddK s p q w 9 j = if j = s 0 2 then p else s 9 j := fun j => by rw [eq]; simp [pS]
  have e10 : ∀ j, pAddK s p q w 10 j = if j = s 0 2 then q else s 10 j := fun j => by rw [eq]; simp [pS]
  have e11 : ∀ j, pAddK s p q w 11 j = if j = s 0 2 then w else s 11 j := fun j => by rw [eq]; simp [pS]
  have ee : ∀ g, g ≠ 0 → g ≠ 9 → g ≠ 10 → g ≠ 11 → pAddK s p q w g = s g := fun g h0 h1 h2 h3 => by
    funext j; rw [eq]; simp only [pS]
    rw [if_neg (by omega), if_neg (by omega), if_neg (by omega), if_neg (by omega)]
  have z0 : pAddK s p q w 0 2 = s 0 2 + 1 := by rw [e0]; rfl
  have zj : ∀ j, j ≠ 2 → pAddK s p q w 0 j = s 0 j := fun j hj => by rw [e0, if_neg hj]
  obtain ⟨⟨n0, n1, n2, n3, n4, n6, n7, n8⟩, cp, cl', ck, ct, cb, cw, cx⟩ := h
  unfold CV
  rw [z0, zj 0 (by omega), zj 1 (by omega), zj 3 (by omega), zj 4 (by omega), zj 6 (by omega), zj 7 (by omega), zj 8 (by omega)]
  simp only [ee 1 (by omega) (by omega) (by omega) (by omega), ee 2 (by omega) (by omega) (by omega) (by omega), ee 3 (by omega) (by omega) (by omega) (by omega), ee 4 (by omega) (by omega) (by omega) (by omega), ee 5 (by omega) (by omega) (by omega) (by omega), ee 6 (by omega) (by omega) (by omega) (by omega), ee 7 (by omega) (by omega) (by omega) (by omega), ee 8 (by omega) (by omega) (by omega) (by omega), ee 12 (by omega) (by omega) (by omega) (by omega), ee 13 (by omega) (by omega) (by omega) (by omega), ee 14 (by omega) (by omega) (by omega) (by omega), ee 15 (by omega) (by omega) (by omega) (by omega), ee 16 (by omega) (by omega) (by omega) (by omega), ee 17 (by omega) (by omega) (by omega) (by omega), ee 18 (by omega) (by omega) (by omega) (by omega), kdep_r (ee 19 (by omega) (by omega) (by omega) (by omega)) (ee 20 (by omega) (by omega) (by omega) (by omega))]
  rw [ee 19 (by omega) (by omega) (by omega) (by omega), ee 20 (by omega) (by omega) (by omega) (by omega)]
  refine ⟨⟨n0, n1, by omega, n3, n4, n6, n7, n8⟩, cp, cl', fun l hl => ?_, fun q hq => ?_, cb, cw, cx⟩
  · rw [e9, e10, e11]
    by_cases g : l = s 0 2
    · rw [if_pos g, if_pos g, if_pos g]; omega
    · rw [if_neg g, if_neg g, if_neg g]; exact ck l (by omega)
  · have := ct q hq; omega
theorem CV.addT {k a f : Nat} (h : CV s) (hf : s 30 1 = 0) (h3 : s 0 3 < 12) (hk : k < s 0 2) (ha : a ≤ 99) (hw : 1 ≤ f ∧ f ≤ 20) : CV (pAddT s k a f) := by
  have eq : pAddT s k a f = pS (pS (pS (pS s 12 (s 0 3) k) 13 (s 0 3) a) 14 (s 0 3) f) 0 3 (s 0 3 + 1) := by unfold pAddT; rw [if_pos hf]
  have e0 : ∀ j, pAddT s k a f 0 j = if j = 3 then s 0 3 + 1 else s 0 j := fun j => by rw [eq]; simp [pS]
  have e12 : ∀ j, pAddT s k a f 12 j = if j = s 0 3 then k else s 12 j := fun j => by rw [eq]; simp [pS]
  have e13 : ∀ j, pAddT s k a f 13 j = if j = s 0 3 then a else s 13 j := fun j => by rw [eq]; simp [pS]
  have e14 : ∀ j, pAddT s k a f 14 j = if j = s 0 3 then f else s 14 j := fun j => by rw [eq]; simp [pS]
  have ee : ∀ g, g ≠ 0 → g ≠ 12 → g ≠ 13 → g ≠ 14 → pAddT s k a f g = s g := fun g h0 h1 h2 h3 => by
    funext j; rw [eq]; simp only [pS]
    rw [if_neg (by omega), if_neg (by omega), if_neg (by omega), if_neg (by omega)]
  have z0 : pAddT s k a f 0 3 = s 0 3 + 1 := by rw [e0]; rfl
  have zj : ∀ j, j ≠ 3 → pAddT s k a f 0 j = s 0 j := fun j hj => by rw [e0, if_neg hj]
  obtain ⟨⟨n0, n1, n2, n3, n4, n6, n7, n8⟩, cp, cl', ck, ct, cb, cw, cx⟩ := h
  unfold CV
  rw [z0, zj 0 (by omega), zj 1 (by omega), zj 2 (by omega), zj 4 (by omega), zj 6 (by omega), zj 7 (by omega), zj 8 (by omega)]
  simp only [ee 1 (by omega) (by omega) (by omega) (by omega), ee 2 (by omega) (by omega) (by omega) (by omega), ee 3 (by omega) (by omega) (by omega) (by omega), ee 4 (by omega) (by omega) (by omega) (by omega), ee 5 (by omega) (by omega) (by omega) (by omega), ee 6 (by omega) (by omega) (by omega) (by omega), ee 7 (by omega) (by omega) (by omega) (by omega), ee 8 (by omega) (by omega) (by omega) (by omega), ee 9 (by omega) (by omega) (by omega) (by omega), ee 10 (by omega) (by omega) (by omega) (by omega), ee 11 (by omega) (by omega) (by omega) (by omega), ee 15 (by omega) (by omega) (by omega) (by omega), ee 16 (by omega) (by omega) (by omega) (by omega), ee 17 (by omega) (by omega) (by omega) (by omega), ee 18 (by omega) (by omega) (by omega) (by omega), kdep_r (ee 19 (by omega) (by omega) (by omega) (by omega)) (ee 20 (by omega) (by omega) (by omega) (by omega))]
  rw [ee 19 (by omega) (by omega) (by omega) (by omega), ee 20 (by omega) (by omega) (by omega) (by omega)]
  refine ⟨⟨n0, n1, n2, by omega, n4, n6, n7, n8⟩, cp, cl', ck, fun l hl => ?_, cb, cw, cx⟩
  rw [e12, e13, e14]
  by_cases g : l = s 0 3
  · rw [if_pos g, if_pos g, if_pos g]; omega
  · rw [if_neg g, if_neg g, if_neg g]; exact ct l (by omega)
theorem CV.addB {l a : Nat} (h : CV s) (hf : s 30 1 = 0) (h3 : s 0 4 < 8) (hk : l < s 0 1) (ha : a ≤ 99) : CV (pAddB s l a) := by
  have eq : pAddB s l a = pS (pS (pS s 15 (s 0 4) l) 16 (s 0 4) a) 0 4 (s 0 4 + 1) := by unfold pAddB; rw [if_pos hf]
  have e0 : ∀ j, pAddB s l a 0 j = if j = 4 then s 0 4 + 1 else s 0 j := fun j => by rw [eq]; simp [pS]
  have e15 : ∀ j, pAddB s l a 15 j = if j = s 0 4 then l else s 15 j := fun j => by rw [eq]; simp [pS]
  have e16 : ∀ j, pAddB s l a 16 j = if j = s 0 4 then a else s 16 j := fun j => by rw [eq]; simp [pS]
  have ee : ∀ g, g ≠ 0 → g ≠ 15 → g ≠ 16 → pAddB s l a g = s g := fun g h0 h1 h2 => by
    funext j; rw [eq]; simp only [pS]
    rw [if_neg (by omega), if_neg (by omega), if_neg (by omega)]
  have z0 : pAddB s l a 0 4 = s 0 4 + 1 := by rw [e0]; rfl
  have zj : ∀ j, j ≠ 4 → pAddB s l a 0 j = s 0 j := fun j hj => by rw [e0, if_neg hj]
  obtain ⟨⟨n0, n1, n2, n3, n4, n6, n7, n8⟩, cp, cl', ck, ct, cb, cw, cx⟩ := h
  unfold CV
  rw [z0, zj 0 (by omega), zj 1 (by omega), zj 2 (by omega), zj 3 (by omega), zj 6 (by omega), zj 7 (by omega), zj 8 (by omega)]
  simp only [ee 1 (by omega) (by omega) (by omega), ee 2 (by omega) (by omega) (by omega), ee 3 (by omega) (by omega) (by omega), ee 4 (by omega) (by omega) (by omega), ee 5 (by omega) (by omega) (by omega), ee 6 (by omega) (by omega) (by omega), ee 7 (by omega) (by omega) (by omega), ee 8 (by omega) (by omega) (by omega), ee 9 (by omega) (by omega) (by omega), ee 10 (by omega) (by omega) (by omega), ee 11 (by omega) (by omega) (by omega), ee 12 (by omega) (by omega) (by omega), ee 13 (by omega) (by omega) (by omega), ee 14 (by omega) (by omega) (by omega), ee 17 (by omega) (by omega) (by omega), ee 18 (by omega) (by omega) (by omega), kdep_r (ee 19 (by omega) (by omega) (by omega)) (ee 20 (by omega) (by omega) (by omega))]
  rw [ee 19 (by omega) (by omega) (by omega), ee 20 (by omega) (by omega) (by omega)]
  refine ⟨⟨n0, n1, n2, n3, by omega, n6, n7, n8⟩, cp, cl', ck, ct, fun q hq => ?_, cw, cx⟩
  rw [e15, e16]
  by_cases g : q = s 0 4
  · rw [if_pos g, if_pos g]; omega
  · rw [if_neg g, if_neg g]; exact cb q (by omega)
theorem CV.addS {p v : Nat} (h : CV s) (hf : s 30 1 = 0) (hv : v ≤ 9) : CV (pAddS s p v) := by
  have eq : pAddS s p v = pS (pS s 5 p v) 30 11 (s 30 11 ||| 2 ^ p) := by unfold pAddS; rw [if_pos hf]
  have e5 : ∀ j, pAddS s p v 5 j = if j = p then v else s 5 j := fun j => by rw [eq]; simp [pS]
  have ee : ∀ g, g ≠ 30 → g ≠ 5 → pAddS s p v g = s g := fun g h0 h1 => by
    funext j; rw [eq]; simp only [pS]
    rw [if_neg (by omega), if_neg (by omega)]
  obtain ⟨n, cp, cl', ck, ct, cb, cw, cx⟩ := h
  unfold CV
  simp only [ee 0 (by omega) (by omega), ee 1 (by omega) (by omega), ee 2 (by omega) (by omega), ee 3 (by omega) (by omega), ee 4 (by omega) (by omega), ee 6 (by omega) (by omega), ee 7 (by omega) (by omega), ee 8 (by omega) (by omega), ee 9 (by omega) (by omega), ee 10 (by omega) (by omega), ee 11 (by omega) (by omega), ee 12 (by omega) (by omega), ee 13 (by omega) (by omega), ee 14 (by omega) (by omega), ee 15 (by omega) (by omega), ee 16 (by omega) (by omega), ee 17 (by omega) (by omega), ee 18 (by omega) (by omega), kdep_r (ee 19 (by omega) (by omega)) (ee 20 (by omega) (by omega))]
  rw [ee 19 (by omega) (by omega), ee 20 (by omega) (by omega)]
  refine ⟨n, fun q hq => ?_, cl', ck, ct, cb, cw, cx⟩
  rw [e5]
  have := cp q hq
  split <;> omega
theorem CV.u0 {r v : Nat} (h : CV s) (hr : (r = 6 ∧ v ≤ 100) ∨ (r = 7 ∧ v ≤ 99999)) : CV (pS s 0 r v) := by
  have e0 : ∀ j, pS s 0 r v 0 j = if j = r then v else s 0 j := fun j => by simp [pS]
  have ee : ∀ g, g ≠ 0 → pS s 0 r v g = s g := fun g h0 => by
    funext j; simp only [pS]
    rw [if_neg (by omega)]
  have zj : ∀ j, j ≠ 6 → j ≠ 7 → pS s 0 r v 0 j = s 0 j := fun j h1 h2 => by rw [e0, if_neg (by omega)]
  obtain ⟨⟨n0, n1, n2, n3, n4, n6, n7, n8⟩, cp, cl', ck, ct, cb, cw, cx⟩ := h
  unfold CV
  rw [zj 0 (by omega) (by omega), zj 1 (by omega) (by omega), zj 2 (by omega) (by omega), zj 3 (by omega) (by omega), zj 4 (by omega) (by omega), zj 8 (by omega) (by omega), e0 6, e0 7]
  simp only [ee 1 (by omega), ee 2 (by omega), ee 3 (by omega), ee 4 (by omega), ee 5 (by omega), ee 6 (by omega), ee 7 (by omega), ee 8 (by omega), ee 9 (by omega), ee 10 (by omega), ee 11 (by omega), ee 12 (by omega), ee 13 (by omega), ee 14 (by omega), ee 15 (by omega), ee 16 (by omega), ee 17 (by omega), ee 18 (by omega), kdep_r (ee 19 (by omega)) (ee 20 (by omega))]
  rw [ee 19 (by omega), ee 20 (by omega)]
  refine ⟨⟨n0, n1, n2, n3, n4, ?_, ?_, n8⟩, cp, cl', ck, ct, cb, cw, cx⟩
  · split <;> omega
  · split <;> omega
end Px
