section Pw
variable {s : CA}
theorem CV.addP {nm a f w : Nat} (h : CV s) (hf : s 30 1 = 0) (h7 : s 0 0 < 7) (ha : 1 ≤ a ∧ a ≤ 20) (hff : f ≤ 99) (hw : w ≤ 999) (hn : nm < 2 ^ 30) : CV (pAddP s nm a f w) := by
  have eq : pAddP s nm a f w = pS (pS (pS (pS (pS (pS s 1 (s 0 0) nm) 2 (s 0 0) a) 3 (s 0 0) f) 4 (s 0 0) w) 5 (s 0 0) 0) 0 0 (s 0 0 + 1) := by unfold pAddP; rw [if_pos hf]
  have e0 : ∀ j, pAddP s nm a f w 0 j = if j = 0 then s 0 0 + 1 else s 0 j := fun j => by rw [eq]; simp [pS]
  have e1 : ∀ j, pAddP s nm a f w 1 j = if j = s 0 0 then nm else s 1 j := fun j => by rw [eq]; simp [pS]
  have e2 : ∀ j, pAddP s nm a f w 2 j = if j = s 0 0 then a else s 2 j := fun j => by rw [eq]; simp [pS]
  have e3 : ∀ j, pAddP s nm a f w 3 j = if j = s 0 0 then f else s 3 j := fun j => by rw [eq]; simp [pS]
  have e4 : ∀ j, pAddP s nm a f w 4 j = if j = s 0 0 then w else s 4 j := fun j => by rw [eq]; simp [pS]
  have e5 : ∀ j, pAddP s nm a f w 5 j = if j = s 0 0 then 0 else s 5 j := fun j => by rw [eq]; simp [pS]
  have ee : ∀ g, 6 ≤ g → pAddP s nm a f w g = s g := fun g hg => by
    funext j; rw [eq]; simp only [pS]
    rw [if_neg (by omega), if_neg (by omega), if_neg (by omega), if_neg (by omega), if_neg (by omega), if_neg (by omega)]
  have z0 : pAddP s nm a f w 0 0 = s 0 0 + 1 := by rw [e0]; rfl
  have zj : ∀ j, j ≠ 0 → pAddP s nm a f w 0 j = s 0 j := fun j hj => by rw [e0, if_neg hj]
  obtain ⟨⟨n0, n1, n2, n3, n4, n6, n7, n8⟩, cp, cl', ck, ct, cb, cw, cx⟩ := h
  unfold CV
  rw [z0, zj 1 (by omega), zj 2 (by omega), zj 3 (by omega), zj 4 (by omega), zj 6 (by omega), zj 7 (by omega), zj 8 (by omega)]
  simp only [ee 6 (by omega), ee 7 (by omega), ee 8 (by omega), ee 9 (by omega), ee 10 (by omega), ee 11 (by omega), ee 12 (by omega), ee 13 (by omega), ee 14 (by omega), ee 15 (by omega), ee 16 (by omega), ee 17 (by omega), ee 18 (by omega), kdep_r (ee 19 (by omega)) (ee 20 (by omega))]
  rw [ee 19 (by omega), ee 20 (by omega)]
  refine ⟨⟨by omega, n1, n2, n3, n4, n6, n7, n8⟩, fun p hp => ?_, fun l hl => ?_, fun k hk => ?_, ct, cb, cw, cx⟩
  · rw [e1, e2, e3, e4, e5]
    by_cases g : p = s 0 0
    · rw [if_pos g, if_pos g, if_pos g, if_pos g, if_pos g]; omega
    · rw [if_neg g, if_neg g, if_neg g, if_neg g, if_neg g]; exact cp p (by omega)
  · have := cl' l hl; omega
  · have := ck k hk; omega
theorem CV.addL {p lo hi : Nat} (h : CV s) (hf : s 30 1 = 0) (h3 : s 0 1 < 3) (hp : p < s 0 0) (hlo : lo ≤ 199) (hhi : hi ≤ 199) : CV (pAddL s p lo hi) := by
  have eq : pAddL s p lo hi = pS (pS (pS (pS s 6 (s 0 1) p) 7 (s 0 1) lo) 8 (s 0 1) hi) 0 1 (s 0 1 + 1) := by unfold pAddL; rw [if_pos hf]
  have e0 : ∀ j, pAddL s p lo hi 0 j = if j = 1 then s 0 1 + 1 else s 0 j := fun j => by rw [eq]; simp [pS]
  have e6 : ∀ j, pAddL s p lo hi 6 j = if j = s 0 1 then p else s 6 j := fun j => by rw [eq]; simp [pS]
  have e7 : ∀ j, pAddL s p lo hi 7 j = if j = s 0 1 then lo else s 7 j := fun j => by rw [eq]; simp [pS]
  have e8 : ∀ j, pAddL s p lo hi 8 j = if j = s 0 1 then hi else s 8 j := fun j => by rw [eq]; simp [pS]
  have ee : ∀ g, g ≠ 0 → g ≠ 6 → g ≠ 7 → g ≠ 8 → pAddL s p lo hi g = s g := fun g h0 h1 h2 h3 => by
    funext j; rw [eq]; simp only [pS]
    rw [if_neg (by omega), if_neg (by omega), if_neg (by omega), if_neg (by omega)]
  have z0 : pAddL s p lo hi 0 1 = s 0 1 + 1 := by rw [e0]; rfl
  have zj : ∀ j, j ≠ 1 → pAddL s p lo hi 0 j = s 0 j := fun j hj => by rw [e0, if_neg hj]
  obtain ⟨⟨n0, n1, n2, n3, n4, n6, n7, n8⟩, cp, cl', ck, ct, cb, cw, cx⟩ := h
  unfold CV
  rw [z0, zj 0 (by omega), zj 2 (by omega), zj 3 (by omega), zj 4 (by omega), zj 6 (by omega), zj 7 (by omega), zj 8 (by omega)]
  simp only [ee 1 (by omega) (by omega) (by omega) (by omega), ee 2 (by omega) (by omega) (by omega) (by omega), ee 3 (by omega) (by omega) (by omega) (by omega), ee 4 (by omega) (by omega) (by omega) (by omega), ee 5 (by omega) (by omega) (by omega) (by omega), ee 9 (by omega) (by omega) (by omega) (by omega), ee 10 (by omega) (by omega) (by omega) (by omega), ee 11 (by omega) (by omega) (by omega) (by omega), ee 12 (by omega) (by omega) (by omega) (by omega), ee 13 (by omega) (by omega) (by omega) (by omega), ee 14 (by omega) (by omega) (by omega) (by omega), ee 15 (by omega) (by omega) (by omega) (by omega), ee 16 (by omega) (by omega) (by omega) (by omega), ee 17 (by omega) (by omega) (by omega) (by omega), ee 18 (by omega) (by omega) (by omega) (by omega), kdep_r (ee 19 (by omega) (by omega) (by omega) (by omega)) (ee 20 (by omega) (by omega) (by omega) (by omega))]
  rw [ee 19 (by omega) (by omega) (by omega) (by omega), ee 20 (by omega) (by omega) (by omega) (by omega)]
  refine ⟨⟨n0, by omega, n2, n3, n4, n6, n7, n8⟩, cp, fun l hl => ?_, ck, ct, fun q hq => ?_, cw, cx⟩
  · rw [e6, e7, e8]
    by_cases g : l = s 0 1
    · rw [if_pos g, if_pos g, if_pos g]; omega
    · rw [if_neg g, if_neg g, if_neg g]; exact cl' l (by omega)
  · have := cb q hq; omega
end Pw
