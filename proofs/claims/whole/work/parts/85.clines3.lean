section Pp
variable {d : Nat} {Q : Option MV → MS → Prop} {σ : MS} {t : Nat → Nat} {n T b : Nat} {s : CA}
theorem bit_or {w k : Nat} (hk : k < 31) : nI w ||| ((1 : Int32) <<< (nI k &&& 31)) = nI (w ||| 2 ^ k) := by
  have pw : 2 ^ k ≤ 2 ^ 30 := Nat.pow_le_pow_right (by omega) (by omega)
  have e : (1 : Int32) <<< (nI k &&& 31) = nI (2 ^ k) := by
    rw [show (1 : Int32) = nI 1 from rfl, pk_shlN (nI k &&& 31) k (sh_k k (by omega)) (by omega), Nat.one_mul]
  rw [e, nI_or]
/-- a turn put into the class's canal -/
theorem S_addTurn {k a f : Nat} (h : SRd t n T b σ s) (hf : s 30 1 = 0) (h12 : s 0 3 < 12) (hk : k < 10) (ha : a ≤ 99) (hff : f ≤ 20) (H : ∀ τ : MS, SB (rdL b) σ τ → SRd t n T b τ (pAddT s k a f) → Q none τ) : R mj_OC d mX0_addTurn Q 0 [some (rV 3 b), some (iV (nI k)), some (iV (nI a)), some (iV (nI f)), none] [] σ := by
  have b2 := h.1.2.1
  have M := h.2.2.2.2.2 hf
  -- so far: minutes a..x hold the bit
  have L : ∀ (m x : Nat) (τ : MS), x + m = a + f → a ≤ x → SB [(24, b)] σ τ → (∀ mm, mm < 119 → ∃ w : Nat, τ.1 24 b mm = nI w ∧ w < 2 ^ 10 ∧ ∀ q : Nat, w.testBit q = (decide (∃ i : Nat, i < s 0 3 ∧ s 12 i = q ∧ s 13 i ≤ mm ∧ mm < s 13 i + s 14 i) || decide (k = q ∧ a ≤ mm ∧ mm < x))) → R mj_OC d mX0_addTurn Q 3 [some (rV 3 b), some (iV (nI k)), some (iV (nI a)), some (iV (nI f)), some (iV (nI x))] [] τ := by
    intro m
    induction m with
    | zero =>
      intro x τ hx hax hS hT'
      obtain rfl : x = a + f := by omega
      have ec : τ.1 3 b 10 = nI (s 0 3) := by rw [hS.i (by simp) 10]; exact M.1.nt
      have fin : Q none (uI τ 3 b 10 (τ.1 3 b 10 + 1)) := by
        rw [ec, nI_1]
        refine H _ ((hS.wk (by simp [rdL])).tr (SB.uI (by simp [rdL]))) ?_
        unfold pAddT
        rw [if_pos hf]
        obtain ⟨⟨a1, a2, a3, a4⟩, ⟨c1, c2, c3, c4⟩, ⟨kk, k1, k2, k3⟩, i, ⟨L, l1, l2⟩, _⟩ := h
        have y : ∀ kd j i', (kd, i') ≠ (24, b) → (kd, i', j) ≠ (3, b, 10) → (uI τ 3 b 10 (nI (s 0 3 + 1))).1 kd i' j = σ.1 kd i' j := fun kd j i' h1 h2 => by
          have := hS.i (k := kd) (i := i') (by simpa using h1) j
          simp only [uI]
          rw [if_neg (by rintro ⟨rfl, rfl, rfl⟩; exact h2 rfl)]
          exact this
        have r30 : ∀ j, pS (pS (pS (pS s 12 (s 0 3) k) 13 (s 0 3) a) 14 (s 0 3) f) 0 3 (s 0 3 + 1) 30 j = s 30 j := fun j => by simp [pS]
        have r0 : ∀ j, j ≠ 3 → pS (pS (pS (pS s 12 (s 0 3) k) 13 (s 0 3) a) 14 (s 0 3) f) 0 3 (s 0 3 + 1) 0 j = s 0 j := fun j hj => by simp [pS, hj]
        refine ⟨⟨by show τ.2.2 1 0 = b; rw [hS.2]; exact a1, a2, fun q hq => by rw [y 13 q 0 (by simp) (by simp), y 14 q 0 (by simp) (by simp), y 15 q 0 (by simp) (by simp)]; exact a3 q hq, by rw [y 2 5 0 (by simp) (by simp), y 2 0 0 (by simp) (by simp)]; exact a4⟩, ⟨by rw [r30, y 1 2 0 (by simp) (by simp)]; exact c1, by rw [r30]; exact c2, fun q => by rw [r30] at q; exact absurd hf q, fun _ => by rw [y 1 3 0 (by simp) (by simp)]; exact c4 hf⟩, ⟨kk, k1, by rw [y 2 6 0 (by simp) (by simp)]; exact k2, fun _ => by rw [r30]; exact k3 hf⟩, ⟨by rw [r0 0 (by omega)]; exact i.1, by rw [r0 0 (by omega), y 3 0 b (by simp) (by simp)]; exact i.2⟩, ⟨L, l1, by rw [y 5 0 b (by simp) (by simp)]; exact l2⟩, fun _ => ⟨fun g j hj => ?_, fun i hi => ?_, fun mm hm => ?_, ?_, ?_, ?_, ?_, ?_, ?_⟩⟩
        · have eL : cL (pS (pS (pS (pS s 12 (s 0 3) k) 13 (s 0 3) a) 14 (s 0 3) f) 0 3 (s 0 3 + 1)) g = cL s g := by
            unfold cL
            simp only [r0 0 (by omega), r0 1 (by omega), r0 2 (by omega), r0 4 (by omega)]
          rw [eL] at hj
          by_cases g0 : g = 0 ∧ j = 3
          · obtain ⟨rfl, rfl⟩ := g0
            simp [cCv, uI, pS]
          · have n12 : g ≠ 12 ∧ g ≠ 13 ∧ g ≠ 14 := ⟨fun e => by subst e; exact absurd hj (Nat.not_lt_zero _), fun e => by subst e; exact absurd hj (Nat.not_lt_zero _), fun e => by subst e; exact absurd hj (Nat.not_lt_zero _)⟩
            have ef : pS (pS (pS (pS s 12 (s 0 3) k) 13 (s 0 3) a) 14 (s 0 3) f) 0 3 (s 0 3 + 1) g j = s g j := by
              simp only [pS]
              rw [if_neg g0, if_neg (by omega), if_neg (by omega), if_neg (by omega)]
            rw [ef, ← M.1 g j hj]
            unfold cCv
            split <;> first | (exfalso; omega) | rfl | exact y _ _ _ (by simp) (by simp)
        · have hi' : i < s 0 8 := by simpa [pS] using hi
          have := M.2.1 i hi'
          rw [y 30 i b (by simp) (by simp), y 31 i b (by simp) (by simp)]
          simp [pS]
          exact this
        · obtain ⟨w, w1, w2, w3⟩ := hT' mm hm
          refine ⟨w, by simp [uI]; exact w1, w2, fun q => ?_⟩
          rw [w3 q]
          have e3 : pS (pS (pS (pS s 12 (s 0 3) k) 13 (s 0 3) a) 14 (s 0 3) f) 0 3 (s 0 3 + 1) 0 3 = s 0 3 + 1 := by simp [pS]
          rw [e3, ← Bool.decide_or]
          refine decide_eq_decide.mpr ⟨fun hh => ?_, fun hh => ?_⟩
          · rcases hh with ⟨i, i1, i2, i3, i4⟩ | ⟨g1, g2, g3⟩
            · have ne : ¬ i = s 0 3 := by omega
              exact ⟨i, by omega, by simp [pS, ne]; exact i2, by simp [pS, ne]; exact i3, by simp [pS, ne]; exact i4⟩
            · exact ⟨s 0 3, by omega, by simp [pS]; exact g1, by simp [pS]; exact g2, by simp [pS]; exact g3⟩
          · obtain ⟨i, i1, i2, i3, i4⟩ := hh
            by_cases ne : i = s 0 3
            · subst ne
              simp [pS] at i2 i3 i4
              exact Or.inr ⟨i2, i3, i4⟩
            · simp [pS, ne] at i2 i3 i4
              exact Or.inl ⟨i, by omega, i2, i3, i4⟩
        · rw [r30, y 1 4 0 (by simp) (by simp)]; exact M.2.2.2.1
        · rw [r30, y 1 5 0 (by simp) (by simp)]; exact M.2.2.2.2.1
        · rw [r30, y 1 6 0 (by simp) (by simp)]; exact M.2.2.2.2.2.1
        · rw [r30, y 1 7 0 (by simp) (by simp)]; exact M.2.2.2.2.2.2.1
        · rw [r30, y 1 8 0 (by simp) (by simp)]; exact M.2.2.2.2.2.2.2.1
        · rw [r30, y 1 9 0 (by simp) (by simp)]; exact M.2.2.2.2.2.2.2.2
      exact bX0_addTurn_3 b2 ⟨fun _ => fin, fun z => absurd (by rw [nI_add]; exact Int32.le_refl _) z⟩
    | succ m ih =>
      intro x τ hx hax hS hT'
      refine bX0_addTurn_3 b2 ⟨fun z => ?_, fun _ => ⟨fun z => ?_, fun _ => ?_⟩⟩
      · rw [nI_add, nI_le2 (by omega) (by omega)] at z; omega
      · rw [show (119 : Int32) = nI 119 from rfl, nI_le2 (by omega) (by omega)] at z; omega
      · obtain ⟨w, w1, w2, w3⟩ := hT' x (by omega)
        rw [cl (show x < 119 by omega) (by omega), w1, bit_or (by omega), nI_1]
        refine ⟨vin (show x < 119 by omega) (by omega) (by decide), ih (x + 1) _ (by omega) (by omega) (hS.tr (SB.uI (by simp))) (fun mm hm => ?_)⟩
        by_cases e : mm = x
        · subst e
          refine ⟨w ||| 2 ^ k, by simp [uI], Nat.or_lt_two_pow w2 (Nat.pow_lt_pow_right (by omega) hk), fun q => ?_⟩
          rw [Nat.testBit_or, w3 q, Nat.testBit_two_pow]
          have e1 : decide (k = q ∧ a ≤ mm ∧ mm < mm) = false := by simp
          have e2 : decide (k = q ∧ a ≤ mm ∧ mm < mm + 1) = decide (k = q) := decide_eq_decide.mpr ⟨fun y => y.1, fun y => ⟨y, by omega, by omega⟩⟩
          rw [e1, e2, Bool.or_false]
        · obtain ⟨v, v1, v2, v3⟩ := hT' mm hm
          refine ⟨v, by simp [uI, e]; exact v1, v2, fun q => ?_⟩
          rw [v3 q]
          congr 1
          exact decide_eq_decide.mpr ⟨fun y => ⟨y.1, y.2.1, by omega⟩, fun y => ⟨y.1, y.2.1, by omega⟩⟩
  refine bX0_addTurn_0 b2 (L f a σ (by omega) (Nat.le_refl _) SB.rf (fun mm hm => ?_))
  obtain ⟨w, w1, w2, w3⟩ := M.2.2.1 mm hm
  refine ⟨w, w1, w2, fun q => ?_⟩
  rw [w3 q, show decide (k = q ∧ a ≤ mm ∧ mm < a) = false by simp, Bool.or_false]
end Pp
