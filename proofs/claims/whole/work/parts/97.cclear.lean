def pZ : CA := fun _ _ => 0
def clrL (b : Nat) : List (Nat × Nat) := [(3, b), (4, b), (5, b), (24, b), (32, b), (33, b)]
section Qc
variable {d : Nat} {Q : Option MV → MS → Prop} {σ : MS} {b : Nat}
theorem S_clear (hb : b < 2) (H : ∀ τ : MS, SB (clrL b) σ τ → CR τ b pZ → KR τ b pZ → TR τ b pZ → Q none τ) : R mj_OC (d + 1) mX0_clear Q 0 [some (rV 3 b), none] [] σ := by
  have L : ∀ (m x : Nat) (τ : MS), x + m = 119 → SB (clrL b) σ τ → (τ.1 3 b 0 = 0 ∧ τ.1 3 b 6 = 0 ∧ τ.1 3 b 10 = 0) → (∀ i, i < x → τ.1 24 b i = 0) → R mj_OC (d + 1) mX0_clear Q 17 [some (rV 3 b), some (iV (nI x))] [] τ := by
    intro m
    induction m with
    | zero =>
      intro x τ hx hS h3 h24
      obtain rfl : x = 119 := by omega
      refine bX0_clear_17 hb ⟨fun _ => ?_, fun z => absurd (Int32.le_refl _) z⟩
      refine bX4_clear_0 hb (bX0_clear_53 hb (bX3_clear_0 hb ?_))
      have L2 : ∀ (m x : Nat) (υ : MS), x + m = 3 → SB (clrL b) σ υ → (υ.1 3 b 0 = 0 ∧ υ.1 3 b 6 = 0 ∧ υ.1 3 b 10 = 0 ∧ υ.1 3 b 12 = 0 ∧ υ.1 3 b 13 = 0 ∧ υ.1 4 b 0 = 0 ∧ υ.1 4 b 4 = 0 ∧ υ.1 5 b 0 = 0) → (∀ i, i < 119 → υ.1 24 b i = 0) → (∀ i, i < x → υ.1 32 b i = 0 ∧ υ.1 33 b i = 0) → R mj_OC d mX3_clear (fun r σ' => R mj_OC (d + 1) mX0_clear Q 60 [some (rV 3 b), some (iV (nI 119))] (r.toList ++ []) σ') 7 [some (rV 5 b), some (iV (nI x))] [] υ := by
        intro m
        induction m with
        | zero =>
          intro x υ hx2 hS2 hc h24' h3233
          obtain rfl : x = 3 := by omega
          refine bX3_clear_7 hb ⟨fun _ => bX0_clear_60 hb (H υ hS2 (fun f j hj => ?_) (fun i hi => absurd hi (Nat.not_lt_zero _)) (fun mm hm => ⟨0, h24' mm hm, by decide, fun k => ?_⟩)), fun z => absurd (Int32.le_refl _) z⟩
          · by_cases g : f = 17 ∨ f = 18
            · rcases g with rfl | rfl
              · exact (h3233 j hj).1
              · exact (h3233 j hj).2
            · by_cases g0 : f = 0
              · subst g0
                have hj' : j < 9 := hj
                obtain ⟨c1, c2, c3, c4, c5, c6, c7, c8⟩ := hc
                rcases (show j = 0 ∨ j = 1 ∨ j = 2 ∨ j = 3 ∨ j = 4 ∨ j = 5 ∨ j = 6 ∨ j = 7 ∨ j = 8 by omega) with rfl | rfl | rfl | rfl | rfl | rfl | rfl | rfl | rfl
                · exact c1
                · exact c6
                · exact c2
                · exact c3
                · exact c7
                · rfl
                · exact c4
                · exact c5
                · exact c8
              · exfalso
                have : cL pZ f = 0 := by
                  unfold cL pZ
                  split <;> first | rfl | (exfalso; omega)
                omega
          · rw [Nat.zero_testBit]
            refine (decide_eq_false ?_).symm
            rintro ⟨i, hi, _⟩
            exact absurd hi (Nat.not_lt_zero _)
        | succ m ih =>
          intro x υ hx2 hS2 hc h24' h3233
          refine bX3_clear_7 hb ⟨fun z => ?_, fun _ => ?_⟩
          · rw [show (3 : Int32) = nI 3 from rfl, nI_le2 (by omega) (by omega)] at z; omega
          · rw [cl (show x < 3 by omega) (by omega), nI_1]
            refine ⟨vin (show x < 3 by omega) (by omega) (by decide), ih (x + 1) _ (by omega) ((hS2.tr (SB.uI (by simp [clrL]))).tr (SB.uI (by simp [clrL]))) (by simp [uI]; exact hc) (fun i hi => by simp [uI]; exact h24' i hi) (fun i hi => ?_)⟩
            by_cases e : i = x
            · subst e; simp [uI]
            · simp [uI, e]; exact h3233 i (by omega)
      refine L2 3 0 _ rfl (((((hS.tr (SB.uI (by simp [clrL]))).tr (SB.uI (by simp [clrL]))).tr (SB.uI (by simp [clrL]))).tr (SB.uI (by simp [clrL]))).tr (SB.uI (by simp [clrL]))) (by simp [uI]; exact h3) (fun i hi => by simp [uI]; exact h24 i hi) (fun i hi => absurd hi (Nat.not_lt_zero _))
    | succ m ih =>
      intro x τ hx hS h3 h24
      refine bX0_clear_17 hb ⟨fun z => ?_, fun _ => ?_⟩
      · rw [show (119 : Int32) = nI 119 from rfl, nI_le2 (by omega) (by omega)] at z; omega
      · rw [cl (show x < 119 by omega) (by omega), nI_1]
        refine ⟨vin (show x < 119 by omega) (by omega) (by decide), ih (x + 1) _ (by omega) (hS.tr (SB.uI (by simp [clrL]))) (by simp [uI]; exact h3) (fun i hi => ?_)⟩
        by_cases e : i = x
        · subst e; simp [uI]
        · simp [uI, e]; exact h24 i (by omega)
  exact bX0_clear_0 hb (L 119 0 _ rfl (((SB.uI (by simp [clrL])).tr (SB.uI (by simp [clrL]))).tr (SB.uI (by simp [clrL]))) (by simp [uI]) (fun i hi => absurd hi (Nat.not_lt_zero _)))
end Qc
