section Pv
variable {Q : Option MV → MS → Prop} {t : Nat → Nat} {n T b D : Nat} {x1 : Int32}
theorem pRead_f {m : Nat} {s : CA} (h : ¬ s 30 1 = 0) : pRead t n m s = s := by
  cases m with
  | zero => rfl
  | succ m => rw [pRead, if_neg h]
/-- the class reads line by line (hI: part 91) -/
theorem S_readLoop (hT : TF t n T) (hD : 181 ≤ D) (hI : ∀ s : CA, s 30 1 = 0 → LI s → (pLine t n s) 30 1 = 0 → LI (pLine t n s)) : ∀ (m i : Nat) (s : CA) (σ : MS), i + m = 700 → SRd t n T b σ s → (s 30 1 = 0 → LI s) → (∀ τ : MS, SB (rdL b) σ τ → SRd t n T b τ (pRead t n m s) → Q none τ) → R mj_OC (D + 1 + 1) mX7_read Q 52 [some (rV 1 0), some (iV x1), some (iV (nI i))] [] σ := by
  intro m
  induction m with
  | zero =>
    intro i s σ hi h hL H
    obtain rfl : i = 700 := by omega
    exact bX7_read_52 ⟨fun _ => H σ SB.rf h, fun z => absurd (Int32.le_refl _) z⟩
  | succ m ih =>
    intro i s σ hi h hL H
    by_cases hf : s 30 1 = 0
    · have k38 := kd_le (t := t) (n := n) (s := s)
      refine bX7_read_52 ⟨fun z => ?_, fun _ => ⟨fun z => absurd (h.z.mpr hf) z, fun _ => S_kind hT h (fun v hv => ?_)⟩⟩
      · rw [show (700 : Int32) = nI 700 from rfl, nI_le2 (by omega) (by omega)] at z; omega
      · rw [hv hf]
        have c37 : nI (kd t n s) = (37 : Int32) ↔ kd t n s = 37 := nI_inj (b := 37) (by omega) (by omega)
        refine bX7_read_73 ⟨fun y => H σ SB.rf ?_, fun y => ?_⟩
        · rw [c37] at y
          rw [pRead, if_pos hf, if_pos y]; exact h
        · rw [c37] at y
          rw [pRead, if_pos hf, if_neg y] at H
          refine S_readLine hT h hf (hL hf) hD (fun τ h1 h2 => bX7_read_82 ?_)
          rw [nI_1]
          exact ih (i + 1) _ τ (by omega) h2 (fun q => hI s hf (hL hf) q) (fun υ u1 u2 => H υ (h1.tr u1) u2)
    · have z0 : ¬ σ.1 1 0 2 = 0 := fun e => hf (h.z.mp e)
      have e : pRead t n (m + 1) s = s := pRead_f hf
      rw [e] at H
      exact bX7_read_52 ⟨fun _ => H σ SB.rf h, fun _ => ⟨fun _ => H σ SB.rf h, fun z => absurd z z0⟩⟩
end Pv
