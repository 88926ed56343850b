/-! chance -/
def md1 : MD := (true, 0, 0, none, 0)
theorem MV1 (c : CA) : MV' c md1 := ⟨fun z => absurd z (by decide), fun p hp => (by simp [md1] at hp), by decide⟩
def gCh (c : CA) (s : SA) (k n : Nat) : Nat → Int32 → Int32 → Int32
  | 0, _, t => t
  | m + 1, x, t => gCh c s k n m (gMinutes c md1 n (sU s 1 0 x) 1 0) (if bt (gMinutes c md1 n (sU s 1 0 x) 3 0) k = true then t + 1 else t)
def gChance (c : CA) (s : SA) (x n y : Int32) : Int32 := if x < 0 ∨ n < 1 ∨ 99 < n then -1 else match gIx y (c 0 2) with
  | none => -1
  | some k => gCh c s k n.toNatClampNeg 10 x 0
section Ra
variable {d : Nat} {Q : Option MV → MS → Prop} {σ : MS} {b k : Nat} {c : CA} {s : SA} {md : MD}
theorem MR.drawn (h : MR σ md0) : MR (uI σ 7 0 0 1) md1 := by
  unfold MR at *
  simp only [md0, md1] at *
  simp [uI]
  simpa using h.2
theorem MM.one (h : MM σ md0) : MM σ md1 := by
  unfold MM at *
  simp only [md0, md1] at *
  exact h
theorem S_chance (h : WK σ b c s) (ht : SVt s) (hg : gT s ≤ 9900) {x n y : Int32} (H : ∀ τ, SX wqL σ τ → Q (some (iV (gChance c s x n y))) τ) : R mj_OC (d + 1 + 1 + 1 + 1 + 1 + 1 + 1) mX10_chance Q 0 [some (rV 0 0), some (iV x), some (iV n), some (iV y), none, none, none] [] σ := by
  have V := h.V
  have nk := V.nk
  have H0 := H σ SX.rf
  have no : (x < 0 ∨ n < 1 ∨ 99 < n) → Q (some (iV (-1))) σ := fun g => by rw [gChance, if_pos g] at H0; exact H0
  refine bX10_chance_0 ⟨fun z => no (Or.inl z), fun x0 => ⟨fun z => no (Or.inr (Or.inl z)), fun n1 => ⟨fun z => no (Or.inr (Or.inr z)), fun n9 => ?_⟩⟩⟩
  have ng : ¬ (x < 0 ∨ n < 1 ∨ 99 < n) := fun g => g.elim x0 (fun g => g.elim n1 n9)
  have n0 : ¬ n < 0 := fun z => n1 (Int32.lt_trans z (by decide))
  obtain ⟨m, hm9, rfl⟩ := nI_of2 (M := 99) (n := 99) (by decide) n0 (Int32.not_lt.mp n9)
  refine S_isPipe h (fun k hk ey e => bX10_chance_20 ⟨fun _ => ?_, fun z => absurd z (by decide)⟩) (fun e => bX10_chance_20 ⟨fun z => absurd rfl z, fun _ => by rw [gChance, if_neg ng, e] at H0; exact H0⟩)
  have H1 : ∀ τ, SX wqL σ τ → Q (some (iV (gCh c s k m 10 x 0))) τ := fun τ hτ => by
    have := H τ hτ; rw [gChance, if_neg ng, e] at this
    simp only at this
    rw [nI_clamp (by omega)] at this; exact this
  subst ey
  refine S_asItGoes (fun υ hυ hm => bX10_chance_38 ?_)
  have xυ : SX wqL σ (uI υ 7 0 0 1) := (hυ.x.wq (by decide)).tr (SX.uI (by decide))
  have L : ∀ (i r : Nat) (z t : Int32) (φ : MS), r + i = 10 → SX wqL σ φ → MR φ md1 → (∀ τ, SX wqL σ τ → Q (some (iV (gCh c s k m i z t))) τ) → R mj_OC (d + 1 + 1 + 1 + 1 + 1 + 1 + 1) mX10_chance Q 49 [some (rV 0 0), some (iV x), some (iV (nI m)), some (iV (nI k)), some (iV z), some (iV t), some (iV (nI r))] [] φ := by
    intro i
    induction i with
    | zero =>
      intro r z t φ hr hx hm H
      have : r = 10 := by omega
      subst this
      exact bX10_chance_49 ⟨fun _ => H φ hx, fun z => absurd (by decide) z⟩
    | succ i ih =>
      intro r z t φ hr hx hm H
      have hW := h.q hx
      refine bX10_chance_49 ⟨fun z => ?_, fun _ => ?_⟩
      · rw [show (10 : Int32) = nI 10 from rfl, nI_le2 (by omega) (by omega)] at z; omega
      · refine S_become (o := 2) (o2 := 0) (by decide) (by decide) hW.2 (fun ψ hψ h2 _ => bX10_chance_67 ?_)
        have hmψ : MR ψ md1 := by unfold MR; rw [(hψ 7 0 (by decide)).1]; exact hm
        have h3 : SC (uI ψ 6 2 7 z) 2 b c (sU s 1 0 z) := h2.uI6 (Or.inr (Or.inl ⟨rfl, rfl⟩))
        have hm3 : MR (uI ψ 6 2 7 z) md1 := hmψ.keep (L := [(6, 2)]) (SB.uI (by simp)) (by decide)
        have x3 : SX wqL σ (uI ψ 6 2 7 z) := (hx.tr (hψ.wq (by decide))).tr (SX.uI (by decide))
        have ht3 : SVt (sU s 1 0 z) := ht.of (by simp [sU])
        have eT : gT (sU s 1 0 z) = gT s := by unfold gT; simp [sU]
        refine S_advance h3 hm3 ht3 (MV1 c) (n := m) (by omega) (fun χ hχ h4 => bX10_chance_88 ?_)
        have x4 : SX wqL σ χ := x3.tr (hχ.x.wq (mL_wq h.lt))
        have m4 : MR χ md1 := hm3.stp hχ
        rw [h4.nr]
        have ej : gJam (gMinutes c md1 m (sU s 1 0 z)) k ↔ bt (gMinutes c md1 m (sU s 1 0 z) 3 0) k = true := bt_sh (by omega)
        refine S_isJammed h4 (fun g => bX10_chance_105 ⟨fun q => absurd q (by decide), fun _ => ?_⟩) (fun g => bX10_chance_105 ⟨fun _ => ?_, fun q => absurd rfl q⟩)
        · rw [nI_1]
          refine ih (r + 1) _ _ χ (by omega) x4 m4 (fun τ hτ => ?_)
          have := H τ hτ
          rw [gCh, if_pos (ej.mp g)] at this; exact this
        · rw [nI_1]
          refine ih (r + 1) _ _ χ (by omega) x4 m4 (fun τ hτ => ?_)
          have := H τ hτ
          rw [gCh, if_neg (fun q => g (ej.mpr q))] at this; exact this
  exact L 10 0 x 0 _ rfl xυ hm.drawn H1
end Ra
