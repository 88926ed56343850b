def PBk (s : CA) (p : Nat) : Prop := s 30 1 = 0 → s 30 9 ≤ 8 ∧ s 0 8 + p ≤ s 30 10 ∧ s 30 10 ≤ 64
def pAddN : Nat → CA → CA
  | 0, s => s
  | i + 1, s => pAddN i (pAdd s 2 260)
section Pj
variable {t : Nat → Nat} {n T b : Nat}
theorem PBk.le {s : CA} {p : Nat} (h : PBk s p) : PBk s 0 := fun hf => by
  have := h hf; exact ⟨this.1, by omega, this.2.2⟩
theorem PBk.e {s u : CA} {p : Nat} (h : PBk s p) (e : PE s u) : PBk u p := fun hf => by
  obtain ⟨a1, a2, a3, a4, a5, a6, a7, a8, a9⟩ := e hf
  obtain ⟨b1, b2, b3⟩ := h a1
  have := a8 b3
  exact ⟨by omega, by omega, this⟩
theorem PBk.knot {s : CA} {p : Nat} (h : PBk s p) : PBk (pKnot t n s) (p + 1) := fun hf => by
  by_cases g : s 30 1 = 0
  · obtain ⟨b1, b2, b3⟩ := h g
    unfold pKnot at hf ⊢
    rw [if_pos g] at hf ⊢
    by_cases g2 : s 30 10 < 64
    · rw [if_pos g2]
      simp [pAdv, pS]; omega
    · rw [if_neg g2, (pF_0 g).1] at hf; omega
  · rw [pKnot_f g] at hf; exact absurd hf g
theorem PBk.add {s : CA} {p so v : Nat} (h : PBk s (p + 1)) : PBk (pAdd s so v) p := fun hf => by
  by_cases g : s 30 1 = 0
  · obtain ⟨b1, b2, b3⟩ := h g
    unfold pAdd
    rw [if_pos g]
    simp [pS]; omega
  · rw [pAdd_f g] at hf; exact absurd hf g
theorem pKnot_0 {s : CA} (hf : pKnot t n s 30 1 = 0) : s 30 1 = 0 ∧ s 30 10 < 64 ∧ pKnot t n s = pAdv (pS s 30 10 (s 30 10 + 1)) := by
  by_cases g : s 30 1 = 0
  · by_cases g2 : s 30 10 < 64
    · exact ⟨g, g2, by unfold pKnot; rw [if_pos g, if_pos g2]⟩
    · unfold pKnot at hf; rw [if_pos g, if_neg g2, (pF_0 g).1] at hf; omega
  · rw [pKnot_f g] at hf; exact absurd hf g
theorem rkO_f : ∀ k, k < 39 → (rkO k ≤ 5 → kCl 2 (sgC k) = k ∧ k ≠ 37 ∧ k ≠ 14) ∧ rkO k ≤ 9 ∧ (15 ≤ k → k ≤ 21 → kCl 1 (k - 15) = k) := by
  have h : ∀ k : Fin 39, (rkO k.val ≤ 5 → kCl 2 (sgC k.val) = k.val ∧ k.val ≠ 37 ∧ k.val ≠ 14) ∧ rkO k.val ≤ 9 ∧ (15 ≤ k.val → k.val ≤ 21 → kCl 1 (k.val - 15) = k.val) := by decide +kernel
  exact fun k hk => h ⟨k, hk⟩
theorem S_rankOf {d : Nat} {Q : Option MV → MS → Prop} {σ : MS} {k : Nat} (hk : k < 39) (H : ∀ v : Int32, (∀ r, r ≤ 5 → (v = nI r ↔ rkO k = r)) → Q (some (iV v)) σ) : R mj_OC d mX7_rankOf Q 0 [some (iV (nI k))] [] σ := by
  have c : ∀ m, m < 100 → (nI k = nI m ↔ k = m) := fun m hm => nI_inj (by omega) (by omega)
  have f : ∀ w, w ≤ 5 → rkO k = w → Q (some (iV (nI w))) σ := fun w hw e => H _ (fun r hr => by rw [nI_inj (by omega) (by omega), e])
  have f9 : rkO k = 9 → Q (some (iV (-1))) σ := fun e => H _ (fun r hr => ⟨fun z => absurd z.symm (nI_m1 (by omega)), fun z => by omega⟩)
  refine bX7_rankOf_0 ?_
  have e12 : nI k = (12 : Int32) ↔ k = 12 := c 12 (by omega)
  have e13 : nI k = (13 : Int32) ↔ k = 13 := c 13 (by omega)
  have e27 : nI k = (27 : Int32) ↔ k = 27 := c 27 (by omega)
  have e28 : nI k = (28 : Int32) ↔ k = 28 := c 28 (by omega)
  have e29 : nI k = (29 : Int32) ↔ k = 29 := c 29 (by omega)
  have e30 : nI k = (30 : Int32) ↔ k = 30 := c 30 (by omega)
  have e31 : nI k = (31 : Int32) ↔ k = 31 := c 31 (by omega)
  have e32 : nI k = (32 : Int32) ↔ k = 32 := c 32 (by omega)
  have e33 : nI k = (33 : Int32) ↔ k = 33 := c 33 (by omega)
  have e34 : nI k = (34 : Int32) ↔ k = 34 := c 34 (by omega)
  have e35 : nI k = (35 : Int32) ↔ k = 35 := c 35 (by omega)
  have e36 : nI k = (36 : Int32) ↔ k = 36 := c 36 (by omega)
  rw [e12, e13, e27, e28, e29, e30, e31, e32, e33, e34, e35, e36]
  have q : ∀ w, w ≤ 5 → rkO k = w → Q (some (iV (nI w))) σ := f
  refine ⟨fun y => f 0 (by omega) (by subst y; rfl), fun n1 => ⟨fun y => f 1 (by omega) (by subst y; rfl), fun n2 => ⟨fun y => f 4 (by omega) (by subst y; rfl), fun n3 => ⟨fun y => f 4 (by omega) (by subst y; rfl), fun n4 => ⟨fun y => f 5 (by omega) (by subst y; rfl), fun n5 => ⟨fun y => f 5 (by omega) (by subst y; rfl), fun n6 => ⟨fun y => f 3 (by omega) (by subst y; rfl), fun n7 => ⟨fun y => f 3 (by omega) (by subst y; rfl), fun n8 => ⟨fun y => f 3 (by omega) (by subst y; rfl), fun n9 => ⟨fun y => f 3 (by omega) (by subst y; rfl), fun n10 => ⟨fun y => f 3 (by omega) (by subst y; rfl), fun n11 => ⟨fun y => f 3 (by omega) (by subst y; rfl), fun n12 => f9 ?_⟩⟩⟩⟩⟩⟩⟩⟩⟩⟩⟩⟩
  unfold rkO
  rw [if_neg n1, if_neg n2, if_neg (by omega), if_neg (by omega), if_neg (by omega)]
theorem pAdd_1 {s : CA} {so v : Nat} : pAdd s so v 30 1 = s 30 1 := by
  unfold pAdd; split
  · simp [pS]
  · rfl
theorem S_addN {D : Nat} {Q : Option MV → MS → Prop} : ∀ (i x : Nat) (σ : MS) (u : CA), x + i ≤ 66 → PBk u i → SRd t n T b σ u → (∀ τ : MS, SB (rdL b) σ τ → SRd t n T b τ (pAddN i u) → Q none τ) → R mj_OC (D + 1) mX7_readDenied Q 45 [some (rV 1 0), some (iV (nI (x + i))), some (iV (nI x))] [] σ := by
  intro i
  induction i with
  | zero => intro x σ u hx hB h H; exact bX7_readDenied_45 ⟨fun _ => H σ SB.rf h, fun z => absurd (Int32.le_refl _) z⟩
  | succ i ih =>
    intro x σ u hx hB h H
    refine bX7_readDenied_45 ⟨fun z => ?_, fun _ => ⟨by rw [h.1.1]; exact h.1.2.1, ?_⟩⟩
    · rw [nI_le2 (by omega) (by omega)] at z; omega
    · rw [h.1.1]
      refine S_ladd (so := 2) (v := 260) h (fun hf => by have := hB hf; omega) (fun _ => ⟨by decide, fun e => by omega⟩) (fun τ h1 h2 => bX7_readDenied_63 ?_)
      rw [nI_1]
      have := ih (x + 1) τ (pAdd u 2 260) (by omega) hB.add h2 (fun υ u1 u2 => H υ (h1.tr u1) u2)
      rw [show x + 1 + i = x + (i + 1) by omega] at this
      exact this
end Pj
