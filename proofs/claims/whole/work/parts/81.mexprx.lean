section Mo
variable {t : Nat → Nat} {n T : Nat}
theorem sgC_k : ∀ k, k < 39 → (rkO k = 0 ↔ k = 12) ∧ (rkO k = 1 ↔ k = 13) ∧ (rkO k = 4 ↔ k = 27 ∨ k = 28) ∧ (rkO k = 5 ↔ k = 29 ∨ k = 30) ∧ (rkO k = 3 ↔ 31 ≤ k ∧ k ≤ 36) ∧ (24 ≤ k → k < 37 → sgC k = sgV k ∧ sgV k < 300 ∧ (sgV k = 60 ↔ k = 32) ∧ (sgV k = 62 ↔ k = 33) ∧ (sgV k = 61 ↔ k = 31) ∧ (256 ≤ sgV k ↔ 34 ≤ k)) := by
  have h : ∀ k : Fin 39, (rkO k.val = 0 ↔ k.val = 12) ∧ (rkO k.val = 1 ↔ k.val = 13) ∧ (rkO k.val = 4 ↔ k.val = 27 ∨ k.val = 28) ∧ (rkO k.val = 5 ↔ k.val = 29 ∨ k.val = 30) ∧ (rkO k.val = 3 ↔ 31 ≤ k.val ∧ k.val ≤ 36) ∧ (24 ≤ k.val → k.val < 37 → sgC k.val = sgV k.val ∧ sgV k.val < 300 ∧ (sgV k.val = 60 ↔ k.val = 32) ∧ (sgV k.val = 62 ↔ k.val = 33) ∧ (sgV k.val = 61 ↔ k.val = 31) ∧ (256 ≤ sgV k.val ↔ 34 ≤ k.val)) := by decide +kernel
  exact fun k hk => h ⟨k, hk⟩

def MXI (t : Nat → Nat) (n T m : Nat) : Prop := ∀ (q : Nat) (s : CA) (D : Nat) (σ : MS) (Q : Option MV → MS → Prop), (s 30 1 = 0 → 20 * (T - s 30 0) + (if q ≤ 6 then 13 - q else 1) ≤ m) → PBk s 0 → (s 30 1 = 0 → (65 - s 30 10) + 8 * (8 - s 30 9) + (7 - rkQ q) + 12 ≤ D) → 12 + (7 - rkQ q) ≤ D → MRd t n σ s → (∀ τ : MS, XR σ τ → MRd t n τ (pX t n m q s) → Q none τ) → mXr D Q σ q
variable {m D : Nat} {Q : Option MV → MS → Prop} {σ : MS} {s : CA}
theorem MXI.a (ih : MXI t n T m) {q : Nat} (hq : q ≤ 6) (h1 : s 30 1 = 0 → 20 * (T - s 30 0) + (13 - q) ≤ m) (hB : PBk s 0) (h2 : s 30 1 = 0 → (65 - s 30 10) + 8 * (8 - s 30 9) + (7 - q) + 12 ≤ D) (h3 : 12 + (7 - q) ≤ D) (h : MRd t n σ s) (H : ∀ τ : MS, XR σ τ → MRd t n τ (pX t n m q s) → Q none τ) : mXr D Q σ q := by
  have er : rkQ q = q := by unfold rkQ; rw [if_pos (by omega)]
  exact ih q s D σ Q (fun e => by rw [if_pos hq]; exact h1 e) hB (fun e => by rw [er]; exact h2 e) (by rw [er]; exact h3) h H
theorem MXI.b (ih : MXI t n T m) {r : Nat} (h1 : s 30 1 = 0 → 20 * (T - s 30 0) + 1 ≤ m) (hB : PBk s 0) (h2 : s 30 1 = 0 → (65 - s 30 10) + 8 * (8 - s 30 9) + (7 - r) + 12 ≤ D) (h3 : 12 + (7 - r) ≤ D) (h : MRd t n σ s) (H : ∀ τ : MS, XR σ τ → MRd t n τ (pX t n m (r + 10) s) → Q none τ) : mXr D Q σ (r + 10) := by
  have er : rkQ (r + 10) = r := by unfold rkQ; rw [if_neg (by omega)]; omega
  exact ih (r + 10) s D σ Q (fun e => by rw [if_neg (by omega)]; exact h1 e) hB (fun e => by rw [er]; exact h2 e) (by rw [er]; exact h3) h H
/-- what holds of a place without a fault, at a rank r -/
def MXH (t : Nat → Nat) (n T m D r x : Nat) (σ : MS) (s : CA) : Prop := MXI t n T m ∧ TF t n T ∧ s 30 1 = 0 ∧ 20 * (T - s 30 0) + x ≤ m + 1 ∧ PBk s 0 ∧ (65 - s 30 10) + 8 * (8 - s 30 9) + (7 - r) + 12 ≤ D + 7 ∧ 12 + (7 - r) ≤ D + 7 ∧ MRd t n σ s
theorem MXH.sub {r x q' : Nat} {τ : MS} (g : MXH t n T m D r x σ s) (hx : 1 ≤ x) (hr : r ≤ 5) (hk : kd t n s ≠ 37) (hq1 : r ≤ q') (hq2 : q' ≤ 6) (hu : MRd t n τ (pKnot t n s)) (H : ∀ υ : MS, XR τ υ → MRd t n υ (pX t n m q' (pKnot t n s)) → Q none υ) : mXr (D + 1 + 1 + 1 + 1 + 1 + 1) Q τ q' := by
  obtain ⟨ih, hT, hf, hm, hB, hD, hb, h⟩ := g
  have ltT := hT.lt hk
  have hBf := hB hf
  refine ih.a hq2 (fun e => ?_) hB.knot.le (fun e => ?_) ?_ hu H
  · obtain ⟨u1, u2, u3, u4⟩ := pKnot_u e
    omega
  · obtain ⟨u1, u2, u3, u4⟩ := pKnot_u e
    omega
  · omega
theorem MXH.loop {r x sgn : Nat} {τ : MS} (g : MXH t n T m D r x σ s) (hx : 1 ≤ x) (hk : kd t n s ≠ 37) (hu : MRd t n τ (pAdd (pX t n m (r + 1) (pKnot t n s)) 2 sgn)) (H : ∀ υ : MS, XR τ υ → MRd t n υ (pX t n m (r + 10) (pAdd (pX t n m (r + 1) (pKnot t n s)) 2 sgn)) → Q none υ) : mXr (D + 1 + 1 + 1 + 1 + 1 + 1 + 1) Q τ (r + 10) := by
  obtain ⟨ih, hT, hf, hm, hB, hD, hb, h⟩ := g
  have ltT := hT.lt hk
  refine ih.b (fun e => ?_) (hB.e (PE.knot (pX_E m (r + 1) _))) (fun e => ?_) ?_ hu H
  · have := pIt_u e
    omega
  · have := pIt_u e
    omega
  · omega
theorem MX_room (hB : PBk s 0) (q' : Nat) (e : pX t n m q' (pKnot t n s) 30 1 = 0) : pX t n m q' (pKnot t n s) 0 8 < 64 := by
  obtain ⟨a, b, c⟩ := (hB.knot (t := t) (n := n)).e (pX_E (t := t) (n := n) m q' _) e
  omega
theorem MX_kgo {τ : MS} (h1 : XR σ τ) (h2 : MRd t n τ (pKn t n s)) (H : ∀ υ : MS, XR σ υ → MRd t n υ (pKnot t n s) → Q none υ) : R mj_OM (D + 1 + 1 + 1 + 1 + 1 + 1) mX11_goOn Q 0 [some (rV 45 0)] [] τ := M_goOn h2 (fun υ u1 u2 => H υ (h1.tr u1) (by rw [pKnot_eq]; exact u2))
theorem pX_step {r : Nat} (hf : s 30 1 = 0) (hr : r ≤ 5) (h3 : r ≠ 3) (h6 : rkO (kd t n s) = r) : pX t n (m + 1) (r + 10) s = pX t n m (r + 10) (pAdd (pX t n m (r + 1) (pKnot t n s)) 2 (sgC (kd t n s))) := by
  rw [pX, if_pos hf, if_neg (by omega), if_neg (by omega), if_neg (by omega), show r + 10 - 10 = r by omega, if_pos h6, if_neg (by omega), show r + 10 - 9 = r + 1 by omega]
theorem pX_stop {r : Nat} (hf : s 30 1 = 0) (h6 : rkO (kd t n s) ≠ r) : pX t n (m + 1) (r + 10) s = s := by
  rw [pX, if_pos hf, if_neg (by omega), if_neg (by omega), if_neg (by omega), show r + 10 - 10 = r by omega, if_neg h6]
theorem pX_two {q : Nat} (hf : s 30 1 = 0) (hq : q < 6) (h2 : q ≠ 2) : pX t n (m + 1) q s = pX t n m (q + 10) (pX t n m (q + 1) s) := by
  rw [pX, if_pos hf, if_neg (by omega), if_neg h2, if_pos hq]
/-- the first side and then what stands behind it -/
theorem MXH.two {q : Nat} (g : MXH t n T m D q (13 - q) σ s) (hq : q < 6) (h2 : q ≠ 2) (H : ∀ τ : MS, XR σ τ → MRd t n τ (pX t n (m + 1) q s) → Q none τ) {Q' : Option MV → MS → Prop} (hQ : ∀ τ, mXr (D + 1 + 1 + 1 + 1 + 1 + 1 + 1) Q τ (q + 10) → Q' none τ) : mXr (D + 1 + 1 + 1 + 1 + 1 + 1) Q' σ (q + 1) := by
  obtain ⟨ih, hT, hf, hm, hB, hD, hb, h⟩ := g
  rw [pX_two hf hq h2] at H
  have E := pX_E (t := t) (n := n) m (q + 1) s
  refine ih.a (by omega) (fun _ => by omega) hB (fun _ => by omega) (by omega) h (fun τ h1 h2 => hQ τ (ih.b (fun e => ?_) (hB.e E) (fun e => ?_) (by omega) h2 (fun υ u1 u2 => H υ (h1.tr u1) u2)))
  · obtain ⟨a1, a2, a3, _, _, a6, a7, a8, _⟩ := E e
    omega
  · obtain ⟨a1, a2, a3, _, _, a6, a7, a8, _⟩ := E e
    have := a8 (hB hf).2.2
    omega
theorem MX_2 (g : MXH t n T m D 2 11 σ s) (H : ∀ τ : MS, XR σ τ → MRd t n τ (pX t n (m + 1) 2 s) → Q none τ) : R mj_OM (D + 1 + 1 + 1 + 1 + 1 + 1 + 1) mX11_negation Q 0 [some (rV 45 0), none] [] σ := by
  have g' := g
  obtain ⟨ih, hT, hf, hm, hB, hD, hb, h⟩ := g
  have eX : pX t n (m + 1) 2 s = if kd t n s = 14 then pAdd (pX t n m 2 (pKnot t n s)) 2 260 else pX t n m 3 s := by rw [pX, if_pos hf, if_neg (by omega), if_pos rfl]
  rw [eX] at H
  refine bX11_negation_0 (M_isWord (K := 14) (by omega) h (fun v hv => ?_))
  by_cases k14 : kd t n s = 14
  · have v0 : ¬ v = 0 := fun e => (hv.mp e) ⟨hf, k14⟩
    rw [if_pos k14] at H
    refine bX11_negation_6 ⟨fun z => absurd z v0, fun _ => M_knot hB h (fun τ h1 h2 => bX11_negation_13 (MX_kgo h1 h2 (fun υ u1 u2 => bX11_negation_17 (g'.sub (q' := 2) (by omega) (by omega) (by omega) (by omega) (by omega) u2 (fun ω w1 w2 => bX11_negation_21 (M_puts (so := 2) (v := 260) w2 (MX_room hB 2) (fun χ x1 x2 => bX11_negation_29 (H χ ((u1.tr w1).tr x1) x2))))))))⟩
  · have v0 : v = 0 := hv.mpr (fun e => k14 e.2)
    subst v0
    rw [if_neg k14] at H
    exact ih.a (q := 3) (by omega) (fun _ => by omega) hB (fun _ => by omega) (by omega) h H
theorem MX_10 (g : MXH t n T m D 0 1 σ s) (H : ∀ τ : MS, XR σ τ → MRd t n τ (pX t n (m + 1) 10 s) → Q none τ) : R mj_OM (D + 1 + 1 + 1 + 1 + 1 + 1 + 1) mX11_expression Q 4 [some (rV 45 0)] [] σ := by
  have g' := g
  obtain ⟨ih, hT, hf, hm, hB, hD, hb, h⟩ := g
  have k38 := kd_le (t := t) (n := n) (s := s)
  have sk := sgC_k (kd t n s) (by omega)
  refine bX11_expression_4 (M_isWord (K := 12) (by omega) h (fun v hv => ?_))
  by_cases k12 : kd t n s = 12
  · have v0 : ¬ v = 0 := fun e => (hv.mp e) ⟨hf, k12⟩
    have eX := pX_step (m := m) hf (by omega) (by omega) (sk.1.mpr k12)
    rw [eX, k12] at H
    refine bX11_expression_10 ⟨fun z => absurd z v0, fun _ => M_knot hB h (fun τ h1 h2 => bX11_expression_17 (MX_kgo h1 h2 (fun υ u1 u2 => bX11_expression_21 (g'.sub (q' := 1) (by omega) (by omega) (by omega) (by omega) (by omega) u2 (fun ω w1 w2 => bX11_expression_25 (M_puts (so := 2) (v := 262) w2 (MX_room hB 1) (fun χ x1 x2 => bX11_expression_33 (g'.loop (by omega) (by omega) x2 (fun ψ y1 y2 => H ψ ((u1.tr (w1.tr x1)).tr y1) y2)))))))))⟩
  · have v0 : v = 0 := hv.mpr (fun e => k12 e.2)
    have eX := pX_stop (m := m) (r := 0) hf (fun e => k12 (sk.1.mp e))
    rw [eX] at H
    exact bX11_expression_10 ⟨fun _ => H σ XR.rf h, fun z => absurd v0 z⟩
theorem MX_11 (g : MXH t n T m D 1 1 σ s) (H : ∀ τ : MS, XR σ τ → MRd t n τ (pX t n (m + 1) 11 s) → Q none τ) : R mj_OM (D + 1 + 1 + 1 + 1 + 1 + 1 + 1) mX11_conjunction Q 4 [some (rV 45 0)] [] σ := by
  have g' := g
  obtain ⟨ih, hT, hf, hm, hB, hD, hb, h⟩ := g
  have k38 := kd_le (t := t) (n := n) (s := s)
  have sk := sgC_k (kd t n s) (by omega)
  refine bX11_conjunction_4 (M_isWord (K := 13) (by omega) h (fun v hv => ?_))
  by_cases k13 : kd t n s = 13
  · have v0 : ¬ v = 0 := fun e => (hv.mp e) ⟨hf, k13⟩
    have eX := pX_step (m := m) hf (by omega) (by omega) (sk.2.1.mpr k13)
    rw [eX, k13] at H
    refine bX11_conjunction_10 ⟨fun z => absurd z v0, fun _ => M_knot hB h (fun τ h1 h2 => bX11_conjunction_17 (MX_kgo h1 h2 (fun υ u1 u2 => bX11_conjunction_21 (g'.sub (q' := 2) (by omega) (by omega) (by omega) (by omega) (by omega) u2 (fun ω w1 w2 => bX11_conjunction_25 (M_puts (so := 2) (v := 261) w2 (MX_room hB 2) (fun χ x1 x2 => bX11_conjunction_33 (g'.loop (by omega) (by omega) x2 (fun ψ y1 y2 => H ψ ((u1.tr (w1.tr x1)).tr y1) y2)))))))))⟩
  · have v0 : v = 0 := hv.mpr (fun e => k13 e.2)
    have eX := pX_stop (m := m) (r := 1) hf (fun e => k13 (sk.2.1.mp e))
    rw [eX] at H
    exact bX11_conjunction_10 ⟨fun _ => H σ XR.rf h, fun z => absurd v0 z⟩
theorem MX_13 (g : MXH t n T m D 3 1 σ s) (H : ∀ τ : MS, XR σ τ → MRd t n τ (pX t n (m + 1) 13 s) → Q none τ) : R mj_OM (D + 1 + 1 + 1 + 1 + 1 + 1 + 1) mX11_negation Q 34 [some (rV 45 0), none] [] σ := by
  have g' := g
  obtain ⟨ih, hT, hf, hm, hB, hD, hb, h⟩ := g
  have k38 := kd_le (t := t) (n := n) (s := s)
  have sk := sgC_k (kd t n s) (by omega)
  have mt := (h.2.2.2 hf).1
  have so := mt.so
  have no : ¬ (31 ≤ kd t n s ∧ kd t n s ≤ 36) → Q none σ := fun g => H σ XR.rf (by rw [pX_stop (r := 3) hf (fun e => g (sk.2.2.2.2.1.mp e))]; exact h)
  refine bX11_negation_34 ⟨fun z => absurd (h.z.mpr hf) z, fun _ => ⟨fun z => no (fun g => z (so.2.2.2.1.mpr (by show 24 ≤ kd t n s ∧ kd t n s < 37; omega))), fun z => ?_⟩⟩
  have g1 : 24 ≤ kd t n s ∧ kd t n s < 37 := so.2.2.2.1.mp z
  have e30 : σ.1 45 0 30 = nI (sgV (kd t n s)) := mt.g g1
  have sv := sk.2.2.2.2.2 g1.1 g1.2
  have c60 : σ.1 45 0 30 = (60 : Int32) ↔ kd t n s = 32 := by rw [e30, ← sv.2.2.1]; exact nI_inj (b := 60) (by omega) (by omega)
  have c62 : σ.1 45 0 30 = (62 : Int32) ↔ kd t n s = 33 := by rw [e30, ← sv.2.2.2.1]; exact nI_inj (b := 62) (by omega) (by omega)
  have c61 : σ.1 45 0 30 = (61 : Int32) ↔ kd t n s = 31 := by rw [e30, ← sv.2.2.2.2.1]; exact nI_inj (b := 61) (by omega) (by omega)
  have c256 : (256 : Int32) ≤ σ.1 45 0 30 ↔ 34 ≤ kd t n s := by rw [e30, ← sv.2.2.2.2.2]; exact nI_le2 (a := 256) (by omega) (by omega)
  have go : 31 ≤ kd t n s ∧ kd t n s ≤ 36 → R mj_OM (D + 1 + 1 + 1 + 1 + 1 + 1) mX11_knot (fun r σ' => R mj_OM (D + 1 + 1 + 1 + 1 + 1 + 1 + 1) mX11_negation Q 96 [some (rV 45 0), some (iV (σ.1 45 0 30))] (r.toList ++ []) σ') 0 [some (rV 45 0)] [] σ := fun g => by
    have eX : pX t n (m + 1) 13 s = pAdd (pX t n m 4 (pKnot t n s)) 2 (sgC (kd t n s)) := by
      rw [pX, if_pos hf, if_neg (by omega), if_neg (by omega), if_neg (by omega), if_pos (show rkO (kd t n s) = 13 - 10 from sk.2.2.2.2.1.mpr g), if_pos rfl]
    rw [eX, sv.1] at H
    rw [e30]
    exact M_knot hB h (fun τ h1 h2 => bX11_negation_96 (MX_kgo h1 h2 (fun υ u1 u2 => bX11_negation_100 (g'.sub (q' := 4) (by omega) (by omega) (by omega) (by omega) (by omega) u2 (fun ω w1 w2 => bX11_negation_104 (M_puts (so := 2) w2 (MX_room hB 4) (fun χ x1 x2 => bX11_negation_110 (H χ ((u1.tr w1).tr x1) x2))))))))
  refine ⟨fun z => go (by rw [c60] at z; omega), fun z1 => ⟨fun z => go (by rw [c62] at z; omega), fun z2 => ⟨fun z => go (by rw [c61] at z; omega), fun z3 => ⟨fun z => go (by rw [c256] at z; omega), fun z4 => no ?_⟩⟩⟩⟩
  rw [c60] at z1
  rw [c62] at z2
  rw [c61] at z3
  rw [c256] at z4
  omega
theorem MX_14 (g : MXH t n T m D 4 1 σ s) (H : ∀ τ : MS, XR σ τ → MRd t n τ (pX t n (m + 1) 14 s) → Q none τ) : R mj_OM (D + 1 + 1 + 1 + 1 + 1 + 1 + 1) mX11_sum Q 4 [some (rV 45 0), none] [] σ := by
  have g' := g
  obtain ⟨ih, hT, hf, hm, hB, hD, hb, h⟩ := g
  have k38 := kd_le (t := t) (n := n) (s := s)
  have sk := sgC_k (kd t n s) (by omega)
  have mt := (h.2.2.2 hf).1
  have go : kd t n s = 27 ∨ kd t n s = 28 → R mj_OM (D + 1 + 1 + 1 + 1 + 1 + 1) mX11_knot (fun r σ' => R mj_OM (D + 1 + 1 + 1 + 1 + 1 + 1 + 1) mX11_sum Q 31 [some (rV 45 0), some (iV (σ.1 45 0 30))] (r.toList ++ []) σ') 0 [some (rV 45 0)] [] σ := fun g => by
    have eX := pX_step (m := m) hf (by omega) (by omega) (sk.2.2.1.mpr g)
    have sv := sk.2.2.2.2.2 (by omega) (by omega)
    have e30 : σ.1 45 0 30 = nI (sgV (kd t n s)) := mt.g (by show 24 ≤ kd t n s ∧ kd t n s < 37; omega)
    rw [eX, sv.1] at H
    rw [e30]
    exact M_knot hB h (fun τ h1 h2 => bX11_sum_31 (MX_kgo h1 h2 (fun υ u1 u2 => bX11_sum_35 (g'.sub (q' := 5) (by omega) (by omega) (by omega) (by omega) (by omega) u2 (fun ω w1 w2 => bX11_sum_39 (M_puts (so := 2) w2 (MX_room hB 5) (fun χ x1 x2 => bX11_sum_45 (g'.loop (by omega) (by omega) x2 (fun ψ y1 y2 => H ψ ((u1.tr (w1.tr x1)).tr y1) y2)))))))))
  refine bX11_sum_4 (M_isSign (K := 27) (by omega) h (fun v hv => ?_))
  by_cases k1 : kd t n s = 27
  · exact bX11_sum_10 ⟨fun _ => go (Or.inl k1), fun z => absurd ⟨hf, k1⟩ (hv.mp z)⟩
  · refine bX11_sum_10 ⟨fun z => absurd (hv.mpr (fun e => k1 e.2)) z, fun _ => M_isSign (K := 28) (by omega) h (fun w hw => ?_)⟩
    by_cases k2 : kd t n s = 28
    · exact bX11_sum_19 ⟨fun z => absurd ⟨hf, k2⟩ (hw.mp z), fun _ => go (Or.inr k2)⟩
    · have eX := pX_stop (m := m) (r := 4) hf (fun e => by have := sk.2.2.1.mp e; omega)
      rw [eX] at H
      exact bX11_sum_19 ⟨fun _ => H σ XR.rf h, fun z => absurd (hw.mpr (fun e => k2 e.2)) z⟩
theorem MX_15 (g : MXH t n T m D 5 1 σ s) (H : ∀ τ : MS, XR σ τ → MRd t n τ (pX t n (m + 1) 15 s) → Q none τ) : R mj_OM (D + 1 + 1 + 1 + 1 + 1 + 1 + 1) mX11_product Q 4 [some (rV 45 0), none] [] σ := by
  have g' := g
  obtain ⟨ih, hT, hf, hm, hB, hD, hb, h⟩ := g
  have k38 := kd_le (t := t) (n := n) (s := s)
  have sk := sgC_k (kd t n s) (by omega)
  have mt := (h.2.2.2 hf).1
  have go : kd t n s = 29 ∨ kd t n s = 30 → R mj_OM (D + 1 + 1 + 1 + 1 + 1 + 1) mX11_knot (fun r σ' => R mj_OM (D + 1 + 1 + 1 + 1 + 1 + 1 + 1) mX11_product Q 31 [some (rV 45 0), some (iV (σ.1 45 0 30))] (r.toList ++ []) σ') 0 [some (rV 45 0)] [] σ := fun g => by
    have eX := pX_step (m := m) hf (by omega) (by omega) (sk.2.2.2.1.mpr g)
    have sv := sk.2.2.2.2.2 (by omega) (by omega)
    have e30 : σ.1 45 0 30 = nI (sgV (kd t n s)) := mt.g (by show 24 ≤ kd t n s ∧ kd t n s < 37; omega)
    rw [eX, sv.1] at H
    rw [e30]
    exact M_knot hB h (fun τ h1 h2 => bX11_product_31 (MX_kgo h1 h2 (fun υ u1 u2 => bX11_product_35 (g'.sub (q' := 6) (by omega) (by omega) (by omega) (by omega) (by omega) u2 (fun ω w1 w2 => bX11_product_39 (M_puts (so := 2) w2 (MX_room hB 6) (fun χ x1 x2 => bX11_product_45 (g'.loop (by omega) (by omega) x2 (fun ψ y1 y2 => H ψ ((u1.tr (w1.tr x1)).tr y1) y2)))))))))
  refine bX11_product_4 (M_isSign (K := 29) (by omega) h (fun v hv => ?_))
  by_cases k1 : kd t n s = 29
  · exact bX11_product_10 ⟨fun _ => go (Or.inl k1), fun z => absurd ⟨hf, k1⟩ (hv.mp z)⟩
  · refine bX11_product_10 ⟨fun z => absurd (hv.mpr (fun e => k1 e.2)) z, fun _ => M_isSign (K := 30) (by omega) h (fun w hw => ?_)⟩
    by_cases k2 : kd t n s = 30
    · exact bX11_product_19 ⟨fun z => absurd ⟨hf, k2⟩ (hw.mp z), fun _ => go (Or.inr k2)⟩
    · have eX := pX_stop (m := m) (r := 5) hf (fun e => by have := sk.2.2.2.1.mp e; omega)
      rw [eX] at H
      exact bX11_product_19 ⟨fun _ => H σ XR.rf h, fun z => absurd (hw.mpr (fun e => k2 e.2)) z⟩
theorem M_X (hT : TF t n T) : ∀ m : Nat, MXI t n T m := by
  intro m
  induction m with
  | zero =>
    intro q s D σ Q hm hB hD hb h H
    have hf : ¬ s 30 1 = 0 := fun e => by
      have := hm e
      split at this <;> omega
    exact MX_f (by omega) h hf (H σ XR.rf h)
  | succ m ih =>
    intro q s D σ Q hm hB hD hb h H
    by_cases hf : s 30 1 = 0
    · have hm := hm hf
      have hD := hD hf
      obtain ⟨D, rfl⟩ : ∃ D', D = D' + 1 + 1 + 1 + 1 + 1 + 1 + 1 := ⟨D - 7, by omega⟩
      have G : ∀ r x, rkQ q = r → (if q ≤ 6 then 13 - q else 1) = x → MXH t n T m D r x σ s := fun r x h1 h2 => by
        subst h1; subst h2
        exact ⟨ih, hT, hf, hm, hB, hD, hb, h⟩
      match q, G, H with
      | 0, G, H => exact bX11_expression_0 ((G 0 13 rfl rfl).two (by omega) (by omega) H (fun τ x => x))
      | 1, G, H => exact bX11_conjunction_0 ((G 1 12 rfl rfl).two (by omega) (by omega) H (fun τ x => x))
      | 2, G, H => exact MX_2 (G 2 11 rfl rfl) H
      | 3, G, H => exact bX11_negation_6 ⟨fun _ => (G 3 10 rfl rfl).two (by omega) (by omega) H (fun τ x => x), fun z => absurd rfl z⟩
      | 4, G, H => exact bX11_sum_0 ((G 4 9 rfl rfl).two (by omega) (by omega) H (fun τ x => x))
      | 5, G, H => exact bX11_product_0 ((G 5 8 rfl rfl).two (by omega) (by omega) H (fun τ x => x))
      | 6, G, H =>
        obtain ⟨_, _, _, g4, _, g6, _, _⟩ := G 6 7 rfl rfl
        exact M_prim hT (fun s D σ Q g1 g2 g3 g4 g5 g6 => ih.a (q := 0) (by omega) (fun e => by have := g1 e; omega) g2 (fun e => by have := g3 e; omega) (by omega) g5 g6) hf (by omega) hB (by omega) h H
      | 10, G, H => exact MX_10 (G 0 1 rfl rfl) H
      | 11, G, H => exact MX_11 (G 1 1 rfl rfl) H
      | 13, G, H => exact MX_13 (G 3 1 rfl rfl) H
      | 14, G, H => exact MX_14 (G 4 1 rfl rfl) H
      | 15, G, H => exact MX_15 (G 5 1 rfl rfl) H
      | 7, _, _ => exact trivial
      | 8, _, _ => exact trivial
      | 9, _, _ => exact trivial
      | 12, _, _ => exact trivial
      | q + 16, _, _ => exact trivial
    · exact MX_f (by omega) h hf (H σ XR.rf (by rw [pX_f hf]; exact h))
end Mo
