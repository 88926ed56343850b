def mXr (D : Nat) (Q : Option MV → MS → Prop) (σ : MS) : Nat → Prop
  | 0 => R mj_OM D mX11_expression Q 0 [some (rV 45 0)] [] σ
  | 1 => R mj_OM D mX11_conjunction Q 0 [some (rV 45 0)] [] σ
  | 2 => R mj_OM D mX11_negation Q 0 [some (rV 45 0), none] [] σ
  | 3 => R mj_OM D mX11_negation Q 6 [some (rV 45 0), none] [iV 0] σ
  | 4 => R mj_OM D mX11_sum Q 0 [some (rV 45 0), none] [] σ
  | 5 => R mj_OM D mX11_product Q 0 [some (rV 45 0), none] [] σ
  | 6 => R mj_OM D mX11_primary Q 0 [some (rV 45 0), none] [] σ
  | 10 => R mj_OM D mX11_expression Q 4 [some (rV 45 0)] [] σ
  | 11 => R mj_OM D mX11_conjunction Q 4 [some (rV 45 0)] [] σ
  | 13 => R mj_OM D mX11_negation Q 34 [some (rV 45 0), none] [] σ
  | 14 => R mj_OM D mX11_sum Q 4 [some (rV 45 0), none] [] σ
  | 15 => R mj_OM D mX11_product Q 4 [some (rV 45 0), none] [] σ
  | _ => True
def rkQ (q : Nat) : Nat := if q < 10 then q else q - 10
section Mn
variable {t : Nat → Nat} {n T : Nat}
theorem TF.ge (h : TF t n T) : ∀ k, T ≤ k → tkP t n k = n := by
  intro k
  induction k with
  | zero => intro hk; obtain rfl : T = 0 := by omega
            exact h.2.2.1
  | succ k ih =>
    intro hk
    by_cases e : T = k + 1
    · subst e; exact h.2.2.1
    · have := ih (by omega)
      have e2 : tkS t n (k + 1) = n := by rw [tkS]; exact if_neg (by show ¬ tkP t n k < n; omega)
      have := tkP_p (t := t) (n := n) (k + 1)
      omega
theorem TF.lt (h : TF t n T) {s : CA} (hk : kd t n s ≠ 37) : s 30 0 < T := by
  rcases Nat.lt_or_ge (s 30 0) T with l | l
  · exact l
  · exact absurd (by show tK t n _ = 37; unfold tK; rw [if_neg (by rw [h.ge _ l]; omega)]) hk
theorem pKnot_u {s : CA} (hf : pKnot t n s 30 1 = 0) : pKnot t n s 30 0 = s 30 0 + 1 ∧ pKnot t n s 30 10 = s 30 10 + 1 ∧ pKnot t n s 30 9 = s 30 9 ∧ s 30 10 < 64 := by
  obtain ⟨a, b, e⟩ := pKnot_0 hf
  rw [e]
  exact ⟨by simp [pAdv, pS], by simp [pAdv, pS], by simp [pAdv, pS], b⟩
theorem pIt_u {s : CA} {m q so v : Nat} (hf : pAdd (pX t n m q (pKnot t n s)) so v 30 1 = 0) : s 30 0 + 1 ≤ pAdd (pX t n m q (pKnot t n s)) so v 30 0 ∧ s 30 10 + 1 ≤ pAdd (pX t n m q (pKnot t n s)) so v 30 10 ∧ pAdd (pX t n m q (pKnot t n s)) so v 30 9 = s 30 9 := by
  rw [pAdd_1] at hf
  obtain ⟨a1, a2, a3, a4, a5, a6, a7, a8, a9⟩ := pX_E m q _ hf
  obtain ⟨k1, k2, k3, _⟩ := pKnot_u a1
  have ea : ∀ j, pAdd (pX t n m q (pKnot t n s)) so v 30 j = pX t n m q (pKnot t n s) 30 j := fun j => by
    unfold pAdd; rw [if_pos hf]; simp [pS]
  rw [ea, ea, ea]
  omega
theorem MX_f {D q : Nat} {Q : Option MV → MS → Prop} {σ : MS} {s : CA} (hD : 12 ≤ D) (h : MRd t n σ s) (hf : ¬ s 30 1 = 0) (H : Q none σ) : mXr D Q σ q := by
  obtain ⟨D, rfl⟩ : ∃ D', D = D' + 1 + 1 + 1 + 1 + 1 + 1 := ⟨D - 6, by omega⟩
  match q with
  | 0 => exact M_ef h hf H
  | 1 => exact M_cf h hf H
  | 2 => exact M_nf h hf H
  | 3 => exact bX11_negation_6 ⟨fun _ => M_sf h hf (bX11_negation_34 ⟨fun _ => H, fun z => absurd (h.z.mp z) hf⟩), fun z => absurd rfl z⟩
  | 4 => exact M_sf h hf H
  | 5 => exact M_5f h hf H
  | 6 => exact M_pf h hf H
  | 7 => exact trivial
  | 8 => exact trivial
  | 9 => exact trivial
  | 10 => exact bX11_expression_4 (M_wf (K := 12) h hf (by omega) (bX11_expression_10 ⟨fun _ => H, fun z => absurd rfl z⟩))
  | 11 => exact bX11_conjunction_4 (M_wf (K := 13) h hf (by omega) (bX11_conjunction_10 ⟨fun _ => H, fun z => absurd rfl z⟩))
  | 12 => exact trivial
  | 13 => exact bX11_negation_34 ⟨fun _ => H, fun z => absurd (h.z.mp z) hf⟩
  | 14 => exact bX11_sum_4 (M_4f (m := 0) (K := 27) h hf (by omega) (bX11_sum_10 ⟨fun z => absurd rfl z, fun _ => M_4f (m := 0) (K := 28) h hf (by omega) (bX11_sum_19 ⟨fun _ => H, fun z => absurd rfl z⟩)⟩))
  | 15 => exact bX11_product_4 (M_4f (m := 0) (K := 29) h hf (by omega) (bX11_product_10 ⟨fun z => absurd rfl z, fun _ => M_4f (m := 0) (K := 30) h hf (by omega) (bX11_product_19 ⟨fun _ => H, fun z => absurd rfl z⟩)⟩))
  | q + 16 => exact trivial
theorem M_putsF {d : Nat} {Q : Option MV → MS → Prop} {σ : MS} {s : CA} {x y : Int32} (h : MRd t n σ s) (hf : ¬ s 30 1 = 0) (H : Q none σ) : R mj_OM (d + 1) mX11_puts Q 0 [some (rV 45 0), some (iV x), some (iV y)] [] σ := bX11_puts_0 ⟨fun z => absurd (h.z.mp z) hf, fun _ => H⟩
theorem pAdv_pS {u : CA} {x : Nat} : pAdv (pS u 30 9 x) = pS (pAdv u) 30 9 x := by
  funext f j
  simp only [pAdv, pS]
  by_cases h1 : f = 30 ∧ j = 0
  · obtain ⟨rfl, rfl⟩ := h1
    simp
  · simp [h1]
theorem M_prim {m D : Nat} {Q : Option MV → MS → Prop} {σ : MS} {s : CA} (hT : TF t n T)
    (ih : ∀ (s : CA) (D : Nat) (σ : MS) (Q : Option MV → MS → Prop), (s 30 1 = 0 → 20 * (T - s 30 0) + 13 ≤ m) → PBk s 0 → (s 30 1 = 0 → (65 - s 30 10) + 8 * (8 - s 30 9) + 7 + 12 ≤ D) → 19 ≤ D → MRd t n σ s → (∀ τ : MS, XR σ τ → MRd t n τ (pX t n m 0 s) → Q none τ) → R mj_OM D mX11_expression Q 0 [some (rV 45 0)] [] σ)
    (hf : s 30 1 = 0) (hm : 20 * (T - s 30 0) + 7 ≤ m + 1) (hB : PBk s 0) (hD : (65 - s 30 10) + 8 * (8 - s 30 9) + 1 + 12 ≤ D + 1 + 1 + 1 + 1 + 1 + 1 + 1) (h : MRd t n σ s) (H : ∀ τ : MS, XR σ τ → MRd t n τ (pX t n (m + 1) 6 s) → Q none τ) : R mj_OM (D + 1 + 1 + 1 + 1 + 1 + 1 + 1) mX11_primary Q 0 [some (rV 45 0), none] [] σ := by
  rw [pX, if_pos hf, if_pos rfl] at H
  have hBf := hB hf
  obtain ⟨mt, F⟩ := h.2.2.2 hf
  have so := mt.so
  have e35 : σ.1 45 0 35 = nI (s 30 9) := F.2.2.2.2.1
  refine bX11_primary_0 ⟨fun _ => M_isSign (K := 25) (by omega) h (fun v hv => ?_), fun z => absurd (h.z.mpr hf) z⟩
  by_cases k25 : kd t n s = 25
  · have v0 : ¬ v = 0 := fun e => (hv.mp e) ⟨hf, k25⟩
    have c8 : σ.1 45 0 35 = (8 : Int32) ↔ s 30 9 = 8 := by rw [e35]; exact nI_inj (b := 8) (by omega) (by omega)
    refine bX11_primary_14 ⟨fun z => absurd z v0, fun _ => ⟨fun z => ⟨fun _ => ?_, fun z2 => absurd (h.z.mpr hf) z2⟩, fun z => ?_⟩⟩
    · rw [c8] at z
      rw [if_neg (by omega), if_pos k25] at H
      rw [e35, nI_1]
      have hu := h.u36 (c := 35) (r := 9) (v := s 30 9 + 1) hf (by omega)
      have ltT := hT.lt (show kd t n s ≠ 37 by omega)
      refine M_tok hu (by simp [pS]; exact hf) (fun τ h1 h2 => bX11_primary_53 ?_)
      refine ih _ _ τ _ (fun _ => ?_) (fun _ => ?_) (fun _ => ?_) (by omega) h2 (fun υ v1 v2 => bX11_primary_57 ?_)
      · simp [pAdv, pS]; omega
      · simp [pAdv, pS]; omega
      · simp [pAdv, pS]; omega
      · have x1 : XR σ υ := ((XR.u45 (by omega)).tr h1).tr v1
        generalize hu0 : pX t n m 0 (pAdv (pS s 30 9 (s 30 9 + 1))) = u at *
        by_cases fu : u 30 1 = 0
        · refine ⟨fun z => absurd (v2.z.mpr fu) z, fun _ => M_isSign (K := 26) (by omega) v2 (fun w hw => ?_)⟩
          by_cases k26 : kd t n u = 26
          · have w0 : ¬ w = 0 := fun e => (hw.mp e) ⟨fu, k26⟩
            have eT : pBr (pTake t n u 26) = pAdv (pS u 30 9 (u 30 9 - 1)) := by
              unfold pTake pBr
              rw [if_pos fu, if_pos k26, if_pos (by rw [pAdv_1]; exact fu), pAdv_pS]
              congr 1
            rw [eT] at H
            have f35 : υ.1 45 0 35 = nI (u 30 9) := (v2.2.2.2 fu).2.2.2.2.2.1
            have E9 : u 30 9 = s 30 9 + 1 := by
              have E := pX_E (t := t) (n := n) m 0 (pAdv (pS s 30 9 (s 30 9 + 1)))
              rw [hu0] at E
              rw [(E fu).2.2.1]; simp [pAdv, pS]
            refine bX11_primary_70 ⟨fun _ => ⟨fun _ => ?_, fun z2 => absurd (v2.z.mpr fu) z2⟩, fun z => absurd z w0⟩
            rw [f35, show (1 : Int32) = nI 1 from rfl, pk_sub (by omega)]
            have hw2 := v2.u36 (c := 35) (r := 9) (v := u 30 9 - 1) fu (by omega)
            exact M_tok hw2 (by simp [pS]; exact fu) (fun ω w1 w2 => bX11_primary_100 (H ω ((x1.tr (XR.u45 (by omega))).tr w1) w2))
          · have w0 : w = 0 := hw.mpr (fun e => k26 e.2)
            subst w0
            have eT : pTake t n u 26 = pFail u 1 (kp t n u) := by unfold pTake; rw [if_pos fu, if_neg k26]
            have nf : ¬ pFail u 1 (kp t n u) 30 1 = 0 := by rw [(pF_0 fu).1]; omega
            have eB : pBr (pTake t n u 26) = pFail u 1 (kp t n u) := by rw [eT]; unfold pBr; rw [if_neg nf]
            rw [eB] at H
            refine bX11_primary_70 ⟨fun z => absurd rfl z, fun _ => M_wrong (e := 1) (by omega) v2 (fun ω w1 w2 => bX11_primary_78 ⟨fun z => absurd (w2.z.mp z) nf, fun _ => H ω (x1.tr w1) w2⟩)⟩
        · have eB : pBr (pTake t n u 26) = u := by rw [pT_f fu]; unfold pBr; rw [if_neg fu]
          rw [eB] at H
          exact ⟨fun _ => ⟨fun z => absurd (v2.z.mp z) fu, fun _ => H υ x1 v2⟩, fun z => absurd (v2.z.mp z) fu⟩
    · rw [c8] at z
      rw [if_pos (Or.inl ⟨k25, by omega⟩)] at H
      have nf : ¬ pFail s 2 (kp t n s) 30 1 = 0 := by rw [(pF_0 hf).1]; omega
      exact M_wrong (e := 2) (by omega) h (fun τ h1 h2 => bX11_primary_31 ⟨fun z => absurd (h2.z.mp z) nf, fun _ => H τ h1 h2⟩)
  · have v0 : v = 0 := hv.mpr (fun e => k25 e.2)
    subst v0
    -- behind a fault
    have flt : ∀ (x1 : Int32) (τ : MS) (u : CA), MRd t n τ u → ¬ u 30 1 = 0 → PBk u 0 → Q none τ → R mj_OM (D + 1 + 1 + 1 + 1 + 1 + 1) mX11_knot (fun r σ' => R mj_OM (D + 1 + 1 + 1 + 1 + 1 + 1 + 1) mX11_primary Q 166 [some (rV 45 0), some (iV x1)] (r.toList ++ []) σ') 0 [some (rV 45 0)] [] τ := by
      intro x1 τ u hu fu hb hq
      have g : ∀ (x y : Int32), R mj_OM (D + 1 + 1 + 1 + 1 + 1 + 1) mX11_puts (fun r σ' => R mj_OM (D + 1 + 1 + 1 + 1 + 1 + 1 + 1) mX11_primary Q 197 [some (rV 45 0), some (iV x1)] (r.toList ++ []) σ') 0 [some (rV 45 0), some (iV x), some (iV y)] [] τ := fun x y =>
        M_putsF hu fu (bX11_primary_197 (bX11_goOn_0 ⟨fun _ => bX11_primary_201 hq, fun z => absurd (hu.z.mp z) fu⟩))
      refine bX11_knot_0 ⟨fun z => absurd (hu.z.mp z) fu, fun _ => bX11_primary_166 ⟨fun _ => ⟨fun _ => g _ _, fun _ => g _ _⟩, fun _ => ⟨fun _ => g _ _, fun _ => g _ _⟩⟩⟩
    -- a knot and what is put
    have put : ∀ (x1 : Int32) (so v : Nat), (x1 = 0 → so = 1 ∧ kd t n s < 22 ∧ 15 ≤ kd t n s ∧ v = kd t n s - 15) → (¬ x1 = 0 → so = 0 ∧ kd t n s = 23 ∧ kv t n s ≤ 9999 ∧ v = kv t n s) → (∀ τ : MS, XR σ τ → MRd t n τ (pAdd (pKnot t n s) so v) → Q none τ) → R mj_OM (D + 1 + 1 + 1 + 1 + 1 + 1) mX11_knot (fun r σ' => R mj_OM (D + 1 + 1 + 1 + 1 + 1 + 1 + 1) mX11_primary Q 166 [some (rV 45 0), some (iV x1)] (r.toList ++ []) σ') 0 [some (rV 45 0)] [] σ := by
      intro x1 so v hx0 hx1 HH
      refine M_knot hB h (fun τ h1 h2 => bX11_primary_166 ?_)
      have fin : ∀ υ : MS, XR τ υ → MRd t n υ (pAdd (pKn t n s) so v) → R mj_OM (D + 1 + 1 + 1 + 1 + 1 + 1 + 1) mX11_primary Q 197 [some (rV 45 0), some (iV x1)] [] υ := fun υ u1 u2 => by
        refine bX11_primary_197 (M_goOn u2 (fun ω w1 w2 => bX11_primary_201 (HH ω ((h1.tr u1).tr w1) ?_)))
        rw [pGo_add, ← pKnot_eq] at w2
        exact w2
      by_cases fk : pKn t n s 30 1 = 0
      · have e10 : s 30 10 < 64 ∧ pKn t n s = pS s 30 10 (s 30 10 + 1) := by
          by_cases g : s 30 10 < 64
          · exact ⟨g, by unfold pKn; rw [if_pos hf, if_pos g]⟩
          · unfold pKn at fk; rw [if_pos hf, if_neg g, (pF_0 hf).1] at fk; omega
        have k0 : pKn t n s 30 0 = s 30 0 := by rw [e10.2]; simp [pS]
        have k8 : pKn t n s 0 8 = s 0 8 := by rw [e10.2]; simp [pS]
        obtain ⟨mt2, _⟩ := h2.2.2.2 fk
        rw [k0] at mt2
        have l8 : pKn t n s 30 1 = 0 → pKn t n s 0 8 < 64 := fun _ => by rw [k8]; omega
        refine ⟨fun z => ⟨fun _ => ?_, fun z2 => absurd z z2⟩, fun z => ⟨fun z2 => absurd z2 z, fun _ => ?_⟩⟩
        · obtain ⟨a1, a2, a3, a4⟩ := hx0 z
          subst a1; subst a4
          have e30 : τ.1 45 0 30 = nI (kd t n s) := mt2.w a2
          rw [e30, show (15 : Int32) = nI 15 from rfl, pk_sub a3]
          exact M_puts (so := 1) h2 l8 fin
        · obtain ⟨a1, a2, a3, a4⟩ := hx1 z
          subst a1; subst a4
          have e30 : τ.1 45 0 30 = nI (kv t n s) := by
            rcases mt2.nm a2 with ⟨_, g⟩ | ⟨g, _⟩
            · exact g
            · have : 99999 < kv t n s := g
              omega
          rw [e30]
          exact M_puts (so := 0) h2 l8 fin
      · have e : pAdd (pKn t n s) so v = pKn t n s := pAdd_f fk
        have g : ∀ (x y : Int32), R mj_OM (D + 1 + 1 + 1 + 1 + 1 + 1) mX11_puts (fun r σ' => R mj_OM (D + 1 + 1 + 1 + 1 + 1 + 1 + 1) mX11_primary Q 197 [some (rV 45 0), some (iV x1)] (r.toList ++ []) σ') 0 [some (rV 45 0), some (iV x), some (iV y)] [] τ := fun x y =>
          M_putsF h2 fk (fin τ XR.rf (by rw [e]; exact h2))
        exact ⟨fun _ => ⟨fun _ => g _ _, fun _ => g _ _⟩, fun _ => ⟨fun _ => g _ _, fun _ => g _ _⟩⟩
    have PBf : ∀ e, 1 ≤ e → PBk (pFail s e (kp t n s)) 0 := fun e he q => by rw [(pF_0 hf).1] at q; omega
    have c2 : σ.1 45 0 29 = (2 : Int32) ↔ kd t n s = 23 := so.2.2.1
    have c0 : σ.1 45 0 29 = (0 : Int32) ↔ kd t n s < 22 := so.1
    refine bX11_primary_14 ⟨fun _ => ?_, fun z => absurd rfl z⟩
    simp only [c2, c0]
    have i10 : ¬ ((1 : Int32) = 0) := by decide
    by_cases k23 : kd t n s = 23
    · have n22 : ¬ kd t n s < 22 := by omega
      have c99 : σ.1 45 0 30 ≤ (9999 : Int32) ↔ kv t n s ≤ 9999 := by
        rcases mt.nm k23 with ⟨g1, g2⟩ | ⟨g1, w, w1, w2, w3⟩
        · rw [g2]
          exact nI_leI (a := tV t n (s 30 0)) (b := 9999) (by omega) (by omega)
        · rw [w3]
          have : 99999 < kv t n s := g1
          have := nI_leI (a := w) (b := 9999) (by omega) (by omega)
          rw [show (9999 : Int32) = nI 9999 from rfl, this]
          omega
      simp only [c99]
      by_cases g99 : kv t n s ≤ 9999
      · have r := put 1 0 (kv t n s) (fun e => absurd e i10) (fun _ => ⟨rfl, k23, g99, rfl⟩) (fun τ h1 h2 => H τ h1 (by rw [if_neg (by omega), if_neg k25, if_pos k23]; exact h2))
        simp only [k23, g99, i10, not_true_eq_false, false_implies, true_implies, true_and, and_true, not_false_eq_true, Nat.reduceEqDiff]
        first | exact r | (simp; exact r)
      · have r : R mj_OM (D + 1 + 1 + 1 + 1 + 1 + 1) mX11_wrong (fun r σ' => R mj_OM (D + 1 + 1 + 1 + 1 + 1 + 1 + 1) mX11_primary Q 134 [some (rV 45 0), some (iV (1 : Int32))] (r.toList ++ []) σ') 0 [some (rV 45 0), some (iV (2 : Int32))] [] σ := M_wrong (e := 2) (by omega) h (fun τ h1 h2 => bX11_primary_134 (flt 1 τ _ h2 (by rw [(pF_0 hf).1]; omega) (PBf 2 (by omega)) (H τ h1 (by rw [if_pos (Or.inr ⟨k23, by omega⟩)]; exact h2))))
        simp only [k23, g99, i10, not_true_eq_false, false_implies, true_implies, true_and, and_true, not_false_eq_true, Nat.reduceEqDiff]
        first | exact r | (simp; exact r)
    · have w1 : ¬ (15 ≤ kd t n s ∧ kd t n s ≤ 21) → R mj_OM (D + 1 + 1 + 1 + 1 + 1 + 1) mX11_wrong (fun r σ' => R mj_OM (D + 1 + 1 + 1 + 1 + 1 + 1 + 1) mX11_primary Q 162 [some (rV 45 0), some (iV (0 : Int32))] (r.toList ++ []) σ') 0 [some (rV 45 0), some (iV (1 : Int32))] [] σ := fun g => M_wrong (e := 1) (by omega) h (fun τ h1 h2 => bX11_primary_162 (flt 0 τ _ h2 (by rw [(pF_0 hf).1]; omega) (PBf 1 (by omega)) (H τ h1 (by rw [if_neg (by omega), if_neg k25, if_neg k23, if_neg g]; exact h2))))
      by_cases g22 : kd t n s < 22
      · have e30 : σ.1 45 0 30 = nI (kd t n s) := mt.w g22
        have c15 : (15 : Int32) ≤ σ.1 45 0 30 ↔ 15 ≤ kd t n s := by rw [e30]; exact nI_le2 (a := 15) (by omega) (by omega)
        simp only [c15]
        by_cases g15 : 15 ≤ kd t n s
        · have r := put 0 1 (kd t n s - 15) (fun _ => ⟨rfl, g22, g15, rfl⟩) (fun e => absurd rfl e) (fun τ h1 h2 => H τ h1 (by rw [if_neg (by omega), if_neg k25, if_neg k23, if_pos (by omega)]; exact h2))
          simp only [k23, g22, g15, not_true_eq_false, false_implies, true_implies, true_and, and_true, not_false_eq_true]
          first | exact r | (simp; exact r)
        · have r := w1 (by omega)
          simp only [k23, g22, g15, not_true_eq_false, false_implies, true_implies, true_and, and_true, not_false_eq_true]
          first | exact r | (simp; exact r)
      · have r := w1 (by omega)
        simp only [k23, g22, not_true_eq_false, false_implies, true_implies, true_and, and_true, not_false_eq_true]
        first | exact r | (simp; exact r)
end Mn
