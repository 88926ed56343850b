section Pf
variable {d : Nat} {Q : Option MV → MS → Prop} {σ : MS} {t : Nat → Nat} {n T b : Nat} {s : CA}
def rdP (c r : Nat) : Prop := (c = 4 ∧ r = 8) ∨ (c = 5 ∧ r = 11) ∨ (c = 6 ∧ r = 3) ∨ (c = 7 ∧ r = 4) ∨ (c = 8 ∧ r = 10) ∨ (c = 9 ∧ r = 9)
theorem SRd.u30 {c r v : Nat} (h : SRd t n T b σ s) (hf : s 30 1 = 0) (hcr : rdP c r) : SRd t n T b (uI σ 1 0 c (nI v)) (pS s 30 r v) := by
  obtain ⟨⟨a1, a2, a3, a4⟩, ⟨c1, c2, c3, c4⟩, ⟨k, k1, k2, k3⟩, i, ⟨L, l1, l2⟩, m⟩ := h
  have M := m hf
  have r3 : 3 ≤ r ∧ 4 ≤ c := by unfold rdP at hcr; omega
  have e : ∀ j, pS s 30 r v 30 j = if j = r then v else s 30 j := fun j => by simp [pS]
  have e0 : ∀ f j, f < 30 → pS s 30 r v f j = s f j := fun f j hj => by simp only [pS]; rw [if_neg (by omega)]
  have x : ∀ j, (uI σ 1 0 c (nI v)).1 1 0 j = if j = c then nI v else σ.1 1 0 j := fun j => by simp [uI]
  refine ⟨⟨a1, a2, fun k hk => by have := a3 k hk; simp [uI]; exact this, by simp [uI]; exact a4⟩, ⟨?_, ?_, fun q => ?_, fun q => ?_⟩, ⟨k, k1, by simp [uI]; exact k2, fun q => ?_⟩, ⟨by rw [e0 0 0 (by omega)]; exact i.1, by rw [e0 0 0 (by omega)]; simp [uI]; exact i.2⟩, ⟨L, l1, by simp [uI]; exact l2⟩, fun q => ?_⟩
  · rw [x, e, if_neg (by omega), if_neg (by omega)]; exact c1
  · rw [e, if_neg (by omega)]; exact c2
  · rw [e, if_neg (by omega)] at q; exact absurd hf q
  · rw [x, if_neg (by omega)]; exact c4 hf
  · rw [e, if_neg (by omega)]; exact k3 hf
  · refine M.keep (fun k hk j => ?_) e0 ?_ ?_ ?_ ?_ ?_ ?_
    · have : k ≠ 1 := fun e => by subst e; exact absurd hk (by decide)
      simp [uI, this]
    all_goals rw [x, e]
    · have := M.2.2.2.1
      unfold rdP at hcr
      split <;> split <;> first | rfl | omega | assumption
    · have := M.2.2.2.2.1
      unfold rdP at hcr
      split <;> split <;> first | rfl | omega | assumption
    · have := M.2.2.2.2.2.1
      unfold rdP at hcr
      split <;> split <;> first | rfl | omega | assumption
    · have := M.2.2.2.2.2.2.1
      unfold rdP at hcr
      split <;> split <;> first | rfl | omega | assumption
    · have := M.2.2.2.2.2.2.2.1
      unfold rdP at hcr
      split <;> split <;> first | rfl | omega | assumption
    · have := M.2.2.2.2.2.2.2.2
      unfold rdP at hcr
      split <;> split <;> first | rfl | omega | assumption
theorem SRd.uf {c : Nat} {v : Int32} (h : SRd t n T b σ s) (hf : ¬ s 30 1 = 0) (hc : 4 ≤ c) : SRd t n T b (uI σ 1 0 c v) s := by
  obtain ⟨⟨a1, a2, a3, a4⟩, ⟨c1, c2, c3, c4⟩, ⟨k, k1, k2, k3⟩, i, ⟨L, l1, l2⟩, m⟩ := h
  have x : ∀ j, j < 4 → (uI σ 1 0 c v).1 1 0 j = σ.1 1 0 j := fun j hj => by
    simp [uI]; intro e; omega
  refine ⟨⟨a1, a2, fun k hk => by have := a3 k hk; simp [uI]; exact this, by simp [uI]; exact a4⟩, ⟨by rw [x 2 (by omega)]; exact c1, c2, fun q => by rw [x 3 (by omega)]; exact c3 q, fun q => absurd q hf⟩, ⟨k, k1, by simp [uI]; exact k2, fun q => absurd q hf⟩, ⟨i.1, by simp [uI]; exact i.2⟩, ⟨L, l1, by simp [uI]; exact l2⟩, fun q => absurd q hf⟩
theorem S_knot (hT : TF t n T) (h : SRd t n T b σ s) (hk : s 30 1 = 0 → kd t n s ≠ 37 ∧ s 30 10 ≤ 64) (H : ∀ τ : MS, SB (rdL b) σ τ → SRd t n T b τ (pKnot t n s) → Q none τ) : R mj_OC (d + 1) mX7_takeKnot Q 0 [some (rV 1 0)] [] σ := by
  have z := h.z
  refine bX7_takeKnot_0 ⟨fun y => ?_, fun y => ?_⟩
  · have hf := z.mp y
    have M := h.2.2.2.2.2 hf
    have e8 := M.2.2.2.2.2.2.2.1
    have cc : σ.1 1 0 8 < (64 : Int32) ↔ s 30 10 < 64 := by
      rw [e8, show (64 : Int32) = nI 64 from rfl]; exact nI_ltI (by have := (hk hf).2; omega) (by omega)
    refine ⟨fun y2 => ?_, fun y2 => ?_⟩
    · rw [cc] at y2
      rw [e8, nI_1]
      have h2 := h.u30 (c := 8) (r := 10) (v := s 30 10 + 1) hf (by unfold rdP; omega)
      refine S_tAdv hT h2 (by simp [pS]; exact hf) (hk hf).1 (fun τ h3 h4 => bX7_takeKnot_47 (H τ ((SB.uI (by simp [rdL])).tr h3) ?_))
      unfold pKnot; rw [if_pos hf, if_pos y2]; exact h4
    · rw [cc] at y2
      refine S_place hT h (fun v hv => bX7_takeKnot_26 ?_)
      rw [hv hf]
      refine S_fail (e := 2) (by omega) h (fun τ h1 h2 => bX7_takeKnot_29 (H τ h1 ?_))
      unfold pKnot; rw [if_pos hf, if_neg y2]; exact h2
  · have hf : ¬ s 30 1 = 0 := fun q => y (z.mpr q)
    refine H σ SB.rf ?_
    unfold pKnot; rw [if_neg hf]; exact h
theorem S_pNamed {a : Nat} {x : Int32} (hb : b < 2) (h7 : s 0 0 ≤ 7) (h0 : σ.1 3 b 0 = nI (s 0 0)) (H : ∀ v : Int32, ((∀ p, p < s 0 0 → σ.1 16 b p = nI (s 1 p) ∧ s 1 p < 2 ^ 30) → a < 2 ^ 30 → x = nI a → v = mOpt (gNm s a)) → Q (some (iV v)) σ) : R mj_OC d mX0_pondNamed Q 0 [some (rV 3 b), some (iV x), none] [] σ := by
  have L : ∀ (m p : Nat), p + m = s 0 0 → ((∀ p, p < s 0 0 → σ.1 16 b p = nI (s 1 p) ∧ s 1 p < 2 ^ 30) → a < 2 ^ 30 → x = nI a → gNmG s a m p = gNm s a) → R mj_OC d mX0_pondNamed Q 2 [some (rV 3 b), some (iV x), some (iV (nI p))] [] σ := by
    intro m
    induction m with
    | zero =>
      intro p hp hh
      refine bX0_pondNamed_2 hb ⟨fun _ => H _ (fun h1 h2 h3 => by rw [← hh h1 h2 h3]; rfl), fun z => ?_⟩
      rw [h0, nI_le2 (by omega) (by omega)] at z; omega
    | succ m ih =>
      intro p hp hh
      refine bX0_pondNamed_2 hb ⟨fun z => ?_, fun _ => ?_⟩
      · rw [h0, nI_le2 (by omega) (by omega)] at z; omega
      · rw [cl (show p < 7 by omega) (by omega)]
        refine ⟨vin (show p < 7 by omega) (by omega) (by decide), fun z => ?_, fun z => H _ (fun h1 h2 h3 => ?_)⟩
        · rw [nI_1]
          refine ih (p + 1) (by omega) (fun h1 h2 h3 => ?_)
          rw [← hh h1 h2 h3, gNmG, if_neg]
          intro e
          exact z (by rw [(h1 p (by omega)).1, h3, e])
        · rw [← hh h1 h2 h3, gNmG, if_pos]
          · rfl
          · rw [(h1 p (by omega)).1, h3] at z
            exact (nI_eq (by have := (h1 p (by omega)).2; omega) (by omega)).mp z
  exact bX0_pondNamed_0 hb (L (s 0 0) 0 (by omega) (fun _ _ _ => rfl))
/-- names are packed letters -/
def NB (s : CA) : Prop := ∀ p, p < s 0 0 → s 1 p < 2 ^ 30
theorem kv_22 (hk : kd t n s = 22) : kv t n s < 2 ^ 30 := by
  have e : kd t n s = tK t n (s 30 0) := rfl
  have lt : tkP t n (s 30 0) < n := by
    rcases Nat.lt_or_ge (tkP t n (s 30 0)) n with l | l
    · exact l
    · rw [e, show tK t n (s 30 0) = 37 from if_neg (by omega)] at hk; omega
  rw [e, show tK t n (s 30 0) = tkK t n (tkP t n (s 30 0)) from if_pos lt] at hk
  show tV t n (s 30 0) < 2 ^ 30
  rw [show tV t n (s 30 0) = tkV t n (tkP t n (s 30 0)) from if_pos lt]
  unfold tkK at hk
  unfold tkV
  by_cases gl : isL (t (tkP t n (s 30 0))) = true
  · rw [if_pos gl]
    have rp := rn_p (P := isL) (t := t) (n := n) (p := tkP t n (s 30 0)) (by omega)
    exact (pk_step (n := rn isL t n (tkP t n (s 30 0)) - tkP t n (s 30 0)) (fun i h1 h2 => rp.2.2.1 i h1 (by omega)) (Nat.le_refl _)).1
  · rw [if_neg gl] at hk
    split at hk
    · omega
    · have : ∀ c, sg c = 22 ∨ sg c ≠ 22 := fun c => by omega
      exfalso
      have h24 : ∀ m i, i + m ≤ 10 → 24 ≤ sgI (t (tkP t n (s 30 0))) m i := by
        intro m
        induction m with
        | zero => intro i _; show 24 ≤ 38; omega
        | succ m ih =>
          intro i hi
          rw [sgI]
          split
          · omega
          · exact ih (i + 1) (by omega)
      have := h24 10 0 (by omega)
      have := sg2_b (sg (t (tkP t n (s 30 0)))) (t (tkP t n (s 30 0) + 1)) (sg_b _)
      have e2 : sg (t (tkP t n (s 30 0))) = sgI (t (tkP t n (s 30 0))) 10 0 := rfl
      unfold sgB at hk
      split at hk <;> omega
theorem pPond_f (h : ¬ s 30 1 = 0) : pPond t n s = s := by unfold pPond; rw [if_neg h]
theorem S_ownWord (hT : TF t n T) (h : SRd t n T b σ s) (H : ∀ (τ : MS) (v : Int32), SB (rdL b) σ τ → SRd t n T b τ (pTake t n s 22) → ((pTake t n s 22) 30 1 = 0 → v = nI (kv t n s)) → Q (some (iV v)) τ) : R mj_OC (d + 1 + 1) mX7_ownWord Q 0 [some (rV 1 0), none] [] σ := by
  refine bX7_ownWord_0 (S_value hT h (fun v hv => bX7_ownWord_7 (S_take (K := 22) hT (by omega) h (fun τ h1 h2 => bX7_ownWord_14 ⟨fun y => H τ _ h1 h2 (fun q => absurd (h2.z.mpr q) y), fun y => H τ _ h1 h2 (fun q => ?_)⟩))))
  refine hv ?_
  by_cases hf : s 30 1 = 0
  · exact hf
  · rw [pT_f hf] at q; exact absurd q hf
theorem S_toldPond (hT : TF t n T) (h : SRd t n T b σ s) (hN : NB s) (H : ∀ (τ : MS) (v : Int32), SB (rdL b) σ τ → SRd t n T b τ (pPond t n s) → ((pPond t n s) 30 1 = 0 → ∃ p, gNm s (kv t n s) = some p ∧ v = nI p) → Q (some (iV v)) τ) : R mj_OC (d + 1 + 1 + 1) mX7_toldPond Q 0 [some (rV 1 0), none, none] [] σ := by
  refine bX7_toldPond_0 (S_place hT h (fun pl hpl => bX7_toldPond_7 (S_ownWord hT h (fun τ a h1 h2 h3 => ?_))))
  have hb : σ.2.2 1 0 = b := h.1.1
  have hb2 := h.1.2.1
  rw [hb]
  have s0 : ∀ f j, f < 30 → pTake t n s 22 f j = s f j := fun f j hj => by
    unfold pTake
    split
    · split
      · simp only [pAdv, pS]; rw [if_neg (by omega)]
      · exact pF_row f j (Or.inl hj)
    · rfl
  have e00 := s0 0 0 (by omega)
  have h00 := h2.2.2.2.1
  rw [e00] at h00
  refine bX7_toldPond_16 hb2 (S_pNamed (s := s) (a := kv t n s) hb2 h00.1 h00.2 (fun v hv => ?_))
  by_cases hf : s 30 1 = 0
  · by_cases k22 : kd t n s = 22
    · have eT : pTake t n s 22 = pAdv s := by unfold pTake; rw [if_pos hf, if_pos k22]
      have hfT : pTake t n s 22 30 1 = 0 := by rw [eT, pAdv_1]; exact hf
      have C := (h2.2.2.2.2.2 hfT).1
      have ev : v = mOpt (gNm s (kv t n s)) := hv (fun p hp => by
        have := C.name (p := p) (by rw [e00]; exact hp)
        rw [s0 1 p (by omega)] at this
        exact ⟨this, hN p hp⟩) (kv_22 k22) (h3 hfT)
      have hP : pPond t n s = if gNm s (kv t n s) = none then pFail s 4 (kp t n s) else pAdv s := by unfold pPond; rw [if_pos hf, if_pos k22]
      cases hg : gNm s (kv t n s) with
      | none =>
        rw [hg] at ev hP
        rw [if_pos rfl] at hP
        have p1 := pF_0 (s := s) (e := 4) (pl := kp t n s) hf
        refine bX7_toldPond_19 ⟨fun y => absurd ev y, fun _ => ?_⟩
        rw [hpl hf]
        refine S_fail (e := 4) (by omega) h2 (fun υ u1 u2 => bX7_toldPond_31 (H υ _ (h1.tr u1) ?_ (fun q => by rw [hP, p1.1] at q; omega)))
        rw [hP]
        have p0 := pF_0 (s := pTake t n s 22) (e := 4) (pl := kp t n s) hfT
        obtain ⟨a, ⟨c1, c2, c3, c4⟩, ⟨k, k1, k2, k3⟩, i, l, m⟩ := u2
        rw [p0.1] at c1 c3 c4
        rw [p0.2] at c3
        refine ⟨a, ⟨by rw [p1.1]; exact c1, by rw [p1.1]; omega, fun _ => by rw [p1.2]; exact c3 (by omega), fun q => by rw [p1.1] at q; omega⟩, ⟨k, k1, k2, fun q => by rw [p1.1] at q; omega⟩, ?_, l, fun q => by rw [p1.1] at q; omega⟩
        rw [pF_row 0 0 (Or.inl (by omega)), e00] at i
        rw [pF_row 0 0 (Or.inl (by omega))]
        exact i
      | some p =>
        rw [hg] at ev hP
        rw [if_neg (by simp)] at hP
        have pb : ∀ m q, gNmG s (kv t n s) m q = some p → p < q + m := by
          intro m
          induction m with
          | zero => intro q e; exact absurd e (by simp [gNmG])
          | succ m ih =>
            intro q e
            rw [gNmG] at e
            split at e
            · injection e with e; omega
            · have := ih (q + 1) e; omega
        have := pb (s 0 0) 0 hg
        refine bX7_toldPond_19 ⟨fun _ => H τ v h1 (by rw [hP, ← eT]; exact h2) (fun _ => ⟨p, hg, ev⟩), fun y => ?_⟩
        rw [ev] at y
        exact absurd y (nI_m1 (by omega))
    · have eT : pTake t n s 22 = pFail s 1 (kp t n s) := by unfold pTake; rw [if_pos hf, if_neg k22]
      have hP : pPond t n s = pFail s 1 (kp t n s) := by unfold pPond; rw [if_pos hf, if_neg k22]
      have p1 := pF_0 (s := s) (e := 1) (pl := kp t n s) hf
      have nf : ¬ pFail s 1 (kp t n s) 30 1 = 0 := by rw [p1.1]; omega
      rw [eT] at h2
      refine bX7_toldPond_19 ⟨fun _ => H τ v h1 (by rw [hP]; exact h2) (fun q => by rw [hP] at q; exact absurd q nf), fun _ => ?_⟩
      refine S_fail (e := 4) (by omega) h2 (fun υ u1 u2 => bX7_toldPond_31 (H υ _ (h1.tr u1) ?_ (fun q => by rw [hP] at q; exact absurd q nf)))
      rw [pFail_f nf] at u2; rw [hP]; exact u2
  · rw [pT_f hf] at h2
    refine bX7_toldPond_19 ⟨fun _ => H τ v h1 (by rw [pPond_f hf]; exact h2) (fun q => by rw [pPond_f hf] at q; exact absurd q hf), fun _ => ?_⟩
    refine S_fail (e := 4) (by omega) h2 (fun υ u1 u2 => bX7_toldPond_31 (H υ _ (h1.tr u1) ?_ (fun q => by rw [pPond_f hf] at q; exact absurd q hf)))
    rw [pFail_f hf] at u2; rw [pPond_f hf]; exact u2
theorem S_ladd {k x : Int32} {so v : Nat} (h : SRd t n T b σ s) (h8 : s 30 1 = 0 → s 0 8 < 64) (hk : s 30 1 = 0 → k = nI (kCl so v) ∧ (so = 0 → x = nI v)) (H : ∀ τ : MS, SB (rdL b) σ τ → SRd t n T b τ (pAdd s so v) → Q none τ) : R mj_OC d mX3_add Q 0 [some (rV 5 b), some (iV k), some (iV x)] [] σ := by
  obtain ⟨⟨a1, a2, a3, a4⟩, ⟨c1, c2, c3, c4⟩, ⟨kk, k1, k2, k3⟩, i, ⟨L, l1, l2⟩, m⟩ := h
  have base : ∀ (y1 y2 : Int32) (L' : Nat), L' ≤ 64 → ¬ s 30 1 = 0 → SRd t n T b (uI (uI (uI σ 30 b L y1) 31 b L y2) 5 b 0 (nI L')) s := fun y1 y2 L' hl hf =>
    ⟨⟨a1, a2, fun k hk => by have := a3 k hk; simp [uI]; exact this, by simp [uI]; exact a4⟩, ⟨by simp [uI]; exact c1, c2, fun q => by simp [uI]; exact c3 q, fun q => absurd q hf⟩, ⟨kk, k1, by simp [uI]; exact k2, fun q => absurd q hf⟩, ⟨i.1, by simp [uI]; exact i.2⟩, ⟨L', hl, by simp [uI]⟩, fun q => absurd q hf⟩
  have frame : ∀ (y1 y2 y3 : Int32) , SB (rdL b) σ (uI (uI (uI σ 30 b L y1) 31 b L y2) 5 b 0 y3) := fun y1 y2 y3 => ((SB.uI (by simp [rdL])).tr (SB.uI (by simp [rdL]))).tr (SB.uI (by simp [rdL]))
  refine bX3_add_0 a2 ⟨fun z => ?_, fun z => ?_⟩
  · rw [l2, show (64 : Int32) = nI 64 from rfl, nI_le2 (by omega) (by omega)] at z
    have hf : ¬ s 30 1 = 0 := fun q => by
      have e := (m q).1 0 8 (show 8 < 9 by omega)
      have e' : σ.1 5 b 0 = nI (s 0 8) := e
      rw [l2] at e'
      have := h8 q
      have := (nI_eq (by omega) (by omega)).mp e'
      omega
    refine H σ SB.rf ?_
    unfold pAdd; rw [if_neg hf]
    exact ⟨⟨a1, a2, a3, a4⟩, ⟨c1, c2, c3, c4⟩, ⟨kk, k1, k2, k3⟩, i, ⟨L, l1, l2⟩, m⟩
  · rw [l2, show (64 : Int32) = nI 64 from rfl, nI_le2 (by omega) (by omega)] at z
    rw [l2, cl (show L < 64 by omega) (by omega), nI_1]
    refine ⟨vin (show L < 64 by omega) (by omega) (by decide), H _ (frame _ _ _) ?_⟩
    unfold pAdd
    by_cases hf : s 30 1 = 0
    · rw [if_pos hf]
      have M := m hf
      have e' : σ.1 5 b 0 = nI (s 0 8) := M.1 0 8 (show 8 < 9 by omega)
      have h8' := h8 hf
      rw [l2] at e'
      obtain rfl : L = s 0 8 := (nI_eq (by omega) (by omega)).mp e'
      have r30 : ∀ j, pS (pS (pS s 19 (s 0 8) so) 20 (s 0 8) v) 0 8 (s 0 8 + 1) 30 j = s 30 j := fun j => by simp [pS]
      have r0 : ∀ j, j ≠ 8 → pS (pS (pS s 19 (s 0 8) so) 20 (s 0 8) v) 0 8 (s 0 8 + 1) 0 j = s 0 j := fun j hj => by simp [pS, hj]
      refine ⟨⟨a1, a2, fun k hk => by have := a3 k hk; simp [uI]; exact this, by simp [uI]; exact a4⟩, ⟨by rw [r30]; simp [uI]; exact c1, by rw [r30]; exact c2, fun q => by rw [r30] at q ⊢; simp [uI]; exact c3 q, fun q => by simp [uI]; exact c4 hf⟩, ⟨kk, k1, by simp [uI]; exact k2, fun q => by rw [r30]; exact k3 hf⟩, ⟨by rw [r0 0 (by omega)]; exact i.1, by rw [r0 0 (by omega)]; simp [uI]; exact i.2⟩, ⟨s 0 8 + 1, by omega, by simp [uI]⟩, fun _ => ⟨fun f j hj => ?_, fun i hi => ?_, fun mm hm => ?_, ?_, ?_, ?_, ?_, ?_, ?_⟩⟩
      · have eL : cL (pS (pS (pS s 19 (s 0 8) so) 20 (s 0 8) v) 0 8 (s 0 8 + 1)) f = cL s f := by
          unfold cL
          simp only [r0 0 (by omega), r0 1 (by omega), r0 2 (by omega), r0 4 (by omega)]
        rw [eL] at hj
        by_cases g : f = 0 ∧ j = 8
        · obtain ⟨rfl, rfl⟩ := g
          simp [cCv, uI, pS]
        · have ef : pS (pS (pS s 19 (s 0 8) so) 20 (s 0 8) v) 0 8 (s 0 8 + 1) f j = s f j := by
            have f19 : f ≠ 19 := fun e => by subst e; exact absurd hj (Nat.not_lt_zero _)
            have f20 : f ≠ 20 := fun e => by subst e; exact absurd hj (Nat.not_lt_zero _)
            simp [pS, f19, f20]
            intro e1 e2; exact absurd ⟨e1, e2⟩ g
          rw [ef, ← M.1 f j hj]
          unfold cCv
          split <;> first | (exfalso; exact g ⟨rfl, rfl⟩) | simp [uI]
      · have hi' : i < s 0 8 + 1 := by simpa [pS] using hi
        by_cases g : i = s 0 8
        · subst g
          have := hk hf
          simp [pS, uI]
          exact ⟨this.1, this.2⟩
        · have := M.2.1 i (by omega)
          simp [pS, uI, g]
          exact this
      · have := M.2.2.1 mm hm
        simp only [r0 3 (by omega)]
        simp [uI, pS]
        exact this
      all_goals rw [r30]; simp [uI]
      · exact M.2.2.2.1
      · exact M.2.2.2.2.1
      · exact M.2.2.2.2.2.1
      · exact M.2.2.2.2.2.2.1
      · exact M.2.2.2.2.2.2.2.1
      · exact M.2.2.2.2.2.2.2.2
    · rw [if_neg hf]
      exact base _ _ _ (by omega) hf
end Pf
