/-! the reference while it reads -/
def hF (f : Nat) : Nat := if f = 0 then 9 else if f ≤ 5 then 7 else if f ≤ 8 then 3 else if f ≤ 11 then 10 else if f ≤ 14 then 12 else if f ≤ 16 then 8 else if f ≤ 18 then 3 else 64
def rmL : List (Nat × Nat) := [(45, 0), (47, 0), (48, 0), (49, 0), (50, 0), (51, 0), (52, 0), (53, 0), (54, 0), (55, 0), (56, 0), (57, 0), (58, 0), (59, 0), (60, 0), (61, 0), (62, 0), (63, 0), (64, 0), (65, 0), (66, 0), (67, 0)]
def XR (σ τ : MS) : Prop := SB rmL σ τ ∧ (∀ f j, f ≤ 20 → j < hF f → τ.1 (47 + f) 0 j = σ.1 (47 + f) 0 j) ∧ ∀ j, ¬ (24 ≤ j ∧ j ≤ 32) → j ≠ 35 → j ≠ 36 → τ.1 45 0 j = σ.1 45 0 j
theorem XR.rf {σ : MS} : XR σ σ := ⟨SB.rf, fun _ _ _ _ => rfl, fun _ _ _ _ => rfl⟩
theorem XR.tr {σ τ υ : MS} (a : XR σ τ) (b : XR τ υ) : XR σ υ := ⟨a.1.tr b.1, fun f j h1 h2 => (b.2.1 f j h1 h2).trans (a.2.1 f j h1 h2), fun j h1 h2 h3 => (b.2.2 j h1 h2 h3).trans (a.2.2 j h1 h2 h3)⟩
theorem KM.x {σ τ : MS} (h : KM σ τ) : XR σ τ := ⟨h.1.wk (by decide), fun f j _ _ => h.1.i (by simp; omega) j, fun j h1 _ _ => h.2 j (by omega)⟩
theorem XR.u45 {σ : MS} {j : Nat} {v : Int32} (hj : (24 ≤ j ∧ j ≤ 32) ∨ j = 35 ∨ j = 36) : XR σ (uI σ 45 0 j v) := ⟨SB.uI (by decide), fun f i _ _ => by simp [uI]; intro e; omega, fun i h1 h2 h3 => by simp [uI]; intro e; omega⟩
theorem XR.uf {σ : MS} {f i : Nat} {v : Int32} (hf : f ≤ 20) (hi : hF f ≤ i) : XR σ (uI σ (47 + f) 0 i v) := by
  refine ⟨SB.uI ?_, fun g j h1 h2 => ?_, fun j _ _ _ => ?_⟩
  · have : ∀ g : Fin 21, (47 + g.val, 0) ∈ rmL := by decide
    exact this ⟨f, by omega⟩
  · show (if 47 + g = 47 + f ∧ 0 = 0 ∧ j = i then v else σ.1 (47 + g) 0 j) = _
    rw [if_neg]
    rintro ⟨e, _, rfl⟩
    obtain rfl : g = f := by omega
    omega
  · show (if 45 = 47 + f ∧ 0 = 0 ∧ j = i then v else σ.1 45 0 j) = _
    rw [if_neg (by omega)]
def FCn (σ : MS) (s : CA) : Prop := ∀ f j, j < mLn s f → f ≠ 0 → σ.1 (47 + f) 0 (hF f + j) = nI (s f j)
/-- the bits of what is told -/
def FT (v : Int32) (s : CA) : Prop := bt v 6 = decide (s 30 3 = 1) ∧ bt v 7 = decide (s 30 4 = 1) ∧ bt v 16 = decide (s 30 5 = 1) ∧ bt v 17 = decide (s 30 6 = 1) ∧ bt v 18 = decide (s 30 7 = 1)
def MFr (σ : MS) (s : CA) : Prop := FCn σ s ∧ (σ.1 47 0 15 = nI (s 0 6) ∧ σ.1 47 0 16 = nI (s 0 7)) ∧ (FT (σ.1 45 0 24) s ∧ ∀ j, 3 ≤ j → j ≤ 7 → s 30 j ≤ 1) ∧ σ.1 45 0 25 = nI (s 30 8) ∧ σ.1 45 0 35 = nI (s 30 9) ∧ σ.1 45 0 36 = nI (s 30 10) ∧ σ.1 47 0 14 = nI (s 30 11)
def MCt (σ : MS) (s : CA) : Prop := (∀ j, j < 5 → σ.1 47 0 (9 + j) = nI (s 0 j)) ∧ σ.1 47 0 17 = nI (s 0 8) ∧ s 0 0 ≤ 7 ∧ s 0 1 ≤ 3 ∧ s 0 2 ≤ 10 ∧ s 0 3 ≤ 12 ∧ s 0 4 ≤ 8 ∧ s 0 8 ≤ 64
def MRd (t : Nat → Nat) (n : Nat) (σ : MS) (s : CA) : Prop :=
  (σ.1 45 0 26 = nI n ∧ MBy σ t n ∧ n ≤ 700) ∧
  (σ.1 45 0 31 = nI (s 30 1) ∧ s 30 1 ≤ 5 ∧ (s 30 1 ≠ 0 → σ.1 45 0 32 = nI (s 30 2)) ∧ (s 30 1 = 0 → σ.1 45 0 32 = -1)) ∧
  MCt σ s ∧ (s 30 1 = 0 → MTk σ t n (s 30 0) ∧ MFr σ s)
/-- behind a change of the cells of the token alone -/
theorem MFr.km {σ τ : MS} {s : CA} (h : MFr σ s) (k : KM σ τ) : MFr τ s := by
  have e : ∀ f j, τ.1 (47 + f) 0 j = σ.1 (47 + f) 0 j := fun f j => k.1.i (by simp; omega) j
  have e0 : ∀ j, τ.1 47 0 j = σ.1 47 0 j := fun j => e 0 j
  obtain ⟨a, b, c, d1, d2, d3, d4⟩ := h
  refine ⟨fun f j h1 h2 => by rw [e]; exact a f j h1 h2, by rw [e0, e0]; exact b, by rw [k.2 24 (by omega)]; exact c, by rw [k.2 25 (by omega)]; exact d1, by rw [k.2 35 (by omega)]; exact d2, by rw [k.2 36 (by omega)]; exact d3, by rw [e0]; exact d4⟩
theorem MCt.km {σ τ : MS} {s : CA} (h : MCt σ s) (k : SB [(45, 0)] σ τ) : MCt τ s := by
  have e0 : ∀ j, τ.1 47 0 j = σ.1 47 0 j := fun j => k.i (by simp) j
  refine ⟨fun j hj => by rw [e0]; exact h.1 j hj, by rw [e0]; exact h.2.1, h.2.2⟩
theorem MFr.r {σ : MS} {s s' : CA} (h : MFr σ s) (hs : ∀ f j, ¬ (f = 30 ∧ j ≤ 2) → s' f j = s f j) : MFr σ s' := by
  have eL : ∀ f, mLn s' f = mLn s f := fun f => by
    unfold mLn
    simp only [hs 0 0 (by omega), hs 0 1 (by omega), hs 0 2 (by omega), hs 0 3 (by omega), hs 0 4 (by omega), hs 0 8 (by omega)]
  obtain ⟨a, b, c, d1, d2, d3, d4⟩ := h
  refine ⟨fun f j h1 h2 => ?_, by rw [hs 0 6 (by omega), hs 0 7 (by omega)]; exact b, ⟨?_, fun j h1 h2 => by rw [hs 30 j (by omega)]; exact c.2 j h1 h2⟩, by rw [hs 30 8 (by omega)]; exact d1, by rw [hs 30 9 (by omega)]; exact d2, by rw [hs 30 10 (by omega)]; exact d3, by rw [hs 30 11 (by omega)]; exact d4⟩
  · rw [eL] at h1
    have hf : f ≤ 20 := by
      rcases Nat.lt_or_ge 20 f with g | g
      · exfalso
        have : mLn s f = 0 := by
          match f, g with
          | f + 21, _ => rfl
        omega
      · exact g
    rw [hs f j (by omega)]; exact a f j h1 h2
  · unfold FT
    rw [hs 30 3 (by omega), hs 30 4 (by omega), hs 30 5 (by omega), hs 30 6 (by omega), hs 30 7 (by omega)]
    exact c.1
def pGo (s : CA) : CA := if s 30 1 = 0 then pAdv s else s
section Ml
variable {d : Nat} {Q : Option MV → MS → Prop} {σ : MS} {t : Nat → Nat} {n : Nat} {s : CA}
theorem MRd.z (h : MRd t n σ s) : σ.1 45 0 31 = 0 ↔ s 30 1 = 0 := by
  have := h.2.1.2.1
  rw [h.2.1.1, show (0 : Int32) = nI 0 from rfl, nI_inj (by omega) (by omega)]
theorem mLn_sub {s s' : CA} (h : ∀ j, j < 9 → s' 0 j = s 0 j) (f : Nat) : mLn s' f = mLn s f := by
  unfold mLn
  simp only [h 0 (by omega), h 1 (by omega), h 2 (by omega), h 3 (by omega), h 4 (by omega), h 8 (by omega)]
theorem mLn_f {s : CA} {f j : Nat} (h : j < mLn s f) : f ≤ 20 := by
  rcases Nat.lt_or_ge 20 f with g | g
  · exfalso
    have : mLn s f = 0 := by
      match f, g with
      | f + 21, _ => rfl
    omega
  · exact g
theorem M_tok (h : MRd t n σ s) (hf : s 30 1 = 0) (H : ∀ τ : MS, XR σ τ → MRd t n τ (pAdv s) → Q none τ) : R mj_OM (d + 1 + 1 + 1 + 1 + 1) mX11_token Q 0 [some (rV 45 0), none] [] σ := by
  obtain ⟨⟨a1, a2, a3⟩, ⟨b1, b2, b3, b4⟩, c, e⟩ := h
  obtain ⟨e1, e2⟩ := e hf
  have r : ∀ f j, ¬ (f = 30 ∧ j = 0) → pAdv s f j = s f j := fun f j hj => by simp only [pAdv, pS]; rw [if_neg hj]
  have r1 := r 30 1 (by omega)
  have r0 : pAdv s 30 0 = s 30 0 + 1 := by simp [pAdv, pS]
  refine M_token a3 a2 a1 e1.1 (fun τ k m => H τ k.x ⟨⟨by rw [k.2 26 (by omega)]; exact a1, a2.keep k, a3⟩, ⟨by rw [k.2 31 (by omega), r1]; exact b1, by rw [r1]; exact b2, fun q => by rw [r1] at q; exact absurd hf q, fun _ => by rw [k.2 32 (by omega)]; exact b4 hf⟩, ?_, fun _ => ⟨by rw [r0]; exact m, ?_⟩⟩)
  · have := c.km k.1
    exact this
  · exact (e2.km k).r (fun f j hj => r f j (by omega))
theorem M_goOn (h : MRd t n σ s) (H : ∀ τ : MS, XR σ τ → MRd t n τ (pGo s) → Q none τ) : R mj_OM (d + 1 + 1 + 1 + 1 + 1 + 1) mX11_goOn Q 0 [some (rV 45 0)] [] σ := by
  refine bX11_goOn_0 ⟨fun y => ?_, fun y => ?_⟩
  · rw [h.z] at y
    refine H σ XR.rf ?_
    unfold pGo; rw [if_neg y]; exact h
  · rw [h.z] at y
    refine M_tok h y (fun τ h1 h2 => bX11_goOn_11 (H τ h1 ?_))
    unfold pGo; rw [if_pos y]; exact h2
theorem M_wrong {e : Nat} (he : 1 ≤ e ∧ e ≤ 5) (h : MRd t n σ s) (H : ∀ τ : MS, XR σ τ → MRd t n τ (pFail s e (kp t n s)) → Q none τ) : R mj_OM d mX11_wrong Q 0 [some (rV 45 0), some (iV (nI e))] [] σ := by
  refine bX11_wrong_0 ⟨fun y => ?_, fun y => ?_⟩
  · have hf := h.z.mp y
    obtain ⟨⟨a1, a2, a3⟩, ⟨b1, b2, b3, b4⟩, c, f⟩ := h
    have p0 := pF_0 (s := s) (e := e) (pl := kp t n s) hf
    have e28 : σ.1 45 0 28 = nI (kp t n s) := (f hf).1.2.1
    refine H _ ((XR.u45 (by omega)).tr (XR.u45 (by omega))) ⟨⟨by simp [uI]; exact a1, fun i hi => by simp [uI]; exact a2 i hi, a3⟩, ⟨by rw [p0.1]; simp [uI], by rw [p0.1]; omega, fun _ => by rw [p0.2]; simp [uI]; exact e28, fun q => by rw [p0.1] at q; omega⟩, ?_, fun q => by rw [p0.1] at q; omega⟩
    have cc := c.km (τ := uI (uI σ 45 0 31 (nI e)) 45 0 32 (σ.1 45 0 28)) ((SB.uI (by simp)).tr (SB.uI (by simp)))
    have r0 : ∀ j, pFail s e (kp t n s) 0 j = s 0 j := fun j => pF_row 0 j (Or.inl (by omega))
    unfold MCt at cc ⊢
    simp only [r0]
    exact cc
  · have hf : ¬ s 30 1 = 0 := fun q => y (h.z.mpr q)
    exact H σ XR.rf (by rw [pFail_f hf]; exact h)
theorem MTk.so {k : Nat} (h : MTk σ t n k) : (σ.1 45 0 29 = 0 ↔ tK t n k < 22) ∧ (σ.1 45 0 29 = 1 ↔ tK t n k = 22) ∧ (σ.1 45 0 29 = 2 ↔ tK t n k = 23) ∧ (σ.1 45 0 29 = 3 ↔ 24 ≤ tK t n k ∧ tK t n k < 37) ∧ (σ.1 45 0 29 = 4 ↔ tK t n k = 37) := by
  rcases h.2.2 with ⟨h1, h2, _⟩ | ⟨h1, h2, _⟩ | ⟨h1, h2, _⟩ | ⟨h1, h2, h3, _⟩ | ⟨h1, h2⟩ | ⟨h1, h2⟩
  · rw [h2]; exact ⟨by simp; omega, by simp; omega, by simp; omega, by simp; omega, by simp; omega⟩
  · rw [h2]; exact ⟨by simp; omega, by simp; omega, by simp; omega, by simp; omega, by simp; omega⟩
  · rw [h2]; exact ⟨by simp; omega, by simp; omega, by simp; omega, by simp; omega, by simp; omega⟩
  · rw [h3]; exact ⟨by simp; omega, by simp; omega, by simp; omega, by simp; omega, by simp; omega⟩
  · rw [h2]; exact ⟨by simp; omega, by simp; omega, by simp; omega, by simp; omega, by simp; omega⟩
  · rw [h2]; exact ⟨by simp; omega, by simp; omega, by simp; omega, by simp; omega, by simp; omega⟩
theorem MTk.w {k : Nat} (h : MTk σ t n k) (hk : tK t n k < 22) : σ.1 45 0 30 = nI (tK t n k) := by
  rcases h.2.2 with ⟨h1, h2, h3⟩ | ⟨h1, h2, _⟩ | ⟨h1, h2, _⟩ | ⟨h1, h2, h3, _⟩ | ⟨h1, h2⟩ | ⟨h1, h2⟩
  · exact h3
  all_goals omega
theorem MTk.o {k : Nat} (h : MTk σ t n k) (hk : tK t n k = 22) : σ.1 45 0 30 = nI (tV t n k) := by
  rcases h.2.2 with ⟨h1, h2, h3⟩ | ⟨h1, h2, h3⟩ | ⟨h1, h2, _⟩ | ⟨h1, h2, h3, _⟩ | ⟨h1, h2⟩ | ⟨h1, h2⟩
  · omega
  · exact h3
  all_goals omega
theorem MTk.nm {k : Nat} (h : MTk σ t n k) (hk : tK t n k = 23) : (tV t n k ≤ 99999 ∧ σ.1 45 0 30 = nI (tV t n k)) ∨ (99999 < tV t n k ∧ ∃ w, 99999 < w ∧ w < 2000000 ∧ σ.1 45 0 30 = nI w) := by
  rcases h.2.2 with ⟨h1, h2, h3⟩ | ⟨h1, h2, h3⟩ | ⟨h1, h2, h3⟩ | ⟨h1, h2, h3, _⟩ | ⟨h1, h2⟩ | ⟨h1, h2⟩
  · omega
  · omega
  · exact h3
  all_goals omega
theorem MTk.g {k : Nat} (h : MTk σ t n k) (hk : 24 ≤ tK t n k ∧ tK t n k < 37) : σ.1 45 0 30 = nI (sgV (tK t n k)) := by
  rcases h.2.2 with ⟨h1, h2, h3⟩ | ⟨h1, h2, h3⟩ | ⟨h1, h2, h3⟩ | ⟨h1, h2, h3, h4⟩ | ⟨h1, h2⟩ | ⟨h1, h2⟩
  · omega
  · omega
  · omega
  · exact h4
  all_goals omega
theorem sgV_i : ∀ a b, 24 ≤ a → a < 37 → 24 ≤ b → b < 37 → (sgV a = sgV b ↔ a = b) ∧ sgV a < 300 := by
  have h : ∀ a b : Fin 37, 24 ≤ a.val → 24 ≤ b.val → (sgV a.val = sgV b.val ↔ a.val = b.val) ∧ sgV a.val < 300 := by decide +kernel
  exact fun a b h1 h2 h3 h4 => h ⟨a, h2⟩ ⟨b, h4⟩ h1 h3
theorem M_isSign {K : Nat} (hK : 24 ≤ K ∧ K < 37) (h : MRd t n σ s) (H : ∀ v : Int32, (v = 0 ↔ ¬ (s 30 1 = 0 ∧ kd t n s = K)) → Q (some (iV v)) σ) : R mj_OM d mX11_isSign Q 0 [some (rV 45 0), some (iV (nI (sgV K)))] [] σ := by
  refine bX11_isSign_0 ⟨fun y => H 0 (by simp; intro q; exact absurd (h.z.mpr q) y), fun y => ?_⟩
  have hf := h.z.mp y
  have m := (h.2.2.2 hf).1
  have so := m.so
  refine ⟨fun y2 => H 0 (by simp; intro _ q; exact absurd (so.2.2.2.1.mpr (by show 24 ≤ kd t n s ∧ kd t n s < 37; omega)) y2), fun y2 => ?_⟩
  have g := so.2.2.2.1.mp y2
  have sv := sgV_i _ K g.1 g.2 hK.1 hK.2
  have sv2 := sgV_i K K hK.1 hK.2 hK.1 hK.2
  rw [m.g g, nI_inj (by omega) (by omega), sv.1]
  exact ⟨fun y3 => H 0 (by simp; intro _ q; exact y3 q), fun y3 => H 1 (by simp; exact ⟨hf, y3⟩)⟩
theorem M_isWord {K : Nat} (hK : K < 22) (h : MRd t n σ s) (H : ∀ v : Int32, (v = 0 ↔ ¬ (s 30 1 = 0 ∧ kd t n s = K)) → Q (some (iV v)) σ) : R mj_OM d mX11_isWord Q 0 [some (rV 45 0), some (iV (nI K))] [] σ := by
  refine bX11_isWord_0 ⟨fun y => H 0 (by simp; intro q; exact absurd (h.z.mpr q) y), fun y => ?_⟩
  have hf := h.z.mp y
  have m := (h.2.2.2 hf).1
  have so := m.so
  refine ⟨fun y2 => H 0 (by simp; intro _ q; exact absurd (so.1.mpr (by show kd t n s < 22; omega)) y2), fun y2 => ?_⟩
  have g := so.1.mp y2
  rw [m.w g, nI_inj (by omega) (by omega)]
  exact ⟨fun y3 => H 0 (by simp; intro _ q; exact y3 q), fun y3 => H 1 (by simp; exact ⟨hf, y3⟩)⟩
theorem M_fresher {j : Nat} (hj : j < 9) (H : Q (some (iV (σ.1 47 0 (9 + j)))) σ) : R mj_OM d mX11_fresher Q 0 [some (rV 45 0), some (iV (nI j))] [] σ := by
  refine bX11_fresher_0 ?_
  rw [show (9 : Int32) = nI 9 from rfl, nI_add, cl (show 9 + j < 18 by omega) (by omega)]
  exact ⟨vin (show 9 + j < 18 by omega) (by omega) (by decide), H⟩
theorem M_reads {j : Nat} {v : Int32} (hj : j < 9) (H : Q none (uI σ 47 0 (9 + j) v)) : R mj_OM d mX11_reads Q 0 [some (rV 45 0), some (iV (nI j)), some (iV v)] [] σ := by
  refine bX11_reads_0 ?_
  rw [show (9 : Int32) = nI 9 from rfl, nI_add, cl (show 9 + j < 18 by omega) (by omega)]
  exact ⟨vin (show 9 + j < 18 by omega) (by omega) (by decide), H⟩
theorem pNum_fail {lo hi e : Nat} (hf : s 30 1 = 0) (hx : pNum t n s lo hi = pFail s e (kp t n s)) (he : 1 ≤ e) : ¬ (pNum t n s lo hi) 30 1 = 0 := by rw [hx, (pF_0 hf).1]; omega
theorem M_numeral {lo hi : Nat} (hlo : lo ≤ hi) (hh : hi ≤ 99999) (h : MRd t n σ s) (H : ∀ (τ : MS) (v : Int32), XR σ τ → MRd t n τ (pNum t n s lo hi) → ((pNum t n s lo hi) 30 1 = 0 → v = nI (kv t n s) ∧ lo ≤ kv t n s ∧ kv t n s ≤ hi) → Q (some (iV v)) τ) : R mj_OM (d + 1 + 1 + 1 + 1 + 1 + 1) mX11_numeral Q 0 [some (rV 45 0), some (iV (nI lo)), some (iV (nI hi)), none] [] σ := by
  refine bX11_numeral_0 ⟨fun y => ?_, fun y => ?_⟩
  · have hf := h.z.mp y
    have m := (h.2.2.2 hf).1
    have so := m.so
    refine ⟨fun y2 => ?_, fun y2 => ?_⟩
    · have k23 : kd t n s = 23 := so.2.2.1.mp y2
      have bad : (kv t n s < lo ∨ hi < kv t n s) → R mj_OM (d + 1 + 1 + 1 + 1 + 1) mX11_wrong (fun r σ' => R mj_OM (d + 1 + 1 + 1 + 1 + 1 + 1) mX11_numeral Q 46 [some (rV 45 0), some (iV (nI lo)), some (iV (nI hi)), none] (r.toList ++ []) σ') 0 [some (rV 45 0), some (iV (2 : Int32))] [] σ := fun g => by
        have eN : pNum t n s lo hi = pFail s 2 (kp t n s) := by unfold pNum; rw [if_pos hf, if_pos k23, if_pos g]
        have nf := pNum_fail hf eN (by omega)
        refine M_wrong (e := 2) (by omega) h (fun τ h1 h2 => ?_)
        rw [← eN] at h2
        exact bX11_numeral_46 ⟨fun z => absurd (h2.z.mp z) nf, fun _ => H τ _ h1 h2 (fun q => absurd q nf)⟩
      rcases m.nm k23 with ⟨v1, v2⟩ | ⟨v1, w, w1, w2, w3⟩
      · have c1 : σ.1 45 0 30 < nI lo ↔ kv t n s < lo := by rw [v2]; exact nI_ltI (by omega) (by omega)
        have c2 : σ.1 45 0 30 ≤ nI hi ↔ kv t n s ≤ hi := by rw [v2]; exact nI_leI (by omega) (by omega)
        refine ⟨fun z => bad (Or.inl (c1.mp z)), fun z => ⟨fun z2 => ⟨fun _ => ?_, fun z3 => absurd y z3⟩, fun z2 => bad (Or.inr ?_)⟩⟩
        · rw [c1] at z
          rw [c2] at z2
          have eN : pNum t n s lo hi = pAdv s := by unfold pNum; rw [if_pos hf, if_pos k23, if_neg (by omega)]
          refine M_tok h hf (fun τ h1 h2 => bX11_numeral_64 (H τ _ h1 (by rw [eN]; exact h2) (fun _ => ⟨v2, by omega, z2⟩)))
        · rw [c2] at z2; omega
      · have c1 : σ.1 45 0 30 < nI lo ↔ w < lo := by rw [w3]; exact nI_ltI (by omega) (by omega)
        have c2 : σ.1 45 0 30 ≤ nI hi ↔ w ≤ hi := by rw [w3]; exact nI_leI (by omega) (by omega)
        have v1' : 99999 < kv t n s := v1
        exact ⟨fun z => bad (Or.inr (by omega)), fun z => ⟨fun z2 => absurd (c2.mp z2) (by omega), fun _ => bad (Or.inr (by omega))⟩⟩
    · have k23 : ¬ kd t n s = 23 := fun e => y2 (so.2.2.1.mpr e)
      have eN : pNum t n s lo hi = pFail s 1 (kp t n s) := by unfold pNum; rw [if_pos hf, if_neg k23]
      have nf := pNum_fail hf eN (by omega)
      refine M_wrong (e := 1) (by omega) h (fun τ h1 h2 => ?_)
      rw [← eN] at h2
      exact bX11_numeral_22 ⟨fun z => absurd (h2.z.mp z) nf, fun _ => H τ _ h1 h2 (fun q => absurd q nf)⟩
  · have hf : ¬ s 30 1 = 0 := fun q => y (h.z.mpr q)
    exact H σ _ XR.rf (by rw [pN_f hf]; exact h) (fun q => by rw [pN_f hf] at q; exact absurd q hf)
theorem M_found {a : Nat} {x : Int32} (h7 : s 0 0 ≤ 7) (h0 : ∀ p, p < s 0 0 → σ.1 48 0 (7 + p) = nI (s 1 p) ∧ s 1 p < 2 ^ 30) (ha : a < 2 ^ 30) (hx : x = nI a) (H : Q (some (iV (mOpt (gNm s a)))) σ) : R mj_OM d mX11_found Q 0 [some (rV 48 0), some (iV (nI 7)), some (iV (nI (s 0 0))), some (iV x), none] [] σ := by
  subst hx
  have L : ∀ (m p : Nat), p + m = s 0 0 → gNmG s a m p = gNm s a → R mj_OM d mX11_found Q 3 [some (rV 48 0), some (iV (nI 7)), some (iV (nI (s 0 0))), some (iV (nI a)), some (iV (nI p))] [] σ := by
    intro m
    induction m with
    | zero =>
      intro p hp hh
      refine bX11_found_3 (n0 := 14) rfl (by decide) ⟨fun _ => by rw [← hh] at H; exact H, fun z => ?_⟩
      rw [nI_le2 (by omega) (by omega)] at z; omega
    | succ m ih =>
      intro p hp hh
      refine bX11_found_3 (n0 := 14) rfl (by decide) ⟨fun z => ?_, fun _ => ?_⟩
      · rw [nI_le2 (by omega) (by omega)] at z; omega
      · rw [nI_add, cl (show 7 + p < 14 by omega) (by omega), (h0 p (by omega)).1]
        refine ⟨vin (show 7 + p < 14 by omega) (by omega) (by decide), fun z => ?_, fun z => ?_⟩
        · rw [nI_1]
          refine ih (p + 1) (by omega) ?_
          rw [← hh, gNmG, if_neg]
          intro e
          exact z (by rw [e])
        · rw [← hh, gNmG, if_pos ((nI_eq (by have := (h0 p (by omega)).2; omega) (by omega)).mp z)] at H
          exact H
  exact bX11_found_0 (n0 := 14) rfl (by decide) (L (s 0 0) 0 (by omega) rfl)
end Ml
