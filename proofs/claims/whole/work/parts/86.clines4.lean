section Pq
variable {d : Nat} {Q : Option MV → MS → Prop} {σ : MS} {t : Nat → Nat} {n T b : Nat} {s : CA}
theorem pTnN_row (f j : Nat) (h : f < 30 ∨ 3 ≤ j) : pTnN t n s f j = s f j := by
  unfold pTnN
  repeat' split
  all_goals first | rfl | exact pF_row f j (by omega) | exact pA_row f j (by omega)
theorem pTnN_f (h : ¬ pNum t n s 0 9 30 1 = 0) : pTnN t n s = pNum t n s 0 9 := by
  by_cases hf : s 30 1 = 0
  · unfold pNum at h ⊢
    unfold pTnN
    rw [if_pos hf] at h ⊢
    rw [if_pos hf]
    by_cases k : kd t n s = 23
    · rw [if_pos k] at h ⊢
      rw [if_pos k]
      by_cases g : kv t n s < 0 ∨ 9 < kv t n s
      · rw [if_pos g, if_pos (by omega)]
      · rw [if_neg g, pAdv_1] at h; exact absurd hf h
    · rw [if_neg k, if_neg k]
  · rw [pN_f hf]; unfold pTnN; rw [if_neg hf]
theorem pNum_0 {lo hi : Nat} (h : pNum t n s lo hi 30 1 = 0) : s 30 1 = 0 ∧ kd t n s = 23 ∧ lo ≤ kv t n s ∧ kv t n s ≤ hi ∧ pNum t n s lo hi = pAdv s := by
  have hf := pN_0 h
  unfold pNum at h ⊢
  rw [if_pos hf] at h ⊢
  by_cases k : kd t n s = 23
  · rw [if_pos k] at h ⊢
    by_cases g : kv t n s < lo ∨ hi < kv t n s
    · rw [if_pos g, (pF_0 hf).1] at h; omega
    · rw [if_neg g]; exact ⟨hf, k, by omega, by omega, rfl⟩
  · rw [if_neg k, (pF_0 hf).1] at h; omega
theorem S_readTurn (hT : TF t n T) (h : SRd t n T b σ s) (hV : CV s) (h12 : s 0 3 < 12) (H : ∀ τ : MS, SB (rdL b) σ τ → SRd t n T b τ (pTurnL t n s) → Q none τ) : R mj_OC (d + 1 + 1 + 1) mX7_readTurn Q 0 [some (rV 1 0), none, none, none, none] [] σ := by
  have b2 : b < 2 := h.1.2.1
  refine bX7_readTurn_0 (S_place hT h (fun pl hpl => bX7_readTurn_7 (S_number (lo := 0) (hi := 9) hT (by omega) (by omega) h (fun τ v h1 h2 h3' => bX7_readTurn_15 ⟨by rw [h2.1.1]; exact b2, ?_⟩))))
  have K : ∀ υ : MS, SB (rdL b) σ υ → SRd t n T b υ (pTnN t n s) → (pTnN t n s 30 1 = 0 → v = nI (kv t n s) ∧ kv t n s < 10) → R mj_OC (d + 1 + 1) mX7_number (fun r σ' => R mj_OC (d + 1 + 1 + 1) mX7_readTurn Q 40 [some (rV 1 0), some (iV (nI pl)), some (iV v), none, none] (r.toList ++ []) σ') 0 [some (rV 1 0), some (iV (0 : Int32)), some (iV (99 : Int32)), none, none] [] υ := by
    intro υ u1 u2 u3
    refine S_number (lo := 0) (hi := 99) hT (by omega) (by omega) u2 (fun υ1 v1 w1 w2 w3 => bX7_readTurn_40 (S_number (lo := 1) (hi := 20) hT (by omega) (by omega) w2 (fun υ2 v2 x1 x2 x3 => bX7_readTurn_48 ⟨fun z => ?_, fun z => ⟨by rw [x2.1.1]; exact b2, ?_⟩⟩)))
    · refine H υ2 ((u1.tr w1).tr x1) ?_
      unfold pTurnL pAddT
      rw [if_neg (fun e => z (x2.z.mpr e))]
      exact x2
    · have f2 := x2.z.mp z
      have f1 := pN_0 f2
      have f0 := pN_0 f1
      rw [x2.1.1, (u3 f0).1, (w3 f1).1, (x3 f2).1]
      refine S_addTurn x2 f2 ?_ (u3 f0).2 (w3 f1).2.2 (x3 f2).2.2 (fun υ3 z1 z2 => bX7_readTurn_68 (H υ3 (((u1.tr w1).tr x1).tr z1) z2))
      rw [pN_row 0 3 (by omega), pN_row 0 3 (by omega), pTnN_row 0 3 (by omega)]
      exact h12
  by_cases f0 : pNum t n s 0 9 30 1 = 0
  · obtain ⟨hf, k23, g1, g2, eP⟩ := pNum_0 f0
    have C := (h2.2.2.2.2.2 f0).1
    have ek : τ.1 3 b 6 = nI (s 0 2) := by have := C.nk; rw [pN_row 0 2 (by omega)] at this; exact this
    have nk := hV.nk
    have ev := (h3' f0).1
    have cc : v < τ.1 3 (τ.2.2 1 0) 6 ↔ kv t n s < s 0 2 := by rw [h2.1.1, ev, ek]; exact nI_ltI (by omega) (by omega)
    refine ⟨fun z => ?_, fun z => ?_⟩
    · rw [cc] at z
      have eT : pTnN t n s = pAdv s := by unfold pTnN; rw [if_pos hf, if_pos k23, if_neg (by omega), if_neg (by omega)]
      exact K τ h1 (by rw [eT, ← eP]; exact h2) (fun _ => ⟨ev, by omega⟩)
    · rw [cc] at z
      have eT : pTnN t n s = pFail s 4 (kp t n s) := by unfold pTnN; rw [if_pos hf, if_pos k23, if_neg (by omega), if_pos (by omega)]
      have nf : ¬ pTnN t n s 30 1 = 0 := by rw [eT, (pF_0 hf).1]; omega
      have K' := K
      rw [hpl hf] at K' ⊢
      refine S_fail (e := 4) (by omega) h2 (fun υ u1 u2 => bX7_readTurn_33 (K' υ (h1.tr u1) ?_ (fun q => absurd q nf)))
      rw [eT]
      exact SRd.late hf (by omega) f0 (pN_row 0 0 (by omega)) u2
  · have eT := pTnN_f f0
    have nf : ¬ pTnN t n s 30 1 = 0 := by rw [eT]; exact f0
    refine ⟨fun z => K τ h1 (by rw [eT]; exact h2) (fun q => absurd q nf), fun z => ?_⟩
    refine S_fail (e := 4) (by omega) h2 (fun υ u1 u2 => bX7_readTurn_33 (K υ (h1.tr u1) ?_ (fun q => absurd q nf)))
    rw [pFail_f f0] at u2; rw [eT]; exact u2
theorem pPpN_0 {p : Nat} (h : pPpN t n s p 30 1 = 0) : pPond t n s 30 1 = 0 := by
  by_cases g : pPond t n s 30 1 = 0
  · exact g
  · rw [pPpN_f g] at h; exact absurd h g
theorem S_readPipe (hT : TF t n T) (h : SRd t n T b σ s) (hV : CV s) (h10 : s 0 2 < 10) (H : ∀ τ : MS, SB (rdL b) σ τ → SRd t n T b τ (pPipeL t n s) → Q none τ) : R mj_OC (d + 1 + 1 + 1 + 1) mX7_readPipe Q 0 [some (rV 1 0), none, none, none, none] [] σ := by
  have b2 : b < 2 := h.1.2.1
  have np := hV.np
  have nk := hV.nk
  refine bX7_readPipe_0 (S_toldPond hT h hV.nb' (fun τ0 x1 g1 g2 g3 => bX7_readPipe_4 (S_place hT g2 (fun pl hpl => bX7_readPipe_12 (S_toldPond hT g2 (fun p hp => ?_) (fun τ v h1 h2 h3' => ?_))))))
  · rw [pPo_row 0 0 (by omega)] at hp
    rw [pPo_row 1 p (by omega)]
    exact hV.nb' p hp
  have K : ∀ υ : MS, SB (rdL b) σ υ → SRd t n T b υ (pPpN t n (pPond t n s) (pd t n s)) → (pPpN t n (pPond t n s) (pd t n s) 30 1 = 0 → x1 = nI (pd t n s) ∧ v = nI (pd t n (pPond t n s))) → R mj_OC (d + 1 + 1 + 1) mX7_number (fun r σ' => R mj_OC (d + 1 + 1 + 1 + 1) mX7_readPipe Q 68 [some (rV 1 0), some (iV x1), some (iV (nI pl)), some (iV v), none] (r.toList ++ []) σ') 0 [some (rV 1 0), some (iV (1 : Int32)), some (iV (99 : Int32)), none, none] [] υ := by
    intro υ u1 u2 u3
    refine S_number (lo := 1) (hi := 99) hT (by omega) (by omega) u2 (fun υ1 v1 w1 w2 w3 => bX7_readPipe_68 ⟨fun z => ?_, fun z => ⟨by rw [w2.1.1]; exact b2, ?_⟩⟩)
    · refine H υ1 (u1.tr w1) ?_
      unfold pPipeL pAddK
      rw [if_neg (fun e => z (w2.z.mpr e))]
      exact w2
    · have f1 := w2.z.mp z
      have f0 := pN_0 f1
      rw [w2.1.1, (u3 f0).1, (u3 f0).2, (w3 f1).1]
      refine S_addPipe w2 f1 ?_ (fun υ3 z1 z2 => bX7_readPipe_88 (H υ3 ((u1.tr w1).tr z1) z2))
      rw [pN_row 0 2 (by omega), pPpN_row 0 2 (by omega), pPo_row 0 2 (by omega)]
      exact h10
  by_cases f0 : pPond t n (pPond t n s) 30 1 = 0
  · obtain ⟨hf1, k22, hg, eP⟩ := pPond_0 f0
    obtain ⟨hf, _, hgs, _⟩ := pPond_0 hf1
    obtain ⟨p, hp, ev⟩ := h3' f0
    rw [hg] at hp
    injection hp with hp
    rw [← hp] at ev
    obtain ⟨p1, hp1, ev1⟩ := g3 hf1
    rw [hgs] at hp1
    injection hp1 with hp1
    rw [← hp1] at ev1
    have plt := gNm_lt hg
    rw [pPo_row 0 0 (by omega)] at plt
    have plt1 := gNm_lt hgs
    have C := (h2.2.2.2.2.2 f0).1
    have z0 := h2.z.mpr f0
    have r2 : ∀ f j, f < 30 → pPond t n (pPond t n s) f j = s f j := fun f j hj => by rw [pPo_row f j (by omega), pPo_row f j (by omega)]
    have ePp : gPp (pPond t n s) (pd t n s) (pd t n (pPond t n s)) = gPp s (pd t n s) (pd t n (pPond t n s)) := by
      unfold gPp
      rw [pPo_row 0 2 (by omega)]
      have : ∀ m k, gPpG (pPond t n s) (pd t n s) (pd t n (pPond t n s)) m k = gPpG s (pd t n s) (pd t n (pPond t n s)) m k := by
        intro m
        induction m with
        | zero => intro k; rfl
        | succ m ih => intro k; rw [gPpG, gPpG, pPo_row 9 k (by omega), pPo_row 10 k (by omega), ih]
      exact this _ _
    subst ev1
    have K' := K
    subst ev
    have K' := K
    rw [hpl hf1] at K' ⊢
    have num : ∀ υ : MS, SB (rdL b) σ υ → SRd t n T b υ (pPpN t n (pPond t n s) (pd t n s)) → _ := fun υ u1 u2 => K' υ u1 u2 (fun _ => ⟨rfl, rfl⟩)
    refine bX7_readPipe_17 ⟨fun z => absurd z0 z, fun _ => ⟨by rw [h2.1.1]; exact b2, ?_⟩⟩
    rw [h2.1.1]
    refine S_hasPipe (s := s) b2 nk (by have := C.nk; rw [r2 0 2 (by omega)] at this; exact this) (fun k hk => ⟨?_, ?_, by have := (hV.pipe hk).1; omega, by have := (hV.pipe hk).2.1; omega⟩) (by omega) (by omega) (fun hpp => bX7_readPipe_34 ⟨fun z => absurd z (by decide), fun _ => ?_⟩) (fun hpp => bX7_readPipe_34 ⟨fun _ => ⟨fun z => absurd z0 z, fun _ => ⟨fun z => ?_, fun z => ?_⟩⟩, fun z => absurd rfl z⟩)
    · have := C.one (p := k) (by rw [r2 0 2 (by omega)]; exact hk)
      rw [r2 9 k (by omega)] at this
      exact this
    · have := C.two (p := k) (by rw [r2 0 2 (by omega)]; exact hk)
      rw [r2 10 k (by omega)] at this
      exact this
    · have eL : pPpN t n (pPond t n s) (pd t n s) = pFail (pPond t n s) 3 (kp t n (pPond t n s)) := by unfold pPpN; rw [if_pos hf1, if_pos k22, if_neg (by rw [hg]; simp), if_pos (by rw [ePp]; exact hpp)]
      have nf : ¬ pPpN t n (pPond t n s) (pd t n s) 30 1 = 0 := by rw [eL, (pF_0 hf1).1]; omega
      refine S_fail (e := 3) (by omega) h2 (fun υ u1 u2 => ?_)
      have u2' : SRd t n T b υ (pPpN t n (pPond t n s) (pd t n s)) := by
        rw [eL]
        exact SRd.late hf1 (by omega) f0 (pPo_row 0 0 (by omega)) u2
      exact bX7_readPipe_43 ⟨fun _ => num υ ((g1.tr h1).tr u1) u2', fun z => absurd (u2'.z.mp z) nf⟩
    · rw [nI_inj (by omega) (by omega)] at z
      have eL : pPpN t n (pPond t n s) (pd t n s) = pAdv (pPond t n s) := by unfold pPpN; rw [if_pos hf1, if_pos k22, if_neg (by rw [hg]; simp), if_neg (by rw [ePp, hpp]; decide), if_neg z]
      exact num τ (g1.tr h1) (by rw [eL, ← eP]; exact h2)
    · rw [nI_inj (by omega) (by omega)] at z
      have eL : pPpN t n (pPond t n s) (pd t n s) = pFail (pPond t n s) 5 (kp t n (pPond t n s)) := by unfold pPpN; rw [if_pos hf1, if_pos k22, if_neg (by rw [hg]; simp), if_neg (by rw [ePp, hpp]; decide), if_pos z]
      refine S_fail (e := 5) (by omega) h2 (fun υ u1 u2 => bX7_readPipe_61 (num υ ((g1.tr h1).tr u1) ?_))
      rw [eL]
      exact SRd.late hf1 (by omega) f0 (pPo_row 0 0 (by omega)) u2
  · have eL : pPpN t n (pPond t n s) (pd t n s) = pPond t n (pPond t n s) := pPpN_f f0
    have z0 : ¬ τ.1 1 0 2 = 0 := fun z => f0 (h2.z.mp z)
    exact bX7_readPipe_17 ⟨fun _ => ⟨fun _ => K τ (g1.tr h1) (by rw [eL]; exact h2) (fun q => by rw [eL] at q; exact absurd q f0), fun z => absurd z z0⟩, fun z => absurd z z0⟩
end Pq
