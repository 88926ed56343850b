section Po
variable {d : Nat} {Q : Option MV → MS → Prop} {σ : MS} {t : Nat → Nat} {n T b : Nat} {s : CA}
theorem CV.nb' (hV : CV s) : NB s := fun p hp => (hV.pond hp).2.2.2.2.2
theorem gNm_lt {a p : Nat} (h : gNm s a = some p) : p < s 0 0 := by
  have pb : ∀ m q, gNmG s a m q = some p → p < q + m := by
    intro m
    induction m with
    | zero => intro q e; exact absurd e (by simp [gNmG])
    | succ m ih =>
      intro q e
      rw [gNmG] at e
      split at e
      · injection e with e; omega
      · have := ih (q + 1) e; omega
  have := pb (s 0 0) 0 h
  omega
theorem qLk_lt {a p : Nat} (h : qLk s a = some p) : p < s 0 1 := by
  have pb : ∀ m q, qLkG s a m q = some p → p < q + m := by
    intro m
    induction m with
    | zero => intro q e; exact absurd e (by simp [qLkG])
    | succ m ih =>
      intro q e
      rw [qLkG] at e
      split at e
      · injection e with e; omega
      · have := ih (q + 1) e; omega
  have := pb (s 0 1) 0 h
  omega
theorem pPond_0 (h : pPond t n s 30 1 = 0) : s 30 1 = 0 ∧ kd t n s = 22 ∧ gNm s (kv t n s) = some (pd t n s) ∧ pPond t n s = pAdv s := by
  by_cases hf : s 30 1 = 0
  · unfold pPond at h ⊢
    rw [if_pos hf] at h ⊢
    by_cases k : kd t n s = 22
    · rw [if_pos k] at h ⊢
      cases hg : gNm s (kv t n s) with
      | none => rw [hg, if_pos rfl, (pF_0 hf).1] at h; omega
      | some p => exact ⟨hf, k, by unfold pd; rw [hg]; rfl, by simp⟩
    · rw [if_neg k, (pF_0 hf).1] at h; omega
  · rw [pPond_f hf] at h; exact absurd h hf
theorem pPo_row (f j : Nat) (h : f < 30 ∨ 3 ≤ j) : pPond t n s f j = s f j := by
  unfold pPond
  split
  · split
    · split
      · exact pF_row f j (by omega)
      · exact pA_row f j (by omega)
    · exact pF_row f j (by omega)
  · rfl
/-- a further look at a pond that is told -/
theorem pNx_f (g : CA → CA) (hg : ¬ s 30 1 = 0 → g s = s) (h1 : s 30 1 = 0 → ¬ kd t n s = 22 → g s = pFail s 1 (kp t n s)) (h2 : s 30 1 = 0 → kd t n s = 22 → gNm s (kv t n s) = none → g s = pFail s 4 (kp t n s)) (h : ¬ pPond t n s 30 1 = 0) : g s = pPond t n s := by
  by_cases hf : s 30 1 = 0
  · unfold pPond at h ⊢
    rw [if_pos hf] at h ⊢
    by_cases k : kd t n s = 22
    · rw [if_pos k] at h ⊢
      by_cases e : gNm s (kv t n s) = none
      · rw [if_pos e, h2 hf k e]
      · rw [if_neg e, pAdv_1] at h; exact absurd hf h
    · rw [if_neg k, h1 hf k]
  · rw [pPond_f hf, hg hf]
theorem pLkN_f (h : ¬ pPond t n s 30 1 = 0) : pLkN t n s = pPond t n s := pNx_f (pLkN t n) (fun e => by unfold pLkN; rw [if_neg e]) (fun e k => by unfold pLkN; rw [if_pos e, if_neg k]) (fun e k g => by unfold pLkN; rw [if_pos e, if_pos k, if_pos g]) h
theorem pBtN_f (h : ¬ pPond t n s 30 1 = 0) : pBtN t n s = pPond t n s := pNx_f (pBtN t n) (fun e => by unfold pBtN; rw [if_neg e]) (fun e k => by unfold pBtN; rw [if_pos e, if_neg k]) (fun e k g => by unfold pBtN; rw [if_pos e, if_pos k, if_pos g]) h
theorem pSpN_f (h : ¬ pPond t n s 30 1 = 0) : pSpN t n s = pPond t n s := pNx_f (pSpN t n) (fun e => by unfold pSpN; rw [if_neg e]) (fun e k => by unfold pSpN; rw [if_pos e, if_neg k]) (fun e k g => by unfold pSpN; rw [if_pos e, if_pos k, if_pos g]) h
theorem pPpN_f {p : Nat} (h : ¬ pPond t n s 30 1 = 0) : pPpN t n s p = pPond t n s := pNx_f (fun s => pPpN t n s p) (fun e => by show pPpN t n s p = s; unfold pPpN; rw [if_neg e]) (fun e k => by show pPpN t n s p = _; unfold pPpN; rw [if_pos e, if_neg k]) (fun e k g => by show pPpN t n s p = _; unfold pPpN; rw [if_pos e, if_pos k, if_pos g]) h
theorem S_ofPond {p : Nat} (hb : b < 2) (h3 : s 0 1 ≤ 3) (h0 : σ.1 4 b 0 = nI (s 0 1)) (hl : ∀ l, l < s 0 1 → σ.1 25 b l = nI (s 6 l) ∧ s 6 l < 7) (hp : p < 7) (H : Q (some (iV (mOpt (qLk s p)))) σ) : R mj_OC d mX4_ofPond Q 0 [some (rV 4 b), some (iV (nI p)), none] [] σ := by
  have L : ∀ (m l : Nat), l + m = s 0 1 → qLkG s p m l = qLk s p → R mj_OC d mX4_ofPond Q 2 [some (rV 4 b), some (iV (nI p)), some (iV (nI l))] [] σ := by
    intro m
    induction m with
    | zero =>
      intro l hl' hh
      refine bX4_ofPond_2 hb ⟨fun _ => by rw [← hh] at H; exact H, fun z => ?_⟩
      rw [h0, nI_le2 (by omega) (by omega)] at z; omega
    | succ m ih =>
      intro l hl' hh
      have := hl l (by omega)
      refine bX4_ofPond_2 hb ⟨fun z => ?_, fun _ => ?_⟩
      · rw [h0, nI_le2 (by omega) (by omega)] at z; omega
      · rw [cl (show l < 3 by omega) (by omega), this.1, nI_inj (by omega) (by omega)]
        refine ⟨vin (show l < 3 by omega) (by omega) (by decide), fun z => ?_, fun z => ?_⟩
        · rw [nI_1]
          exact ih (l + 1) (by omega) (by rw [← hh, qLkG, if_neg z])
        · rw [← hh, qLkG, if_pos z] at H
          exact H
  exact bX4_ofPond_0 hb (L (s 0 1) 0 (by omega) rfl)
theorem S_hasPipe {p q : Nat} (hb : b < 2) (h3 : s 0 2 ≤ 10) (h0 : σ.1 3 b 6 = nI (s 0 2)) (hl : ∀ k, k < s 0 2 → σ.1 21 b k = nI (s 9 k) ∧ σ.1 22 b k = nI (s 10 k) ∧ s 9 k < 7 ∧ s 10 k < 7) (hp : p < 7) (hq : q < 7) (H1 : gPp s p q = true → Q (some (iV 1)) σ) (H0 : gPp s p q = false → Q (some (iV 0)) σ) : R mj_OC d mX0_hasPipe Q 0 [some (rV 3 b), some (iV (nI p)), some (iV (nI q)), none] [] σ := by
  have L : ∀ (m k : Nat), k + m = s 0 2 → gPpG s p q m k = gPp s p q → R mj_OC d mX0_hasPipe Q 2 [some (rV 3 b), some (iV (nI p)), some (iV (nI q)), some (iV (nI k))] [] σ := by
    intro m
    induction m with
    | zero =>
      intro k hk hh
      refine bX0_hasPipe_2 hb ⟨fun _ => H0 (by rw [← hh]; rfl), fun z => ?_⟩
      rw [h0, nI_le2 (by omega) (by omega)] at z; omega
    | succ m ih =>
      intro k hk hh
      obtain ⟨e1, e2, b1, b2⟩ := hl k (by omega)
      refine bX0_hasPipe_2 hb ⟨fun z => ?_, fun _ => ?_⟩
      · rw [h0, nI_le2 (by omega) (by omega)] at z; omega
      · rw [cl (show k < 10 by omega) (by omega), e1, e2, nI_inj (by omega) (by omega), nI_inj (by omega) (by omega), nI_inj (by omega) (by omega), nI_inj (by omega) (by omega), nI_1]
        have yes : (s 9 k = p ∧ s 10 k = q) ∨ (s 9 k = q ∧ s 10 k = p) → Q (some (iV 1)) σ := fun e => H1 (by rw [← hh, gPpG, if_pos e])
        have no : ¬ ((s 9 k = p ∧ s 10 k = q) ∨ (s 9 k = q ∧ s 10 k = p)) → R mj_OC d mX0_hasPipe Q 2 [some (rV 3 b), some (iV (nI p)), some (iV (nI q)), some (iV (nI (k + 1)))] [] σ := fun e => ih (k + 1) (by omega) (by rw [← hh, gPpG, if_neg e])
        exact ⟨vin (show k < 10 by omega) (by omega) (by decide), fun z1 => ⟨fun z2 => no (by omega), fun z2 => ⟨fun z3 => no (by omega), fun z3 => yes (by omega)⟩⟩, fun z1 => ⟨fun z2 => yes (by omega), fun z2 => ⟨fun z3 => no (by omega), fun z3 => ⟨fun z4 => no (by omega), fun z4 => yes (by omega)⟩⟩⟩⟩
  exact bX0_hasPipe_0 hb (L (s 0 2) 0 (by omega) rfl)
theorem pLkN_row (f j : Nat) (h : f < 30 ∨ 3 ≤ j) : pLkN t n s f j = s f j := by
  unfold pLkN
  repeat' split
  all_goals first | rfl | exact pF_row f j (by omega) | exact pA_row f j (by omega)
theorem pBtN_row (f j : Nat) (h : f < 30 ∨ 3 ≤ j) : pBtN t n s f j = s f j := by
  unfold pBtN
  repeat' split
  all_goals first | rfl | exact pF_row f j (by omega) | exact pA_row f j (by omega)
theorem pPpN_row {p : Nat} (f j : Nat) (h : f < 30 ∨ 3 ≤ j) : pPpN t n s p f j = s f j := by
  unfold pPpN
  repeat' split
  all_goals first | rfl | exact pF_row f j (by omega) | exact pA_row f j (by omega)
theorem pSpN_row (f j : Nat) (h : f < 30 ∨ 3 ≤ j) : pSpN t n s f j = s f j := by
  unfold pSpN
  repeat' split
  all_goals first | rfl | exact pF_row f j (by omega) | exact pA_row f j (by omega)
theorem S_readLock (hT : TF t n T) (h : SRd t n T b σ s) (hV : CV s) (h3 : s 0 1 < 3) (H : ∀ τ : MS, SB (rdL b) σ τ → SRd t n T b τ (pLockL t n s) → Q none τ) : R mj_OC (d + 1 + 1 + 1 + 1) mX7_readLock Q 0 [some (rV 1 0), none, none, none, none] [] σ := by
  have b2 : b < 2 := h.1.2.1
  refine bX7_readLock_0 (S_place hT h (fun pl hpl => bX7_readLock_7 (S_toldPond hT h hV.nb' (fun τ v h1 h2 h3' => ?_))))
  have K : ∀ υ : MS, SB (rdL b) σ υ → SRd t n T b υ (pLkN t n s) → (pLkN t n s 30 1 = 0 → v = nI (pd t n s)) → R mj_OC (d + 1 + 1 + 1) mX7_number (fun r σ' => R mj_OC (d + 1 + 1 + 1 + 1) mX7_readLock Q 49 [some (rV 1 0), some (iV (nI pl)), some (iV v), none, none] (r.toList ++ []) σ') 0 [some (rV 1 0), some (iV (0 : Int32)), some (iV (199 : Int32)), none, none] [] υ := by
    intro υ u1 u2 u3
    refine S_number (lo := 0) (hi := 199) hT (by omega) (by omega) u2 (fun υ1 v1 w1 w2 w3 => bX7_readLock_49 (S_number (lo := 0) (hi := 199) hT (by omega) (by omega) w2 (fun υ2 v2 x1 x2 x3 => bX7_readLock_58 ⟨fun z => ?_, fun z => ⟨by rw [x2.1.1]; exact b2, ?_⟩⟩)))
    · refine H υ2 ((u1.tr w1).tr x1) ?_
      unfold pLockL pAddL
      rw [if_neg (fun e => z (x2.z.mpr e))]
      exact x2
    · have f2 := x2.z.mp z
      have f1 := pN_0 f2
      have f0 := pN_0 f1
      rw [x2.1.1, u3 f0, (w3 f1).1, (x3 f2).1]
      refine S_addLock x2 f2 ?_ (fun υ3 z1 z2 => bX7_readLock_81 (H υ3 (((u1.tr w1).tr x1).tr z1) z2))
      rw [pN_row 0 1 (by omega), pN_row 0 1 (by omega), pLkN_row 0 1 (by omega)]
      exact h3
  refine bX7_readLock_12 ⟨fun z => ?_, fun z => ⟨by rw [h2.1.1]; exact b2, ?_⟩⟩
  · have nf : ¬ pPond t n s 30 1 = 0 := fun e => z (h2.z.mpr e)
    exact K τ h1 (by rw [pLkN_f nf]; exact h2) (fun q => by rw [pLkN_f nf] at q; exact absurd q nf)
  · have f0 := h2.z.mp z
    obtain ⟨hf, k22, hg, eP⟩ := pPond_0 f0
    obtain ⟨p, hp, ev⟩ := h3' f0
    rw [hg] at hp
    injection hp with hp
    rw [← hp] at ev
    have C := (h2.2.2.2.2.2 f0).1
    have plt := gNm_lt hg
    have np := hV.np
    rw [h2.1.1, ev]
    refine S_ofPond (s := s) b2 (by omega) (by have := C.nl; rw [pPo_row 0 1 (by omega)] at this; exact this) (fun l hl => ⟨?_, by have := (hV.lock hl).1; omega⟩) (by omega) ?_
    · have := C.lpond (p := l) (by rw [pPo_row 0 1 (by omega)]; exact hl)
      rw [pPo_row 6 l (by omega)] at this
      exact this
    · have K' := K
      rw [ev] at K'
      cases hq : qLk s (pd t n s) with
      | none =>
        have eL : pLkN t n s = pAdv s := by unfold pLkN; rw [if_pos hf, if_pos k22, if_neg (by rw [hg]; simp), if_pos hq]
        exact bX7_readLock_31 ⟨fun _ => K' τ h1 (by rw [eL, ← eP]; exact h2) (fun _ => rfl), fun y => absurd rfl y⟩
      | some l =>
        have eL : pLkN t n s = pFail s 3 (kp t n s) := by unfold pLkN; rw [if_pos hf, if_pos k22, if_neg (by rw [hg]; simp), if_neg (by rw [hq]; simp)]
        have nf : ¬ pLkN t n s 30 1 = 0 := by rw [eL, (pF_0 hf).1]; omega
        have := qLk_lt hq
        refine bX7_readLock_31 ⟨fun y => absurd y (nI_m1 (by omega)), fun _ => ?_⟩
        rw [hpl hf] at K' ⊢
        refine S_fail (e := 3) (by omega) h2 (fun υ u1 u2 => bX7_readLock_41 (K' υ (h1.tr u1) ?_ (fun q => absurd q nf)))
        rw [eL]
        exact SRd.late hf (by omega) f0 (pPo_row 0 0 (by omega)) u2
theorem S_readBoat (hT : TF t n T) (h : SRd t n T b σ s) (hV : CV s) (h8 : s 0 4 < 8) (H : ∀ τ : MS, SB (rdL b) σ τ → SRd t n T b τ (pBoatL t n s) → Q none τ) : R mj_OC (d + 1 + 1 + 1 + 1) mX7_readBoat Q 0 [some (rV 1 0), none, none, none, none] [] σ := by
  have b2 : b < 2 := h.1.2.1
  refine bX7_readBoat_0 (S_place hT h (fun pl hpl => bX7_readBoat_7 (S_toldPond hT h hV.nb' (fun τ v h1 h2 h3' => ?_))))
  have K : ∀ (υ : MS) (lk : Int32), SB (rdL b) σ υ → SRd t n T b υ (pBtN t n s) → (pBtN t n s 30 1 = 0 → lk = nI ((qLk s (pd t n s)).getD 0)) → R mj_OC (d + 1 + 1 + 1) mX7_number (fun r σ' => R mj_OC (d + 1 + 1 + 1 + 1) mX7_readBoat Q 54 [some (rV 1 0), some (iV (nI pl)), some (iV v), some (iV lk), none] (r.toList ++ []) σ') 0 [some (rV 1 0), some (iV (0 : Int32)), some (iV (99 : Int32)), none, none] [] υ := by
    intro υ lk u1 u2 u3
    refine S_number (lo := 0) (hi := 99) hT (by omega) (by omega) u2 (fun υ1 v1 w1 w2 w3 => bX7_readBoat_54 ⟨fun z => ?_, fun z => ⟨by rw [w2.1.1]; exact b2, ?_⟩⟩)
    · refine H υ1 (u1.tr w1) ?_
      unfold pBoatL pAddB
      rw [if_neg (fun e => z (w2.z.mpr e))]
      exact w2
    · have f1 := w2.z.mp z
      have f0 := pN_0 f1
      rw [w2.1.1, u3 f0, (w3 f1).1]
      refine S_addBoat w2 f1 ?_ (fun υ3 z1 z2 => bX7_readBoat_76 (H υ3 ((u1.tr w1).tr z1) z2))
      rw [pN_row 0 4 (by omega), pBtN_row 0 4 (by omega)]
      exact h8
  refine bX7_readBoat_12 ⟨fun z => ⟨fun y => absurd rfl y, fun _ => ?_⟩, fun z => ⟨by rw [h2.1.1]; exact b2, ?_⟩⟩
  · have nf : ¬ pPond t n s 30 1 = 0 := fun e => z (h2.z.mpr e)
    refine S_fail (e := 4) (by omega) h2 (fun υ u1 u2 => bX7_readBoat_47 (K υ _ (h1.tr u1) ?_ (fun q => by rw [pBtN_f nf] at q; exact absurd q nf)))
    rw [pFail_f nf] at u2; rw [pBtN_f nf]; exact u2
  · have f0 := h2.z.mp z
    obtain ⟨hf, k22, hg, eP⟩ := pPond_0 f0
    obtain ⟨p, hp, ev⟩ := h3' f0
    rw [hg] at hp
    injection hp with hp
    rw [← hp] at ev
    have C := (h2.2.2.2.2.2 f0).1
    have plt := gNm_lt hg
    have np := hV.np
    have nl := hV.nl
    rw [h2.1.1, ev]
    refine S_ofPond (s := s) b2 nl (by have := C.nl; rw [pPo_row 0 1 (by omega)] at this; exact this) (fun l hl => ⟨?_, by have := (hV.lock hl).1; omega⟩) (by omega) ?_
    · have := C.lpond (p := l) (by rw [pPo_row 0 1 (by omega)]; exact hl)
      rw [pPo_row 6 l (by omega)] at this
      exact this
    · have K' := K
      rw [ev] at K'
      cases hq : qLk s (pd t n s) with
      | none =>
        have eL : pBtN t n s = pFail s 4 (kp t n s) := by unfold pBtN; rw [if_pos hf, if_pos k22, if_neg (by rw [hg]; simp), if_pos hq]
        have nf : ¬ pBtN t n s 30 1 = 0 := by rw [eL, (pF_0 hf).1]; omega
        refine bX7_readBoat_31 ⟨fun y => absurd rfl y, fun _ => ?_⟩
        rw [hpl hf] at K' ⊢
        refine S_fail (e := 4) (by omega) h2 (fun υ u1 u2 => bX7_readBoat_47 (K' υ _ (h1.tr u1) ?_ (fun q => absurd q nf)))
        rw [eL]
        exact SRd.late hf (by omega) f0 (pPo_row 0 0 (by omega)) u2
      | some l =>
        have eL : pBtN t n s = pAdv s := by unfold pBtN; rw [if_pos hf, if_pos k22, if_neg (by rw [hg]; simp), if_neg (by rw [hq]; simp)]
        have := qLk_lt hq
        exact bX7_readBoat_31 ⟨fun _ => K' τ _ h1 (by rw [eL, ← eP]; exact h2) (fun _ => by rw [hq]; rfl), fun y => absurd y (nI_m1 (by omega))⟩
end Po
