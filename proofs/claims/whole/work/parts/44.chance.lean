/-! chance -/
def md1 : MD := (true, 0, 0, none, 0)
theorem MV1 (c : CA) : MV' c md1 := ⟨fun z => absurd z (by decide), fun p hp => (by simp [md1] at hp), by decide⟩
def gCh (c : CA) (s : SA) (k n : Nat) : Nat → Int32 → Int32 → Int32
  | 0, _, t => t
  | m + 1, x, t => gCh c s k n m (gMinutes c md1 n (sU s 1 0 x) 1 0) (if bt (gMinutes c md1 n (sU s 1 0 x) 3 0) k = true then t + 1 else t)
def gChance (c : CA) (s : SA) (x n y : Int32) : Int32 := if x < 0 ∨ n < 1 ∨ 99 < n then -1 else match gIx y (c 0 2) with
  | none => -1
  | some k => gCh c s k n.toNatClampNeg 10 x 0
section Ra
variable {d : Nat} {Q : Option MV → MS → Prop} {σ : MS} {b k : Nat} {c : CA} {s : SA} {md : MD}
theorem MR.drawn (h : MR σ md0) : MR (uI σ 7 0 0 1) md1 := by
  unfold MR at *
  simp only [md0, md1] at *
  simp [uI]
  simpa using h.2
theorem MM.one (h : MM σ md0) : MM σ md1 := by
  unfold MM at *
  simp only [md0, md1] at *
  exact h
theorem S_chance (h : WK σ b c s) (ht : SVt s) (hg : gT s ≤ 9900) {x n y : Int32} (H : ∀ τ, SX wqL σ τ → Q (some (iV (gChance c s x n y))) τ) : R mj_OC (d + 1 + 1 + 1 + 1 + 1 + 1 + 1) mX10_chance Q 0 [some (rV 0 0), some (iV x), some (iV n), some (iV y), none, none, none] [] σ := by
  have V := h.V
  have nk := V.nk
  have H0 := H σ SX.rf
  have no : (x < 0 ∨ n < 1 ∨ 99 < n) → Q (some (iV (-1))) σ := fun g => by rw [gChance, if_pos g] at H0; exact H0
  refine bX10_chance_0 ⟨fun z => no (Or.inl z), fun x0 => ⟨fun z => no (Or.inr (Or.inl z)), fun n1 => ⟨fun z => no (Or.inr (Or.inr z)), fun n9 => ?_⟩⟩⟩
  have ng : ¬ (x < 0 ∨ n < 1 ∨ 99 < n) := fun g => g.elim x0 (fun g => g.elim n1 n9)
  have n0 : ¬ n < 0 := fun z => n1 (Int32.lt_trans z (by decide))
  obtain ⟨m, hm9, rfl⟩ := nI_of2 (M := 99) (n := 99) (by decide) n0 (Int32.not_lt.mp n9)
  refine S_isPipe h (fun k hk ey e => bX10_chance_20 ⟨fun _ => ?_, fun z => absurd z (by decide)⟩) (fun e => bX10_chance_20 ⟨fun z => absurd rfl z, fun _ => by rw [gChance, if_neg ng, e] at H0; exact H0⟩)
  have H1 : ∀ τ, SX wqL σ τ → Q (some (iV (gCh c s k m 10 x 0))) τ := fun τ hτ => by
    have := H τ hτ; rw [gChance, if_neg ng, e] at this
    simp only at this
    rw [nI_clamp (by omega)] at this; exact this
  subst ey
  refine S_asItGoes (fun υ hυ hm => bX10_chance_38 ?_)
  have xυ : SX wqL σ (uI υ 7 0 0 1) := (hυ.x.wq (by decide)).tr (SX.uI (by decide))
  have L : ∀ (i r : Nat) (z t : Int32) (φ : MS), r + i = 10 → SX wqL σ φ → MR φ md1 → (∀ τ, SX wqL σ τ → Q (some (iV (gCh c s k m i z t))) τ) → R mj_OC (d + 1 + 1 + 1 + 1 + 1 + 1 + 1) mX10_chance Q 49 [some (rV 0 0), some (iV x), some (iV (nI m)), some (iV (nI k)), some (iV z), some (iV t), some (iV (nI r))] [] φ := by
    intro i
    induction i with
    | zero =>
      intro r z t φ hr hx hm H
      have : r = 10 := by omega
      subst this
      exact bX10_chance_49 ⟨fun _ => H φ hx, fun z => absurd (by decide) z⟩
    | succ i ih =>
      intro r z t φ hr hx hm H
      have hW := h.q hx
      refine bX10_chance_49 ⟨fun z => ?_, fun _ => ?_⟩
      · rw [show (10 : Int32) = nI 10 from rfl, nI_le2 (by omega) (by omega)] at z; omega
      · refine S_become (o := 2) (o2 := 0) (by decide) (by decide) hW.2 (fun ψ hψ h2 _ => bX10_chance_67 ?_)
        have hmψ : MR ψ md1 := by unfold MR; rw [(hψ 7 0 (by decide)).1]; exact hm
        have h3 : SC (uI ψ 6 2 7 z) 2 b c (sU s 1 0 z) := h2.uI6 (Or.inr (Or.inl ⟨rfl, rfl⟩))
        have hm3 : MR (uI ψ 6 2 7 z) md1 := hmψ.keep (L := [(6, 2)]) (SB.uI (by simp)) (by decide)
        have x3 : SX wqL σ (uI ψ 6 2 7 z) := (hx.tr (hψ.wq (by decide))).tr (SX.uI (by decide))
        have ht3 : SVt (sU s 1 0 z) := ht.of (by simp [sU])
        have eT : gT (sU s 1 0 z) = gT s := by unfold gT; simp [sU]
        refine S_advance h3 hm3 ht3 (MV1 c) (n := m) (by omega) (fun χ hχ h4 => bX10_chance_88 ?_)
        have x4 : SX wqL σ χ := x3.tr (hχ.x.wq (mL_wq h.lt))
        have m4 : MR χ md1 := hm3.stp hχ
        rw [h4.nr]
        have ej : gJam (gMinutes c md1 m (sU s 1 0 z)) k ↔ bt (gMinutes c md1 m (sU s 1 0 z) 3 0) k = true := bt_sh (by omega)
        refine S_isJammed h4 (fun g => bX10_chance_105 ⟨fun q => absurd q (by decide), fun _ => ?_⟩) (fun g => bX10_chance_105 ⟨fun _ => ?_, fun q => absurd rfl q⟩)
        · rw [nI_1]
          refine ih (r + 1) _ _ χ (by omega) x4 m4 (fun τ hτ => ?_)
          have := H τ hτ
          rw [gCh, if_pos (ej.mp g)] at this; exact this
        · rw [nI_1]
          refine ih (r + 1) _ _ χ (by omega) x4 m4 (fun τ hτ => ?_)
          have := H τ hτ
          rw [gCh, if_neg (fun q => g (ej.mpr q))] at this; exact this
  exact L 10 0 x 0 _ rfl xυ hm.drawn H1
/-- the reference's minutes by numbers -/
theorem M_chanceRun {x4 x5 x6 : Int32} {x : Int32} {m k : Nat} (hm9 : m ≤ 99) : ∀ (n i : Nat) (s : SA) (σ : MS), i + n = m → MB σ 1 c s → MM σ md1 → SVt s → gT s + n ≤ 100000 → sIn c s → (∀ τ, SZ 1 σ τ → MB τ 1 c (gMinutes c md1 n s) → R mj_OM (d + 1 + 1 + 1 + 1 + 1 + 1 + 1 + 1) mX11_chance Q 63 [some (rV 45 0), some (iV x), some (iV (nI m)), some (iV (nI k)), some (iV x4), some (iV x5), some (iV x6), some (iV (nI m))] [] τ) → R mj_OM (d + 1 + 1 + 1 + 1 + 1 + 1 + 1 + 1) mX11_chance Q 63 [some (rV 45 0), some (iV x), some (iV (nI m)), some (iV (nI k)), some (iV x4), some (iV x5), some (iV x6), some (iV (nI i))] [] σ := by
  intro n
  induction n with
  | zero =>
    intro i s σ hi h hm ht hg hin H
    have : i = m := by omega
    subst this
    exact H σ SZ.rf h
  | succ n ih =>
    intro i s σ hi h hm ht hg hin H
    refine bX11_chance_63 ⟨fun z => ?_, fun _ => ?_⟩
    · rw [nI_le2 (by omega) (by omega)] at z; omega
    · refine M_passes (k := 1) (md := md1) h hm ht (MV1 c) hin (fun τ hτ h1 => bX11_chance_75 ?_)
      have st := ht.step (c := c) (md := md1) (by omega)
      rw [nI_1]
      exact ih (i + 1) _ τ (by omega) h1 (hm.keepY hτ.1 (by simp)) st.1 (by rw [st.2]; omega) (gMinute_in h.2.2.1 hin ht) (fun υ hυ h2 => H υ (hτ.tr hυ) h2)
theorem M_chance (h : MB σ 0 c s) (hm : MM σ md0) (ht : SVt s) (hg : gT s ≤ 9900) (hin : sIn c s) {x n y : Int32} (H : ∀ τ, XQ σ τ → Q (some (iV (gChance c s x n y))) τ) : R mj_OM (d + 1 + 1 + 1 + 1 + 1 + 1 + 1 + 1) mX11_chance Q 0 [some (rV 45 0), some (iV x), some (iV n), some (iV y), none, none, none, none] [] σ := by
  have V := h.2.2.1
  have nk := V.nk
  have h1 := XQ.t.mb h (by decide)
  have hm1 : MM (uI σ 45 0 0 0) md0 := hm.keepY (L := []) (J := [0]) (SY.u45 (by simp)) (by simp)
  have H0 := H _ XQ.t
  have no : (x < 0 ∨ n < 1 ∨ 99 < n) → Q (some (iV (-1))) (uI σ 45 0 0 0) := fun g => by rw [gChance, if_pos g] at H0; exact H0
  refine bX11_chance_0 ⟨fun z => no (Or.inl z), fun x0 => ⟨fun z => no (Or.inr (Or.inl z)), fun n1 => ⟨fun z => no (Or.inr (Or.inr z)), fun n9 => ?_⟩⟩⟩
  have ng : ¬ (x < 0 ∨ n < 1 ∨ 99 < n) := fun g => g.elim x0 (fun g => g.elim n1 n9)
  have n0 : ¬ n < 0 := fun z => n1 (Int32.lt_trans z (by decide))
  obtain ⟨m, hm9, rfl⟩ := nI_of2 (M := 99) (n := 99) (by decide) n0 (Int32.not_lt.mp n9)
  refine M_isPipe h1.2.1 V (fun k hk ey e => bX11_chance_25 ⟨fun _ => ?_, fun z => absurd z (by decide)⟩) (fun e => bX11_chance_25 ⟨fun z => absurd rfl z, fun _ => by rw [gChance, if_neg ng, e] at H0; exact H0⟩)
  have H1 : ∀ τ, XQ σ τ → Q (some (iV (gCh c s k m 10 x 0))) τ := fun τ hτ => by
    have := H τ hτ; rw [gChance, if_neg ng, e] at this
    simp only at this
    rw [nI_clamp (by omega)] at this; exact this
  subst ey
  have v1 : vp_in (1 : Int32) 23 := vin (p := 1) (n := 23) (by omega) (by omega) (by decide)
  have L : ∀ (i r : Nat) (z t : Int32) (φ : MS), r + i = 10 → XQ σ φ → MM φ md0 → (∀ τ, XQ σ τ → Q (some (iV (gCh c s k m i z t))) τ) → R mj_OM (d + 1 + 1 + 1 + 1 + 1 + 1 + 1 + 1) mX11_chance Q 39 [some (rV 45 0), some (iV x), some (iV (nI m)), some (iV (nI k)), some (iV z), some (iV t), some (iV (nI r)), none] [] φ := by
    intro i
    induction i with
    | zero =>
      intro r z t φ hr hx hm H
      have : r = 10 := by omega
      subst this
      exact bX11_chance_39 ⟨fun _ => H φ hx, fun z => absurd (by decide) z⟩
    | succ i ih =>
      intro r z t φ hr hx hm H
      have hb := hx.mb h (by decide)
      refine bX11_chance_39 ⟨fun z => ?_, fun _ => ?_⟩
      · rw [show (10 : Int32) = nI 10 from rfl, nI_le2 (by omega) (by omega)] at z; omega
      · refine M_copies (k := 1) (k2 := 0) (by decide) (by decide) (fun ψ hψ hk2 hc => bX11_chance_52 ⟨v1, ?_⟩)
        have h2 : MB ψ 1 c s := hc c s hb
        have m2 : MM ψ md0 := hm.keep hψ (by decide)
        have h3 : MB (uI ψ 71 0 1 z) 1 c (sU s 1 0 z) := h2.u70 (f := 1) (by omega)
        have z3 : SZ 1 ψ (uI ψ 71 0 1 z) := SZ.u70 (f := 1) (by omega)
        have m3 : MM (uI ψ 71 0 1 z) md0 := m2.keepY z3.1 (by simp)
        have x3 : XQ σ (uI ψ 71 0 1 z) := (hx.tr (XQ.ofK hψ hk2)).tr (XQ.ofZ z3)
        have ht3 : SVt (sU s 1 0 z) := ht.of (by simp [sU])
        have eT : gT (sU s 1 0 z) = gT s := by unfold gT; simp [sU]
        have in3 : sIn c (sU s 1 0 z) := hin.of (by simp [sU]) (fun q => by simp [sU])
        refine M_chanceRun hm9 m 0 (sU s 1 0 z) _ (by omega) h3 m3.one ht3 (by omega) in3 (fun χ hχ h4 => ?_)
        have x4 : XQ σ χ := x3.tr (XQ.ofZ hχ)
        have m4 : MM χ md0 := m3.keepY hχ.1 (by simp)
        have ej : gJam (gMinutes c md1 m (sU s 1 0 z)) k ↔ bt (gMinutes c md1 m (sU s 1 0 z) 3 0) k = true := bt_sh (by omega)
        refine bX11_chance_63 ⟨fun _ => ⟨v1, ?_⟩, fun q => absurd (Int32.le_refl _) q⟩
        rw [h4.2.2.2.2.1]
        refine M_isJammed (k := 1) h4 (fun g => bX11_chance_97 ⟨fun q => absurd q (by decide), fun _ => ?_⟩) (fun g => bX11_chance_97 ⟨fun _ => ?_, fun q => absurd rfl q⟩)
        · rw [nI_1]
          refine ih (r + 1) _ _ χ (by omega) x4 m4 (fun τ hτ => ?_)
          have := H τ hτ
          rw [gCh, if_pos (ej.mp g)] at this; exact this
        · rw [nI_1, Int32.add_zero]
          refine ih (r + 1) _ _ χ (by omega) x4 m4 (fun τ hτ => ?_)
          have := H τ hτ
          rw [gCh, if_neg (fun q => g (ej.mpr q))] at this; exact this
  exact L 10 0 x 0 _ rfl XQ.t hm1 H1
end Ra
