/-! still -/
section Qz
variable {d : Nat} {Q : Option MV → MS → Prop} {σ : MS} {b k : Nat} {c : CA} {s : SA} {md : MD}
theorem gAllF_3 (c : CA) : ∀ (n i : Nat) (x : Int32 × SA), (gLp (gAllF c) i n x).2 3 0 = x.2 3 0 := by
  intro n
  induction n with
  | zero => intro i x; rfl
  | succ n ih =>
    intro i x
    rw [gLp, ih]
    unfold gAllF
    split
    · rfl
    · simp [gFlow, gMove, sU]
theorem S_still (h : WK σ b c s) {w x : Int32} (H : ∀ τ, SX wqL σ τ → Q (some (iV (gStill c s w x))) τ) : R mj_OC (d + 1 + 1 + 1 + 1 + 1) mX10_still Q 0 [some (rV 0 0), some (iV w), some (iV x), none] [] σ := by
  have V := h.V
  have np := V.np
  have body : gHalf w = true → ¬ (w = 1 ∧ gIx x (c 0 0) = none) → (¬ w = 0 → ∃ p, p < c 0 0 ∧ x = nI p) → R mj_OC (d + 1 + 1 + 1 + 1) mX8_become (fun r σ' => R mj_OC (d + 1 + 1 + 1 + 1 + 1) mX10_still Q 33 [some (rV 0 0), some (iV w), some (iV x), none] (r.toList ++ []) σ') 0 [some (rV 6 2), some (rV 6 0), none] [] σ := by
    intro gh g1 gp
    have H1 : ∀ τ, SX wqL σ τ → Q (some (iV (if w = 0 then nI (gStl c 99 0 s).1 else (gStl c 99 0 s).2 4 x.toNatClampNeg))) τ := fun τ hτ => by
      have := H τ hτ; rw [gStill, if_pos gh, if_neg g1] at this; exact this
    refine S_trial h (fun υ xυ h1 h2 => bX10_still_33 ?_)
    have L : ∀ (m i : Nat) (s' : SA) (φ : MS), i + m = 99 → SX wqL σ φ → SC φ 2 b c s' → (∀ τ, SX wqL σ τ → Q (some (iV (if w = 0 then nI (gStl c m i s').1 else (gStl c m i s').2 4 x.toNatClampNeg))) τ) → R mj_OC (d + 1 + 1 + 1 + 1 + 1) mX10_still Q 35 [some (rV 0 0), some (iV w), some (iV x), some (iV (nI i))] [] φ := by
      intro m
      induction m with
      | zero =>
        intro i s' φ hi hx hs H
        have : i = 99 := by omega
        subst this
        replace H := H φ hx
        refine bX10_still_35 ⟨fun _ => ⟨fun w0 => ?_, fun w0 => ?_⟩, fun z => absurd (by decide) z⟩
        · obtain ⟨p, hp, ex⟩ := gp w0
          subst ex
          rw [if_neg w0, cl hp (by omega)] at H
          rw [cl hp (by omega), hs.wr hp]
          exact ⟨vin hp (by omega) (by decide), H⟩
        · rw [if_pos w0] at H; exact H
      | succ m ih =>
        intro i s' φ hi hx hs H
        refine bX10_still_35 ⟨fun z => ?_, fun _ => ?_⟩
        · rw [show (99 : Int32) = nI 99 from rfl, nI_le2 (by omega) (by omega)] at z; omega
        · refine S_runAll hs (fun ψ hψ h4 => bX10_still_48 ⟨fun z => ?_, fun z => ?_⟩)
          · have hx2 : SX wqL σ ψ := hx.tr (hψ.x.wq (by decide))
            replace H := H ψ hx2
            rw [gStl, if_pos z] at H
            refine ⟨fun w0 => ?_, fun w0 => ?_⟩
            · obtain ⟨p, hp, ex⟩ := gp w0
              subst ex
              rw [if_neg w0, cl hp (by omega)] at H
              rw [cl hp (by omega), h4.wr hp]
              exact ⟨vin hp (by omega) (by decide), H⟩
            · rw [if_pos w0] at H; exact H
          · rw [nI_1]
            refine ih (i + 1) _ ψ (by omega) (hx.tr (hψ.x.wq (by decide))) h4 (fun τ hτ => ?_)
            have := H τ hτ
            rw [gStl, if_neg z] at this; exact this
    exact L 99 0 s υ rfl xυ h2 H1
  refine bX10_still_0 (S_isHalf (fun g g3 => bX10_still_4 ⟨fun z => absurd z (by decide), fun _ => ⟨fun w1 => ?_, fun w1 => ?_⟩⟩) (fun g => bX10_still_4 ⟨fun _ => ?_, fun z => absurd rfl z⟩))
  · exact body g (fun q => w1 q.1) (fun w0 => absurd (g3.elim (fun z => absurd z w0) (fun z => z.2)) w1)
  · refine S_isPond h (fun p hp ex e => bX10_still_17 ⟨fun _ => ?_, fun z => absurd z (by decide)⟩) (fun e => bX10_still_17 ⟨fun z => absurd rfl z, fun _ => ?_⟩)
    · exact body g (fun q => by rw [e] at q; exact absurd q.2 (by simp)) (fun _ => ⟨p, hp, ex⟩)
    · have := H σ SX.rf
      rw [gStill, if_pos g, if_pos ⟨w1, e⟩] at this; exact this
  · have := H σ SX.rf
    rw [gStill, if_neg (by rw [g]; decide)] at this; exact this
theorem M_runsAll {s0 : SA} (h0 : MB σ 0 c s0) (h : MB σ 1 c s) (ej : s0 3 0 = s 3 0) (H : ∀ τ, SZ 1 σ τ → MB τ 1 c (gLp (gAllF c) 0 (c 0 2) (0, s)).2 → Q (some (iV (gLp (gAllF c) 0 (c 0 2) (0, s)).1)) τ) : R mj_OM (d + 1 + 1 + 1 + 1 + 1 + 1) mX11_runsAll Q 0 [some (rV 45 0), none, none] [] σ := by
  have V := h.2.2.1
  have nk := V.nk
  have L : ∀ (m i : Nat) (x : Int32 × SA) (φ : MS), i + m = c 0 2 → SZ 1 σ φ → MB φ 1 c x.2 → x.2 3 0 = s 3 0 → (∀ τ, SZ 1 σ τ → MB τ 1 c (gLp (gAllF c) i m x).2 → Q (some (iV (gLp (gAllF c) i m x).1)) τ) → R mj_OM (d + 1 + 1 + 1 + 1 + 1 + 1) mX11_runsAll Q 4 [some (rV 45 0), some (iV x.1), some (iV (nI i))] [] φ := by
    intro m
    induction m with
    | zero =>
      intro i x φ hi hz hb he H
      refine bX11_runsAll_4 ⟨vin (p := 2) (n := 9) (by omega) (by omega) (by decide), fun _ => H φ hz hb, fun z => ?_⟩
      rw [hb.2.1.nk, show c 0 2 = i by omega] at z; exact absurd (Int32.le_refl _) z
    | succ m ih =>
      intro i x φ hi hz hb he H
      have hik : i < c 0 2 := by omega
      have hb0 : MB φ 0 c s0 := (XQ.ofZ hz).mb h0 (by decide)
      have ejam : gJam s0 i ↔ (x.2 3 0 >>> (nI i &&& 31)) &&& 1 = 1 := by unfold gJam; rw [ej, he]
      rw [gLp] at H
      refine bX11_runsAll_4 ⟨vin (p := 2) (n := 9) (by omega) (by omega) (by decide), fun z => ?_, fun _ => ?_⟩
      · rw [hb.2.1.nk, nI_le2 (by omega) (by omega)] at z; omega
      · refine M_isJammed (k := 0) hb0 (fun g => bX11_runsAll_21 ⟨fun z => absurd z (by decide), fun _ => ?_⟩) (fun g => bX11_runsAll_21 ⟨fun _ => ?_, fun z => absurd rfl z⟩)
        · have e : gAllF c i x = x := by rw [gAllF, if_pos (ejam.mp g)]
          rw [e] at H
          rw [Int32.add_zero, nI_1]
          exact ih (i + 1) x φ (by omega) hz hb he H
        · have e : gAllF c i x = (x.1 + (gFlow c x.2 i 2147483647).1, (gFlow c x.2 i 2147483647).2) := by rw [gAllF, if_neg (fun q => g (ejam.mpr q))]
          rw [e] at H
          refine M_flows (k := 1) hb hik (fun ψ hψ hk h4 => bX11_runsAll_37 ?_)
          rw [nI_1]
          exact ih (i + 1) (x.1 + (gFlow c x.2 i 2147483647).1, (gFlow c x.2 i 2147483647).2) ψ (by omega) (hz.tr (hψ.z (by simp) (by simp [mmL]) hk)) h4 (by rw [← he]; simp [gFlow, gMove, sU]) H
  exact bX11_runsAll_0 (L (c 0 2) 0 (0, s) σ (by omega) SZ.rf h rfl H)
theorem M_still (h : MB σ 0 c s) {w x : Int32} (H : ∀ τ, XQ σ τ → Q (some (iV (gStill c s w x))) τ) : R mj_OM (d + 1 + 1 + 1 + 1 + 1 + 1 + 1) mX11_still Q 0 [some (rV 45 0), some (iV w), some (iV x), none] [] σ := by
  have V := h.2.2.1
  have np := V.np
  have h1 := XQ.t.mb h (by decide)
  have body : gHalf w = true → ¬ (w = 1 ∧ gIx x (c 0 0) = none) → (¬ w = 0 → ∃ p, p < c 0 0 ∧ x = nI p) → R mj_OM (d + 1 + 1 + 1 + 1 + 1 + 1) mX11_copies (fun r σ' => R mj_OM (d + 1 + 1 + 1 + 1 + 1 + 1 + 1) mX11_still Q 33 [some (rV 45 0), some (iV w), some (iV x), none] (r.toList ++ []) σ') 0 [some (rV 45 0), some (iV (nI 1)), some (iV (nI 0)), none] [] (uI σ 45 0 0 0) := by
    intro gh g1 gp
    have H1 : ∀ τ, XQ σ τ → Q (some (iV (if w = 0 then nI (gStl c 99 0 s).1 else (gStl c 99 0 s).2 4 x.toNatClampNeg))) τ := fun τ hτ => by
      have := H τ hτ; rw [gStill, if_pos gh, if_neg g1] at this; exact this
    refine M_copies (k := 1) (k2 := 0) (by decide) (by decide) (fun υ hυ hk hc => bX11_still_33 ?_)
    have xυ : XQ σ υ := XQ.t.tr (XQ.ofK hυ hk)
    have e7 : ∀ p : Nat, (7 : Int32) + nI p = nI (7 * 1 + p) := fun p => by rw [show (7 : Int32) = nI 7 from rfl, nI_add]
    have L : ∀ (m i : Nat) (s' : SA) (φ : MS), i + m = 99 → XQ σ φ → MB φ 1 c s' → s' 3 0 = s 3 0 → (∀ τ, XQ σ τ → Q (some (iV (if w = 0 then nI (gStl c m i s').1 else (gStl c m i s').2 4 x.toNatClampNeg))) τ) → R mj_OM (d + 1 + 1 + 1 + 1 + 1 + 1 + 1) mX11_still Q 35 [some (rV 45 0), some (iV w), some (iV x), some (iV (nI i))] [] φ := by
      intro m
      induction m with
      | zero =>
        intro i s' φ hi hx hs he H
        have : i = 99 := by omega
        subst this
        replace H := H φ hx
        refine bX11_still_35 ⟨fun _ => ⟨fun w0 => ?_, fun w0 => ?_⟩, fun z => absurd (by decide) z⟩
        · obtain ⟨p, hp, ex⟩ := gp w0
          subst ex
          rw [if_neg w0, cl hp (by omega)] at H
          rw [e7, nI_clamp (by omega), hs.w hp]
          exact ⟨vin (show 7 * 1 + p < 161 by omega) (Nat.le_refl _) (by decide), H⟩
        · rw [if_pos w0] at H; exact H
      | succ m ih =>
        intro i s' φ hi hx hs he H
        have h0 : MB φ 0 c s := hx.mb h (by decide)
        refine bX11_still_35 ⟨fun z => ?_, fun _ => ?_⟩
        · rw [show (99 : Int32) = nI 99 from rfl, nI_le2 (by omega) (by omega)] at z; omega
        · refine M_runsAll h0 hs he.symm (fun ψ hψ h4 => bX11_still_45 ⟨fun z => ?_, fun z => ?_⟩)
          · have hx2 : XQ σ ψ := hx.tr (XQ.ofZ hψ)
            replace H := H ψ hx2
            rw [gStl, if_pos z] at H
            refine ⟨fun w0 => ?_, fun w0 => ?_⟩
            · obtain ⟨p, hp, ex⟩ := gp w0
              subst ex
              rw [if_neg w0, cl hp (by omega)] at H
              rw [e7, nI_clamp (by omega), h4.w hp]
              exact ⟨vin (show 7 * 1 + p < 161 by omega) (Nat.le_refl _) (by decide), H⟩
            · rw [if_pos w0] at H; exact H
          · rw [nI_1]
            refine ih (i + 1) _ ψ (by omega) (hx.tr (XQ.ofZ hψ)) h4 ((gAllF_3 c _ _ _).trans he) (fun τ hτ => ?_)
            have := H τ hτ
            rw [gStl, if_neg z] at this; exact this
    exact L 99 0 s υ rfl xυ (hc c s h1) rfl H1
  refine bX11_still_0 (M_isPart (fun g g3 => bX11_still_9 ⟨fun z => absurd z (by decide), fun _ => ⟨fun w1 => ?_, fun w1 => ?_⟩⟩) (fun g => bX11_still_9 ⟨fun _ => ?_, fun z => absurd rfl z⟩))
  · exact body g (fun q => w1 q.1) (fun w0 => absurd (g3.elim (fun z => absurd z w0) (fun z => z.2)) w1)
  · refine M_isPond h1.2.1 V (fun p hp ex e => bX11_still_22 ⟨fun _ => ?_, fun z => absurd z (by decide)⟩) (fun e => bX11_still_22 ⟨fun z => absurd rfl z, fun _ => ?_⟩)
    · exact body g (fun q => by rw [e] at q; exact absurd q.2 (by simp)) (fun _ => ⟨p, hp, ex⟩)
    · have := H _ XQ.t
      rw [gStill, if_pos g, if_pos ⟨w1, e⟩] at this; exact this
  · have := H _ XQ.t
    rw [gStill, if_neg (by rw [g]; decide)] at this; exact this
end Qz
