/-! upWhen, still -/
def gUp (c : CA) (q : Nat) : Nat → Nat → SA → Int32
  | 0, _, _ => -2
  | n + 1, i, s => if s 5 q = 2 then nI i else gUp c q n (i + 1) (gMinute c md0 s)
def gUpWhen (c : CA) (s : SA) (x : Int32) : Int32 := match gIx x (c 0 4) with
  | none => -1
  | some q => gUp c q 200 0 s
def gStl (c : CA) : Nat → Nat → SA → Nat × SA
  | 0, r, s => (r, s)
  | m + 1, r, s => if (gLp (gAllF c) 0 (c 0 2) (0, s)).1 ≤ 0 then (r, (gLp (gAllF c) 0 (c 0 2) (0, s)).2) else gStl c m (r + 1) (gLp (gAllF c) 0 (c 0 2) (0, s)).2
def gStill (c : CA) (s : SA) (w x : Int32) : Int32 := if gHalf w = true then (if w = 1 ∧ gIx x (c 0 0) = none then -1 else if w = 0 then nI (gStl c 99 0 s).1 else (gStl c 99 0 s).2 4 x.toNatClampNeg) else -1
section Qy
variable {d : Nat} {Q : Option MV → MS → Prop} {σ : MS} {b k : Nat} {c : CA} {s : SA} {md : MD}
theorem S_upWhen (h : WK σ b c s) (ht : SVt s) (hg : gT s ≤ 9900) {x : Int32} (H : ∀ τ, SX wqL σ τ → Q (some (iV (gUpWhen c s x))) τ) : R mj_OC (d + 1 + 1 + 1 + 1 + 1 + 1) mX10_upWhen Q 0 [some (rV 0 0), some (iV x), none] [] σ := by
  have V := h.V
  have nb := V.nb
  refine bX10_upWhen_0 (S_isBoat h (fun q hq ex e => bX10_upWhen_5 ⟨fun _ => ?_, fun z => absurd z (by decide)⟩) (fun e => bX10_upWhen_5 ⟨fun z => absurd rfl z, fun _ => by have := H σ SX.rf; rw [gUpWhen, e] at this; exact this⟩))
  have H1 : ∀ τ, SX wqL σ τ → Q (some (iV (gUp c q 200 0 s))) τ := fun τ hτ => by have := H τ hτ; rw [gUpWhen, e] at this; exact this
  subst ex
  refine S_trial h (fun τ hτ h1 h2 => bX10_upWhen_21 (S_asItGoes (fun υ hυ hm => bX10_upWhen_28 ?_)))
  have h3 : SC υ 2 b c s := h2.keep hυ rfl rfl
  have xυ : SX wqL σ υ := hτ.tr (hυ.x.wq (by decide))
  have L : ∀ (m i : Nat) (s' : SA) (φ : MS), i + m = 200 → SX wqL σ φ → SC φ 2 b c s' → MR φ md0 → SVt s' → gT s' + m ≤ 100000 → (∀ τ, SX wqL σ τ → Q (some (iV (gUp c q m i s'))) τ) → R mj_OC (d + 1 + 1 + 1 + 1 + 1 + 1) mX10_upWhen Q 30 [some (rV 0 0), some (iV (nI q)), some (iV (nI i))] [] φ := by
    intro m
    induction m with
    | zero =>
      intro i s' φ hi hx hs hm ht hg H
      have : i = 200 := by omega
      subst this
      exact bX10_upWhen_30 ⟨fun _ => H φ hx, fun z => absurd (by decide) z⟩
    | succ m ih =>
      intro i s' φ hi hx hs hm ht hg H
      refine bX10_upWhen_30 ⟨fun z => ?_, fun _ => ⟨vin hq (by omega) (by decide), fun z => ?_, fun z => ?_⟩⟩
      · rw [show (199 : Int32) = nI 199 from rfl, nI_ltI (by omega) (by omega)] at z; omega
      · rw [cl hq (by omega), hs.sg hq] at z
        refine S_oneMinute hs hm ht (MV0 c) (fun ψ hψ h4 => bX10_upWhen_63 ?_)
        have st := ht.step (c := c) (md := md0) (by omega)
        rw [nI_1]
        refine ih (i + 1) _ ψ (by omega) (hx.tr (hψ.x.wq (mL_wq h.lt))) h4 (hm.stp hψ) st.1 (by rw [st.2]; omega) (fun τ hτ => ?_)
        have := H τ hτ
        rw [gUp, if_neg z] at this; exact this
      · rw [cl hq (by omega), hs.sg hq] at z
        have := H φ hx
        rw [gUp, if_pos z] at this; exact this
  exact L 200 0 s υ rfl xυ h3 hm ht (by omega) H1
theorem M_upWhen (h : MB σ 0 c s) (hm : MM σ md0) (ht : SVt s) (hg : gT s ≤ 9900) (hin : sIn c s) {x : Int32} (H : ∀ τ, XQ σ τ → Q (some (iV (gUpWhen c s x))) τ) : R mj_OM (d + 1 + 1 + 1 + 1 + 1 + 1 + 1 + 1) mX11_upWhen Q 0 [some (rV 45 0), some (iV x), none] [] σ := by
  have V := h.2.2.1
  have nb := V.nb
  have h1 := XQ.t.mb h (by decide)
  have hm1 : MM (uI σ 45 0 0 0) md0 := hm.keepY (L := []) (J := [0]) (SY.u45 (by simp)) (by simp)
  refine bX11_upWhen_0 (M_isBoat h1.2.1 V (fun q hq ex e => bX11_upWhen_10 ⟨fun _ => ?_, fun z => absurd z (by decide)⟩) (fun e => bX11_upWhen_10 ⟨fun z => absurd rfl z, fun _ => by have := H _ XQ.t; rw [gUpWhen, e] at this; exact this⟩))
  have H1 : ∀ τ, XQ σ τ → Q (some (iV (gUp c q 200 0 s))) τ := fun τ hτ => by have := H τ hτ; rw [gUpWhen, e] at this; exact this
  subst ex
  refine M_copies (k := 1) (k2 := 0) (by decide) (by decide) (fun υ hυ hk hc => bX11_upWhen_21 ?_)
  have h3 : MB υ 1 c s := hc c s h1
  have hm3 : MM υ md0 := hm1.keep hυ (by decide)
  have xυ : XQ σ υ := XQ.t.tr (XQ.ofK hυ hk)
  have L : ∀ (m i : Nat) (s' : SA) (φ : MS), i + m = 200 → XQ σ φ → MB φ 1 c s' → MM φ md0 → SVt s' → gT s' + m ≤ 100000 → sIn c s' → (∀ τ, XQ σ τ → Q (some (iV (gUp c q m i s'))) τ) → R mj_OM (d + 1 + 1 + 1 + 1 + 1 + 1 + 1 + 1) mX11_upWhen Q 23 [some (rV 45 0), some (iV (nI q)), some (iV (nI i))] [] φ := by
    intro m
    induction m with
    | zero =>
      intro i s' φ hi hx hs hm ht hg hin H
      have : i = 200 := by omega
      subst this
      exact bX11_upWhen_23 ⟨fun _ => H φ hx, fun z => absurd (by decide) z⟩
    | succ m ih =>
      intro i s' φ hi hx hs hm ht hg hin H
      have e8 : (8 : Int32) + nI q = nI (8 * 1 + q) := by rw [show (8 : Int32) = nI 8 from rfl, nI_add]
      refine bX11_upWhen_23 ⟨fun z => ?_, fun _ => ⟨?_, fun z => ?_, fun z => ?_⟩⟩
      · rw [show (199 : Int32) = nI 199 from rfl, nI_ltI (by omega) (by omega)] at z; omega
      · rw [e8]; exact vin (show 8 * 1 + q < 184 by omega) (Nat.le_refl _) (by decide)
      · rw [e8, nI_clamp (by omega), hs.st hq] at z
        refine M_passes (k := 1) (md := md0) hs hm ht (MV0 c) hin (fun ψ hψ h4 => bX11_upWhen_51 ?_)
        have st := ht.step (c := c) (md := md0) (by omega)
        rw [nI_1]
        refine ih (i + 1) _ ψ (by omega) (hx.tr (XQ.ofZ hψ)) h4 (hm.keepY hψ.1 (by simp)) st.1 (by rw [st.2]; omega) (gMinute_in V hin ht) (fun τ hτ => ?_)
        have := H τ hτ
        rw [gUp, if_neg z] at this; exact this
      · rw [e8, nI_clamp (by omega), hs.st hq] at z
        have := H φ hx
        rw [gUp, if_pos z] at this; exact this
  exact L 200 0 s υ rfl xυ h3 hm3 ht (by omega) hin H1
end Qy
