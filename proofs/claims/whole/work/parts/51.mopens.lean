/-! openings: the reference's searches -/
/-- but for the water alike -/
def eqW (t s : SA) : Prop := ∀ f j : Nat, f ≠ 4 → s f j = t f j
theorem eqW.rf {s : SA} : eqW s s := fun _ _ _ => rfl
theorem eqW.tr {s t u : SA} (h1 : eqW s t) (h2 : eqW t u) : eqW s u := fun f j hf => (h2 f j hf).trans (h1 f j hf)
theorem eqW.sy {s t : SA} (h1 : eqW s t) : eqW t s := fun f j hf => (h1 f j hf).symm
theorem eqW.flw (c : CA) (s : SA) (k : Nat) : eqW s (fl c s k) := fun f j hf => by simp [fl, gFlow, gMove, sU, hf]
/-- a row of water kept aside -/
def WBy (σ : MS) (c : CA) (dep : Nat) (s : SA) : Prop := ∀ p : Nat, p < 7 → σ.1 77 0 (7 * dep + p) = if p < c 0 0 then s 4 p else 0
section Rh
variable {d : Nat} {c : CA} {s t s0 : SA} {p fr : Nat} {x : Int32} {σ : MS}
theorem WBy.keep {τ : MS} {dep : Nat} (h : WBy σ c dep s) (e : ∀ q, q < 7 → τ.1 77 0 (7 * dep + q) = σ.1 77 0 (7 * dep + q)) : WBy τ c dep s := fun q hq => by rw [e q hq]; exact h q hq
theorem M_laysWater {Q : Option MV → MS → Prop} {dep : Nat} (h : MB σ 1 c t) (hw : WBy σ c dep s) (he : eqW t s) (hd : dep ≤ 4) (H : ∀ τ : MS, SB [(74, 0)] σ τ → (∀ j, j ≠ 1 → KS σ τ j) → MB τ 1 c s → Q none τ) : R mj_OM d mX11_laysWater Q 0 [some (rV 45 0), some (iV (nI dep)), none] [] σ := by
  have L : ∀ (r i : Nat) (φ : MS), i + r = 7 → SB [(74, 0)] σ φ → (∀ j, j ≠ 1 → KS σ φ j) → (∀ q, q < i → φ.1 74 0 (7 * 1 + q) = σ.1 77 0 (7 * dep + q)) → R mj_OM d mX11_laysWater Q 2 [some (rV 45 0), some (iV (nI dep)), some (iV (nI i))] [] φ := by
    intro r
    induction r with
    | zero =>
      intro i φ hi hb hk hv
      obtain rfl : i = 7 := by omega
      refine bX11_laysWater_2 ⟨fun _ => H φ hb hk ?_, fun z => absurd (by decide) z⟩
      obtain ⟨_, C, V, s1, s2, s3, s4, s5, s6, s7⟩ := h
      refine ⟨by omega, C.keep hb rfl, V, ?_⟩
      have e : ∀ kk, kk ≠ 74 → ∀ j, φ.1 kk 0 j = σ.1 kk 0 j := fun kk hkk j => hb.i (by simp [hkk]) j
      refine ⟨?_, ?_, ?_, ?_, fun q hq => ?_, fun q hq => ?_, fun q hq => ?_⟩
      · rw [e 70 (by decide), s1, he 0 0 (by decide)]
      · rw [e 71 (by decide), s2, he 1 0 (by decide)]
      · rw [e 72 (by decide), s3, he 2 0 (by decide)]
      · rw [e 73 (by decide), s4, he 3 0 (by decide)]
      · rw [hv q hq, hw q hq]
      · rw [e 75 (by decide), s6 q hq, he 5 q (by decide)]
      · rw [e 76 (by decide), s7 q hq, he 6 q (by decide)]
    | succ r ih =>
      intro i φ hi hb hk hv
      have e7 : (7 : Int32) + nI i = nI (7 * 1 + i) := by rw [show (7 : Int32) = nI 7 from rfl, nI_add]
      refine bX11_laysWater_2 ⟨fun z => ?_, fun _ => ?_⟩
      · rw [show (7 : Int32) = nI 7 from rfl, nI_le2 (by omega) (by omega)] at z; omega
      · rw [ix7, e7, nI_clamp (by omega), nI_clamp (by omega), nI_1]
        refine ⟨vin (show 7 * dep + i < 35 by omega) (Nat.le_refl _) (by decide), vin (show 7 * 1 + i < 161 by omega) (Nat.le_refl _) (by decide), ih (i + 1) _ (by omega) (hb.tr (SB.uI (by simp))) (fun j hj => (hk j hj).tr (KS.u74 hj (by omega))) (fun q hq => ?_)⟩
        by_cases e : q = i
        · subst e
          simp only [uI, and_self, if_true]
          exact hb.i (by simp) _
        · have : ¬ 7 * 1 + q = 7 * 1 + i := by omega
          simp only [uI, this, and_false, if_false]
          exact hv q (by omega)
  exact bX11_laysWater_0 (L 7 0 σ rfl SB.rf (fun _ _ => KS.rf) (fun q hq => by omega))
theorem M_takes {Q : Option MV → MS → Prop} {dep : Nat} (h : MB σ 1 c s) (hd : dep ≤ 4) (H : ∀ τ : MS, SB [(77, 0)] σ τ → WBy τ c dep s → (∀ e q, e ≠ dep → q < 7 → τ.1 77 0 (7 * e + q) = σ.1 77 0 (7 * e + q)) → Q none τ) : R mj_OM d mX11_takes Q 0 [some (rV 45 0), some (iV (nI dep)), none] [] σ := by
  have L : ∀ (r i : Nat) (φ : MS), i + r = 7 → SB [(77, 0)] σ φ → (∀ e q, e ≠ dep → q < 7 → φ.1 77 0 (7 * e + q) = σ.1 77 0 (7 * e + q)) → (∀ q, q < i → φ.1 77 0 (7 * dep + q) = σ.1 74 0 (7 * 1 + q)) → R mj_OM d mX11_takes Q 2 [some (rV 45 0), some (iV (nI dep)), some (iV (nI i))] [] φ := by
    intro r
    induction r with
    | zero =>
      intro i φ hi hb hk hv
      obtain rfl : i = 7 := by omega
      refine bX11_takes_2 ⟨fun _ => H φ hb (fun q hq => ?_) hk, fun z => absurd (by decide) z⟩
      rw [hv q hq, h.2.2.2.2.2.2.2.1 q hq]
    | succ r ih =>
      intro i φ hi hb hk hv
      have e7 : (7 : Int32) + nI i = nI (7 * 1 + i) := by rw [show (7 : Int32) = nI 7 from rfl, nI_add]
      refine bX11_takes_2 ⟨fun z => ?_, fun _ => ?_⟩
      · rw [show (7 : Int32) = nI 7 from rfl, nI_le2 (by omega) (by omega)] at z; omega
      · rw [ix7, e7, nI_clamp (by omega), nI_clamp (by omega), nI_1]
        refine ⟨vin (show 7 * 1 + i < 161 by omega) (Nat.le_refl _) (by decide), vin (show 7 * dep + i < 35 by omega) (Nat.le_refl _) (by decide), ih (i + 1) _ (by omega) (hb.tr (SB.uI (by simp))) (fun e q he hq => ?_) (fun q hq => ?_)⟩
        · have : ¬ 7 * e + q = 7 * dep + i := by omega
          simp only [uI, this, and_false, if_false]
          exact hk e q he hq
        · by_cases e : q = i
          · subst e
            simp only [uI, and_self, if_true]
            exact hb.i (by simp) _
          · have : ¬ 7 * dep + q = 7 * dep + i := by omega
            simp only [uI, this, and_false, if_false]
            exact hv q (by omega)
  exact bX11_takes_0 (L 7 0 σ rfl SB.rf (fun _ _ _ _ => rfl) (fun q hq => by omega))
theorem XQ.of74 {σ τ : MS} (h : SB [(74, 0)] σ τ) (hk : ∀ j, j ≠ 1 → KS σ τ j) : XQ σ τ := ⟨(h.y (J := mqJ) (by decide)).wk (by decide) (fun _ q => q), hk⟩
theorem XQ.of77 {σ τ : MS} (h : SB [(77, 0)] σ τ) : XQ σ τ := ⟨(h.y (J := mqJ) (by decide)).wk (by decide) (fun _ q => q), fun j _ => KS.of h rfl j⟩
theorem gUj_eq (e : eqW s0 s) (k : Nat) : gUj s k = true ↔ ¬ gJam s0 k := by
  unfold gUj gJam
  rw [e 3 0 (by decide)]; simp
/-- what the search stands on -/
def MO (σ : MS) (c : CA) (s0 : SA) (p : Nat) (x : Int32) : Prop := MB σ 0 c s0 ∧ σ.1 45 0 55 = nI p ∧ σ.1 45 0 56 = x
theorem MO.k {τ : MS} {L : List (Nat × Nat)} (h : MO σ c s0 p x) (hs : SB L σ τ) (hL : (45, 0) ∉ L) (hq : XQ σ τ) : MO τ c s0 p x := ⟨hq.mb h.1 (by decide), by rw [hs.i hL]; exact h.2.1, by rw [hs.i hL]; exact h.2.2⟩
theorem M_opensTo (hp : p < c 0 0) : ∀ (m dep : Nat) (s : SA) (σ : MS) (Q : Option MV → MS → Prop), dep + m ≤ 4 → MO σ c s0 p x → MB σ 1 c s → WBy σ c dep s → eqW s0 s → (∀ τ : MS, XQ σ τ → MO τ c s0 p x → (∃ t, MB τ 1 c t ∧ eqW s0 t) → (∀ e q, e ≤ dep → q < 7 → τ.1 77 0 (7 * e + q) = σ.1 77 0 (7 * e + q)) → (gRO c (hbO c p x) m s = false ∨ m = 0 → τ.1 45 0 54 = σ.1 45 0 54) → (∀ n, m = n + 1 → gRO c (hbO c p x) m s = true → τ.1 45 0 54 = gRF c (hbO c p x) n s) → Q (some (iV (i01 (gRO c (hbO c p x) m s)))) τ) → R mj_OM (d + m + 1 + 1 + 1 + 1 + 1 + 1) mX11_opensTo Q 0 [some (rV 45 0), some (iV (nI dep)), some (iV (nI (dep + m))), none] [] σ := by
  intro m
  induction m with
  | zero =>
    intro dep s σ Q hd ho hm hw he H
    have H1 := H σ XQ.rf ho ⟨s, hm, he⟩ (fun _ _ _ _ => rfl) (fun _ => rfl) (fun n hn => absurd hn (by omega))
    refine bX11_opensTo_0 ⟨fun z => absurd rfl z, fun _ => ?_⟩
    rw [ho.2.1, ho.2.2]
    refine M_isHigh (k := 1) hm hp (fun g => bX11_opensTo_18 ⟨rfl, ?_⟩) (fun g => bX11_opensTo_18 ⟨rfl, ?_⟩)
    · rw [gRO, hbO, decide_eq_true g] at H1; exact H1
    · rw [gRO, hbO, decide_eq_false g] at H1; exact H1
  | succ m ih =>
    intro dep s σ Q hd ho hm hw he H
    have V := hm.2.2.1
    have nk := V.nk
    have ne : ¬ nI dep = nI (dep + (m + 1)) := fun z => by rw [nI_inj (by omega) (by omega)] at z; omega
    have L : ∀ (r i : Nat) (φ : MS), i + r = c 0 2 → (∀ j, j < i → (gUj s j && gRO c (hbO c p x) m (fl c s j)) = false) → XQ σ φ → MO φ c s0 p x → (∃ t, MB φ 1 c t ∧ eqW s0 t) → (∀ e q, e ≤ dep → q < 7 → φ.1 77 0 (7 * e + q) = σ.1 77 0 (7 * e + q)) → φ.1 45 0 54 = σ.1 45 0 54 → R mj_OM (d + (m + 1) + 1 + 1 + 1 + 1 + 1 + 1) mX11_opensTo Q 21 [some (rV 45 0), some (iV (nI dep)), some (iV (nI (dep + (m + 1)))), some (iV (nI i))] [] φ := by
      intro r
      induction r with
      | zero =>
        intro i φ hi hn hx hq ht hr h54
        obtain rfl : i = c 0 2 := by omega
        have e : gFd (fun k => gUj s k && gRO c (hbO c p x) m (fl c s k)) 0 (c 0 2) = -1 := gFd_none _ _ (fun j _ h => hn j (by omega))
        have e2 : gRO c (hbO c p x) (m + 1) s = false := by rw [gRO, e]; rfl
        have H1 := H φ hx hq ht hr (fun _ => h54) (fun n _ h => by rw [e2] at h; exact absurd h (by decide))
        rw [e2] at H1
        refine bX11_opensTo_21 ⟨vin (p := 2) (n := 3) (by omega) (by omega) (by decide), fun _ => H1, fun z => ?_⟩
        rw [hq.1.2.1.nk] at z; exact absurd (Int32.le_refl _) z
      | succ r ihr =>
        intro i φ hi hn hx hq ht hr h54
        have hik : i < c 0 2 := by omega
        have next : (gUj s i && gRO c (hbO c p x) m (fl c s i)) = false → ∀ φ' : MS, XQ σ φ' → MO φ' c s0 p x → (∃ t, MB φ' 1 c t ∧ eqW s0 t) → (∀ e q, e ≤ dep → q < 7 → φ'.1 77 0 (7 * e + q) = σ.1 77 0 (7 * e + q)) → φ'.1 45 0 54 = σ.1 45 0 54 → R mj_OM (d + (m + 1) + 1 + 1 + 1 + 1 + 1 + 1) mX11_opensTo Q 21 [some (rV 45 0), some (iV (nI dep)), some (iV (nI (dep + (m + 1)))), some (iV (nI i + 1))] [] φ' := fun g φ' a1 a2 a3 a4 a5 => by
          rw [nI_1]
          refine ihr (i + 1) φ' (by omega) (fun j hj => ?_) a1 a2 a3 a4 a5
          by_cases e : j = i
          · subst e; exact g
          · exact hn j (by omega)
        refine bX11_opensTo_21 ⟨vin (p := 2) (n := 3) (by omega) (by omega) (by decide), fun z => ?_, fun _ => ?_⟩
        · rw [hq.1.2.1.nk, nI_le2 (by omega) (by omega)] at z; omega
        refine M_isJammed (k := 0) hq.1 (fun g => bX11_opensTo_37 ⟨fun z => absurd z (by decide), fun _ => next ?_ φ hx hq ht hr h54⟩) (fun g => bX11_opensTo_37 ⟨fun _ => ?_, fun z => absurd rfl z⟩)
        · have : gUj s i = false := by
            cases e : gUj s i with
            | false => rfl
            | true => exact absurd g ((gUj_eq he i).mp e)
          rw [this]; rfl
        have gu : gUj s i = true := (gUj_eq he i).mpr g
        obtain ⟨t, ht1, ht2⟩ := ht
        refine M_laysWater (dep := dep) ht1 ((hw.keep (fun q hq => hr dep q (Nat.le_refl _) hq))) (ht2.sy.tr he) (by omega) (fun ψ b1 b2 b3 => bX11_opensTo_48 (M_flows (k := 1) b3 hik (fun χ c1 c2 c3 => bX11_opensTo_57 ?_)))
        rw [nI_1]
        refine M_takes (dep := dep + 1) (s := fl c s i) c3 (by omega) (fun υ d1 d2 d3 => bX11_opensTo_65 ?_)
        have x1 : XQ φ ψ := XQ.of74 b1 b2
        have x2 : XQ ψ χ := XQ.of74 c1 c2
        have x3 : XQ χ υ := XQ.of77 d1
        have xa : XQ φ υ := (x1.tr x2).tr x3
        have sa : SB [(74, 0), (77, 0)] φ υ := ((b1.wk (by simp)).tr (c1.wk (by simp))).tr (d1.wk (by simp))
        have mo : MO υ c s0 p x := hq.k sa (by simp) xa
        have mb : MB υ 1 c (fl c s i) := c3.sy d1 rfl rfl
        have rows : ∀ e q, e ≤ dep → q < 7 → υ.1 77 0 (7 * e + q) = σ.1 77 0 (7 * e + q) := fun e q h1 h2 => by
          rw [d3 e q (by omega) h2, c1.i (by simp), b1.i (by simp)]; exact hr e q h1 h2
        rw [nI_1, show dep + (m + 1) = dep + 1 + m by omega]
        refine ih (dep + 1) (fl c s i) υ _ (by omega) mo mb d2 (he.tr (eqW.flw c s i)) (fun ω w1 w2 w3 w4 w5 w6 => bX11_opensTo_73 ⟨fun z => ?_, fun z => ?_⟩)
        · have g2 : gRO c (hbO c p x) m (fl c s i) = true := by
            cases e : gRO c (hbO c p x) m (fl c s i) with
            | true => rfl
            | false => rw [e] at z; exact absurd rfl z
          have ef : gFd (fun k => gUj s k && gRO c (hbO c p x) m (fl c s k)) 0 (c 0 2) = nI i := gFd_some (by rw [gu, g2]; rfl) _ _ (by omega) (by omega) (fun j _ h => hn j h)
          have eR : gRO c (hbO c p x) (m + 1) s = true := by
            rw [gRO, ef]
            have : ¬ nI i = -1 := fun z => by
              have := nI_pos (n := i) (by omega)
              rw [z] at this; exact this (by decide)
            simp [this]
          have xw : XQ ω (uI ω 45 0 54 (nI i)) := XQ.u45 (by decide)
          have H1 := H (uI ω 45 0 54 (nI i)) (((hx.tr xa).tr w1).tr xw) ⟨xw.mb w2.1 (by decide), by simp [uI]; exact w2.2.1, by simp [uI]; exact w2.2.2⟩ (by
            obtain ⟨t, t1, t2⟩ := w3
            exact ⟨t, t1.sy (L := [(45, 0)]) (SB.uI (by simp)) rfl rfl, t2⟩) (fun e q h1 h2 => by
              have : (uI ω 45 0 54 (nI i)).1 77 0 (7 * e + q) = ω.1 77 0 (7 * e + q) := by simp [uI]
              rw [this, w4 e q (by omega) h2, rows e q h1 h2]) (fun h => by
              rcases h with h | h
              · rw [eR] at h; exact absurd h (by decide)
              · exact absurd h (by omega)) (fun n hn _ => by
              obtain rfl : n = m := by omega
              rw [gRF, ef]; simp [uI])
          rw [eR] at H1
          exact H1
        · have g2 : gRO c (hbO c p x) m (fl c s i) = false := by
            cases e : gRO c (hbO c p x) m (fl c s i) with
            | false => rfl
            | true => rw [e] at z; exact absurd z (by decide)
          have := next (by rw [g2, Bool.and_false]) ω ((hx.tr xa).tr w1) w2 w3 (fun e q h1 h2 => by rw [w4 e q (by omega) h2, rows e q h1 h2]) (by rw [w5 (Or.inl g2), sa.i (by simp)]; exact h54)
          rw [show dep + (m + 1) = dep + 1 + m by omega] at this
          exact this
    exact bX11_opensTo_0 ⟨fun _ => L (c 0 2) 0 σ (by omega) (fun j hj => by omega) XQ.rf ho ⟨s, hm, he⟩ (fun _ _ _ _ => rfl) rfl, fun z => absurd z ne⟩
theorem M_seeks {Q : Option MV → MS → Prop} (h : MB σ 0 c s) (H : ∀ τ : MS, XQ σ τ → MO τ c s p x → MB τ 1 c s → WBy τ c 0 s → τ.1 45 0 54 = -2 → Q none τ) : R mj_OM (d + 1) mX11_seeks Q 0 [some (rV 45 0), some (iV (nI p)), some (iV x)] [] σ := by
  refine bX11_seeks_0 (M_copies (k := 1) (k2 := 0) (by decide) (by decide) (fun τ hτ hk hc => bX11_seeks_6 ?_))
  have h1 : MB τ 1 c s := hc c s h
  refine M_takes (dep := 0) h1 (by omega) (fun υ u1 u2 u3 => bX11_seeks_11 ?_)
  have x1 : XQ σ υ := (XQ.ofK hτ hk).tr (XQ.of77 u1)
  have x2 : XQ υ (uI (uI (uI υ 45 0 54 (-2 : Int32)) 45 0 55 (nI p)) 45 0 56 x) := ((XQ.u45 (by decide)).tr (XQ.u45 (by decide))).tr (XQ.u45 (by decide))
  have sb : SB [(45, 0)] υ (uI (uI (uI υ 45 0 54 (-2 : Int32)) 45 0 55 (nI p)) 45 0 56 x) := ((SB.uI (by simp)).tr (SB.uI (by simp))).tr (SB.uI (by simp))
  refine H _ (x1.tr x2) ⟨(x1.tr x2).mb h (by decide), by simp [uI], by simp [uI]⟩ ((h1.sy u1 rfl rfl).sy sb rfl rfl) (u2.keep (fun q _ => sb.i (by simp) _)) (by simp [uI])
theorem M_fewestBy {Q : Option MV → MS → Prop} (hp : p < c 0 0) (h : MB σ 0 c s) (H : ∀ τ : MS, XQ σ τ → (¬ (gFB c (hbO c p x) s 5 0).1 = -2 → τ.1 45 0 54 = (gFB c (hbO c p x) s 5 0).2) → Q (some (iV (gFB c (hbO c p x) s 5 0).1)) τ) : R mj_OM (d + 4 + 1 + 1 + 1 + 1 + 1 + 1 + 1) mX11_fewestBy Q 0 [some (rV 45 0), some (iV (nI p)), some (iV x), none] [] σ := by
  refine bX11_fewestBy_0 (M_seeks h (fun τ t1 t2 t3 t4 t5 => bX11_fewestBy_6 ?_))
  have L : ∀ (r i : Nat) (φ : MS), i + r = 5 → XQ σ φ → MO φ c s p x → (∃ t, MB φ 1 c t ∧ eqW s t) → WBy φ c 0 s → φ.1 45 0 54 = -2 → gFB c (hbO c p x) s 5 0 = gFB c (hbO c p x) s r i → R mj_OM (d + 4 + 1 + 1 + 1 + 1 + 1 + 1 + 1) mX11_fewestBy Q 8 [some (rV 45 0), some (iV (nI p)), some (iV x), some (iV (nI i))] [] φ := by
    intro r
    induction r with
    | zero =>
      intro i φ hi hx hq ht hw h5 e
      obtain rfl : i = 5 := by omega
      have H1 := H φ hx
      rw [e, gFB] at H1
      exact bX11_fewestBy_8 ⟨fun _ => H1 (fun z => absurd rfl z), fun z => absurd (by decide) z⟩
    | succ r ih =>
      intro i φ hi hx hq ht hw h5 e
      obtain ⟨t, ht1, ht2⟩ := ht
      refine bX11_fewestBy_8 ⟨fun z => ?_, fun _ => ?_⟩
      · rw [show (4 : Int32) = nI 4 from rfl, nI_ltI (by omega) (by omega)] at z; omega
      refine M_laysWater (dep := 0) ht1 hw ht2.sy (by omega) (fun ψ b1 b2 b3 => bX11_fewestBy_18 ?_)
      have x1 : XQ φ ψ := XQ.of74 b1 b2
      have mo := hq.k b1 (by simp) x1
      have key := M_opensTo (d := d + (4 - i)) (s0 := s) (x := x) hp i 0 s ψ (fun r σ' => R mj_OM (d + 4 + 1 + 1 + 1 + 1 + 1 + 1 + 1) mX11_fewestBy Q 24 [some (rV 45 0), some (iV (nI p)), some (iV x), some (iV (nI i))] (r.toList ++ []) σ') (by omega) mo b3 (hw.keep (fun q _ => b1.i (by simp) _)) eqW.rf (fun ω w1 w2 w3 w4 w5 w6 => bX11_fewestBy_24 ⟨fun z => ?_, fun z => ?_⟩)
      · rw [show d + (4 - i) + i = d + 4 by omega, Nat.zero_add] at key
        exact key
      · have g2 : gRO c (hbO c p x) i s = false := by
          cases e : gRO c (hbO c p x) i s with
          | false => rfl
          | true => rw [e] at z; exact absurd z (by decide)
        rw [nI_1]
        refine ih (i + 1) ω (by omega) ((hx.tr x1).tr w1) w2 w3 (hw.keep (fun q hq => by rw [w4 0 q (by omega) hq, b1.i (by simp)])) (by rw [w5 (Or.inl g2), b1.i (by simp)]; exact h5) ?_
        rw [e, gFB, if_neg (by rw [g2]; decide)]
      · have g2 : gRO c (hbO c p x) i s = true := by
          cases e : gRO c (hbO c p x) i s with
          | true => rfl
          | false => rw [e] at z; exact absurd rfl z
        have H1 := H ω ((hx.tr x1).tr w1)
        rw [e, gFB, if_pos g2] at H1
        refine H1 (fun _ => ?_)
        cases i with
        | zero => rw [w5 (Or.inr rfl), b1.i (by simp)]; exact h5
        | succ i => rw [w6 i rfl g2]; simp
  exact L 5 0 τ rfl t1 t2 ⟨s, t3, eqW.rf⟩ t4 t5 rfl
theorem gFB_1 (hb : SA → Bool) (s : SA) : ∀ (m i : Nat), i + m ≤ 100 → (gFB c hb s m i).1 = -2 ∧ (gFB c hb s m i).2 = -2 ∨ 0 ≤ (gFB c hb s m i).1 := by
  intro m
  induction m with
  | zero => intro i _; exact Or.inl ⟨rfl, rfl⟩
  | succ m ih =>
    intro i hi
    rw [gFB]
    split
    · exact Or.inr (nI_pos' (by omega))
    · exact ih (i + 1) (by omega)
theorem M_fewest {Q : Option MV → MS → Prop} (h : MB σ 0 c s) {x y w : Int32} (H : ∀ τ, XQ σ τ → Q (some (iV (gFewest c s x y w))) τ) : R mj_OM (d + 4 + 1 + 1 + 1 + 1 + 1 + 1 + 1 + 1) mX11_fewest Q 0 [some (rV 45 0), some (iV x), some (iV y), some (iV w), none] [] σ := by
  have V := h.2.2.1
  have h1 := XQ.t.mb h (by decide)
  have H0 := H _ XQ.t
  refine bX11_fewest_0 (M_isPond h1.2.1 V (fun p hp ex e => bX11_fewest_10 ⟨fun z => absurd z (by decide), fun _ => ?_⟩) (fun e => bX11_fewest_10 ⟨fun _ => by rw [gFewest, e] at H0; exact H0, fun z => absurd rfl z⟩))
  refine M_isHeight (fun n hn ey g => bX11_fewest_17 ⟨fun z => absurd z (by decide), fun _ => ?_⟩) (fun g => bX11_fewest_17 ⟨fun _ => by rw [gFewest, e] at H0; simp only at H0; rw [if_neg (by rw [g]; decide)] at H0; exact H0, fun z => absurd rfl z⟩)
  refine M_isPart (fun g2 _ => bX11_fewest_24 ⟨fun _ => ?_, fun z => absurd z (by decide)⟩) (fun g2 => bX11_fewest_24 ⟨fun z => absurd rfl z, fun _ => by rw [gFewest, e] at H0; simp only at H0; rw [if_pos g, if_neg (by rw [g2]; decide)] at H0; exact H0⟩)
  subst ex
  refine M_fewestBy (d := d) hp h1 (fun υ u1 u2 => bX11_fewest_35 ?_)
  have := H υ (XQ.t.tr u1)
  rw [gFewest, e] at this
  simp only at this
  rw [if_pos g, if_pos g2] at this
  refine ⟨fun w0 => ?_, fun w0 => ⟨fun n0 => ?_, fun n0 => ?_⟩⟩
  · rw [if_pos w0] at this; exact this
  · rw [if_neg w0] at this
    rw [u2 (fun z => by rw [z] at n0; exact m2_nle n0)]; exact this
  · rw [if_neg w0] at this
    rcases gFB_1 (c := c) (hbO c p y) s 5 0 (by omega) with q | q
    · rw [q.1]; rw [q.2] at this; exact this
    · exact absurd q n0
theorem M_drawsBy (hp : p < c 0 0) (hf : fr < c 0 0) : ∀ (m dep : Nat) (s : SA) (L : Int32) (σ : MS) (Q : Option MV → MS → Prop), dep + m = 4 → MO σ c s0 p x → σ.1 45 0 57 = nI fr → σ.1 45 0 58 = L → MB σ 1 c s → WBy σ c dep s → eqW s0 s → (∀ τ : MS, XQ σ τ → MO τ c s0 p x → τ.1 45 0 57 = nI fr → τ.1 45 0 58 = gGL c gUj gNR (hbO c p x) (vlO fr (s0 4 fr)) m s L → (∃ t, MB τ 1 c t ∧ eqW s0 t) → (∀ e q, e ≤ dep → q < 7 → τ.1 77 0 (7 * e + q) = σ.1 77 0 (7 * e + q)) → Q none τ) → R mj_OM (d + m + 1 + 1 + 1 + 1 + 1 + 1) mX11_drawsBy Q 0 [some (rV 45 0), some (iV (nI dep)), none] [] σ := by
  intro m
  induction m with
  | zero =>
    intro dep s L σ Q hd ho h57 h58 hm hw he H
    obtain rfl : dep = 4 := by omega
    have V := hm.2.2.1
    have np := V.np
    have fin : ∀ L' φ, L' = gGL c gUj gNR (hbO c p x) (vlO fr (s0 4 fr)) 0 s L → XQ σ φ → SB [(45, 0)] σ φ → φ.1 45 0 55 = nI p → φ.1 45 0 56 = x → φ.1 45 0 57 = nI fr → φ.1 45 0 58 = L' → R mj_OM (d + 0 + 1 + 1 + 1 + 1 + 1 + 1) mX11_drawsBy Q 68 [some (rV 45 0), some (iV (nI 4)), some (iV (0 : Int32))] [] φ := fun L' φ e hx hb a1 a2 a3 a4 => by
      have q := H φ hx ⟨hx.mb ho.1 (by decide), a1, a2⟩ a3 (by rw [a4, e]) ⟨s, hm.sy hb rfl rfl, he⟩ (fun e q _ _ => hb.i (by simp) _)
      exact bX11_drawsBy_68 ⟨vin (p := 2) (n := 3) (by omega) (by omega) (by decide), fun _ => q, fun _ => ⟨fun _ => q, fun z => absurd (by decide) z⟩⟩
    refine bX11_drawsBy_0 ?_
    rw [ho.2.1, ho.2.2]
    refine M_isHigh (k := 1) hm hp (fun g => bX11_drawsBy_13 ⟨fun z => absurd z (by decide), fun _ => ?_⟩) (fun g => bX11_drawsBy_13 ⟨fun _ => ?_, fun z => absurd rfl z⟩)
    · rw [h57, h58, show (7 : Int32) + nI fr = nI (7 * 1 + fr) from by rw [show (7 : Int32) = nI 7 from rfl, nI_add], nI_clamp (by omega), nI_clamp (by omega), hm.w hf, show σ.1 74 0 fr = s0 4 fr from by have := ho.1.w hf; rwa [Nat.mul_zero, Nat.zero_add] at this]
      refine ⟨vin hf (by omega) (by decide), vin (show 7 * 1 + fr < 161 by omega) (Nat.le_refl _) (by decide), fun g2 => ?_, fun g2 => ?_⟩
      · exact fin (gNR (vlO fr (s0 4 fr) s) L) _ (by rw [gGL, if_pos (show hbO c p x s = true from decide_eq_true g)]) (XQ.u45 (by decide)) (SB.uI (by simp)) (by simp [uI]; exact ho.2.1) (by simp [uI]; exact ho.2.2) (by simp [uI]; exact h57) (by simp only [uI, and_self, if_true]; rw [gNR, if_pos g2]; rfl)
      · exact fin (gNR (vlO fr (s0 4 fr) s) L) _ (by rw [gGL, if_pos (show hbO c p x s = true from decide_eq_true g)]) (XQ.u45 (by decide)) (SB.uI (by simp)) (by simp [uI]; exact ho.2.1) (by simp [uI]; exact ho.2.2) (by simp [uI]; exact h57) (by simp only [uI, and_self, if_true]; rw [gNR, if_neg g2]; rfl)
    · refine fin L _ ?_ XQ.rf SB.rf ho.2.1 ho.2.2 h57 h58
      rw [gGL, if_neg (by simp [hbO]; exact Int32.not_le.mp g)]
  | succ m ih =>
    intro dep s L σ Q hd ho h57 h58 hm hw he H
    have V := hm.2.2.1
    have np := V.np
    have nk := V.nk
    have lp : ∀ (r i : Nat) (L : Int32) (φ : MS), i + r = c 0 2 → XQ σ φ → MO φ c s0 p x → φ.1 45 0 57 = nI fr → φ.1 45 0 58 = L → (∃ t, MB φ 1 c t ∧ eqW s0 t) → (∀ e q, e ≤ dep → q < 7 → φ.1 77 0 (7 * e + q) = σ.1 77 0 (7 * e + q)) → (∀ τ : MS, XQ σ τ → MO τ c s0 p x → τ.1 45 0 57 = nI fr → τ.1 45 0 58 = gLp (fun k L => if gUj s k = true then gGL c gUj gNR (hbO c p x) (vlO fr (s0 4 fr)) m (fl c s k) L else L) i r L → (∃ t, MB τ 1 c t ∧ eqW s0 t) → (∀ e q, e ≤ dep → q < 7 → τ.1 77 0 (7 * e + q) = σ.1 77 0 (7 * e + q)) → Q none τ) → R mj_OM (d + (m + 1) + 1 + 1 + 1 + 1 + 1 + 1) mX11_drawsBy Q 68 [some (rV 45 0), some (iV (nI dep)), some (iV (nI i))] [] φ := by
      intro r
      induction r with
      | zero =>
        intro i L φ hi hx hq h57 h58 ht hr H
        refine bX11_drawsBy_68 ⟨vin (p := 2) (n := 3) (by omega) (by omega) (by decide), fun _ => H φ hx hq h57 h58 ht hr, fun z => ?_⟩
        rw [hq.1.2.1.nk, ← hi] at z; exact absurd (Int32.le_refl _) z
      | succ r ihr =>
        intro i L φ hi hx hq h57 h58 ht hr H
        have hik : i < c 0 2 := by omega
        refine bX11_drawsBy_68 ⟨vin (p := 2) (n := 3) (by omega) (by omega) (by decide), fun z => ?_, fun _ => ⟨fun z => ?_, fun _ => ?_⟩⟩
        · rw [hq.1.2.1.nk, nI_le2 (by omega) (by omega)] at z; omega
        · rw [show (4 : Int32) = nI 4 from rfl, nI_le2 (by omega) (by omega)] at z; omega
        refine M_isJammed (k := 0) hq.1 (fun g => bX11_drawsBy_89 ⟨fun z => absurd z (by decide), fun _ => ?_⟩) (fun g => bX11_drawsBy_89 ⟨fun _ => ?_, fun z => absurd rfl z⟩)
        · have gu : ¬ gUj s i = true := fun e => absurd g ((gUj_eq he i).mp e)
          rw [nI_1]
          refine ihr (i + 1) L φ (by omega) hx hq h57 h58 ht hr (fun τ a1 a2 a3 a4 => H τ a1 a2 a3 ?_)
          rw [gLp, if_neg gu]; exact a4
        have gu : gUj s i = true := (gUj_eq he i).mpr g
        obtain ⟨t, ht1, ht2⟩ := ht
        refine M_laysWater (dep := dep) ht1 ((hw.keep (fun q hq => hr dep q (Nat.le_refl _) hq))) (ht2.sy.tr he) (by omega) (fun ψ b1 b2 b3 => bX11_drawsBy_100 (M_flows (k := 1) b3 hik (fun χ c1 c2 c3 => bX11_drawsBy_109 ?_)))
        rw [nI_1]
        refine M_takes (dep := dep + 1) (s := fl c s i) c3 (by omega) (fun υ d1 d2 d3 => bX11_drawsBy_117 ?_)
        have x1 : XQ φ ψ := XQ.of74 b1 b2
        have x2 : XQ ψ χ := XQ.of74 c1 c2
        have x3 : XQ χ υ := XQ.of77 d1
        have xa : XQ φ υ := (x1.tr x2).tr x3
        have sa : SB [(74, 0), (77, 0)] φ υ := ((b1.wk (by simp)).tr (c1.wk (by simp))).tr (d1.wk (by simp))
        have mo : MO υ c s0 p x := hq.k sa (by simp) xa
        have mb : MB υ 1 c (fl c s i) := c3.sy d1 rfl rfl
        have rows : ∀ e q, e ≤ dep → q < 7 → υ.1 77 0 (7 * e + q) = σ.1 77 0 (7 * e + q) := fun e q h1 h2 => by
          rw [d3 e q (by omega) h2, c1.i (by simp), b1.i (by simp)]; exact hr e q h1 h2
        rw [nI_1]
        refine ih (dep + 1) (fl c s i) L υ _ (by omega) mo (by rw [sa.i (by simp)]; exact h57) (by rw [sa.i (by simp)]; exact h58) mb d2 (he.tr (eqW.flw c s i)) (fun ω w1 w2 w3 w4 w5 w6 => bX11_drawsBy_124 ?_)
        rw [nI_1]
        refine ihr (i + 1) _ ω (by omega) ((hx.tr xa).tr w1) w2 w3 w4 w5 (fun e q h1 h2 => by rw [w6 e q (by omega) h2, rows e q h1 h2]) (fun τ a1 a2 a3 a4 => H τ a1 a2 a3 ?_)
        rw [gLp, if_pos gu]; exact a4
    have fin : ∀ L' φ, L' = (if hbO c p x s = true then gNR (vlO fr (s0 4 fr) s) L else L) → XQ σ φ → SB [(45, 0)] σ φ → φ.1 45 0 55 = nI p → φ.1 45 0 56 = x → φ.1 45 0 57 = nI fr → φ.1 45 0 58 = L' → R mj_OM (d + (m + 1) + 1 + 1 + 1 + 1 + 1 + 1) mX11_drawsBy Q 68 [some (rV 45 0), some (iV (nI dep)), some (iV (0 : Int32))] [] φ := fun L' φ e hx hb a1 a2 a3 a4 => by
      refine lp (c 0 2) 0 L' φ (by omega) hx ⟨hx.mb ho.1 (by decide), a1, a2⟩ a3 a4 ⟨s, hm.sy hb rfl rfl, he⟩ (fun e q _ _ => hb.i (by simp) _) (fun τ t1 t2 t3 t4 => H τ t1 t2 t3 ?_)
      rw [gGL, ← e]; exact t4
    refine bX11_drawsBy_0 ?_
    rw [ho.2.1, ho.2.2]
    refine M_isHigh (k := 1) hm hp (fun g => bX11_drawsBy_13 ⟨fun z => absurd z (by decide), fun _ => ?_⟩) (fun g => bX11_drawsBy_13 ⟨fun _ => ?_, fun z => absurd rfl z⟩)
    · rw [h57, h58, show (7 : Int32) + nI fr = nI (7 * 1 + fr) from by rw [show (7 : Int32) = nI 7 from rfl, nI_add], nI_clamp (by omega), nI_clamp (by omega), hm.w hf, show σ.1 74 0 fr = s0 4 fr from by have := ho.1.w hf; rwa [Nat.mul_zero, Nat.zero_add] at this]
      refine ⟨vin hf (by omega) (by decide), vin (show 7 * 1 + fr < 161 by omega) (Nat.le_refl _) (by decide), fun g2 => ?_, fun g2 => ?_⟩
      · exact fin (gNR (vlO fr (s0 4 fr) s) L) _ (by rw [if_pos (show hbO c p x s = true from decide_eq_true g)]) (XQ.u45 (by decide)) (SB.uI (by simp)) (by simp [uI]; exact ho.2.1) (by simp [uI]; exact ho.2.2) (by simp [uI]; exact h57) (by simp only [uI, and_self, if_true]; rw [gNR, if_pos g2]; rfl)
      · exact fin (gNR (vlO fr (s0 4 fr) s) L) _ (by rw [if_pos (show hbO c p x s = true from decide_eq_true g)]) (XQ.u45 (by decide)) (SB.uI (by simp)) (by simp [uI]; exact ho.2.1) (by simp [uI]; exact ho.2.2) (by simp [uI]; exact h57) (by simp only [uI, and_self, if_true]; rw [gNR, if_neg g2]; rfl)
    · refine fin L _ ?_ XQ.rf SB.rf ho.2.1 ho.2.2 h57 h58
      rw [if_neg (by simp [hbO]; exact Int32.not_le.mp g)]
theorem M_draws {Q : Option MV → MS → Prop} (h : MB σ 0 c s) {x y z : Int32} (H : ∀ τ, XQ σ τ → Q (some (iV (gDraws c s x y z))) τ) : R mj_OM (d + 4 + 1 + 1 + 1 + 1 + 1 + 1 + 1) mX11_draws Q 0 [some (rV 45 0), some (iV x), some (iV y), some (iV z)] [] σ := by
  have V := h.2.2.1
  have h1 := XQ.t.mb h (by decide)
  have H0 := H _ XQ.t
  refine bX11_draws_0 (M_isPond h1.2.1 V (fun p hp ex e => bX11_draws_10 ⟨fun z => absurd z (by decide), fun _ => ?_⟩) (fun e => bX11_draws_10 ⟨fun _ => by rw [gDraws, e] at H0; exact H0, fun z => absurd rfl z⟩))
  refine M_isHeight (fun n hn ey g => bX11_draws_17 ⟨fun z => absurd z (by decide), fun _ => ?_⟩) (fun g => bX11_draws_17 ⟨fun _ => ?_, fun z => absurd rfl z⟩)
  · refine M_isPond h1.2.1 V (fun q hq ez e2 => bX11_draws_25 ⟨fun z => absurd z (by decide), fun _ => ⟨fun ne => ?_, fun eq => ?_⟩⟩) (fun e2 => bX11_draws_25 ⟨fun _ => by rw [gDraws, e] at H0; simp only at H0; rw [e2] at H0; exact H0, fun z => absurd rfl z⟩)
    · subst ex; subst ez
      refine M_seeks h1 (fun τ t1 t2 t3 t4 t5 => bX11_draws_41 ?_)
      have x2 : XQ τ (uI (uI τ 45 0 57 (nI q)) 45 0 58 (-2 : Int32)) := (XQ.u45 (by decide)).tr (XQ.u45 (by decide))
      have sb : SB [(45, 0)] τ (uI (uI τ 45 0 57 (nI q)) 45 0 58 (-2 : Int32)) := (SB.uI (by simp)).tr (SB.uI (by simp))
      refine M_drawsBy (d := d) (s0 := s) (x := y) hp hq 4 0 s (-2) _ _ rfl ⟨x2.mb t2.1 (by decide), by simp [uI]; exact t2.2.1, by simp [uI]; exact t2.2.2⟩ (by simp [uI]) (by simp [uI]) (t3.sy sb rfl rfl) (t4.keep (fun q _ => sb.i (by simp) _)) eqW.rf (fun υ u1 u2 u3 u4 u5 u6 => bX11_draws_57 ?_)
      have := H υ ((XQ.t.tr t1).tr (x2.tr u1))
      rw [gDraws, e] at this
      simp only at this
      rw [e2] at this
      simp only at this
      rw [if_pos g, if_neg ne] at this
      rw [u4]; exact this
    · rw [gDraws, e] at H0
      simp only at H0
      rw [e2] at H0
      simp only at H0
      rw [if_pos g, if_pos eq] at H0; exact H0
  · rw [gDraws, e] at H0
    simp only at H0
    cases e2 : gIx z (c 0 0) with
    | none => rw [e2] at H0; exact H0
    | some q => rw [e2] at H0; simp only at H0; rw [if_neg (by rw [g]; decide)] at H0; exact H0
end Rh
