/-! leaks, ask: the reference -/
def STM (σ : MS) (f : FA) : Prop := ∀ i, i < gKn f → σ.1 85 0 i = i01 (gStk f i)
section Rs
variable {d : Nat} {Q : Option MV → MS → Prop} {c : CA} {s : SA} {σ : MS} {f : FA}
theorem FMR.keepY {L : List (Nat × Nat)} {J : List Nat} {τ : MS} (h : FMR σ f) (hs : SY L J σ τ) (hL : (80, 0) ∉ L ∧ (81, 0) ∉ L ∧ (82, 0) ∉ L ∧ (83, 0) ∉ L ∧ (84, 0) ∉ L) (hJ : 61 ∉ J ∧ 62 ∉ J) : FMR τ f := by
  have e : ∀ k, k ≠ 45 → (k, 0) ∉ L → τ.1 k 0 = σ.1 k 0 := fun k hk hn => (hs.1.1 k 0 (fun hm => by
    rcases List.mem_cons.mp hm with g | g
    · exact hk (congrArg Prod.fst g)
    · exact hn g)).1
  unfold FMR
  rw [hs.2 61 hJ.1, hs.2 62 hJ.2, e 80 (by decide) hL.1, e 81 (by decide) hL.2.1, e 82 (by decide) hL.2.2.1, e 83 (by decide) hL.2.2.2.1, e 84 (by decide) hL.2.2.2.2]; exact h
theorem M_knownMany (hf : FW c f) (h : FMR σ f) (H : Q (some (iV (nI (gKn f)))) σ) : R mj_OM d mX11_knownMany Q 0 [some (rV 45 0)] [] σ := by
  have k := kbI_n hf
  refine bX11_knownMany_0 ⟨fun z => ?_, fun z => ?_⟩
  · rw [h.2.1] at z ⊢
    have f1 : ¬ f 0 1 = 0 := fun e => z (k.1 e)
    rw [(k.2 f1).2]; exact H
  · rw [h.2.1] at z
    have f1 : f 0 1 = 0 := Decidable.byContradiction (fun e => (k.2 e).1 z)
    rw [gKn, if_pos f1] at H
    rw [h.1]; exact H
theorem M_isSo (hf : FW c f) (h : FMR σ f) (ht : STM σ f) (hs : MB σ 1 c s) {t : Nat} (h60 : t ≤ 60) (H1 : gSo f (s 4) t 0 (gKn f) = true → Q (some (iV 1)) σ) (H0 : gSo f (s 4) t 0 (gKn f) = false → Q (some (iV 0)) σ) : R mj_OM (d + 1) mX11_isSo Q 0 [some (rV 45 0), some (iV (nI t)), none] [] σ := by
  have n24 := hf.1
  have kn := hf.kn
  have V := hs.2.2.1
  have np := V.np
  have L : ∀ (r i : Nat), i + r = gKn f → (gSo f (s 4) t i r = true → Q (some (iV 1)) σ) → (gSo f (s 4) t i r = false → Q (some (iV 0)) σ) → R mj_OM (d + 1) mX11_isSo Q 2 [some (rV 45 0), some (iV (nI t)), some (iV (nI i))] [] σ := by
    intro r
    induction r with
    | zero =>
      intro i hi H1 H0
      obtain rfl : i = gKn f := by omega
      exact bX11_isSo_2 (M_knownMany hf h (bX11_isSo_7 ⟨fun _ => H1 rfl, fun z => absurd (Int32.le_refl _) z⟩))
    | succ r ih =>
      intro i hi H1 H0
      have hin : i < f 0 0 := by omega
      have fr := h.2.2 i hin
      have wf := hf.2.2 i hin
      have ei := cl (show i < 24 by omega) (by omega)
      have next : gSo1 f (s 4) t i = true → R mj_OM (d + 1) mX11_isSo Q 2 [some (rV 45 0), some (iV (nI t)), some (iV (nI i + 1))] [] σ := fun g => by
        rw [nI_1]
        exact ih (i + 1) (by omega) (fun z => H1 (by rw [gSo, if_pos g]; exact z)) (fun z => H0 (by rw [gSo, if_pos g]; exact z))
      have stop : gSo1 f (s 4) t i = false → Q (some (iV 0)) σ := fun g => H0 (by rw [gSo, if_neg (by rw [g]; decide)])
      refine bX11_isSo_2 (M_knownMany hf h (bX11_isSo_7 ⟨fun z => ?_, fun _ => ⟨vin (show i < 24 by omega) (by omega) (by decide), fun z => next ?_, fun z => ⟨fun z2 => next ?_, fun z2 => ⟨fun z3 => ?_, fun z3 => next ?_⟩⟩⟩⟩))
      · rw [nI_le2 (by omega) (by omega)] at z; omega
      · rw [ei, ht i (by omega)] at z
        have g : gStk f i = true := by
          cases e : gStk f i with
          | true => rfl
          | false => rw [e] at z; exact absurd rfl z
        rw [gSo1, if_neg (fun w => by simp [gCo, g] at w)]
      · have g : f 1 i = 2 := Decidable.byContradiction (fun e => by rw [ei, (fr.2 e).1] at z2; exact z2 rfl)
        rw [gSo1, if_neg (fun w => by simp [gCo, g] at w)]
      · have g1 : ¬ f 1 i = 2 := fun e => by
          rw [ei, fr.1 e] at z2
          have := nI_pos (n := f 3 i) (by have := wf.2.1 e; omega)
          rw [z2] at this; exact this (by decide)
        have g2 : gStk f i = false := by
          rw [ei, ht i (by omega)] at z
          cases e : gStk f i with
          | false => rfl
          | true => rw [e] at z; exact absurd z (by decide)
        have g : gCo f i = true := by simp [gCo, g1, g2]
        have q := gCo_2 hf hin g
        have fq := fr.2 g1
        rw [ei, fq.2.1, nI_inj (by omega) (by omega)] at z3
        have e1 : gSo1 f (s 4) t i = (decide (nI (f 4 i) ≤ s 4 (f 3 i)) == decide (f 1 i = 1)) := by rw [gSo1, if_pos ⟨g, z3⟩]
        have e7 : (7 : Int32) + nI (f 3 i) = nI (7 * 1 + f 3 i) := by rw [show (7 : Int32) = nI 7 from rfl, nI_add]
        rw [ei, fq.2.2.1, fq.2.2.2.1, fq.2.2.2.2, e7, nI_clamp (by omega), hs.w q.2.2.2.1]
        have k01 : (0 = nI (f 1 i) ↔ ¬ f 1 i = 1) ∧ (1 = nI (f 1 i) ↔ f 1 i = 1) := by
          have := q.2.2.2.2.2
          have : f 1 i = 0 ∨ f 1 i = 1 := by omega
          rcases this with e | e <;> rw [e] <;> decide
        rw [k01.1, k01.2]
        refine ⟨vin (show 7 * 1 + f 3 i < 161 by omega) (Nat.le_refl _) (by decide), fun lt => ?_, fun lt => ?_⟩
        · have l2 : ¬ nI (f 4 i) ≤ s 4 (f 3 i) := Int32.not_le.mpr lt
          exact ⟨fun k1 => next (by rw [e1, decide_eq_false l2, decide_eq_false k1]; rfl), fun k1 => stop (by rw [e1, decide_eq_false l2, decide_eq_true (Decidable.not_not.mp k1)]; rfl)⟩
        · have l2 : nI (f 4 i) ≤ s 4 (f 3 i) := Int32.not_lt.mp lt
          exact ⟨fun k1 => next (by rw [e1, decide_eq_true l2, decide_eq_true k1]; rfl), fun k1 => stop (by rw [e1, decide_eq_true l2, decide_eq_false k1]; rfl)⟩
      · have g1 : ¬ f 1 i = 2 := fun e => by
          rw [ei, fr.1 e] at z2
          have := nI_pos (n := f 3 i) (by have := wf.2.1 e; omega)
          rw [z2] at this; exact this (by decide)
        have q := wf.2.2 g1
        rw [ei, (fr.2 g1).2.1, nI_inj (by omega) (by omega)] at z3
        rw [gSo1, if_neg (fun w => z3 w.2)]
  exact bX11_isSo_0 (L (gKn f) 0 (by omega) H1 H0)
theorem gSq_in (V : CV c) (p l : Nat) : ∀ t, t ≤ 1000 → sIn c (gSq c p l t) := by
  intro t
  induction t with
  | zero => intro _ q _ z; exact absurd z (by decide : ¬ (0 : Int32) = 1)
  | succ t ih => intro ht; exact gMinute_in V (ih (by omega)) (gSq_t c p l t (by omega)).1
theorem SZ.ofK {σ τ : MS} (h : SB kL σ τ) (hk : ∀ j, j ≠ 1 → KS σ τ j) : SZ 1 σ τ := ⟨(h.y (J := [39]) (by decide)).wk (by decide) (fun _ q => q), hk⟩
theorem SZ.stm {τ : MS} (h : STM σ f) (hs : SZ 1 σ τ) : STM τ f := fun i hi => by rw [hs.1.1.i (by simp [mmL]) i]; exact h i hi
theorem SZ.fmr {τ : MS} (h : FMR σ f) (hs : SZ 1 σ τ) : FMR τ f := h.keepY hs.1 (by decide) (by decide)
theorem M_fitsLeak (h : MB σ 0 c s) (hf : FW c f) (hc : FMR σ f) (hk : STM σ f) {p l span : Nat} (hm : MM σ (lMd p l)) (hp : p < c 0 0) (hl : l ≤ 9) (hsp : span ≤ 60) (H : ∀ τ, SZ 1 σ τ → Q (some (iV (i01 (gFt c f p l span)))) τ) : R mj_OM (d + 1 + 1 + 1 + 1 + 1 + 1 + 1 + 1) mX11_fitsLeak Q 0 [some (rV 45 0), some (iV (nI span)), none] [] σ := by
  have V := h.2.2.1
  refine bX11_fitsLeak_0 (M_starts (k := 1) (by decide) h.2.1 V (fun τ t1 t2 t3 => bX11_fitsLeak_5 ?_))
  have L : ∀ (r t : Nat) (φ : MS), t + r = span → SZ 1 σ φ → MB φ 1 c (gSq c p l t) → gFt c f p l t = true → R mj_OM (d + 1 + 1 + 1 + 1 + 1 + 1 + 1 + 1) mX11_fitsLeak Q 7 [some (rV 45 0), some (iV (nI span)), some (iV (nI (t + 1)))] [] φ := by
    intro r
    induction r with
    | zero =>
      intro t φ ht hz hb hg
      obtain rfl : t = span := by omega
      have := H φ hz
      rw [hg] at this
      exact bX11_fitsLeak_7 ⟨fun _ => this, fun z => absurd ((nI_ltI (by omega) (by omega)).mpr (by omega)) z⟩
    | succ r ih =>
      intro t φ ht hz hb hg
      have mφ : MM φ (lMd p l) := hm.keepY hz.1 (by simp)
      have st := gSq_t c p l t (by omega)
      refine bX11_fitsLeak_7 ⟨fun z => ?_, fun _ => M_passes (k := 1) (md := lMd p l) hb mφ st.1 (lMd_v hp hl) (gSq_in V p l t (by omega)) (fun ψ p1 p2 => bX11_fitsLeak_18 ?_)⟩
      · rw [nI_ltI (by omega) (by omega)] at z; omega
      have zz := hz.tr p1
      have p2' : MB ψ 1 c (gSq c p l (t + 1)) := p2
      refine M_isSo hf (zz.fmr hc) (zz.stm hk) p2' (t := t + 1) (by omega) (fun g => bX11_fitsLeak_23 ⟨fun _ => ?_, fun z => absurd z (by decide)⟩) (fun g => bX11_fitsLeak_23 ⟨fun z => absurd rfl z, fun _ => ?_⟩)
      · rw [nI_1]
        exact ih (t + 1) ψ (by omega) zz p2' (by rw [gFt, hg, g]; rfl)
      · have no : ∀ n, t + 1 ≤ n → gFt c f p l n = false := by
          intro n
          induction n with
          | zero => intro h; omega
          | succ n ihn =>
            intro hn
            by_cases e : n = t
            · subst e; rw [gFt, g, Bool.and_false]
            · rw [gFt, ihn (by omega), Bool.false_and]
        have := H ψ zz
        rw [no span (by omega)] at this; exact this
  exact L span 0 τ (by omega) (SZ.ofK t1 t2) t3 rfl
theorem M_leaksOf (h : MB σ 0 c s) (hm : MM σ md0) (hf : FW c f) (hc : FMR σ f) {p : Nat} (hp : p < c 0 0) (H : ∀ τ, XQ σ τ → Q (some (iV (gLk c f p (gEnd f)))) τ) : R mj_OM (d + 1 + 1 + 1 + 1 + 1 + 1 + 1 + 1 + 1) mX11_leaksOf Q 0 [some (rV 45 0), some (iV (nI p)), none, none, none] [] σ := by
  have V := h.2.2.1
  have np := V.np
  have n24 := hf.1
  have kn := hf.kn
  have en := gEn_le hf (gKn f) kn
  have k85 : ∀ {α β : MS}, SB [(85, 0)] α β → XQ α β := fun hb => ⟨(hb.y (J := mqJ) (by decide)).wk (by decide) (fun _ q => q), fun j _ => KS.of hb rfl j⟩
  have fm : ∀ {τ : MS}, SB [(85, 0)] σ τ → FMR τ f := fun hb => hc.keepY (hb.y (J := []) (by decide)) (by decide) (by decide)
  -- the leaks, one by one
  have L129 : ∀ (r l : Nat) (y : Int32) (φ : MS), l + r = 10 → XQ9 σ φ → φ.1 45 0 49 = σ.1 45 0 49 → φ.1 45 0 51 = nI p → STM φ f → (∀ τ, XQ σ τ → Q (some (iV (gLp (gLkF c f p (gEnd f)) l r y))) τ) → R mj_OM (d + 1 + 1 + 1 + 1 + 1 + 1 + 1 + 1 + 1) mX11_leaksOf Q 129 [some (rV 45 0), some (iV (nI p)), some (iV (nI (gEnd f))), some (iV y), some (iV (nI l))] [] φ := by
    intro r
    induction r with
    | zero =>
      intro l y φ hl hx h9 h51 hk H
      obtain rfl : l = 10 := by omega
      refine bX11_leaksOf_129 ⟨fun _ => H _ ((hx.tr (XQ9.u45 (by simp))).back ?_ ?_), fun z => absurd (by decide) z⟩
      · simp [uI]; exact h9
      · have := hm.2.2.2.1
        simp [uI]; rw [this]; rfl
    | succ r ih =>
      intro l y φ hl hx h9 h51 hk H
      refine bX11_leaksOf_129 ⟨fun z => ?_, fun _ => ?_⟩
      · rw [show (10 : Int32) = nI 10 from rfl, nI_le2 (by omega) (by omega)] at z; omega
      have x1 : XQ9 φ (uI φ 45 0 52 (nI l)) := XQ9.u45 (by simp [mqJ])
      have sb : SB [(45, 0)] φ (uI φ 45 0 52 (nI l)) := SB.uI (by simp)
      have m1 : MM (uI φ 45 0 52 (nI l)) (lMd p l) := by
        unfold MM
        refine ⟨?_, Nat.zero_le _, fun z => absurd z (by decide : ¬ (0 : Nat) = 2), ?_, fun q hq => by simp [uI, lMd]⟩
        · have := hm.1
          simp [uI]; rw [h9, this]; rfl
        · simp [uI]; rw [h51]; rfl
      have f1 : FMR (uI φ 45 0 52 (nI l)) f := hc.keepY (hx.tr x1).1 (by decide) (by decide)
      have k1 : STM (uI φ 45 0 52 (nI l)) f := fun i hi => by simp [uI]; exact hk i hi
      refine M_fitsLeak ((hx.tr x1).mb h (by decide)) hf f1 k1 m1 hp (by omega) en (fun τ t1 => ?_)
      have x2 : XQ9 σ τ := (hx.tr x1).tr (XQ.ofZ t1).nine
      have e49 : τ.1 45 0 49 = σ.1 45 0 49 := by rw [t1.1.2 49 (by simp)]; simp [uI]; exact h9
      have e51 : τ.1 45 0 51 = nI p := by rw [t1.1.2 51 (by simp)]; simp [uI]; exact h51
      refine bX11_leaksOf_148 ⟨fun z => ?_, fun z => ?_⟩
      · have g : gFt c f p l (gEnd f) = false := by
          cases e : gFt c f p l (gEnd f) with
          | false => rfl
          | true => rw [e] at z; exact absurd z (by decide)
        rw [show y ||| (0 : Int32) = y from by simp, nI_1]
        refine ih (l + 1) y τ (by omega) x2 e49 e51 (t1.stm k1) (fun υ hυ => ?_)
        have := H υ hυ
        rw [gLp, gLkF, if_neg (by rw [g]; decide)] at this; exact this
      · have g : gFt c f p l (gEnd f) = true := by
          cases e : gFt c f p l (gEnd f) with
          | true => rfl
          | false => rw [e] at z; exact absurd rfl z
        rw [nI_1]
        refine ih (l + 1) _ τ (by omega) x2 e49 e51 (t1.stm k1) (fun υ hυ => ?_)
        have := H υ hυ
        rw [gLp, gLkF, if_pos g] at this; exact this
  -- the last minute
  have L75 : ∀ φ : MS, SB [(85, 0)] σ φ → STM φ f → R mj_OM (d + 1 + 1 + 1 + 1 + 1 + 1 + 1 + 1 + 1) mX11_leaksOf Q 75 [some (rV 45 0), some (iV (nI p)), some (iV (nI (gEn f 0))), some (iV (nI 0)), none] [] φ := by
    intro φ hb hk
    have fφ := fm hb
    refine up_loop (n := gKn f) (fun i => R mj_OM (d + 1 + 1 + 1 + 1 + 1 + 1 + 1 + 1 + 1) mX11_leaksOf Q 75 [some (rV 45 0), some (iV (nI p)), some (iV (nI (gEn f i))), some (iV (nI i)), none] [] φ) ?_ ?_ 0 (Nat.zero_le _)
    · refine bX11_leaksOf_75 (M_knownMany hf fφ (bX11_leaksOf_80 ⟨fun _ => ?_, fun z => absurd (Int32.le_refl _) z⟩))
      refine L129 10 0 0 _ rfl ((k85 hb).nine.tr (XQ9.u45 (by simp))) ?_ (by simp [uI]) (fun i hi => by simp [uI]; exact hk i hi) H
      simp [uI]; exact hb.i (by simp) 49
    · intro i hi ih
      have hin : i < f 0 0 := by omega
      have fr := fφ.2.2 i hin
      have wf := hf.2.2 i hin
      have le := gEn_le hf i (by omega)
      have ei := cl (show i < 24 by omega) (by omega)
      rw [gEn] at ih
      refine bX11_leaksOf_75 (M_knownMany hf fφ (bX11_leaksOf_80 ⟨fun z => ?_, fun _ => ⟨vin (show i < 24 by omega) (by omega) (by decide), fun z => ?_, fun z => ⟨fun z2 => ?_, fun z2 => ?_⟩⟩⟩))
      · rw [nI_le2 (by omega) (by omega)] at z; omega
      · rw [ei, hk i (by omega)] at z
        have g : gStk f i = true := by
          cases e : gStk f i with
          | true => rfl
          | false => rw [e] at z; exact absurd rfl z
        rw [nI_1]
        rw [if_neg (fun w => by simp [gCo, g] at w)] at ih; exact ih
      · have g : f 1 i = 2 := Decidable.byContradiction (fun e => by rw [ei, (fr.2 e).1] at z2; exact z2 rfl)
        rw [nI_1]
        rw [if_neg (fun w => by simp [gCo, g] at w)] at ih; exact ih
      · have g1 : ¬ f 1 i = 2 := fun e => by
          rw [ei, fr.1 e] at z2
          have := nI_pos (n := f 3 i) (by have := wf.2.1 e; omega)
          rw [z2] at this; exact this (by decide)
        have g2 : gStk f i = false := by
          rw [ei, hk i (by omega)] at z
          cases e : gStk f i with
          | false => rfl
          | true => rw [e] at z; exact absurd z (by decide)
        have g : gCo f i = true := by simp [gCo, g1, g2]
        have q := gCo_2 hf hin g
        rw [ei, (fr.2 g1).2.1, nI_1]
        by_cases lt : gEn f i < f 2 i
        · rw [if_pos ((nI_ltI (by omega) (by omega)).mpr lt)]
          rw [if_pos ⟨g, lt⟩] at ih; exact ih
        · rw [if_neg (fun w => lt ((nI_ltI (by omega) (by omega)).mp w))]
          rw [if_neg (fun w => lt w.2)] at ih; exact ih
  -- what is struck
  have L32 : ∀ (k : Nat) (T : Nat → Bool) (φ : MS), k ≤ gKn f → SB [(85, 0)] σ φ → (∀ i, i < gKn f → φ.1 85 0 i = i01 (T i)) → (∀ i, i < gKn f → gSt f k T i = gStk f i) → R mj_OM (d + 1 + 1 + 1 + 1 + 1 + 1 + 1 + 1 + 1) mX11_leaksOf Q 32 [some (rV 45 0), some (iV (nI p)), some (iV (nI 0)), some (iV (nI k - 1)), none] [] φ := by
    intro k
    induction k with
    | zero =>
      intro T φ hk hb hT he
      refine bX11_leaksOf_32 ⟨fun _ => L75 φ hb (fun i hi => ?_), fun z => absurd (by decide) z⟩
      rw [hT i hi, ← he i hi]; rfl
    | succ k ih =>
      intro T φ hk hb hT he
      have hkn : k < f 0 0 := by omega
      have fr := (fm hb).2.2 k hkn
      have wf := hf.2.2 k hkn
      have ek := cl (show k < 24 by omega) (by omega)
      rw [nI_pred]
      have nx : nI k + (-1) = nI k - 1 := by rw [Int32.sub_eq_add_neg]
      refine bX11_leaksOf_32 ⟨fun z => absurd z (nI_pos (by omega)), fun _ => ⟨vin (show k < 24 by omega) (by omega) (by decide), fun z => ?_, fun z => ⟨fun z2 => ?_, fun z2 => ?_⟩⟩⟩
      · rw [ek, hT k (by omega)] at z
        have tk : ¬ T k = false := fun e => z (by rw [e]; rfl)
        rw [nx]
        refine ih T φ (by omega) hb hT (fun i hi => ?_)
        have := he i hi
        rw [gSt, if_neg (fun q => tk q.2)] at this; exact this
      · have g : ¬ f 1 k = 2 := fun e => by
          rw [ek, fr.1 e] at z2
          have := nI_pos (n := f 3 k) (by have := wf.2.1 e; omega)
          rw [z2] at this; exact this (by decide)
        rw [nx]
        refine ih T φ (by omega) hb hT (fun i hi => ?_)
        have := he i hi
        rw [gSt, if_neg (fun q => g q.1)] at this; exact this
      · have g : f 1 k = 2 := Decidable.byContradiction (fun e => by rw [ek, (fr.2 e).1] at z2; exact z2 rfl)
        have tk : T k = false := by
          rw [ek, hT k (by omega)] at z
          cases e : T k with
          | false => rfl
          | true => rw [e] at z; exact absurd z (by decide)
        have ab := wf.2.1 g
        rw [ek, fr.1 g, cl (show f 3 k < 24 by omega) (by omega), nx]
        refine ⟨vin (show f 3 k < 24 by omega) (by omega) (by decide), ih (fun j => if j = f 3 k then true else T j) _ (by omega) (hb.tr (SB.uI (by simp))) (fun i hi => ?_) (fun i hi => ?_)⟩
        · by_cases e : i = f 3 k
          · subst e; simp [uI, i01]
          · simp [uI, e, hT i hi]
        · have := he i hi
          rw [gSt, if_pos ⟨g, tk⟩] at this; exact this
  have L4 : ∀ (r i : Nat) (φ : MS), i + r = gKn f → SB [(85, 0)] σ φ → (∀ j, j < i → φ.1 85 0 j = 0) → R mj_OM (d + 1 + 1 + 1 + 1 + 1 + 1 + 1 + 1 + 1) mX11_leaksOf Q 4 [some (rV 45 0), some (iV (nI p)), some (iV (nI 0)), some (iV (nI i)), none] [] φ := by
    intro r
    induction r with
    | zero =>
      intro i φ hi hb hz
      obtain rfl : i = gKn f := by omega
      refine bX11_leaksOf_4 (M_knownMany hf (fm hb) (bX11_leaksOf_9 ⟨fun _ => M_knownMany hf (fm hb) (bX11_leaksOf_29 ?_), fun z => absurd (Int32.le_refl _) z⟩))
      exact L32 (gKn f) (fun _ => false) φ (Nat.le_refl _) hb (fun i hi => hz i hi) (fun _ _ => rfl)
    | succ r ih =>
      intro i φ hi hb hz
      refine bX11_leaksOf_4 (M_knownMany hf (fm hb) (bX11_leaksOf_9 ⟨fun z => ?_, fun _ => ⟨vin (show i < 24 by omega) (by omega) (by decide), ?_⟩⟩))
      · rw [nI_le2 (by omega) (by omega)] at z; omega
      · rw [cl (show i < 24 by omega) (by omega), nI_1]
        refine ih (i + 1) _ (by omega) (hb.tr (SB.uI (by simp))) (fun j hj => ?_)
        by_cases e : j = i
        · subst e; simp [uI]
        · simp [uI, e]; exact hz j (by omega)
  exact bX11_leaksOf_0 (L4 (gKn f) 0 σ (by omega) SB.rf (fun j hj => by omega))
theorem M_leaks (h : MB σ 0 c s) (hm : MM σ md0) (hf : FW c f) (hc : FMR σ f) {x : Int32} (H : ∀ τ, XQ σ τ → Q (some (iV (gLeaks c f x))) τ) : R mj_OM (d + 1 + 1 + 1 + 1 + 1 + 1 + 1 + 1 + 1 + 1) mX11_leaks Q 0 [some (rV 45 0), some (iV x)] [] σ := by
  have V := h.2.2.1
  have h1 := XQ.t.mb h (by decide)
  have hm1 : MM (uI σ 45 0 0 0) md0 := hm.keepY (L := []) (J := [0]) (SY.u45 (by simp)) (by simp)
  have f1 : FMR (uI σ 45 0 0 0) f := hc.keepY (L := []) (J := [0]) (SY.u45 (by simp)) (by decide) (by decide)
  have H0 := H _ XQ.t
  refine bX11_leaks_0 (M_isPond h1.2.1 V (fun p hp ex e => bX11_leaks_10 ⟨fun z => absurd z (by decide), fun _ => ?_⟩) (fun e => bX11_leaks_10 ⟨fun _ => by rw [gLeaks, e] at H0; exact H0, fun z => absurd rfl z⟩))
  subst ex
  refine M_leaksOf h1 hm1 hf f1 hp (fun τ hτ => bX11_leaks_18 ?_)
  have := H τ (XQ.t.tr hτ)
  rw [gLeaks, e] at this; exact this
def LVB (c : CA) (p : Nat) (σ : MS) (l t : Nat) : Prop := (∀ l' t', l' < l → 1 ≤ t' → t' ≤ 60 → σ.1 86 0 (61 * l' + t') = gVal c p l' t') ∧ ∀ t', 1 ≤ t' → t' ≤ t → σ.1 86 0 (61 * l + t') = gVal c p l t'
theorem M_worstAt {p : Nat} {w : Int32} {t : Nat} (hn : LVB c p σ 10 0) (ht : 1 ≤ t ∧ t ≤ 60) (H : Q (some (iV (nI (gWs c p w t)))) σ) : R mj_OM (d + 1) mX11_worstAt Q 0 [some (rV 45 0), some (iV w), some (iV (nI t)), none, none, none, none] [] σ := by
  have ix : ∀ l, (61 : Int32) * nI l + nI t = nI (61 * l + t) := fun l => by
    rw [show (61 : Int32) = nI 61 from rfl, pk_mul, nI_add]
  have wl : ∀ n, gWsF c p w t n ≤ 10 := by
    intro n
    induction n with
    | zero => exact Nat.zero_le _
    | succ n ih =>
      rw [gWsF]
      split
      · exact gCnt_le _ _
      · exact ih
  refine bX11_worstAt_0 ?_
  refine up_loop (n := 10) (fun l => R mj_OM (d + 1) mX11_worstAt Q 5 [some (rV 45 0), some (iV w), some (iV (nI t)), some (iV (nI (gWsF c p w t l))), some (iV (nI l)), none, none] [] σ) ?_ ?_ 0 (by omega)
  · exact bX11_worstAt_5 ⟨fun _ => H, fun z => absurd (by decide) z⟩
  · intro l hl ih
    have wll := wl l
    rw [gWsF] at ih
    refine bX11_worstAt_5 ⟨fun z => ?_, fun _ => ?_⟩
    · rw [show (10 : Int32) = nI 10 from rfl, nI_le2 (by omega) (by omega)] at z; omega
    refine up_loop (n := 10) (fun o => R mj_OM (d + 1) mX11_worstAt Q 18 [some (rV 45 0), some (iV w), some (iV (nI t)), some (iV (nI (gWsF c p w t l))), some (iV (nI l)), some (iV (nI (gCnt (fun i => bt w i && decide (gVal c p i t = gVal c p l t)) o))), some (iV (nI o))] [] σ) ?_ ?_ 0 (by omega)
    · have al : gAl c p w t l ≤ 10 := gCnt_le _ _
      rw [show gCnt (fun i => bt w i && decide (gVal c p i t = gVal c p l t)) 10 = gAl c p w t l from rfl]
      refine bX11_worstAt_18 ⟨fun _ => ⟨fun g => ?_, fun g => ?_⟩, fun z => absurd (by decide) z⟩
      · rw [bt_sh (by omega)] at g
        rw [if_neg (fun z => g z.1)] at ih
        rw [nI_1]; exact ih
      · rw [bt_sh (by omega)] at g
        rw [nI_1]
        by_cases q : gWsF c p w t l < gAl c p w t l
        · rw [if_pos ⟨g, q⟩] at ih
          rw [if_pos ((nI_ltI (by omega) (by omega)).mpr q)]; exact ih
        · rw [if_neg (fun z => q z.2)] at ih
          rw [if_neg (fun z => q ((nI_ltI (by omega) (by omega)).mp z))]; exact ih
    · intro o ho ih2
      have go := gCnt_le (fun i => bt w i && decide (gVal c p i t = gVal c p l t)) o
      rw [gCnt] at ih2
      refine bX11_worstAt_18 ⟨fun z => ?_, fun _ => ⟨fun z => ?_, fun z => ?_⟩⟩
      · rw [show (10 : Int32) = nI 10 from rfl, nI_le2 (by omega) (by omega)] at z; omega
      · rw [bt_sh (by omega)] at z
        rw [Int32.add_zero, nI_1]
        rw [if_neg (by simp [z]), Nat.add_zero] at ih2; exact ih2
      · rw [bt_sh (by omega)] at z
        rw [ix l, ix o, nI_clamp (by omega), nI_clamp (by omega), hn.1 l t hl ht.1 ht.2, hn.1 o t ho ht.1 ht.2]
        refine ⟨vin (show 61 * o + t < 610 by omega) (Nat.le_refl _) (by decide), vin (show 61 * l + t < 610 by omega) (Nat.le_refl _) (by decide), fun q => ?_, fun q => ?_⟩
        · rw [Int32.add_zero, nI_1]
          rw [if_neg (by simp [z]; exact q), Nat.add_zero] at ih2; exact ih2
        · rw [nI_1, nI_1]
          rw [if_pos (by simp [z]; exact q)] at ih2; exact ih2
theorem gFt_60 (hf : FW c f) (p l : Nat) : gFt c f p l 60 = gFt c f p l (gEnd f) := by
  have en := gEn_le hf (gKn f) hf.kn
  have lst : ∀ n i, i < n → gCo f i = true → f 2 i ≤ gEn f n := by
    intro n
    induction n with
    | zero => intro i h; omega
    | succ n ih =>
      intro i hi hg
      rw [gEn]
      by_cases e : i = n
      · subst e
        by_cases q : gEn f i < f 2 i
        · rw [if_pos ⟨hg, q⟩]; exact Nat.le_refl _
        · rw [if_neg (fun z => q z.2)]; omega
      · have := ih i (by omega) hg
        split
        · rename_i g; omega
        · exact this
  have so : ∀ (w : Nat → Int32) t, gEnd f < t → ∀ r i, i + r = gKn f → gSo f w t i r = true := by
    intro w t ht r
    induction r with
    | zero => intro i _; rfl
    | succ r ih =>
      intro i hi
      have : gSo1 f w t i = true := by
        rw [gSo1, if_neg (fun q => by
          have := lst (gKn f) i (by omega) q.1
          unfold gEnd at ht
          omega)]
      rw [gSo, if_pos this]
      exact ih (i + 1) (by omega)
  have up : ∀ n, gFt c f p l (gEnd f + n) = gFt c f p l (gEnd f) := by
    intro n
    induction n with
    | zero => rfl
    | succ n ih =>
      rw [show gEnd f + (n + 1) = (gEnd f + n) + 1 by omega, gFt, ih, so _ _ (by omega) (gKn f) 0 (by omega), Bool.and_true]
  have := up (60 - gEnd f)
  unfold gEnd at this ⊢
  rw [show gEn f (gKn f) + (60 - gEn f (gKn f)) = 60 by omega] at this
  exact this
theorem gLk_60 (hf : FW c f) (p : Nat) : gLk c f p 60 = gLk c f p (gEnd f) := by
  have : gLkF c f p 60 = gLkF c f p (gEnd f) := by
    funext l y
    unfold gLkF
    rw [gFt_60 hf]
  unfold gLk
  rw [this]
theorem M_ask (h : MB σ 0 c s) (hm : MM σ md0) (hf : FW c f) (hc : FMR σ f) {x w : Int32} (H : ∀ τ, XQ σ τ → Q (some (iV (gAsk c f x w))) τ) : R mj_OM (d + 1 + 1 + 1 + 1 + 1 + 1 + 1 + 1 + 1 + 1) mX11_ask Q 0 [some (rV 45 0), some (iV x), some (iV w), none, none, none] [] σ := by
  have V := h.2.2.1
  have np := V.np
  have h1 := XQ.t.mb h (by decide)
  have hm1 : MM (uI σ 45 0 0 0) md0 := hm.keepY (L := []) (J := [0]) (SY.u45 (by simp)) (by simp)
  have f1 : FMR (uI σ 45 0 0 0) f := hc.keepY (L := []) (J := [0]) (SY.u45 (by simp)) (by decide) (by decide)
  have H0 := H _ XQ.t
  refine bX11_ask_0 (M_isPond h1.2.1 V (fun p hp ex e => bX11_ask_10 ⟨fun z => absurd z (by decide), fun _ => ?_⟩) (fun e => bX11_ask_10 ⟨fun _ => by rw [gAsk, e] at H0; exact H0, fun z => absurd rfl z⟩))
  refine M_isPart (fun g _ => bX11_ask_17 ⟨fun _ => ?_, fun z => absurd z (by decide)⟩) (fun g => bX11_ask_17 ⟨fun z => absurd rfl z, fun _ => by rw [gAsk, e] at H0; simp only at H0; rw [if_neg (by rw [g]; decide)] at H0; exact H0⟩)
  subst ex
  refine M_leaksOf h1 hm1 hf f1 hp (fun τ hτ => bX11_ask_27 ?_)
  have Hw : ∀ υ, XQ σ υ → Q (some (iV (if w = 0 then nI (gBst (gWs c p (gLk c f p (gEnd f))) 59 2 1) else nI (gWs c p (gLk c f p (gEnd f)) (gBst (gWs c p (gLk c f p (gEnd f))) 59 2 1))))) υ := fun υ hυ => by
    have := H υ hυ
    rw [gAsk, e] at this
    simp only at this
    rw [if_pos g, gLk_60 hf] at this
    by_cases w0 : w = 0
    · rw [if_pos w0] at this ⊢; exact this
    · rw [if_neg w0] at this ⊢; exact this
  have xτ : XQ σ τ := XQ.t.tr hτ
  generalize gLk c f p (gEnd f) = G at Hw ⊢
  have wb : ∀ t, gWs c p G t ≤ 10 := fun t => by
    have : ∀ n, gWsF c p G t n ≤ 10 := by
      intro n
      induction n with
      | zero => exact Nat.zero_le _
      | succ n ih =>
        rw [gWsF]
        split
        · exact gCnt_le _ _
        · exact ih
    exact this 10
  have L115 : ∀ (υ : MS), XQ σ υ → LVB c p υ 10 0 → ∀ (r t bst : Nat), t + r = 61 → 1 ≤ bst → bst ≤ 60 → 2 ≤ t → gBst (gWs c p G) r t bst = gBst (gWs c p G) 59 2 1 → R mj_OM (d + 1 + 1 + 1 + 1 + 1 + 1 + 1 + 1 + 1 + 1) mX11_ask Q 115 [some (rV 45 0), some (iV (nI p)), some (iV w), some (iV G), some (iV (nI bst)), some (iV (nI t))] [] υ := by
    intro υ hυ hn r
    induction r with
    | zero =>
      intro t bst ht b1 b2 _ hb
      obtain rfl : t = 61 := by omega
      have H1 := Hw υ hυ
      rw [gBst] at hb
      rw [← hb] at H1
      refine bX11_ask_115 ⟨fun _ => ⟨fun w0 => M_worstAt hn ⟨b1, b2⟩ (bX11_ask_165 ?_), fun w0 => ?_⟩, fun z => absurd (by decide) z⟩
      · rw [if_neg w0] at H1; exact H1
      · rw [if_pos w0] at H1; exact H1
    | succ r ih =>
      intro t bst ht b1 b2 t2 hb
      have w1 := wb t
      have w2 := wb bst
      rw [gBst] at hb
      refine bX11_ask_115 ⟨fun z => ?_, fun _ => M_worstAt hn (by omega) (bX11_ask_129 (M_worstAt hn ⟨b1, b2⟩ (bX11_ask_136 ⟨fun z => ?_, fun z => ?_⟩)))⟩
      · rw [show (60 : Int32) = nI 60 from rfl, nI_ltI (by omega) (by omega)] at z; omega
      · rw [nI_le2 (by omega) (by omega)] at z
        rw [nI_1]
        rw [if_neg (by omega)] at hb
        exact ih (t + 1) bst (by omega) b1 b2 (by omega) hb
      · rw [nI_le2 (by omega) (by omega)] at z
        rw [nI_1]
        rw [if_pos (by omega)] at hb
        exact ih (t + 1) t (by omega) (by omega) (by omega) (by omega) hb
  have L36 : ∀ (r l : Nat) (φ : MS), l + r = 10 → XQ9 σ φ → φ.1 45 0 49 = σ.1 45 0 49 → φ.1 45 0 51 = nI p → LVB c p φ l 0 → R mj_OM (d + 1 + 1 + 1 + 1 + 1 + 1 + 1 + 1 + 1 + 1) mX11_ask Q 36 [some (rV 45 0), some (iV (nI p)), some (iV w), some (iV G), some (iV (nI l)), none] [] φ := by
    intro r
    induction r with
    | zero =>
      intro l φ hl hx h9 h51 hn
      obtain rfl : l = 10 := by omega
      refine bX11_ask_36 ⟨fun _ => ?_, fun z => absurd (by decide) z⟩
      refine L115 _ ((hx.tr (XQ9.u45 (by simp))).back ?_ ?_) ⟨fun l2 t2 a1 a2 a3 => by simp [uI]; exact hn.1 l2 t2 a1 a2 a3, fun t2 a1 a2 => by omega⟩ 59 2 1 rfl (by omega) (by omega) (by omega) rfl
      · simp [uI]; exact h9
      · have := hm.2.2.2.1
        simp [uI]; rw [this]; rfl
    | succ r ih =>
      intro l φ hl hx h9 h51 hn
      refine bX11_ask_36 ⟨fun z => ?_, fun _ => ?_⟩
      · rw [show (10 : Int32) = nI 10 from rfl, nI_le2 (by omega) (by omega)] at z; omega
      have x1 : XQ9 φ (uI φ 45 0 52 (nI l)) := XQ9.u45 (by simp [mqJ])
      have m1 : MM (uI φ 45 0 52 (nI l)) (lMd p l) := by
        unfold MM
        refine ⟨?_, Nat.zero_le _, fun z => absurd z (by decide : ¬ (0 : Nat) = 2), ?_, fun q hq => by simp [uI, lMd]⟩
        · have := hm.1
          simp [uI]; rw [h9, this]; rfl
        · simp [uI]; rw [h51]; rfl
      have mb := (hx.tr x1).mb h (by decide)
      refine M_starts (k := 1) (by decide) mb.2.1 V (fun χ c1 c2 c3 => bX11_ask_54 ?_)
      have L57 : ∀ (q t : Nat) (ψ : MS), t + q = 60 → XQ9 (uI φ 45 0 52 (nI l)) ψ → (∀ j, j ≠ 39 → ψ.1 45 0 j = (uI φ 45 0 52 (nI l)).1 45 0 j) → MB ψ 1 c (gSq c p l t) → LVB c p ψ l t → R mj_OM (d + 1 + 1 + 1 + 1 + 1 + 1 + 1 + 1 + 1 + 1) mX11_ask Q 57 [some (rV 45 0), some (iV (nI p)), some (iV w), some (iV G), some (iV (nI l)), some (iV (nI (t + 1)))] [] ψ := by
        intro q
        induction q with
        | zero =>
          intro t ψ ht hx2 hj hb hn2
          obtain rfl : t = 60 := by omega
          refine bX11_ask_57 ⟨fun _ => ?_, fun z => absurd (by decide) z⟩
          rw [nI_1]
          refine ih (l + 1) ψ (by omega) ((hx.tr x1).tr hx2) ?_ ?_ ⟨fun l2 t2 a1 a2 a3 => ?_, fun t2 a1 a2 => by omega⟩
          · rw [hj 49 (by decide)]; simp [uI]; exact h9
          · rw [hj 51 (by decide)]; simp [uI]; exact h51
          · by_cases e : l2 = l
            · subst e; exact hn2.2 t2 a2 a3
            · exact hn2.1 l2 t2 (by omega) a2 a3
        | succ q ihq =>
          intro t ψ ht hx2 hj hb hn2
          have st := gSq_t c p l t (by omega)
          have mψ : MM ψ (lMd p l) := by
            unfold MM at m1 ⊢
            rw [hj 49 (by decide), hj 50 (by decide), hj 51 (by decide), hj 52 (by decide)]; exact m1
          refine bX11_ask_57 ⟨fun z => ?_, fun _ => M_passes (k := 1) (md := lMd p l) hb mψ st.1 (lMd_v hp (by omega)) (gSq_in V p l t (by omega)) (fun χ c1 c2 => bX11_ask_70 ?_)⟩
          · rw [show (60 : Int32) = nI 60 from rfl, nI_ltI (by omega) (by omega)] at z; omega
          have c2' : MB χ 1 c (gSq c p l (t + 1)) := c2
          have e7 : (7 : Int32) + nI p = nI (7 * 1 + p) := by rw [show (7 : Int32) = nI 7 from rfl, nI_add]
          have e61 : (61 : Int32) * nI l + nI (t + 1) = nI (61 * l + (t + 1)) := by rw [show (61 : Int32) = nI 61 from rfl, pk_mul, nI_add]
          rw [e7, e61, nI_clamp (by omega), nI_clamp (by omega), c2'.w hp, nI_1]
          have sb : SB [(86, 0)] χ (uI χ 86 0 (61 * l + (t + 1)) (gSq c p l (t + 1) 4 p)) := SB.uI (by simp)
          have x86 : XQ χ (uI χ 86 0 (61 * l + (t + 1)) (gSq c p l (t + 1) 4 p)) := ⟨(sb.y (J := mqJ) (by decide)).wk (by decide) (fun _ q => q), fun j _ => KS.of sb rfl j⟩
          have e86 : ∀ j, χ.1 86 0 j = ψ.1 86 0 j := fun j => c1.1.1.i (by simp [mmL]) j
          refine ⟨vin (show 7 * 1 + p < 161 by omega) (Nat.le_refl _) (by decide), vin (show 61 * l + (t + 1) < 610 by omega) (Nat.le_refl _) (by decide), ihq (t + 1) _ (by omega) (hx2.tr ((XQ.ofZ c1).tr x86).nine) (fun j hj2 => ?_) (c2'.sy sb rfl rfl) ⟨fun l2 t2 a1 a2 a3 => ?_, fun t2 a1 a2 => ?_⟩⟩
          · rw [sb.i (by simp), c1.1.2 j (by simp; exact hj2)]; exact hj j hj2
          · have : ¬ 61 * l2 + t2 = 61 * l + (t + 1) := by omega
            simp only [uI, this, and_false, if_false]
            rw [e86]; exact hn2.1 l2 t2 a1 a2 a3
          · by_cases e : t2 = t + 1
            · subst e
              simp only [uI, and_self, if_true]
              rfl
            · have : ¬ 61 * l + t2 = 61 * l + (t + 1) := by omega
              simp only [uI, this, and_false, if_false]
              rw [e86]; exact hn2.2 t2 a1 (by omega)
      refine L57 60 0 χ rfl (XQ.ofK c1 c2).nine (fun j _ => c1.i (by decide) j) c3 ⟨fun l2 t2 a1 a2 a3 => ?_, fun t2 a1 a2 => by omega⟩
      rw [c1.i (by decide)]
      simp [uI]
      exact hn.1 l2 t2 a1 a2 a3
  refine L36 10 0 _ rfl (xτ.nine.tr (XQ9.u45 (by simp))) ?_ (by simp [uI]) ⟨fun l2 t2 a1 => by omega, fun t2 a1 a2 => by omega⟩
  simp [uI]
  exact xτ.1.2 49 (by decide)
end Rs
