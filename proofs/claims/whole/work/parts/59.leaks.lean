/-! leaks, ask: the class -/
def lMd (p l : Nat) : MD := (false, 0, 0, some p, l)
def gSq (c : CA) (p l : Nat) : Nat → SA
  | 0 => gBegin c
  | t + 1 => gMinute c (lMd p l) (gSq c p l t)
def gFt (c : CA) (f : FA) (p l : Nat) : Nat → Bool
  | 0 => true
  | n + 1 => gFt c f p l n && gSo f ((gSq c p l (n + 1)) 4) (n + 1) 0 (gKn f)
def gLkF (c : CA) (f : FA) (p span : Nat) (l : Nat) (y : Int32) : Int32 := if gFt c f p l span = true then y ||| ((1 : Int32) <<< (nI l &&& 31)) else y
def gLk (c : CA) (f : FA) (p span : Nat) : Int32 := gLp (gLkF c f p span) 0 10 0
def gLeaks (c : CA) (f : FA) (x : Int32) : Int32 := match gIx x (c 0 0) with
  | none => -1
  | some p => gLk c f p (gEnd f)
def gVal (c : CA) (p l t : Nat) : Int32 := gSq c p l t 4 p
def gAl (c : CA) (p : Nat) (w : Int32) (t l : Nat) : Nat := gCnt (fun i => bt w i && decide (gVal c p i t = gVal c p l t)) 10
def gWsF (c : CA) (p : Nat) (w : Int32) (t : Nat) : Nat → Nat
  | 0 => 0
  | n + 1 => if bt w n = true ∧ gWsF c p w t n < gAl c p w t n then gAl c p w t n else gWsF c p w t n
def gWs (c : CA) (p : Nat) (w : Int32) (t : Nat) : Nat := gWsF c p w t 10
def gBst (W : Nat → Nat) : Nat → Nat → Nat → Nat
  | 0, _, b => b
  | n + 1, t, b => gBst W n (t + 1) (if W t < W b then t else b)
def gAsk (c : CA) (f : FA) (x w : Int32) : Int32 := match gIx x (c 0 0) with
  | none => -1
  | some p => if gHalf w = true then (if w = 0 then nI (gBst (gWs c p (gLk c f p 60)) 59 2 1) else nI (gWs c p (gLk c f p 60) (gBst (gWs c p (gLk c f p 60)) 59 2 1))) else -1
section Rr
variable {d b : Nat} {Q : Option MV → MS → Prop} {c : CA} {s : SA} {σ : MS} {f : FA}
theorem lMd_v {p l : Nat} (hp : p < c 0 0) (hl : l ≤ 9) : MV' c (lMd p l) := ⟨fun z => absurd z (by decide : ¬ (0 : Nat) = 2), fun q hq => by simp [lMd] at hq; omega, hl⟩
theorem gSq_t (c : CA) (p l : Nat) : ∀ t, t ≤ 1000 → SVt (gSq c p l t) ∧ gT (gSq c p l t) = t := by
  intro t
  induction t with
  | zero => intro _; exact ⟨⟨rfl, show (0 : Int32).toNatClampNeg ≤ 100000 by decide⟩, rfl⟩
  | succ t ih =>
    intro ht
    have i0 := ih (by omega)
    have := i0.1.step (c := c) (md := lMd p l) (by omega)
    exact ⟨this.1, by rw [gSq, this.2, i0.2]⟩
def SEEN (c : CA) (p span : Nat) (σ : MS) (l t : Nat) : Prop := (∀ l' t', l' < l → 1 ≤ t' → t' ≤ span → σ.1 11 0 (60 * l' + t' - 1) = gVal c p l' t') ∧ ∀ t', 1 ≤ t' → t' ≤ t → σ.1 11 0 (60 * l + t' - 1) = gVal c p l t'
theorem S_weigh (h : WK σ b c s) (hf : FW c f) (hc : FCR σ f) (hk : STK σ f) {p span : Nat} (hp : p < c 0 0) (hs : span ≤ 60) (H : ∀ τ, SX wqL σ τ → SEEN c p span τ 10 0 → Q (some (iV (gLk c f p span))) τ) : R mj_OC (d + 1 + 1 + 1 + 1 + 1 + 1) mX10_weigh Q 0 [some (rV 0 0), some (iV (nI p)), some (iV (nI span)), none, none, none, none] [] σ := by
  have V := h.V
  have np := V.np
  have kf : ∀ {τ : MS}, SX [(6, 2), (35, 2), (36, 2), (37, 2), (7, 0), (38, 0), (34, 0), (34, 1), (11, 0)] σ τ → FCR τ f ∧ STK τ f := fun hq => ⟨hc.keep hq (by decide), fun i hi => by rw [(hq 43 0 (by decide)).1]; exact hk i hi⟩
  have wq : ∀ {τ : MS}, SX [(6, 2), (35, 2), (36, 2), (37, 2), (7, 0), (38, 0), (34, 0), (34, 1), (11, 0)] σ τ → SX wqL σ τ := fun hq => hq.wk (by decide)
  have ml : ∀ {α β : MS}, SB (mL 2 b) α β → SX [(6, 2), (35, 2), (36, 2), (37, 2), (7, 0), (38, 0), (34, 0), (34, 1), (11, 0)] α β := fun hq => hq.x.wk (by
    have : b = 0 ∨ b = 1 := by have := h.lt; omega
    rcases this with rfl | rfl <;> decide)
  have L20 : ∀ (r l : Nat) (y : Int32) (φ : MS), l + r = 10 → SX [(6, 2), (35, 2), (36, 2), (37, 2), (7, 0), (38, 0), (34, 0), (34, 1), (11, 0)] σ φ → (∃ l', MR φ (lMd p l')) → SEEN c p span φ l 0 → (∀ τ, SX wqL σ τ → SEEN c p span τ 10 0 → Q (some (iV (gLp (gLkF c f p span) l r y))) τ) → R mj_OC (d + 1 + 1 + 1 + 1 + 1 + 1) mX10_weigh Q 20 [some (rV 0 0), some (iV (nI p)), some (iV (nI span)), some (iV y), some (iV (nI l)), none, none] [] φ := by
    intro r
    induction r with
    | zero =>
      intro l y φ hl hx hm hn H
      obtain rfl : l = 10 := by omega
      exact bX10_weigh_20 ⟨fun _ => H φ (wq hx) hn, fun z => absurd (by decide) z⟩
    | succ r ih =>
      intro l y φ hl hx hm hn H
      obtain ⟨l', hm⟩ := hm
      have v20 : ∀ {z : Int32}, z = nI (l + 1) → True := fun _ => trivial
      -- the minutes of this leak
      have L53 : ∀ (q t : Nat) (ψ : MS), t + q = span → SX [(6, 2), (35, 2), (36, 2), (37, 2), (7, 0), (38, 0), (34, 0), (34, 1), (11, 0)] σ ψ → MR ψ (lMd p l) → SC ψ 2 b c (gSq c p l t) → SEEN c p span ψ l t → R mj_OC (d + 1 + 1 + 1 + 1 + 1 + 1) mX10_weigh Q 53 [some (rV 0 0), some (iV (nI p)), some (iV (nI span)), some (iV y), some (iV (nI l)), some (iV (i01 (gFt c f p l t))), some (iV (nI (t + 1)))] [] ψ := by
        intro q
        induction q with
        | zero =>
          intro t ψ ht hx hm hs' hn
          obtain rfl : t = span := by omega
          have hn2 : SEEN c p t ψ (l + 1) 0 := ⟨fun l2 t2 a1 a2 a3 => by
            by_cases e : l2 = l
            · subst e; exact hn.2 t2 a2 a3
            · exact hn.1 l2 t2 (by omega) a2 a3, fun t2 a1 a2 => by omega⟩
          refine bX10_weigh_53 ⟨fun _ => ⟨fun z => ?_, fun z => ?_⟩, fun z => absurd ((nI_ltI (by omega) (by omega)).mpr (by omega)) z⟩
          · have g : gFt c f p l t = false := by
              cases e : gFt c f p l t with
              | false => rfl
              | true => rw [e] at z; exact absurd z (by decide)
            rw [nI_1]
            refine ih (l + 1) y ψ (by omega) hx ⟨l, hm⟩ hn2 (fun τ t1 t2 => ?_)
            have := H τ t1 t2
            rw [gLp, gLkF, if_neg (by rw [g]; decide)] at this; exact this
          · have g : gFt c f p l t = true := by
              cases e : gFt c f p l t with
              | true => rfl
              | false => rw [e] at z; exact absurd rfl z
            rw [nI_1]
            refine ih (l + 1) _ ψ (by omega) hx ⟨l, hm⟩ hn2 (fun τ t1 t2 => ?_)
            have := H τ t1 t2
            rw [gLp, gLkF, if_pos g] at this; exact this
        | succ q ihq =>
          intro t ψ ht hx hm hs' hn
          have tv := gSq_t c p l t (by omega)
          refine bX10_weigh_53 ⟨fun z => ?_, fun _ => S_oneMinute hs' hm tv.1 (lMd_v hp (by omega)) (fun χ c1 c2 => bX10_weigh_70 ?_)⟩
          · rw [nI_ltI (by omega) (by omega)] at z; omega
          have xχ := hx.tr (ml c1)
          have mχ := hm.stp c1
          have c2' : SC χ 2 b c (gSq c p l (t + 1)) := c2
          have e11 : ∀ j, χ.1 11 0 j = ψ.1 11 0 j := fun j => c1.i (by simp [mL]) j
          have nχ : SEEN c p span χ l t := ⟨fun l2 t2 a1 a2 a3 => by rw [e11]; exact hn.1 l2 t2 a1 a2 a3, fun t2 a1 a2 => by rw [e11]; exact hn.2 t2 a1 a2⟩
          have ix : nI l * (60 : Int32) + nI (t + 1) - 1 = nI (60 * l + t) := by
            rw [show (60 : Int32) = nI 60 from rfl, pk_mul, nI_add, show l * 60 + (t + 1) = (60 * l + t) + 1 by omega, nI_pred]
          have go : ∀ (ω : MS) (so : Bool), SX [(6, 2), (35, 2), (36, 2), (37, 2), (7, 0), (38, 0), (34, 0), (34, 1), (11, 0)] σ ω → MR ω (lMd p l) → SC ω 2 b c (gSq c p l (t + 1)) → SEEN c p span ω l t → so = gFt c f p l (t + 1) → vp_in (nI p) 7 ∧ vp_in (((nI l * (60 : Int32)) + nI (t + 1)) - (1 : Int32)) 600 ∧ R mj_OC (d + 1 + 1 + 1 + 1 + 1 + 1) mX10_weigh Q 53 [some (rV 0 0), some (iV (nI p)), some (iV (nI span)), some (iV y), some (iV (nI l)), some (iV (i01 so)), some (iV (nI (t + 1) + (1 : Int32)))] [] (uI ω 11 0 ((((nI l * (60 : Int32)) + nI (t + 1)) - (1 : Int32)).toNatClampNeg) (ω.1 35 2 ((nI p).toNatClampNeg))) := by
            intro ω so xω mω sω nω eso
            subst eso
            rw [ix, nI_clamp (by omega), cl hp (by omega), sω.wr hp, nI_1]
            have sb : SB [(11, 0)] ω (uI ω 11 0 (60 * l + t) (gSq c p l (t + 1) 4 p)) := SB.uI (by simp)
            refine ⟨vin hp np (by decide), vin (show 60 * l + t < 600 by omega) (Nat.le_refl _) (by decide), ihq (t + 1) _ (by omega) (xω.tr (sb.x.wk (by decide))) (mω.keep sb (by decide)) (sω.keep sb rfl (by decide)) ⟨fun l2 t2 a1 a2 a3 => ?_, fun t2 a1 a2 => ?_⟩⟩
            · have : ¬ 60 * l2 + t2 - 1 = 60 * l + t := by omega
              simp only [uI, this, and_false, if_false]
              exact nω.1 l2 t2 a1 a2 a3
            · by_cases e : t2 = t + 1
              · subst e
                have : 60 * l + (t + 1) - 1 = 60 * l + t := by omega
                simp only [uI, this, and_self, if_true]
                rfl
              · have : ¬ 60 * l + t2 - 1 = 60 * l + t := by omega
                simp only [uI, this, and_false, if_false]
                exact nω.2 t2 a1 (by omega)
          have kc := kf xχ
          refine ⟨fun z => ?_, fun z => ?_⟩
          · have g : gFt c f p l t = false := by
              cases e : gFt c f p l t with
              | false => rfl
              | true => rw [e] at z; exact absurd z (by decide)
            exact go χ false xχ mχ c2' nχ (by rw [gFt, g]; rfl)
          · have g : gFt c f p l t = true := by
              cases e : gFt c f p l t with
              | true => rfl
              | false => rw [e] at z; exact absurd rfl z
            refine S_hold hf kc.1 kc.2 c2' (t := t + 1) (by omega) (fun g2 => bX10_weigh_91 ⟨fun z => absurd z (by decide), fun _ => ?_⟩) (fun g2 => bX10_weigh_91 ⟨fun _ => ?_, fun z => absurd rfl z⟩)
            · exact go χ true xχ mχ c2' nχ (by rw [gFt, g, g2]; rfl)
            · exact go χ false xχ mχ c2' nχ (by rw [gFt, g, g2]; rfl)
      refine bX10_weigh_20 ⟨fun z => ?_, fun _ => ?_⟩
      · rw [show (10 : Int32) = nI 10 from rfl, nI_le2 (by omega) (by omega)] at z; omega
      have x1 : SX [(6, 2), (35, 2), (36, 2), (37, 2), (7, 0), (38, 0), (34, 0), (34, 1), (11, 0)] φ (uI φ 7 0 7 (nI l)) := SX.uI (by decide)
      have h1 := h.q ((wq hx).tr (x1.wk (by decide)))
      have m1 : MR (uI φ 7 0 7 (nI l)) (lMd p l) := by
        unfold MR at hm ⊢
        simp only [lMd] at hm ⊢
        simp [uI]
        exact ⟨hm.1, hm.2.1, hm.2.2.1, hm.2.2.2.1, hm.2.2.2.2.1, hm.2.2.2.2.2.1, hm.2.2.2.2.2.2.1⟩
      have e0 : (uI φ 7 0 7 (nI l)).2.2 0 0 = b := h1.1
      rw [show φ.2.2 0 0 = b from e0]
      refine S_begin (o := 2) (by decide) h1.B (fun ψ b1 b2 => bX10_weigh_50 ?_)
      have x2 : SX [(6, 2), (35, 2), (36, 2), (37, 2), (7, 0), (38, 0), (34, 0), (34, 1), (11, 0)] (uI φ 7 0 7 (nI l)) ψ := b1.wk (by decide)
      refine L53 span 0 ψ (by omega) ((hx.tr x1).tr x2) ?_ b2 ⟨fun l2 t2 a1 a2 a3 => ?_, fun t2 a1 a2 => by omega⟩
      · unfold MR; rw [(b1 7 0 (by decide)).1]; exact m1
      · rw [(b1 11 0 (by decide)).1]
        simp [uI]
        exact hn.1 l2 t2 a1 a2 a3
  refine bX10_weigh_0 (S_asItGoes (fun τ hτ hm => bX10_weigh_9 ?_))
  have x1 : SX [(6, 2), (35, 2), (36, 2), (37, 2), (7, 0), (38, 0), (34, 0), (34, 1), (11, 0)] σ (uI τ 7 0 6 (nI p)) := (hτ.x.wk (by decide)).tr (SX.uI (by decide))
  refine L20 10 0 0 _ rfl x1 ⟨0, ?_⟩ ⟨fun l2 t2 a1 => by omega, fun t2 a1 a2 => by omega⟩ H
  unfold MR at hm ⊢
  simp only [md0, lMd] at hm ⊢
  simp [uI]
  exact ⟨hm.1, hm.2.1, hm.2.2.1, hm.2.2.2.1, hm.2.2.2.2.1, hm.2.2.2.2.2.1, rfl, hm.2.2.2.2.2.2.2⟩
theorem S_leaks (h : WK σ b c s) (hf : FW c f) (hc : FCR σ f) {x : Int32} (H : ∀ τ, SX wqL σ τ → Q (some (iV (gLeaks c f x))) τ) : R mj_OC (d + 1 + 1 + 1 + 1 + 1 + 1 + 1) mX10_leaks Q 0 [some (rV 0 0), some (iV x)] [] σ := by
  have H0 := H σ SX.rf
  have en := gEn_le hf (gKn f) hf.kn
  refine bX10_leaks_0 (S_isPond h (fun p hp ex e => bX10_leaks_5 ⟨fun _ => ?_, fun z => absurd z (by decide)⟩) (fun e => bX10_leaks_5 ⟨fun z => absurd rfl z, fun _ => by rw [gLeaks, e] at H0; exact H0⟩))
  subst ex
  refine S_settle hf hc (fun τ t1 t2 => bX10_leaks_17 ?_)
  have x1 : SX wqL σ τ := t1.x.wk (by decide)
  have hcτ : FCR τ f := hc.keep t1.x (by decide)
  refine S_lastKnownMinute hf hcτ t2 (bX10_leaks_26 (S_weigh (h.q x1) hf hcτ t2 hp en (fun υ u1 u2 => bX10_leaks_29 ?_)))
  have := H υ (x1.tr u1)
  rw [gLeaks, e] at this
  exact this
theorem bt_both {x : Int32} {i j : Nat} (hi : i < 32) (hj : j < 32) : (((x >>> (nI i &&& 31)) &&& (x >>> (nI j &&& 31))) &&& 1 = 1) ↔ bt x i = true ∧ bt x j = true := by
  have e : ∀ {k : Nat}, k < 32 → bt (x >>> (nI k &&& 31)) 0 = bt x k := fun hk => by
    rw [Bool.eq_iff_iff, ← bt_one, bt_sh hk]
  rw [bt_one, bt_and, e hi, e hj, Bool.and_eq_true]
theorem S_leftAtWorst {p : Nat} {w : Int32} {t : Nat} (hn : SEEN c p 60 σ 10 0) (ht : 1 ≤ t ∧ t ≤ 60) (H : Q (some (iV (nI (gWs c p w t)))) σ) : R mj_OC (d + 1) mX10_leftAtWorst Q 0 [some (rV 0 0), some (iV w), some (iV (nI t)), none, none, none, none] [] σ := by
  have ix : ∀ l, nI l * (60 : Int32) + nI t - 1 = nI (60 * l + t - 1) := fun l => by
    rw [show (60 : Int32) = nI 60 from rfl, pk_mul, nI_add, show l * 60 + t = (60 * l + t - 1) + 1 by omega, nI_pred]
  have wl : ∀ n, gWsF c p w t n ≤ 10 := by
    intro n
    induction n with
    | zero => exact Nat.zero_le _
    | succ n ih =>
      rw [gWsF]
      split
      · exact gCnt_le _ _
      · exact ih
  refine bX10_leftAtWorst_0 ?_
  refine up_loop (n := 10) (fun l => R mj_OC (d + 1) mX10_leftAtWorst Q 5 [some (rV 0 0), some (iV w), some (iV (nI t)), some (iV (nI (gWsF c p w t l))), some (iV (nI l)), none, none] [] σ) ?_ ?_ 0 (by omega)
  · exact bX10_leftAtWorst_5 ⟨fun _ => H, fun z => absurd (by decide) z⟩
  · intro l hl ih
    have wll := wl l
    rw [gWsF] at ih
    refine bX10_leftAtWorst_5 ⟨fun z => ?_, fun _ => ?_⟩
    · rw [show (10 : Int32) = nI 10 from rfl, nI_le2 (by omega) (by omega)] at z; omega
    suffices hz : R mj_OC (d + 1) mX10_leftAtWorst Q 18 [some (rV 0 0), some (iV w), some (iV (nI t)), some (iV (nI (gWsF c p w t l))), some (iV (nI l)), some (iV (nI (if bt w l = true then gCnt (fun i => bt w i && decide (gVal c p i t = gVal c p l t)) 0 else 0))), some (iV (nI 0))] [] σ by
      have e0 : (if bt w l = true then gCnt (fun i => bt w i && decide (gVal c p i t = gVal c p l t)) 0 else 0) = 0 := by split <;> rfl
      rw [e0] at hz
      exact hz
    refine up_loop (n := 10) (fun o => R mj_OC (d + 1) mX10_leftAtWorst Q 18 [some (rV 0 0), some (iV w), some (iV (nI t)), some (iV (nI (gWsF c p w t l))), some (iV (nI l)), some (iV (nI (if bt w l = true then gCnt (fun i => bt w i && decide (gVal c p i t = gVal c p l t)) o else 0))), some (iV (nI o))] [] σ) ?_ ?_ 0 (by omega)
    · refine bX10_leftAtWorst_18 ⟨fun _ => ?_, fun z => absurd (by decide) z⟩
      rw [nI_1]
      have al : gAl c p w t l ≤ 10 := gCnt_le _ _
      by_cases g : bt w l = true
      · rw [if_pos g, show gCnt (fun i => bt w i && decide (gVal c p i t = gVal c p l t)) 10 = gAl c p w t l from rfl]
        by_cases q : gWsF c p w t l < gAl c p w t l
        · rw [if_pos ⟨g, q⟩] at ih
          rw [if_pos ((nI_ltI (by omega) (by omega)).mpr q)]; exact ih
        · rw [if_neg (fun z => q z.2)] at ih
          rw [if_neg (fun z => q ((nI_ltI (by omega) (by omega)).mp z))]; exact ih
      · rw [if_neg (fun z => g z.1)] at ih
        rw [if_neg g, if_neg (fun z => by rw [nI_ltI (by omega) (by omega)] at z; omega)]; exact ih
    · intro o ho ih2
      have go := gCnt_le (fun i => bt w i && decide (gVal c p i t = gVal c p l t)) o
      rw [gCnt] at ih2
      refine bX10_leftAtWorst_18 ⟨fun z => ?_, fun _ => ⟨fun z => ?_, fun z => ?_⟩⟩
      · rw [show (10 : Int32) = nI 10 from rfl, nI_le2 (by omega) (by omega)] at z; omega
      · rw [bt_both (by omega) (by omega)] at z
        rw [nI_1]
        by_cases g : bt w l = true
        · have : ¬ bt w o = true := fun q => z ⟨g, q⟩
          rw [if_pos g, if_neg (by simp [this]), Nat.add_zero] at ih2
          rw [if_pos g]; exact ih2
        · rw [if_neg g] at ih2 ⊢; exact ih2
      · rw [bt_both (by omega) (by omega)] at z
        rw [ix l, ix o, nI_clamp (by omega), nI_clamp (by omega), hn.1 l t hl ht.1 ht.2, hn.1 o t ho ht.1 ht.2, if_pos z.1]
        rw [if_pos z.1] at ih2
        refine ⟨vin (show 60 * l + t - 1 < 600 by omega) (Nat.le_refl _) (by decide), vin (show 60 * o + t - 1 < 600 by omega) (Nat.le_refl _) (by decide), fun q => ?_, fun q => ?_⟩
        · rw [nI_1]
          rw [if_neg (by simp [z.2]; exact fun e => q e.symm), Nat.add_zero] at ih2; exact ih2
        · rw [nI_1, nI_1]
          rw [if_pos (by simp [z.2]; exact q.symm)] at ih2; exact ih2
theorem S_ask (h : WK σ b c s) (hf : FW c f) (hc : FCR σ f) {x w : Int32} (H : ∀ τ, SX wqL σ τ → Q (some (iV (gAsk c f x w))) τ) : R mj_OC (d + 1 + 1 + 1 + 1 + 1 + 1 + 1) mX10_ask Q 0 [some (rV 0 0), some (iV x), some (iV w), none, none, none, none, none] [] σ := by
  have H0 := H σ SX.rf
  refine bX10_ask_0 (S_isPond h (fun p hp ex e => bX10_ask_5 ⟨fun z => absurd z (by decide), fun _ => ?_⟩) (fun e => bX10_ask_5 ⟨fun _ => by rw [gAsk, e] at H0; exact H0, fun z => absurd rfl z⟩))
  refine S_isHalf (fun g _ => bX10_ask_12 ⟨fun _ => ?_, fun z => absurd z (by decide)⟩) (fun g => bX10_ask_12 ⟨fun z => absurd rfl z, fun _ => by rw [gAsk, e] at H0; simp only at H0; rw [if_neg (by rw [g]; decide)] at H0; exact H0⟩)
  subst ex
  refine S_settle hf hc (fun τ t1 t2 => bX10_ask_24 ?_)
  have x1 : SX wqL σ τ := t1.x.wk (by decide)
  have hcτ : FCR τ f := hc.keep t1.x (by decide)
  refine S_weigh (span := 60) (h.q x1) hf hcτ t2 hp (Nat.le_refl _) (fun υ u1 u2 => bX10_ask_31 (S_leftAtWorst u2 (t := 1) (by omega) (bX10_ask_41 ?_)))
  have H1 := H υ (x1.tr u1)
  rw [gAsk, e] at H1
  simp only at H1
  rw [if_pos g] at H1
  have wb : ∀ t, gWs c p (gLk c f p 60) t ≤ 10 := fun t => by
    have : ∀ n, gWsF c p (gLk c f p 60) t n ≤ 10 := by
      intro n
      induction n with
      | zero => exact Nat.zero_le _
      | succ n ih =>
        rw [gWsF]
        split
        · exact gCnt_le _ _
        · exact ih
    exact this 10
  have L : ∀ (r t bst : Nat), t + r = 61 → 1 ≤ bst → bst ≤ 60 → 2 ≤ t → gBst (gWs c p (gLk c f p 60)) r t bst = gBst (gWs c p (gLk c f p 60)) 59 2 1 → R mj_OC (d + 1 + 1 + 1 + 1 + 1 + 1 + 1) mX10_ask Q 46 [some (rV 0 0), some (iV (nI p)), some (iV w), some (iV (gLk c f p 60)), some (iV (nI bst)), some (iV (nI (gWs c p (gLk c f p 60) bst))), some (iV (nI t)), none] [] υ := by
    intro r
    induction r with
    | zero =>
      intro t bst ht b1 b2 _ hb
      obtain rfl : t = 61 := by omega
      rw [gBst] at hb
      rw [← hb] at H1
      refine bX10_ask_46 ⟨fun _ => ⟨fun w0 => ?_, fun w0 => ?_⟩, fun z => absurd (by decide) z⟩
      · rw [if_neg w0] at H1; exact H1
      · rw [if_pos w0] at H1; exact H1
    | succ r ih =>
      intro t bst ht b1 b2 t2 hb
      have w1 := wb t
      have w2 := wb bst
      rw [gBst] at hb
      refine bX10_ask_46 ⟨fun z => ?_, fun _ => S_leftAtWorst u2 (by omega) (bX10_ask_60 ⟨fun z => ?_, fun z => ?_⟩)⟩
      · rw [show (60 : Int32) = nI 60 from rfl, nI_ltI (by omega) (by omega)] at z; omega
      · rw [nI_le2 (by omega) (by omega)] at z
        rw [nI_1]
        rw [if_neg (by omega)] at hb
        exact ih (t + 1) bst (by omega) b1 b2 (by omega) hb
      · rw [nI_le2 (by omega) (by omega)] at z
        rw [nI_1]
        rw [if_pos (by omega)] at hb
        exact ih (t + 1) t (by omega) (by omega) (by omega) (by omega) hb
  exact L 59 2 1 rfl (by omega) (by omega) (by omega) rfl
end Rr
