/-! pass: the reference's flow -/
def Fl (σ : MS) : Nat → Int := fun k => (σ.1 78 0 k).toInt
def dA (c : CA) (j : Nat) : Nat := if j % 2 = 0 then c 9 (j / 2) else c 10 (j / 2)
def cloB (c : CA) (s : SA) (F : Nat → Int) (B : Int32) (n : Nat) : Prop := ∀ j, j < n → bt B (dA c j) = true → bt B (otN c (j / 2) (dA c j)) = false → rmI c s F (j / 2) (dA c j) = 0
def cnB (c : CA) (B : Int32) : Nat := gCnt (fun q => bt B q) (c 0 0)
def FI (c : CA) (s : SA) (F : Nat → Int) (fr : Nat) (φ : MS) (B : Int32) (ρ : Nat → Nat) : Prop := bt B fr = true ∧ (∀ q, q < 32 → bt B q = true → q < c 0 0) ∧ ∀ b, b < c 0 0 → bt B b = true → ¬ b = fr → ∃ k a, k < c 0 2 ∧ φ.1 79 0 b = nI k ∧ a < c 0 0 ∧ bt B a = true ∧ ρ a < ρ b ∧ ((c 9 k = a ∧ c 10 k = b) ∨ (c 10 k = a ∧ c 9 k = b)) ∧ 0 < rmI c s F k a
section Rl
variable {d : Nat} {c : CA} {s : SA} {σ : MS} {F : Nat → Int}
theorem dA_lt (V : CV c) {j : Nat} (hj : j < 2 * c 0 2) : dA c j < c 0 0 := by
  have := V.pipe (show j / 2 < c 0 2 by omega)
  unfold dA; split
  · exact this.1
  · exact this.2.1
theorem otN_lt (V : CV c) {k : Nat} (hk : k < c 0 2) (a : Nat) : otN c k a < c 0 0 := by
  have := V.pipe hk
  unfold otN; split
  · exact this.2.1
  · exact this.1
theorem M_otherOf {Q : Option MV → MS → Prop} (h : MB σ 0 c s) {k a : Nat} (hk : k < c 0 2) (ha : a ≤ 2000) (H : Q (some (iV (nI (otN c k a)))) σ) : R mj_OM d mX11_otherOf Q 0 [some (rV 45 0), some (iV (nI k)), some (iV (nI a))] [] σ := by
  have V := h.2.2.1
  have nk := V.nk
  have np := V.np
  have pp := V.pipe hk
  refine bX11_otherOf_0 ⟨vin hk (by omega) (by decide), fun z => ?_, fun z => ?_⟩
  · rw [cl hk (by omega), h.2.1.one hk] at z ⊢
    rw [nI_inj (by omega) ha] at z
    rw [otN, if_neg z] at H; exact H
  · rw [cl hk (by omega), h.2.1.one hk, nI_inj (by omega) ha] at z
    rw [cl hk (by omega), h.2.1.two hk]
    rw [otN, if_pos z] at H; exact H
theorem FBd.w (V : CV c) (h : FBd c s F) {k : Nat} (hk : k < c 0 2) : -99 ≤ F k ∧ F k ≤ 99 := by
  have pp := V.pipe hk
  have g := h k hk
  cases e : gUj s k with
  | true => have := g.1 e; omega
  | false => have := g.2 e; omega
theorem M_roomFrom {Q : Option MV → MS → Prop} (h : MB σ 0 c s) (hF : FBd c s (Fl σ)) {k a : Nat} (hk : k < c 0 2) (ha : a ≤ 2000) (H : ∀ z : Int32, z.toInt = rmI c s (Fl σ) k a → Q (some (iV z)) σ) : R mj_OM (d + 1) mX11_roomFrom Q 0 [some (rV 45 0), some (iV (nI k)), some (iV (nI a))] [] σ := by
  have V := h.2.2.1
  have nk := V.nk
  have np := V.np
  have pp := V.pipe hk
  have w := hF.w V hk
  have w2 : Fl σ k = (σ.1 78 0 k).toInt := rfl
  have e0 : (0 : Int32).toInt = 0 := by decide
  have en : (-(σ.1 78 0 k)).toInt = -(σ.1 78 0 k).toInt := by
    rw [← Int32.zero_sub, subI (by rw [e0]; omega) (by rw [e0]; omega), e0]; omega
  have ew : (nI (c 11 k)).toInt = (c 11 k : Int) := nI_toInt (by omega)
  refine bX11_roomFrom_0 (M_isJammed (k := 0) h (fun g => bX11_roomFrom_6 ⟨fun z => absurd z (by decide), fun _ => H 0 ?_⟩) (fun g => bX11_roomFrom_6 ⟨fun _ => ⟨vin hk (by omega) (by decide), fun z => ⟨vin hk (by omega) (by decide), H _ ?_⟩, fun z => ⟨vin hk (by omega) (by decide), H _ ?_⟩⟩, fun z => absurd rfl z⟩))
  · have : ¬ gUj s k = true := fun e => absurd g ((gUj_eq eqW.rf k).mp e)
    rw [rmI, if_neg this]; exact e0
  · have gu : gUj s k = true := (gUj_eq eqW.rf k).mpr g
    rw [cl hk (by omega), h.2.1.one hk, nI_inj (by omega) ha] at z
    rw [cl hk (by omega), h.2.1.wide hk, rmI, if_pos gu, if_neg z, subI (by rw [en, ew]; omega) (by rw [en, ew]; omega), en, ew]
    unfold Fl; omega
  · have gu : gUj s k = true := (gUj_eq eqW.rf k).mpr g
    rw [cl hk (by omega), h.2.1.one hk, nI_inj (by omega) ha] at z
    rw [cl hk (by omega), h.2.1.wide hk, rmI, if_pos gu, if_pos z, subI (by rw [ew]; omega) (by rw [ew]; omega), ew]
    rfl
theorem cnB_le (B : Int32) : cnB c B ≤ c 0 0 := gCnt_le _ _
theorem cnB_or {B : Int32} {b : Nat} (hb : b < c 0 0) (np : c 0 0 ≤ 7) (h : bt B b = false) : cnB c B + 1 ≤ cnB c (B ||| ((1 : Int32) <<< (nI b &&& 31))) := by
  refine gCnt_lt (c 0 0) (fun q _ hq => by simp only [bt_or, hq, Bool.true_or]) ⟨b, hb, h, ?_⟩
  rw [bt_or, bt_1 (by omega) (by omega)]; simp
theorem M_findsOne {Q : Option MV → MS → Prop} (h : MB σ 0 c s) (hF : FBd c s (Fl σ)) {fr to : Nat} (hp : fr < c 0 0) (hq : to < c 0 0)
    (H1 : ∀ (τ : MS) (B : Int32) (ρ : Nat → Nat), SB [(79, 0)] σ τ → FI c s (Fl σ) fr τ B ρ → bt B to = true → Q (some (iV 1)) τ)
    (H0 : ∀ (τ : MS) (B : Int32) (ρ : Nat → Nat), SB [(79, 0)] σ τ → FI c s (Fl σ) fr τ B ρ → bt B to = false → cloB c s (Fl σ) B (2 * c 0 2) → Q (some (iV 0)) τ) :
    R mj_OM (d + 1 + 1) mX11_findsOne Q 0 [some (rV 45 0), some (iV (nI fr)), some (iV (nI to)), none, none, none, none, none] [] σ := by
  have V := h.2.2.1
  have nk := V.nk
  have np := V.np
  have eF : ∀ {φ : MS}, SB [(79, 0)] σ φ → Fl φ = Fl σ := fun hb => by funext k; unfold Fl; rw [hb.i (by simp)]
  have L26 : ∀ (B0 : Int32) (r i : Nat) (B mm : Int32) (φ : MS) (ρ : Nat → Nat), i + r = 2 * c 0 2 → SB [(79, 0)] σ φ → FI c s (Fl σ) fr φ B ρ → (mm = 0 → B = B0 ∧ cloB c s (Fl σ) B0 i) → (¬ mm = 0 → cnB c B0 + 1 ≤ cnB c B) → (∀ (τ : MS) (B' mm' : Int32) (ρ' : Nat → Nat), SB [(79, 0)] σ τ → FI c s (Fl σ) fr τ B' ρ' → (mm' = 0 → B' = B0 ∧ cloB c s (Fl σ) B0 (2 * c 0 2)) → (¬ mm' = 0 → cnB c B0 + 1 ≤ cnB c B') → R mj_OM (d + 1 + 1) mX11_findsOne Q 7 [some (rV 45 0), some (iV (nI fr)), some (iV (nI to)), some (iV B'), some (iV mm'), none, none, none] [] τ) → R mj_OM (d + 1 + 1) mX11_findsOne Q 26 [some (rV 45 0), some (iV (nI fr)), some (iV (nI to)), some (iV B), some (iV mm), some (iV (nI i)), none, none] [] φ := by
    intro B0 r
    induction r with
    | zero =>
      intro i B mm φ ρ hi hb hf h0 h1 H
      obtain rfl : i = 2 * c 0 2 := by omega
      have hm : MB φ 0 c s := h.sy hb rfl rfl
      refine bX11_findsOne_26 ⟨vin (p := 2) (n := 3) (by omega) (by omega) (by decide), fun _ => H φ B mm ρ hb hf h0 h1, fun z => ?_⟩
      rw [hm.2.1.nk, show (2 : Int32) = nI 2 from rfl, pk_mul] at z; exact absurd (Int32.le_refl _) z
    | succ r ih =>
      intro i B mm φ ρ hi hb hf h0 h1 H
      have hm : MB φ 0 c s := h.sy hb rfl rfl
      have hk : i / 2 < c 0 2 := by omega
      have pp := V.pipe hk
      have da := dA_lt V (show i < 2 * c 0 2 by omega)
      have ol := otN_lt V hk (dA c i)
      have e2 : nI i / (2 : Int32) = nI (i / 2) := pk_div (d := 2) (by omega) (by omega) (by omega)
      have e3 : nI i - nI i / (2 : Int32) * 2 = nI (i % 2) := pk_rem (d := 2) (by omega) (by omega) (by omega)
      have skip : (bt B (dA c i) = true → bt B (otN c (i / 2) (dA c i)) = false → rmI c s (Fl σ) (i / 2) (dA c i) = 0) → R mj_OM (d + 1 + 1) mX11_findsOne Q 26 [some (rV 45 0), some (iV (nI fr)), some (iV (nI to)), some (iV B), some (iV mm), some (iV (nI i + 1)), none, none] [] φ := fun g => by
        rw [nI_1]
        refine ih (i + 1) B mm φ ρ (by omega) hb hf (fun m0 => ⟨(h0 m0).1, fun j hj b1 b2 => ?_⟩) h1 H
        by_cases e : j = i
        · subst e
          rw [← (h0 m0).1] at b1 b2
          exact g b1 b2
        · exact (h0 m0).2 j (by omega) b1 b2
      have core : ∀ a, a = dA c i → R mj_OM (d + 1) mX11_otherOf (fun r σ' => R mj_OM (d + 1 + 1) mX11_findsOne Q 79 [some (rV 45 0), some (iV (nI fr)), some (iV (nI to)), some (iV B), some (iV mm), some (iV (nI i)), some (iV (nI a)), none] (r.toList ++ []) σ') 0 [some (rV 45 0), some (iV (nI (i / 2))), some (iV (nI a))] [] φ := by
        intro a ea
        subst ea
        refine M_otherOf hm hk (by omega) (bX11_findsOne_79 ⟨fun z => skip (fun b1 _ => ?_), fun z => ⟨fun z2 => skip (fun _ b2 => ?_), fun z2 => ?_⟩⟩)
        · rw [bit_one (by omega), b1] at z; exact absurd z (by decide)
        · rw [bt_sh (by omega), b2] at z2; exact absurd z2 (by decide)
        have ba : bt B (dA c i) = true := by
          rw [bit_one (by omega)] at z
          cases e : bt B (dA c i) with
          | true => rfl
          | false => rw [e] at z; exact absurd rfl z
        have bb : bt B (otN c (i / 2) (dA c i)) = false := by
          rw [bt_sh (by omega)] at z2
          simpa using z2
        rw [e2]
        refine M_roomFrom hm (by rw [eF hb]; exact hF) hk (by omega) (fun z hz => bX11_findsOne_110 ⟨fun z0 => ⟨vin ol (by omega) (by decide), ?_⟩, fun z0 => skip (fun _ _ => ?_)⟩)
        · rw [cl ol (by omega), e2, nI_1]
          rw [eF hb] at hz
          have gu : gUj s (i / 2) = true := by
            cases e : gUj s (i / 2) with
            | true => rfl
            | false =>
              rw [rmI, if_neg (by rw [e]; decide)] at hz
              exact absurd (i32_eq.mpr (by rw [hz]; decide)) z0
          have rp : 0 < rmI c s (Fl σ) (i / 2) (dA c i) := by
            have g := (hF _ hk).1 gu
            have g0 : ¬ rmI c s (Fl σ) (i / 2) (dA c i) = 0 := fun e => z0 (i32_eq.mpr (by rw [hz, e]; decide))
            rw [rmI, if_pos gu] at g0 ⊢
            split at g0 <;> split <;> omega
          have hb2 : SB [(79, 0)] φ (uI φ 79 0 (otN c (i / 2) (dA c i)) (nI (i / 2))) := SB.uI (by simp)
          have cb := cnB_or (c := c) ol np bb
          have bo : ∀ q, q < 32 → (bt (B ||| ((1 : Int32) <<< (nI (otN c (i / 2) (dA c i)) &&& 31))) q = true ↔ bt B q = true ∨ q = otN c (i / 2) (dA c i)) := fun q hq => by
            rw [bt_or, bt_1 (by omega) hq, Bool.or_eq_true, decide_eq_true_eq]
            exact ⟨fun h => h.elim Or.inl (fun e => Or.inr e.symm), fun h => h.elim Or.inl (fun e => Or.inr e.symm)⟩
          refine ih (i + 1) _ 1 _ (fun x => if x = otN c (i / 2) (dA c i) then ρ (dA c i) + 1 else ρ x) (by omega) (hb.tr hb2) ⟨?_, fun q hq' hq2 => ?_, fun x hx bx nx => ?_⟩ (fun z => absurd z (by decide)) (fun _ => ?_) H
          · exact (bo fr (by omega)).mpr (Or.inl hf.1)
          · rcases (bo q hq').mp hq2 with g | g
            · exact hf.2.1 q hq' g
            · rw [g]; exact ol
          · by_cases e : x = otN c (i / 2) (dA c i)
            · subst e
              have ne : dA c i ≠ otN c (i / 2) (dA c i) := fun e => by rw [← e, ba] at bb; exact absurd bb (by decide)
              refine ⟨i / 2, dA c i, hk, by simp [uI], da, (bo _ (by omega)).mpr (Or.inl ba), by simp [ne], ?_, rp⟩
              unfold otN
              by_cases g : c 9 (i / 2) = dA c i
              · rw [if_pos g]; exact Or.inl ⟨g, rfl⟩
              · rw [if_neg g]
                refine Or.inr ⟨?_, rfl⟩
                unfold dA at g ⊢
                by_cases g3 : i % 2 = 0
                · rw [if_pos g3] at g; exact absurd rfl g
                · rw [if_neg g3]
            · have bx' : bt B x = true := ((bo x (by omega)).mp bx).resolve_right e
              obtain ⟨k, a, k1, k2, k3, k4, k5, k6⟩ := hf.2.2 x hx bx' nx
              have ane : ¬ a = otN c (i / 2) (dA c i) := fun e => by rw [e, bb] at k4; exact absurd k4 (by decide)
              refine ⟨k, a, k1, by simp [uI, e]; exact k2, k3, (bo a (by omega)).mpr (Or.inl k4), by simp [ane, e]; exact k5, k6⟩
          · by_cases m0 : mm = 0
            · rw [← (h0 m0).1]; exact cb
            · have := h1 m0; omega
        · rw [eF hb] at hz
          rw [← hz, z0]; decide
      refine bX11_findsOne_26 ⟨vin (p := 2) (n := 3) (by omega) (by omega) (by decide), fun z => ?_, fun _ => ⟨fun z => ?_, fun z => ?_⟩⟩
      · rw [hm.2.1.nk, show (2 : Int32) = nI 2 from rfl, pk_mul, nI_le2 (by omega) (by omega)] at z; omega
      · rw [e3] at z
        rw [e2, cl hk (by omega), hm.2.1.two hk]
        refine ⟨vin hk (by omega) (by decide), core (c 10 (i / 2)) ?_⟩
        have : ¬ i % 2 = 0 := fun e => z (by rw [e]; rfl)
        rw [dA, if_neg this]
      · rw [e3, show (0 : Int32) = nI 0 from rfl, nI_inj (by omega) (by omega)] at z
        rw [e2, cl hk (by omega), hm.2.1.one hk]
        refine ⟨vin hk (by omega) (by decide), core (c 9 (i / 2)) ?_⟩
        rw [dA, if_pos z]
  have f1 : ∀ {B : Int32}, ((B >>> (nI to &&& 31)) &&& 1 = 1) ↔ bt B to = true := bt_sh (by omega)
  have fin : ∀ (B : Int32) (φ : MS) (ρ : Nat → Nat), SB [(79, 0)] σ φ → FI c s (Fl σ) fr φ B ρ → (bt B to = false → cloB c s (Fl σ) B (2 * c 0 2)) → ((¬ ((B >>> (nI to &&& 31)) &&& 1) = 1 → Q (some (iV 0)) φ) ∧ (((B >>> (nI to &&& 31)) &&& 1) = 1 → Q (some (iV 1)) φ)) := fun B φ ρ hb hf hc => ⟨fun z => by
      rw [f1] at z
      have : bt B to = false := by simpa using z
      exact H0 φ B ρ hb hf this (hc this), fun z => H1 φ B ρ hb hf (f1.mp z)⟩
  have L7 : ∀ (r : Nat) (B mm : Int32) (φ : MS) (ρ : Nat → Nat), c 0 0 ≤ cnB c B + r → SB [(79, 0)] σ φ → FI c s (Fl σ) fr φ B ρ → (mm = 0 → cloB c s (Fl σ) B (2 * c 0 2)) → R mj_OM (d + 1 + 1) mX11_findsOne Q 7 [some (rV 45 0), some (iV (nI fr)), some (iV (nI to)), some (iV B), some (iV mm), none, none, none] [] φ := by
    intro r
    induction r with
    | zero =>
      intro B mm φ ρ hr hb hf hc
      refine bX11_findsOne_7 ⟨fun m0 => fin B φ ρ hb hf (fun _ => hc m0), fun m0 => ⟨fun z => fin B φ ρ hb hf (fun e => ?_), fun z => ?_⟩⟩
      · rw [bit_one (by omega), e] at z; exact absurd rfl z
      · rw [bit_one (by omega)] at z
        have e : bt B to = false := by
          cases e : bt B to with
          | false => rfl
          | true => rw [e] at z; exact absurd z (by decide)
        have := cnB_or (c := c) hq np e
        have := cnB_le (c := c) (B ||| ((1 : Int32) <<< (nI to &&& 31)))
        omega
    | succ r ih =>
      intro B mm φ ρ hr hb hf hc
      refine bX11_findsOne_7 ⟨fun m0 => fin B φ ρ hb hf (fun _ => hc m0), fun m0 => ⟨fun z => fin B φ ρ hb hf (fun e => ?_), fun z => ?_⟩⟩
      · rw [bit_one (by omega), e] at z; exact absurd rfl z
      · refine L26 B (2 * c 0 2) 0 B 0 φ ρ (by omega) hb hf (fun _ => ⟨rfl, fun j hj => by omega⟩) (fun z => absurd rfl z) (fun τ B' mm' ρ' t1 t2 t3 t4 => ?_)
        by_cases m1 : mm' = 0
        · have := t3 m1
          rw [this.1] at t2 ⊢
          refine bX11_findsOne_7 ⟨fun _ => fin B τ ρ' t1 t2 (fun _ => this.2), fun z => absurd m1 z⟩
        · have := t4 m1
          exact ih B' mm' τ ρ' (by omega) t1 t2 (fun z => absurd z m1)
  refine bX11_findsOne_0 (L7 (c 0 0) _ 1 σ (fun _ => 0) (by omega) SB.rf ⟨?_, fun q hq' hq2 => ?_, fun b hb bb nb => ?_⟩ (fun z => absurd z (by decide)))
  · rw [bt_1 (by omega) (by omega)]; simp
  · rw [bt_1 (by omega) hq', decide_eq_true_eq] at hq2; omega
  · rw [bt_1 (by omega) (by omega), decide_eq_true_eq] at bb; exact absurd bb.symm nb
end Rl
