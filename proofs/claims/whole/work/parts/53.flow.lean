/-! pass: the narrowest cut, the greatest flow -/
def gSN (f : Nat → Nat) : Nat → Nat
  | 0 => 0
  | n + 1 => gSN f n + f n
def sumI (f : Nat → Int) : Nat → Int
  | 0 => 0
  | n + 1 => sumI f n + f n
def tmI (c : CA) (F : Nat → Int) (T : Nat → Bool) (k : Nat) : Int := if T (c 9 k) = true then (if T (c 10 k) = true then 0 else F k) else (if T (c 10 k) = true then -F k else 0)
def ctN (c : CA) (s : SA) (T : Nat → Bool) (k : Nat) : Nat := if gUj s k = true ∧ ¬ T (c 9 k) = T (c 10 k) then c 11 k else 0
def cutN (c : CA) (s : SA) (T : Nat → Bool) : Nat := gSN (ctN c s T) (c 0 2)
def netI (c : CA) (F : Nat → Int) (T : Nat → Bool) : Int := sumI (tmI c F T) (c 0 2)
def FBd (c : CA) (s : SA) (F : Nat → Int) : Prop := ∀ k, k < c 0 2 → (gUj s k = true → -(c 11 k : Int) ≤ F k ∧ F k ≤ c 11 k) ∧ (gUj s k = false → F k = 0)
def rmI (c : CA) (s : SA) (F : Nat → Int) (k a : Nat) : Int := if gUj s k = true then (if c 9 k = a then (c 11 k : Int) - F k else (c 11 k : Int) + F k) else 0
def otN (c : CA) (k a : Nat) : Nat := if c 9 k = a then c 10 k else c 9 k
def gCutF (c : CA) (s : SA) (p q : Nat) (side v : Nat) : Nat := if side.testBit p = true ∧ side.testBit q = false then (if cutN c s (fun r => side.testBit r) < v then cutN c s (fun r => side.testBit r) else v) else v
def gCut (c : CA) (s : SA) (p q : Nat) : Nat := gLp (gCutF c s p q) 0 (2 ^ c 0 0) 2147483647
def gPass (c : CA) (s : SA) (x y : Int32) : Int32 := match gIx x (c 0 0) with
  | none => -1
  | some p => match gIx y (c 0 0) with
    | none => -1
    | some q => if x = y then -1 else nI (gCut c s p q)
section Rj
variable {c : CA} {s : SA} {F : Nat → Int} {T : Nat → Bool}
theorem gSN_le {f : Nat → Nat} {b : Nat} (h : ∀ i, f i ≤ b) : ∀ n, gSN f n ≤ b * n := by
  intro n
  induction n with
  | zero => exact Nat.le_refl _
  | succ n ih => have := h n; rw [gSN, Nat.mul_succ]; omega
theorem gSN_congr {f g : Nat → Nat} : ∀ n, (∀ i, i < n → f i = g i) → gSN f n = gSN g n := by
  intro n
  induction n with
  | zero => intro _; rfl
  | succ n ih => intro h; rw [gSN, gSN, ih (fun i hi => h i (by omega)), h n (by omega)]
theorem cutN_le (V : CV c) : cutN c s T ≤ 990 := by
  have nk := V.nk
  unfold cutN
  have : gSN (ctN c s T) (c 0 2) = gSN (fun k => if k < c 0 2 then ctN c s T k else 0) (c 0 2) := gSN_congr _ (fun i hi => by rw [if_pos hi])
  rw [this]
  have := gSN_le (f := fun k => if k < c 0 2 then ctN c s T k else 0) (b := 99) (fun i => by
    by_cases g : i < c 0 2
    · simp only [if_pos g]
      have := V.pipe g
      unfold ctN; split <;> omega
    · simp only [if_neg g]; omega) (c 0 2)
  omega
theorem cutN_congr (V : CV c) {T' : Nat → Bool} (h : ∀ r, r < c 0 0 → T r = T' r) : cutN c s T = cutN c s T' := gSN_congr _ (fun i hi => by
  have pp := V.pipe hi
  unfold ctN
  rw [h _ pp.1, h _ pp.2.1])
theorem net_le (V : CV c) (hF : FBd c s F) : netI c F T ≤ (cutN c s T : Int) := by
  have : ∀ n, n ≤ c 0 2 → sumI (tmI c F T) n ≤ (gSN (ctN c s T) n : Int) := by
    intro n
    induction n with
    | zero => intro _; exact Int.le_refl _
    | succ n ih =>
      intro hn
      have h1 := ih (by omega)
      have h2 := hF n (by omega)
      have h3 : tmI c F T n ≤ (ctN c s T n : Int) := by
        unfold tmI ctN
        cases e1 : T (c 9 n) <;> cases e2 : T (c 10 n) <;> cases e3 : gUj s n <;> simp [e3] at h2 ⊢ <;> omega
      rw [sumI, gSN]; omega
  exact this (c 0 2) (Nat.le_refl _)
/-- nothing more can go out of T -/
theorem net_eq (V : CV c) (hF : FBd c s F) (h1 : ∀ k, k < c 0 2 → T (c 9 k) = true → T (c 10 k) = false → rmI c s F k (c 9 k) = 0) (h2 : ∀ k, k < c 0 2 → T (c 10 k) = true → T (c 9 k) = false → rmI c s F k (c 10 k) = 0) : netI c F T = (cutN c s T : Int) := by
  have : ∀ n, n ≤ c 0 2 → sumI (tmI c F T) n = (gSN (ctN c s T) n : Int) := by
    intro n
    induction n with
    | zero => intro _; rfl
    | succ n ih =>
      intro hn
      have e0 := ih (by omega)
      have g := hF n (by omega)
      have g1 := h1 n (by omega)
      have g2 := h2 n (by omega)
      have pp := V.pipe (show n < c 0 2 by omega)
      have h3 : tmI c F T n = (ctN c s T n : Int) := by
        unfold tmI ctN
        unfold rmI at g1 g2
        rw [if_pos rfl] at g1
        rw [if_neg pp.2.2.1] at g2
        cases e1 : T (c 9 n) <;> cases e2 : T (c 10 n) <;> cases e3 : gUj s n <;> simp [e1, e2, e3] at g g1 g2 ⊢ <;> omega
      rw [sumI, gSN, e0, h3]; omega
  exact this (c 0 2) (Nat.le_refl _)
theorem sumI_upd {f g : Nat → Int} {k : Nat} (h : ∀ j, j ≠ k → g j = f j) : ∀ n, k < n → sumI g n = sumI f n + (g k - f k) := by
  have low : ∀ n, n ≤ k → sumI g n = sumI f n := by
    intro n
    induction n with
    | zero => intro _; rfl
    | succ n ih => intro hn; rw [sumI, sumI, ih (by omega), h n (by omega)]
  intro n
  induction n with
  | zero => intro h; omega
  | succ n ih =>
    intro hn
    rw [sumI, sumI]
    by_cases e : n = k
    · subst e; rw [low n (Nat.le_refl _)]; omega
    · rw [ih (by omega), h n e]; omega
theorem gCut_eq {p q v : Nat} (hv : v < 2147483647) (h1 : ∀ side, side < 2 ^ c 0 0 → side.testBit p = true → side.testBit q = false → v ≤ cutN c s (fun r => side.testBit r)) (h2 : ∃ side, side < 2 ^ c 0 0 ∧ side.testBit p = true ∧ side.testBit q = false ∧ cutN c s (fun r => side.testBit r) = v) : gCut c s p q = v := by
  have := gLp_inv (N := 2 ^ c 0 0) (P := fun i (a : Nat) => v ≤ a ∧ (∀ side, side < i → side.testBit p = true → side.testBit q = false → a ≤ cutN c s (fun r => side.testBit r))) (f := gCutF c s p q) (fun i a hi ⟨a1, a2⟩ => by
    unfold gCutF
    by_cases g : i.testBit p = true ∧ i.testBit q = false
    · rw [if_pos g]
      have lo := h1 i hi g.1 g.2
      by_cases g2 : cutN c s (fun r => i.testBit r) < a
      · rw [if_pos g2]
        refine ⟨lo, fun side hs b1 b2 => ?_⟩
        by_cases e : side = i
        · subst e; exact Nat.le_refl _
        · have := a2 side (by omega) b1 b2; omega
      · rw [if_neg g2]
        refine ⟨a1, fun side hs b1 b2 => ?_⟩
        by_cases e : side = i
        · subst e; omega
        · exact a2 side (by omega) b1 b2
    · rw [if_neg g]
      refine ⟨a1, fun side hs b1 b2 => ?_⟩
      by_cases e : side = i
      · subst e; exact absurd ⟨b1, b2⟩ g
      · exact a2 side (by omega) b1 b2) (2 ^ c 0 0) 0 2147483647 (by omega) ⟨by omega, fun side h => by omega⟩
  obtain ⟨side, s1, s2, s3, s4⟩ := h2
  have := this.2 side s1 s2 s3
  have := ‹v ≤ _ ∧ _›.1
  unfold gCut
  omega
end Rj
section Rk
variable {d b : Nat} {c : CA} {s : SA} {σ : MS}
theorem S_wideAcross {Q : Option MV → MS → Prop} {x : Int32} (h : CB σ b c) (H : Q (some (iV (nI (cutN c s (fun r => bt x r))))) σ) : R mj_OC d mX0_wideAcross Q 0 [some (rV 3 b), some (iV x), some (iV (s 3 0)), none, none] [] σ := by
  obtain ⟨hb, C, _, _, V⟩ := h
  have nk := V.nk
  have np := V.np
  refine bX0_wideAcross_0 hb ?_
  refine up_loop (n := c 0 2) (fun i => R mj_OC d mX0_wideAcross Q 5 [some (rV 3 b), some (iV x), some (iV (s 3 0)), some (iV (nI (gSN (ctN c s (fun r => bt x r)) i))), some (iV (nI i))] [] σ) ?_ ?_ 0 (Nat.zero_le _)
  · refine bX0_wideAcross_5 hb ⟨fun _ => H, fun z => ?_⟩
    rw [C.nk] at z; exact absurd (Int32.le_refl _) z
  · intro i hi ih
    have pp := V.pipe hi
    have e1 : gUj s i = true ↔ (s 3 0 >>> (nI i &&& 31)) &&& 1 = 0 := by
      unfold gUj
      rw [bit_one (by omega)]
      cases bt (s 3 0) i <;> decide
    have e2 : ((x >>> (nI (c 9 i) &&& 31)) &&& 1 = (x >>> (nI (c 10 i) &&& 31)) &&& 1) ↔ bt x (c 9 i) = bt x (c 10 i) := by
      rw [bit_one (by omega), bit_one (by omega)]
      cases bt x (c 9 i) <;> cases bt x (c 10 i) <;> decide
    rw [gSN] at ih
    refine bX0_wideAcross_5 hb ⟨fun z => ?_, fun _ => ⟨fun z => ?_, fun z => ⟨vin hi nk (by decide), ?_⟩⟩⟩
    · rw [C.nk, nI_le2 (by omega) (by omega)] at z; omega
    · rw [nI_1]
      rw [ctN, if_neg (fun q => z (e1.mp q.1)), Nat.add_zero] at ih; exact ih
    · rw [cl hi (by omega), C.one hi, C.two hi, C.wide hi, nI_1]
      refine ⟨fun z2 => ?_, fun z2 => ?_⟩
      · rw [ctN, if_neg (fun q => q.2 (e2.mp z2)), Nat.add_zero] at ih; exact ih
      · rw [ctN, if_pos ⟨e1.mpr z, fun q => z2 (e2.mpr q)⟩, ← nI_add] at ih; exact ih
theorem S_pass {Q : Option MV → MS → Prop} {x y : Int32} (h : WK σ b c s) (H : Q (some (iV (gPass c s x y))) σ) : R mj_OC (d + 1) mX10_pass Q 0 [some (rV 0 0), some (iV x), some (iV y), none, none] [] σ := by
  have V := h.V
  have np := V.np
  refine bX10_pass_0 (S_isPond h (fun p hp ex e => bX10_pass_5 ⟨fun z => absurd z (by decide), fun _ => ?_⟩) (fun e => bX10_pass_5 ⟨fun _ => by rw [gPass, e] at H; exact H, fun z => absurd rfl z⟩))
  rw [gPass, e] at H
  simp only at H
  refine S_isPond h (fun q hq ey e2 => bX10_pass_13 ⟨fun z => absurd z (by decide), fun _ => ⟨fun ne => ?_, fun eq => ?_⟩⟩) (fun e2 => bX10_pass_13 ⟨fun _ => by rw [e2] at H; exact H, fun z => absurd rfl z⟩)
  · rw [e2] at H
    simp only at H
    rw [if_neg ne] at H
    subst ex; subst ey
    have p2 : 2 ^ c 0 0 ≤ 128 := by have := Nat.pow_le_pow_right (n := 2) (by omega) np; omega
    have L : ∀ (r i v : Nat), i + r = 2 ^ c 0 0 → v < 2 ^ 31 → Q (some (iV (nI (gLp (gCutF c s p q) i r v)))) σ → R mj_OC (d + 1) mX10_pass Q 30 [some (rV 0 0), some (iV (nI p)), some (iV (nI q)), some (iV (nI v)), some (iV (nI i))] [] σ := by
      intro r
      induction r with
      | zero =>
        intro i v hi hv H
        refine bX10_pass_30 ⟨by rw [h.1]; exact h.lt, fun _ => H, fun z => ?_⟩
        rw [h.1, h.C.np, sh_1 _ (by omega), ← hi] at z; exact absurd (Int32.le_refl _) z
      | succ r ih =>
        intro i v hi hv H
        have b1 : ((nI i >>> (nI p &&& 31)) &&& 1 = 1) ↔ i.testBit p = true := by rw [bt_sh (by omega), bt_nI (by omega)]
        have b2 : ((nI i >>> (nI q &&& 31)) &&& 1 = 0) ↔ i.testBit q = false := by
          rw [bit_one (by omega), bt_nI (by omega)]
          cases i.testBit q <;> decide
        rw [gLp] at H
        refine bX10_pass_30 ⟨by rw [h.1]; exact h.lt, fun z => ?_, fun _ => ⟨fun z => ?_, fun z => ⟨fun z2 => ?_, fun z2 => ?_⟩⟩⟩
        · rw [h.1, h.C.np, sh_1 _ (by omega), nI_le2 (by omega) (by omega)] at z; omega
        · rw [nI_1]
          refine ih (i + 1) v (by omega) hv ?_
          rw [gCutF, if_neg (fun q => z (b1.mpr q.1))] at H; exact H
        · rw [nI_1]
          refine ih (i + 1) v (by omega) hv ?_
          rw [gCutF, if_neg (fun q => z2 (b2.mpr q.2))] at H; exact H
        · rw [h.1, h.2.jm]
          refine S_wideAcross (s := s) h.B (bX10_pass_80 ?_)
          have ec : cutN c s (fun r => bt (nI i) r) = cutN c s (fun r => i.testBit r) := cutN_congr V (fun r hr => bt_nI (by omega))
          have cb := cutN_le (s := s) (T := fun r => i.testBit r) V
          rw [gCutF, if_pos ⟨b1.mp z, b2.mp z2⟩] at H
          rw [ec, nI_1]
          by_cases g : cutN c s (fun r => i.testBit r) < v
          · rw [if_pos ((nI_ltI (by omega) (by omega)).mpr g)]
            rw [if_pos g] at H
            exact ih (i + 1) _ (by omega) (by omega) H
          · rw [if_neg (fun w => g ((nI_ltI (by omega) (by omega)).mp w))]
            rw [if_neg g] at H
            exact ih (i + 1) _ (by omega) hv H
    exact L (2 ^ c 0 0) 0 2147483647 (by omega) (by decide) H
  · rw [e2] at H
    simp only at H
    rw [if_pos eq] at H; exact H
end Rk
