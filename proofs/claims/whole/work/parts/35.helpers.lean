/-! arguments, guards, least terms -/
def gIx (x : Int32) (n : Nat) : Option Nat := if x < 0 then none else if x.toNatClampNeg < n then some x.toNatClampNeg else none
theorem gIx_in {p n : Nat} (h : p < n) (hn : n ≤ 2000) : gIx (nI p) n = some p := by
  unfold gIx; rw [if_neg (nI_pos (by omega)), nI_clamp (by omega), if_pos h]
theorem gIx_neg {x : Int32} {n : Nat} (h : x < 0) : gIx x n = none := by unfold gIx; rw [if_pos h]
theorem gIx_out {x : Int32} {n : Nat} (hn : n ≤ 2000) (h : nI n ≤ x) : gIx x n = none := by
  unfold gIx
  split
  · rfl
  · rename_i h0
    obtain ⟨j, hj, rfl⟩ := nI_of h0
    rw [nI_clamp hj, if_neg]
    rw [nI_leI (by omega) hj] at h
    omega
theorem gIx_some {x : Int32} {n p : Nat} (h : gIx x n = some p) : x = nI p ∧ p < n := by
  unfold gIx at h
  split at h
  · simp at h
  · rename_i h0
    split at h
    · obtain ⟨j, hj, rfl⟩ := nI_of h0
      rw [nI_clamp hj] at h
      simp only [Option.some.injEq] at h
      rename_i h1
      rw [nI_clamp hj] at h1
      subst h
      exact ⟨rfl, h1⟩
    · simp at h
/-- the three kinds of an argument for a row -/
theorem gIx_cases (x : Int32) {n : Nat} (hn : n ≤ 2000) : (x < 0 ∧ gIx x n = none) ∨ (¬ x < 0 ∧ nI n ≤ x ∧ gIx x n = none) ∨ ∃ p, p < n ∧ x = nI p ∧ gIx x n = some p ∧ ¬ x < 0 ∧ ¬ nI n ≤ x := by
  rcases pk_ix x (n := n) (by omega) with g | g | ⟨j, hj, rfl⟩
  · exact Or.inl ⟨g, gIx_neg g⟩
  · by_cases g0 : x < 0
    · exact Or.inl ⟨g0, gIx_neg g0⟩
    · exact Or.inr (Or.inl ⟨g0, g, gIx_out hn g⟩)
  · refine Or.inr (Or.inr ⟨j, hj, rfl, gIx_in hj hn, nI_pos (by omega), ?_⟩)
    rw [nI_leI (by omega) (by omega)]; omega
def gHalf (w : Int32) : Bool := decide (w = 0 ∨ w = 1)
def gTall (w : Int32) : Bool := decide (0 ≤ w ∧ w ≤ 999)
/-- the world of the class: its canal b, its scene now -/
def WK (σ : MS) (b : Nat) (c : CA) (s : SA) : Prop := σ.2.2 0 0 = b ∧ SC σ 0 b c s
section Hp
variable {d : Nat} {Q : Option MV → MS → Prop} {σ : MS} {b k : Nat} {c : CA} {s : SA} {md : MD}
theorem WK.lt (h : WK σ b c s) : b < 2 := h.2.2.2.1.1
theorem WK.C (h : WK σ b c s) : CR σ b c := h.2.2.2.1.2.1
theorem WK.V (h : WK σ b c s) : CV c := h.2.2.2.1.2.2.2.2
theorem WK.B (h : WK σ b c s) : CB σ b c := h.2.2.2.1
theorem SC.mn {o : Nat} (h : SC σ o b c s) : σ.1 6 o 6 = s 0 0 := h.2.2.2.1
theorem SC.nr {o : Nat} (h : SC σ o b c s) : σ.1 6 o 7 = s 1 0 := h.2.2.2.2.1
theorem SC.tl {o : Nat} (h : SC σ o b c s) : σ.1 6 o 5 = s 2 0 := h.2.2.2.2.2.1
theorem SC.jm {o : Nat} (h : SC σ o b c s) : σ.1 6 o 2 = s 3 0 := h.2.2.2.2.2.2.1
theorem SC.wr {o : Nat} (h : SC σ o b c s) {p : Nat} (hp : p < c 0 0) : σ.1 35 o p = s 4 p := h.2.2.2.2.2.2.2.1 p hp
theorem SC.sg {o : Nat} (h : SC σ o b c s) {p : Nat} (hp : p < c 0 4) : σ.1 36 o p = s 5 p := h.2.2.2.2.2.2.2.2.1 p hp
theorem SC.wd {o : Nat} (h : SC σ o b c s) {p : Nat} (hp : p < c 0 4) : σ.1 37 o p = s 6 p := h.2.2.2.2.2.2.2.2.2 p hp
theorem S_isPond (h : WK σ b c s) {x : Int32} (H1 : ∀ p, p < c 0 0 → x = nI p → gIx x (c 0 0) = some p → Q (some (iV 1)) σ) (H0 : gIx x (c 0 0) = none → Q (some (iV 0)) σ) : R mj_OC d mX10_isPond Q 0 [some (rV 0 0), some (iV x)] [] σ := by
  have n := h.V.np
  rcases gIx_cases x (n := c 0 0) (by omega) with ⟨g, e⟩ | ⟨g0, g, e⟩ | ⟨p, hp, ex, e, g0, g⟩
  · exact bX10_isPond_0 ⟨fun _ => H0 e, fun z => absurd g z⟩
  · exact bX10_isPond_0 ⟨fun z => absurd z g0, fun _ => ⟨by rw [h.1]; exact h.lt, fun _ => H0 e, fun z => absurd (by rw [h.1, h.C.np]; exact g) z⟩⟩
  · exact bX10_isPond_0 ⟨fun z => absurd z g0, fun _ => ⟨by rw [h.1]; exact h.lt, fun z => absurd (by rw [h.1, h.C.np] at z; exact z) g, fun _ => H1 p hp ex e⟩⟩
theorem S_isPipe (h : WK σ b c s) {x : Int32} (H1 : ∀ p, p < c 0 2 → x = nI p → gIx x (c 0 2) = some p → Q (some (iV 1)) σ) (H0 : gIx x (c 0 2) = none → Q (some (iV 0)) σ) : R mj_OC d mX10_isPipe Q 0 [some (rV 0 0), some (iV x)] [] σ := by
  have n := h.V.nk
  rcases gIx_cases x (n := c 0 2) (by omega) with ⟨g, e⟩ | ⟨g0, g, e⟩ | ⟨p, hp, ex, e, g0, g⟩
  · exact bX10_isPipe_0 ⟨fun _ => H0 e, fun z => absurd g z⟩
  · exact bX10_isPipe_0 ⟨fun z => absurd z g0, fun _ => ⟨by rw [h.1]; exact h.lt, fun _ => H0 e, fun z => absurd (by rw [h.1, h.C.nk]; exact g) z⟩⟩
  · exact bX10_isPipe_0 ⟨fun z => absurd z g0, fun _ => ⟨by rw [h.1]; exact h.lt, fun z => absurd (by rw [h.1, h.C.nk] at z; exact z) g, fun _ => H1 p hp ex e⟩⟩
theorem S_isLock (h : WK σ b c s) {x : Int32} (H1 : ∀ p, p < c 0 1 → x = nI p → gIx x (c 0 1) = some p → Q (some (iV 1)) σ) (H0 : gIx x (c 0 1) = none → Q (some (iV 0)) σ) : R mj_OC d mX10_isLock Q 0 [some (rV 0 0), some (iV x)] [] σ := by
  have n := h.V.nl
  rcases gIx_cases x (n := c 0 1) (by omega) with ⟨g, e⟩ | ⟨g0, g, e⟩ | ⟨p, hp, ex, e, g0, g⟩
  · exact bX10_isLock_0 ⟨fun _ => H0 e, fun z => absurd g z⟩
  · exact bX10_isLock_0 ⟨fun z => absurd z g0, fun _ => ⟨by rw [h.1]; exact h.lt, fun _ => H0 e, fun z => absurd (by rw [h.1, h.C.nl]; exact g) z⟩⟩
  · exact bX10_isLock_0 ⟨fun z => absurd z g0, fun _ => ⟨by rw [h.1]; exact h.lt, fun z => absurd (by rw [h.1, h.C.nl] at z; exact z) g, fun _ => H1 p hp ex e⟩⟩
theorem S_isBoat (h : WK σ b c s) {x : Int32} (H1 : ∀ p, p < c 0 4 → x = nI p → gIx x (c 0 4) = some p → Q (some (iV 1)) σ) (H0 : gIx x (c 0 4) = none → Q (some (iV 0)) σ) : R mj_OC d mX10_isBoat Q 0 [some (rV 0 0), some (iV x)] [] σ := by
  have n := h.V.nb
  rcases gIx_cases x (n := c 0 4) (by omega) with ⟨g, e⟩ | ⟨g0, g, e⟩ | ⟨p, hp, ex, e, g0, g⟩
  · exact bX10_isBoat_0 ⟨fun _ => H0 e, fun z => absurd g z⟩
  · exact bX10_isBoat_0 ⟨fun z => absurd z g0, fun _ => ⟨by rw [h.1]; exact h.lt, fun _ => H0 e, fun z => absurd (by rw [h.1, h.C.nb]; exact g) z⟩⟩
  · exact bX10_isBoat_0 ⟨fun z => absurd z g0, fun _ => ⟨by rw [h.1]; exact h.lt, fun z => absurd (by rw [h.1, h.C.nb] at z; exact z) g, fun _ => H1 p hp ex e⟩⟩
theorem M_isPond (C : MC σ c) (V : CV c) {x : Int32} (H1 : ∀ p, p < c 0 0 → x = nI p → gIx x (c 0 0) = some p → Q (some (iV 1)) σ) (H0 : gIx x (c 0 0) = none → Q (some (iV 0)) σ) : R mj_OM d mX11_isPond Q 0 [some (rV 45 0), some (iV x)] [] σ := by
  have n := V.np
  rcases gIx_cases x (n := c 0 0) (by omega) with ⟨g, e⟩ | ⟨g0, g, e⟩ | ⟨p, hp, ex, e, g0, g⟩
  · exact bX11_isPond_0 ⟨fun _ => H0 e, fun z => absurd g z⟩
  · exact bX11_isPond_0 ⟨fun z => absurd z g0, fun _ => ⟨vin (p := 0) (n := 9) (by omega) (by omega) (by decide), fun _ => H0 e, fun z => absurd (by rw [C.np]; exact g) z⟩⟩
  · exact bX11_isPond_0 ⟨fun z => absurd z g0, fun _ => ⟨vin (p := 0) (n := 9) (by omega) (by omega) (by decide), fun z => absurd (by rw [C.np] at z; exact z) g, fun _ => H1 p hp ex e⟩⟩
theorem M_isPipe (C : MC σ c) (V : CV c) {x : Int32} (H1 : ∀ p, p < c 0 2 → x = nI p → gIx x (c 0 2) = some p → Q (some (iV 1)) σ) (H0 : gIx x (c 0 2) = none → Q (some (iV 0)) σ) : R mj_OM d mX11_isPipe Q 0 [some (rV 45 0), some (iV x)] [] σ := by
  have n := V.nk
  rcases gIx_cases x (n := c 0 2) (by omega) with ⟨g, e⟩ | ⟨g0, g, e⟩ | ⟨p, hp, ex, e, g0, g⟩
  · exact bX11_isPipe_0 ⟨fun _ => H0 e, fun z => absurd g z⟩
  · exact bX11_isPipe_0 ⟨fun z => absurd z g0, fun _ => ⟨vin (p := 2) (n := 9) (by omega) (by omega) (by decide), fun _ => H0 e, fun z => absurd (by rw [C.nk]; exact g) z⟩⟩
  · exact bX11_isPipe_0 ⟨fun z => absurd z g0, fun _ => ⟨vin (p := 2) (n := 9) (by omega) (by omega) (by decide), fun z => absurd (by rw [C.nk] at z; exact z) g, fun _ => H1 p hp ex e⟩⟩
theorem M_isLock (C : MC σ c) (V : CV c) {x : Int32} (H1 : ∀ p, p < c 0 1 → x = nI p → gIx x (c 0 1) = some p → Q (some (iV 1)) σ) (H0 : gIx x (c 0 1) = none → Q (some (iV 0)) σ) : R mj_OM d mX11_isLock Q 0 [some (rV 45 0), some (iV x)] [] σ := by
  have n := V.nl
  rcases gIx_cases x (n := c 0 1) (by omega) with ⟨g, e⟩ | ⟨g0, g, e⟩ | ⟨p, hp, ex, e, g0, g⟩
  · exact bX11_isLock_0 ⟨fun _ => H0 e, fun z => absurd g z⟩
  · exact bX11_isLock_0 ⟨fun z => absurd z g0, fun _ => ⟨vin (p := 1) (n := 9) (by omega) (by omega) (by decide), fun _ => H0 e, fun z => absurd (by rw [C.nl]; exact g) z⟩⟩
  · exact bX11_isLock_0 ⟨fun z => absurd z g0, fun _ => ⟨vin (p := 1) (n := 9) (by omega) (by omega) (by decide), fun z => absurd (by rw [C.nl] at z; exact z) g, fun _ => H1 p hp ex e⟩⟩
theorem M_isBoat (C : MC σ c) (V : CV c) {x : Int32} (H1 : ∀ p, p < c 0 4 → x = nI p → gIx x (c 0 4) = some p → Q (some (iV 1)) σ) (H0 : gIx x (c 0 4) = none → Q (some (iV 0)) σ) : R mj_OM d mX11_isBoat Q 0 [some (rV 45 0), some (iV x)] [] σ := by
  have n := V.nb
  rcases gIx_cases x (n := c 0 4) (by omega) with ⟨g, e⟩ | ⟨g0, g, e⟩ | ⟨p, hp, ex, e, g0, g⟩
  · exact bX11_isBoat_0 ⟨fun _ => H0 e, fun z => absurd g z⟩
  · exact bX11_isBoat_0 ⟨fun z => absurd z g0, fun _ => ⟨vin (p := 4) (n := 9) (by omega) (by omega) (by decide), fun _ => H0 e, fun z => absurd (by rw [C.nb]; exact g) z⟩⟩
  · exact bX11_isBoat_0 ⟨fun z => absurd z g0, fun _ => ⟨vin (p := 4) (n := 9) (by omega) (by omega) (by decide), fun z => absurd (by rw [C.nb] at z; exact z) g, fun _ => H1 p hp ex e⟩⟩
theorem S_isHalf {x : Int32} (H1 : gHalf x = true → (x = 0 ∨ ¬ x = 0 ∧ x = 1) → Q (some (iV 1)) σ) (H0 : gHalf x = false → Q (some (iV 0)) σ) : R mj_OC d mX10_isHalf Q 0 [some (iV x)] [] σ :=
  bX10_isHalf_0 ⟨fun g => H1 (by simp [gHalf, g]) (Or.inl g), fun g => ⟨fun g1 => H0 (by simp [gHalf, g, g1]), fun g1 => H1 (by simp [gHalf, g1]) (Or.inr ⟨g, g1⟩)⟩⟩
theorem M_isPart {x : Int32} (H1 : gHalf x = true → (x = 0 ∨ ¬ x = 0 ∧ x = 1) → Q (some (iV 1)) σ) (H0 : gHalf x = false → Q (some (iV 0)) σ) : R mj_OM d mX11_isPart Q 0 [some (iV x)] [] σ :=
  bX11_isPart_0 ⟨fun g => H1 (by simp [gHalf, g]) (Or.inl g), fun g => ⟨fun g1 => H0 (by simp [gHalf, g, g1]), fun g1 => H1 (by simp [gHalf, g1]) (Or.inr ⟨g, g1⟩)⟩⟩
theorem gTall_nI {x : Int32} (h : gTall x = true) : ∃ n, n ≤ 999 ∧ x = nI n := by
  have := of_decide_eq_true h
  exact nI_of2 (M := 999) (n := 999) (by decide) (Int32.not_lt.mpr this.1) this.2
theorem S_isHeight {x : Int32} (H1 : ∀ n, n ≤ 999 → x = nI n → gTall x = true → Q (some (iV 1)) σ) (H0 : gTall x = false → Q (some (iV 0)) σ) : R mj_OC d mX10_isHeight Q 0 [some (iV x)] [] σ := by
  refine bX10_isHeight_0 ⟨fun g => H0 ?_, fun g => ⟨fun g1 => H0 ?_, fun g1 => ?_⟩⟩
  · exact decide_eq_false (fun z => Int32.not_lt.mpr z.1 g)
  · exact decide_eq_false (fun z => Int32.not_lt.mpr z.2 g1)
  · have ht : gTall x = true := decide_eq_true ⟨Int32.not_lt.mp g, Int32.not_lt.mp g1⟩
    obtain ⟨n, hn, e⟩ := gTall_nI ht
    exact H1 n hn e ht
theorem M_isHeight {x : Int32} (H1 : ∀ n, n ≤ 999 → x = nI n → gTall x = true → Q (some (iV 1)) σ) (H0 : gTall x = false → Q (some (iV 0)) σ) : R mj_OM d mX11_isHeight Q 0 [some (iV x)] [] σ := by
  refine bX11_isHeight_0 ⟨fun g => H0 ?_, fun g => ⟨fun g1 => H0 ?_, fun g1 => ?_⟩⟩
  · exact decide_eq_false (fun z => Int32.not_lt.mpr z.1 g)
  · exact decide_eq_false (fun z => Int32.not_lt.mpr z.2 g1)
  · have ht : gTall x = true := decide_eq_true ⟨Int32.not_lt.mp g, Int32.not_lt.mp g1⟩
    obtain ⟨n, hn, e⟩ := gTall_nI ht
    exact H1 n hn e ht
theorem S_orWithout {x : Int32} (H : Q (some (iV (if x = -1 then -2 else x))) σ) : R mj_OC d mX10_orWithout Q 0 [some (iV x)] [] σ :=
  bX10_orWithout_0 ⟨fun g => by rw [if_neg g] at H; exact H, fun g => by rw [if_pos g] at H; exact H⟩
theorem M_orNone {x : Int32} (H : Q (some (iV (if x = -1 then -2 else x))) σ) : R mj_OM d mX11_orNone Q 0 [some (iV x)] [] σ :=
  bX11_orNone_0 ⟨fun g => by rw [if_neg g] at H; exact H, fun g => by rw [if_pos g] at H; exact H⟩
/-- least terms: (above, below), which half -/
def gPart (x y : Nat) (w : Int32) : Nat := if w = 0 then x / Nat.gcd x y else y / Nat.gcd x y
theorem lcz (x : Int64) : lg_cmp x 0 = 0 ↔ x = 0 := lg_cmp_eq x 0
theorem half_mod {x y : Nat} (h0 : 0 < y) (h1 : 0 < x % y) {m : Nat} (h : y < 2 ^ (m + 1)) : y % (x % y) < 2 ^ m := by
  have l1 : x % y < y := Nat.mod_lt _ h0
  have l2 : y % (x % y) < x % y := Nat.mod_lt _ h1
  have l3 : y % (x % y) + x % y ≤ y := by
    have e := Nat.div_add_mod y (x % y)
    have q1 : 1 ≤ y / (x % y) := Nat.div_pos (Nat.le_of_lt l1) h1
    have q2 : (x % y) * 1 ≤ (x % y) * (y / (x % y)) := Nat.mul_le_mul_left _ q1
    omega
  rw [Nat.pow_succ] at h
  omega
theorem S_inLeastTerms {u v : Nat} (hu : u < 2 ^ 62) (hv : v < 2 ^ 62) (h0 : 0 < v) {w : Int32} (H : Q (some (lV (lN (gPart u v w)))) σ) : R mj_OC d mX10_inLeastTerms Q 0 [some (lV (lN u)), none, some (lV (lN v)), none, some (iV w), none, none, none, none, none, none, none] [] σ := by
  have fin : ∀ (i g : Nat), 0 < g → g < 2 ^ 62 → g = Nat.gcd u v → ((¬ (lg_cmp (lN g) (0 : Int64)) = 0 → ((¬ w = 0 → ((¬ lN g = 0) ∧ Q (some (lV (lN v / lN g))) σ)) ∧ (w = 0 → ((¬ lN g = 0) ∧ Q (some (lV (lN u / lN g))) σ)))) ∧ ((lg_cmp (lN g) (0 : Int64)) = 0 → Q (some (lV (-1 : Int64))) σ)) := by
    intro i g hg hg2 e
    have ne : ¬ lN g = 0 := by
      rw [show (0 : Int64) = lN 0 from rfl, pk_lEQ (by omega) (by omega)]; omega
    refine ⟨fun _ => ⟨fun gw => ⟨ne, ?_⟩, fun gw => ⟨ne, ?_⟩⟩, fun z => absurd ((lcz _).mp z) ne⟩
    · rw [gPart, if_neg gw, ← e] at H
      rw [pk_lDiv (by omega) hg (by omega)]; exact H
    · rw [gPart, if_pos gw, ← e] at H
      rw [pk_lDiv (by omega) hg (by omega)]; exact H
  have L : ∀ (m i x y : Nat), y < 2 ^ m → x < 2 ^ 62 → y < 2 ^ 62 → 0 < x → i + 2 * m ≤ 200 → Nat.gcd x y = Nat.gcd u v → R mj_OC d mX10_inLeastTerms Q 9 [some (lV (lN u)), none, some (lV (lN v)), none, some (iV w), some (lV (lN x)), none, some (lV (lN y)), none, some (iV (nI i)), none, none] [] σ := by
    intro m
    induction m with
    | zero =>
      intro i x y hy hx hy2 hx0 hi e
      have : y = 0 := by omega
      subst this
      rw [Nat.gcd_zero_right] at e
      refine bX10_inLeastTerms_9 ⟨fun _ => fin i x hx0 hx e, fun _ => ⟨fun _ => fin i x hx0 hx e, fun z => absurd ((lcz _).mpr rfl) z⟩⟩
    | succ m ih =>
      intro i x y hy hx hy2 hx0 hi e
      have stop : y = 0 → R mj_OC d mX10_inLeastTerms Q 9 [some (lV (lN u)), none, some (lV (lN v)), none, some (iV w), some (lV (lN x)), none, some (lV (lN y)), none, some (iV (nI i)), none, none] [] σ := by
        intro h
        subst h
        rw [Nat.gcd_zero_right] at e
        refine bX10_inLeastTerms_9 ⟨fun _ => fin i x hx0 hx e, fun _ => ⟨fun _ => fin i x hx0 hx e, fun z => absurd ((lcz _).mpr rfl) z⟩⟩
      rcases Nat.eq_zero_or_pos y with y0 | y0
      · exact stop y0
      · have ny : ¬ lN y = 0 := by
          rw [show (0 : Int64) = lN 0 from rfl, pk_lEQ (by omega) (by omega)]; omega
        have e1 : Nat.gcd y (x % y) = Nat.gcd u v := by rw [← e, Nat.gcd_comm x y, Nat.gcd_rec y x, Nat.gcd_comm]
        have lt : x % y < y := Nat.mod_lt _ y0
        refine bX10_inLeastTerms_9 ⟨fun z => ?_, fun _ => ⟨fun z => absurd ((lcz _).mp z) ny, fun _ => ⟨ny, ?_⟩⟩⟩
        · rw [show (200 : Int32) = nI 200 from rfl, nI_le2 (by omega) (by omega)] at z; omega
        · rw [pk_lRem (by omega) y0 (by omega), nI_1]
          rcases Nat.eq_zero_or_pos (x % y) with z0 | z0
          · rw [z0, Nat.gcd_zero_right] at e1
            rw [z0]
            refine bX10_inLeastTerms_9 ⟨fun _ => fin i y y0 hy2 e1, fun _ => ⟨fun _ => fin i y y0 hy2 e1, fun z => absurd ((lcz _).mpr rfl) z⟩⟩
          · have nz : ¬ lN (x % y) = 0 := by
              rw [show (0 : Int64) = lN 0 from rfl, pk_lEQ (by omega) (by omega)]; omega
            refine bX10_inLeastTerms_9 ⟨fun z => ?_, fun _ => ⟨fun z => absurd ((lcz _).mp z) nz, fun _ => ⟨nz, ?_⟩⟩⟩
            · rw [show (200 : Int32) = nI 200 from rfl, nI_le2 (by omega) (by omega)] at z; omega
            · rw [pk_lRem (by omega) z0 (by omega), nI_1]
              have e2 : Nat.gcd (x % y) (y % (x % y)) = Nat.gcd u v := by rw [← e1, Nat.gcd_comm y (x % y), Nat.gcd_rec (x % y) y, Nat.gcd_comm]
              have lt2 : y % (x % y) < x % y := Nat.mod_lt _ z0
              exact ih (i + 1 + 1) (x % y) (y % (x % y)) (half_mod y0 z0 hy) (by omega) (by omega) z0 (by omega) e2
  refine bX10_inLeastTerms_0 ?_
  rcases Nat.eq_zero_or_pos u with u0 | u0
  · -- the first step: nothing above
    subst u0
    have ny : ¬ lN v = 0 := by
      rw [show (0 : Int64) = lN 0 from rfl, pk_lEQ (by omega) (by omega)]; omega
    refine bX10_inLeastTerms_9 ⟨fun z => absurd z (by decide), fun _ => ⟨fun z => absurd ((lcz _).mp z) ny, fun _ => ⟨ny, ?_⟩⟩⟩
    rw [pk_lRem (by omega) h0 (by omega), Nat.zero_mod]
    exact L 0 1 v 0 (by omega) hv (by omega) h0 (by omega) (by rw [Nat.gcd_zero_left, Nat.gcd_zero_right])
  · exact L 62 0 u v hv hu hv u0 (by omega) rfl
theorem M_common {u v : Nat} (hu : u < 2 ^ 31) (hv : v < 2 ^ 31) (H : Q (some (iV (nI (Nat.gcd u v)))) σ) : R mj_OM d mX11_common Q 0 [some (iV (nI u)), some (iV (nI v)), none, none, none] [] σ := by
  have L : ∀ (m x y : Nat), y ≤ m → x < 2 ^ 31 → y < 2 ^ 31 → Nat.gcd x y = Nat.gcd u v → R mj_OM d mX11_common Q 4 [some (iV (nI u)), some (iV (nI v)), some (iV (nI x)), some (iV (nI y)), none] [] σ := by
    intro m
    induction m with
    | zero =>
      intro x y hy hx hy2 e
      have : y = 0 := by omega
      subst this
      rw [Nat.gcd_zero_right] at e
      exact bX11_common_4 ⟨fun _ => by rw [e]; exact H, fun z => absurd rfl z⟩
    | succ m ih =>
      intro x y hy hx hy2 e
      rcases Nat.eq_zero_or_pos y with y0 | y0
      · subst y0
        rw [Nat.gcd_zero_right] at e
        exact bX11_common_4 ⟨fun _ => by rw [e]; exact H, fun z => absurd rfl z⟩
      · have ny : ¬ nI y = 0 := nI_ne0 y0 hy2
        refine bX11_common_4 ⟨fun z => absurd z ny, fun _ => ⟨ny, ?_⟩⟩
        rw [pk_rem hx y0 hy2]
        have lt : x % y < y := Nat.mod_lt _ y0
        exact ih y (x % y) (by omega) hy2 (by omega) (by rw [← e, Nat.gcd_comm x y, Nat.gcd_rec y x, Nat.gcd_comm])
  exact bX11_common_0 (L v u v (Nat.le_refl _) hu hv rfl)
theorem M_part {u v : Nat} (hu : u < 2 ^ 31) (hv : v < 2 ^ 31) (h0 : 0 < v) {w : Int32} (H : Q (some (iV (nI (gPart u v w)))) σ) : R mj_OM (d + 1) mX11_part Q 0 [some (iV (nI u)), some (iV (nI v)), some (iV w), none] [] σ := by
  have g0 : 0 < Nat.gcd u v := Nat.gcd_pos_of_pos_right _ h0
  have g1 : Nat.gcd u v ≤ v := Nat.gcd_le_right _ h0
  refine bX11_part_0 (M_common hu hv (bX11_part_5 ⟨fun gw => ⟨nI_ne0 g0 (by omega), ?_⟩, fun gw => ⟨nI_ne0 g0 (by omega), ?_⟩⟩))
  · rw [gPart, if_neg gw] at H
    rw [pk_div hv g0 (by omega)]; exact H
  · rw [gPart, if_pos gw] at H
    rw [pk_div hu g0 (by omega)]; exact H
end Hp
