/-! joined: the least of the levels by each floor -/
def gA (c : CA) (x : Int32) (h n : Nat) : Nat := gSN (fun p => if bt x p = true ∧ c 3 p ≤ h then c 2 p else 0) n
def gBd (c : CA) (x : Int32) (h n : Nat) : Nat := gSN (fun p => if bt x p = true ∧ c 3 p ≤ h then c 3 p * c 2 p else 0) n
def gWt (s : SA) (x : Int32) (n : Nat) : Nat := gSN (fun p => if bt x p = true then gW s p else 0) n
def gNf (c : CA) (x : Int32) (h : Nat) : Nat → Nat
  | 0 => 1000
  | n + 1 => if bt x n = true ∧ ¬ c 3 n ≤ h then (if c 3 n < gNf c x h n then c 3 n else gNf c x h n) else gNf c x h n
def gLo (c : CA) (x : Int32) : Nat → Nat
  | 0 => 100
  | n + 1 => if bt x n = true then (if c 3 n < gLo c x n then c 3 n else gLo c x n) else gLo c x n
/-- all the water, and what lies below it -/
def gTp (c : CA) (s : SA) (x : Int32) (h : Nat) : Nat := gWt s x (c 0 0) + gBd c x h (c 0 0)
def gJh (c : CA) (s : SA) (x : Int32) : Nat → Nat → Nat
  | 0, h => h
  | m + 1, h => if gNf c x h (c 0 0) = 1000 ∨ gTp c s x h ≤ gNf c x h (c 0 0) * gA c x h (c 0 0) then h else gJh c s x m (gNf c x h (c 0 0))
def gJoined (c : CA) (s : SA) (x w : Int32) : Int32 := if 1 ≤ x ∧ x < nI (2 ^ c 0 0) ∧ gHalf w = true then nI (gPart (gTp c s x (gJh c s x 100 (gLo c x (c 0 0)))) (gA c x (gJh c s x 100 (gLo c x (c 0 0))) (c 0 0)) w) else -1
theorem gPart_ratio {u v u' v' : Nat} (hv : 0 < v) (hv' : 0 < v') (h : u * v' = u' * v) (w : Int32) : gPart u v w = gPart u' v' w := by
  have g0 : 0 < Nat.gcd u v := Nat.gcd_pos_of_pos_right _ hv
  have g0' : 0 < Nat.gcd u' v' := Nat.gcd_pos_of_pos_right _ hv'
  have e : Nat.gcd u v * v' = Nat.gcd u' v' * v := by
    rw [← Nat.gcd_mul_right, h, Nat.mul_comm v v', Nat.gcd_mul_right]
  obtain ⟨a, ha⟩ := Nat.gcd_dvd_left u v
  obtain ⟨b, hb⟩ := Nat.gcd_dvd_right u v
  obtain ⟨a', ha'⟩ := Nat.gcd_dvd_left u' v'
  obtain ⟨b', hb'⟩ := Nat.gcd_dvd_right u' v'
  unfold gPart
  generalize Nat.gcd u v = g at *
  generalize Nat.gcd u' v' = g' at *
  have gg : 0 < g * g' := Nat.mul_pos g0 g0'
  have eb : b' = b := by
    refine Nat.eq_of_mul_eq_mul_left gg ?_
    have : g * (g' * b') = g' * (g * b) := by rw [← hb', ← hb]; exact e
    rw [Nat.mul_assoc, this, ← Nat.mul_assoc, Nat.mul_comm g' g]
  have b0 : 0 < b := by
    rcases Nat.eq_zero_or_pos b with z | z
    · rw [z, Nat.mul_zero] at hb; omega
    · exact z
  have ea : a = a' := by
    refine Nat.eq_of_mul_eq_mul_right (Nat.mul_pos gg b0) ?_
    have h2 : (g * a) * (g' * b') = (g' * a') * (g * b) := by rw [← ha, ← hb', ← ha', ← hb]; exact h
    rw [eb] at h2
    have l : a * (g * g' * b) = (g * a) * (g' * b) := by
      rw [Nat.mul_comm g a, Nat.mul_assoc, Nat.mul_assoc]
    have r : a' * (g * g' * b) = (g' * a') * (g * b) := by
      rw [Nat.mul_comm g g', Nat.mul_comm g' a', Nat.mul_assoc, Nat.mul_assoc]
    rw [l, r]; exact h2
  rw [show u / g = a by rw [ha]; exact Nat.mul_div_cancel_left _ g0, show v / g = b by rw [hb]; exact Nat.mul_div_cancel_left _ g0, show u' / g' = a' by rw [ha']; exact Nat.mul_div_cancel_left _ g0', show v' / g' = b' by rw [hb']; exact Nat.mul_div_cancel_left _ g0', ea, eb]
section Rn
variable {c : CA} {s : SA} {x : Int32}
theorem gSN_get {f : Nat → Nat} {p : Nat} : ∀ n, p < n → f p ≤ gSN f n := by
  intro n
  induction n with
  | zero => intro h; omega
  | succ n ih =>
    intro h
    rw [gSN]
    by_cases e : p = n
    · subst e; omega
    · have := ih (by omega); omega
theorem gNf_p {h : Nat} : ∀ n, (∀ p, p < n → c 3 p ≤ 99) → (gNf c x h n = 1000 ∧ ∀ p, p < n → bt x p = true → c 3 p ≤ h) ∨ (∃ p, p < n ∧ bt x p = true ∧ c 3 p = gNf c x h n ∧ h < gNf c x h n ∧ ∀ q, q < n → bt x q = true → c 3 q ≤ h ∨ gNf c x h n ≤ c 3 q) := by
  intro n
  induction n with
  | zero => intro _; exact Or.inl ⟨rfl, fun p hp => by omega⟩
  | succ n ih =>
    intro hf
    have fn := hf n (by omega)
    have i0 := ih (fun p hp => hf p (by omega))
    rw [gNf]
    by_cases g : bt x n = true ∧ ¬ c 3 n ≤ h
    · rw [if_pos g]
      rcases i0 with ⟨a1, a2⟩ | ⟨p, a1, a2, a3, a4, a5⟩
      · rw [a1, if_pos (by omega)]
        refine Or.inr ⟨n, by omega, g.1, rfl, by omega, fun q hq bq => ?_⟩
        by_cases e : q = n
        · subst e; exact Or.inr (Nat.le_refl _)
        · exact Or.inl (a2 q (by omega) bq)
      · by_cases g2 : c 3 n < gNf c x h n
        · rw [if_pos g2]
          refine Or.inr ⟨n, by omega, g.1, rfl, by omega, fun q hq bq => ?_⟩
          by_cases e : q = n
          · subst e; exact Or.inr (Nat.le_refl _)
          · have := a5 q (by omega) bq; omega
        · rw [if_neg g2]
          refine Or.inr ⟨p, by omega, a2, a3, a4, fun q hq bq => ?_⟩
          by_cases e : q = n
          · subst e; omega
          · exact a5 q (by omega) bq
    · rw [if_neg g]
      have gn : bt x n = true → c 3 n ≤ h := fun b => Decidable.not_not.mp (fun z => g ⟨b, z⟩)
      rcases i0 with ⟨a1, a2⟩ | ⟨p, a1, a2, a3, a4, a5⟩
      · refine Or.inl ⟨a1, fun q hq bq => ?_⟩
        by_cases e : q = n
        · subst e; exact gn bq
        · exact a2 q (by omega) bq
      · refine Or.inr ⟨p, by omega, a2, a3, a4, fun q hq bq => ?_⟩
        by_cases e : q = n
        · subst e; exact Or.inl (gn bq)
        · exact a5 q (by omega) bq
theorem gLo_p : ∀ n, (∀ p, p < n → c 3 p ≤ 99) → (gLo c x n = 100 ∧ ∀ p, p < n → ¬ bt x p = true) ∨ (∃ p, p < n ∧ bt x p = true ∧ c 3 p = gLo c x n ∧ ∀ q, q < n → bt x q = true → gLo c x n ≤ c 3 q) := by
  intro n
  induction n with
  | zero => intro _; exact Or.inl ⟨rfl, fun p hp => by omega⟩
  | succ n ih =>
    intro hf
    have fn := hf n (by omega)
    have i0 := ih (fun p hp => hf p (by omega))
    rw [gLo]
    by_cases g : bt x n = true
    · rw [if_pos g]
      rcases i0 with ⟨a1, a2⟩ | ⟨p, a1, a2, a3, a5⟩
      · rw [a1, if_pos (by omega)]
        refine Or.inr ⟨n, by omega, g, rfl, fun q hq bq => ?_⟩
        by_cases e : q = n
        · subst e; exact Nat.le_refl _
        · exact absurd bq (a2 q (by omega))
      · by_cases g2 : c 3 n < gLo c x n
        · rw [if_pos g2]
          refine Or.inr ⟨n, by omega, g, rfl, fun q hq bq => ?_⟩
          by_cases e : q = n
          · subst e; exact Nat.le_refl _
          · have := a5 q (by omega) bq; omega
        · rw [if_neg g2]
          refine Or.inr ⟨p, by omega, a2, a3, fun q hq bq => ?_⟩
          by_cases e : q = n
          · subst e; omega
          · exact a5 q (by omega) bq
    · rw [if_neg g]
      rcases i0 with ⟨a1, a2⟩ | ⟨p, a1, a2, a3, a5⟩
      · refine Or.inl ⟨a1, fun q hq bq => ?_⟩
        by_cases e : q = n
        · subst e; exact g bq
        · exact a2 q (by omega) bq
      · refine Or.inr ⟨p, by omega, a2, a3, fun q hq bq => ?_⟩
        by_cases e : q = n
        · subst e; exact absurd bq g
        · exact a5 q (by omega) bq
/-- with floors up to h the level is the least -/
theorem lvl_min {h N D : Nat} (h1 : ∀ p, bt x p = true → c 3 p ≤ h → c 3 p * D ≤ N) : ∀ n, (∀ p, p < n → bt x p = true → ¬ c 3 p ≤ h → N ≤ c 3 p * D) → ∀ h', N * gA c x h' n + D * gBd c x h n ≤ D * gBd c x h' n + N * gA c x h n := by
  intro n
  induction n with
  | zero => intro _ h'; simp [gA, gBd, gSN]
  | succ n ih =>
    intro h2 h'
    have i0 := ih (fun p hp => h2 p (by omega)) h'
    have g2 := h2 n (by omega)
    have g1 := h1 n
    unfold gA gBd at i0 ⊢
    rw [gSN, gSN, gSN, gSN, Nat.mul_add, Nat.mul_add, Nat.mul_add, Nat.mul_add]
    have key : N * (if bt x n = true ∧ c 3 n ≤ h' then c 2 n else 0) + D * (if bt x n = true ∧ c 3 n ≤ h then c 3 n * c 2 n else 0) ≤ D * (if bt x n = true ∧ c 3 n ≤ h' then c 3 n * c 2 n else 0) + N * (if bt x n = true ∧ c 3 n ≤ h then c 2 n else 0) := by
      by_cases b : bt x n = true
      · have e : D * (c 3 n * c 2 n) = c 3 n * D * c 2 n := by rw [← Nat.mul_assoc, Nat.mul_comm D]
        by_cases q1 : c 3 n ≤ h' <;> by_cases q2 : c 3 n ≤ h <;> simp only [b, q1, q2, and_self, and_false, if_true, if_false, Nat.mul_zero, Nat.add_zero, Nat.zero_add, e]
        · rw [Nat.add_comm]; exact Nat.le_refl _
        · exact Nat.mul_le_mul_right _ (g2 b q2)
        · exact Nat.mul_le_mul_right _ (g1 b q2)
        · exact Nat.le_refl _
      · simp [b]
    omega
theorem gA_nn (n h : Nat) : gA c x h n * h ≤ gBd c x h n + gA c x h n * h := Nat.le_add_left _ _
/-- from one floor to the next one -/
theorem gAB_next {h h2 : Nat} (hh : h ≤ h2) : ∀ n, (∀ q, q < n → bt x q = true → c 3 q ≤ h ∨ h2 ≤ c 3 q) → gBd c x h2 n + h2 * gA c x h n = gBd c x h n + h2 * gA c x h2 n := by
  intro n
  induction n with
  | zero => intro _; rfl
  | succ n ih =>
    intro hq
    have i0 := ih (fun q h1 => hq q (by omega))
    have g := hq n (by omega)
    unfold gA gBd at i0 ⊢
    rw [gSN, gSN, gSN, gSN, Nat.mul_add, Nat.mul_add]
    have key : (if bt x n = true ∧ c 3 n ≤ h2 then c 3 n * c 2 n else 0) + h2 * (if bt x n = true ∧ c 3 n ≤ h then c 2 n else 0) = (if bt x n = true ∧ c 3 n ≤ h then c 3 n * c 2 n else 0) + h2 * (if bt x n = true ∧ c 3 n ≤ h2 then c 2 n else 0) := by
      by_cases b : bt x n = true
      · by_cases q2 : c 3 n ≤ h
        · have q1 : c 3 n ≤ h2 := by omega
          simp [b, q1, q2]
        · have q3 : h2 ≤ c 3 n := (g b).resolve_left q2
          by_cases q1 : c 3 n ≤ h2
          · have : c 3 n = h2 := by omega
            have q4 : ¬ h2 ≤ h := by omega
            simp [b, q4, this]
          · simp [b, q1, q2]
      · simp [b]
    omega
/-- where the reference stops -/
theorem gJh_p (V : CV c) : ∀ (m h : Nat), 100 ≤ h + m → (∃ p, p < c 0 0 ∧ bt x p = true ∧ c 3 p = h) → h * gA c x h (c 0 0) ≤ gTp c s x h → (∃ p, p < c 0 0 ∧ bt x p = true ∧ c 3 p = gJh c s x m h) ∧ ∀ h', gTp c s x (gJh c s x m h) * gA c x h' (c 0 0) ≤ gTp c s x h' * gA c x (gJh c s x m h) (c 0 0) := by
  intro m
  induction m with
  | zero =>
    rintro h hm ⟨p, p1, p2, p3⟩ _
    have := (V.pond p1).2.2.1
    omega
  | succ m ih =>
    intro h hm hp hi
    have fl : ∀ p, p < c 0 0 → c 3 p ≤ 99 := fun p hp => (V.pond hp).2.2.1
    rw [gJh]
    by_cases g : gNf c x h (c 0 0) = 1000 ∨ gTp c s x h ≤ gNf c x h (c 0 0) * gA c x h (c 0 0)
    · rw [if_pos g]
      refine ⟨hp, fun h' => ?_⟩
      have key := lvl_min (c := c) (x := x) (h := h) (N := gTp c s x h) (D := gA c x h (c 0 0)) (fun p b q => Nat.le_trans (Nat.mul_le_mul_right _ q) hi) (c 0 0) (fun p hp b q => by
        rcases gNf_p (c := c) (x := x) (h := h) (c 0 0) fl with ⟨a1, a2⟩ | ⟨_, _, _, _, a4, a5⟩
        · exact absurd (a2 p hp b) q
        · rcases g with g | g
          · have := a5 p hp b
            have := fl p hp
            omega
          · exact Nat.le_trans g (Nat.mul_le_mul_right _ ((a5 p hp b).resolve_left q))) h'
      have e1 : gTp c s x h * gA c x h (c 0 0) = gWt s x (c 0 0) * gA c x h (c 0 0) + gA c x h (c 0 0) * gBd c x h (c 0 0) := by
        unfold gTp; rw [Nat.add_mul, Nat.mul_comm (gBd c x h (c 0 0))]
      have e2 : gTp c s x h' * gA c x h (c 0 0) = gWt s x (c 0 0) * gA c x h (c 0 0) + gA c x h (c 0 0) * gBd c x h' (c 0 0) := by
        unfold gTp; rw [Nat.add_mul, Nat.mul_comm (gBd c x h' (c 0 0))]
      omega
    · rw [if_neg g]
      have g1 : ¬ gNf c x h (c 0 0) = 1000 := fun z => g (Or.inl z)
      have g2 : gNf c x h (c 0 0) * gA c x h (c 0 0) < gTp c s x h := Nat.lt_of_not_le (fun z => g (Or.inr z))
      rcases gNf_p (c := c) (x := x) (h := h) (c 0 0) fl with ⟨a1, _⟩ | ⟨p, a1, a2, a3, a4, a5⟩
      · exact absurd a1 g1
      · refine ih _ (by omega) ⟨p, a1, a2, a3⟩ ?_
        have nx := gAB_next (c := c) (x := x) (h := h) (h2 := gNf c x h (c 0 0)) (by omega) (c 0 0) a5
        unfold gTp at g2 ⊢
        omega
theorem gJ_first (V : CV c) (hx : ∃ p, p < c 0 0 ∧ bt x p = true) : (∃ p, p < c 0 0 ∧ bt x p = true ∧ c 3 p = gLo c x (c 0 0)) ∧ gLo c x (c 0 0) * gA c x (gLo c x (c 0 0)) (c 0 0) ≤ gTp c s x (gLo c x (c 0 0)) := by
  have fl : ∀ p, p < c 0 0 → c 3 p ≤ 99 := fun p hp => (V.pond hp).2.2.1
  rcases gLo_p (c := c) (x := x) (c 0 0) fl with ⟨_, a2⟩ | ⟨p, a1, a2, a3, a4⟩
  · obtain ⟨p, p1, p2⟩ := hx
    exact absurd p2 (a2 p p1)
  · refine ⟨⟨p, a1, a2, a3⟩, ?_⟩
    have : ∀ n, n ≤ c 0 0 → gLo c x (c 0 0) * gA c x (gLo c x (c 0 0)) n ≤ gBd c x (gLo c x (c 0 0)) n := by
      intro n
      induction n with
      | zero => intro _; simp [gA, gBd, gSN]
      | succ n ih =>
        intro hn
        have i0 := ih (by omega)
        unfold gA gBd at i0 ⊢
        rw [gSN, gSN, Nat.mul_add]
        have : gLo c x (c 0 0) * (if bt x n = true ∧ c 3 n ≤ gLo c x (c 0 0) then c 2 n else 0) ≤ (if bt x n = true ∧ c 3 n ≤ gLo c x (c 0 0) then c 3 n * c 2 n else 0) := by
          by_cases g : bt x n = true ∧ c 3 n ≤ gLo c x (c 0 0)
          · rw [if_pos g, if_pos g]
            exact Nat.mul_le_mul_right _ (a4 n (by omega) g.1)
          · rw [if_neg g, if_neg g]; omega
        omega
    have := this (c 0 0) (Nat.le_refl _)
    unfold gTp; omega
theorem gA_pos (V : CV c) {h : Nat} (hp : ∃ p, p < c 0 0 ∧ bt x p = true ∧ c 3 p = h) : 0 < gA c x h (c 0 0) := by
  obtain ⟨p, p1, p2, p3⟩ := hp
  have v := V.pond p1
  have : (if bt x p = true ∧ c 3 p ≤ h then c 2 p else 0) ≤ gSN (fun p => if bt x p = true ∧ c 3 p ≤ h then c 2 p else 0) (c 0 0) := gSN_get (f := fun p => if bt x p = true ∧ c 3 p ≤ h then c 2 p else 0) (c 0 0) p1
  rw [if_pos ⟨p2, by omega⟩] at this
  unfold gA; omega
theorem gSN_bd {f : Nat → Nat} {b : Nat} : ∀ n, (∀ i, i < n → f i ≤ b) → gSN f n ≤ b * n := by
  intro n
  induction n with
  | zero => intro _; exact Nat.le_refl _
  | succ n ih => intro h; have := h n (by omega); have := ih (fun i hi => h i (by omega)); rw [gSN, Nat.mul_succ]; omega
theorem gJ_bd (V : CV c) (hs : SI c s) (h : Nat) : gTp c s x h ≤ 1500000 ∧ gA c x h (c 0 0) ≤ 140 ∧ ∀ n, n ≤ c 0 0 → gWt s x n ≤ 1413720 ∧ gBd c x h n ≤ 13860 ∧ gA c x h n ≤ 140 := by
  have np := V.np
  have h3 : ∀ n, n ≤ c 0 0 → gWt s x n ≤ 1413720 ∧ gBd c x h n ≤ 13860 ∧ gA c x h n ≤ 140 := by
    intro n hn
    have a1 := gSN_bd (f := fun p => if bt x p = true then gW s p else 0) (b := 201960) n (fun i hi => by
      have := (hs.bd V (show i < c 0 0 by omega)).2.1
      show (if bt x i = true then gW s i else 0) ≤ _
      split <;> omega)
    have a2 := gSN_bd (f := fun p => if bt x p = true ∧ c 3 p ≤ h then c 3 p * c 2 p else 0) (b := 1980) n (fun i hi => by
      have := (hs.bd V (show i < c 0 0 by omega)).2.2
      show (if bt x i = true ∧ c 3 i ≤ h then c 3 i * c 2 i else 0) ≤ _
      split <;> omega)
    have a3 := gSN_bd (f := fun p => if bt x p = true ∧ c 3 p ≤ h then c 2 p else 0) (b := 20) n (fun i hi => by
      have := (V.pond (show i < c 0 0 by omega)).2.1
      show (if bt x i = true ∧ c 3 i ≤ h then c 2 i else 0) ≤ _
      split <;> omega)
    unfold gWt gBd gA
    omega
  have := h3 (c 0 0) (Nat.le_refl _)
  unfold gTp
  exact ⟨by omega, this.2.2, h3⟩
theorem bits_ex {n : Nat} (hn : n ≤ 7) (h1 : 1 ≤ x) (h2 : x < nI (2 ^ n)) : ∃ p, p < n ∧ bt x p = true := by
  have p2 : 2 ^ n ≤ 128 := by have := Nat.pow_le_pow_right (n := 2) (by omega) hn; omega
  have h0 : ¬ x < 0 := fun z => absurd (Int32.lt_of_le_of_lt h1 z) (by decide)
  obtain ⟨w, hw, rfl⟩ := nI_of h0
  rw [show (1 : Int32) = nI 1 from rfl, nI_leI (by omega) (by omega)] at h1
  rw [nI_ltI (by omega) (by omega)] at h2
  obtain ⟨i, hi⟩ := Nat.exists_testBit_of_ne_zero (show w ≠ 0 by omega)
  have hin : i < n := by
    rcases Nat.lt_or_ge i n with g | g
    · exact g
    · have : w < 2 ^ i := Nat.lt_of_lt_of_le h2 (Nat.pow_le_pow_right (by omega) g)
      rw [Nat.testBit_lt_two_pow this] at hi
      exact absurd hi (by decide)
  exact ⟨i, hin, by rw [bt_nI (by omega)]; exact hi⟩
end Rn
