/-! reach: what is next to a set of ponds, again and again -/
theorem bt_ext {x y : Int32} (h : ∀ k, k < 32 → bt x k = bt y k) : x = y := Int32.toBitVec_inj.mp (BitVec.eq_of_getLsbD_eq (fun i hi => h i hi))
theorem bt_0 (k : Nat) : bt 0 k = false := by simp [bt]
def gEnds (c : CA) (k : Nat) : Int32 := ((1 : Int32) <<< (nI (c 9 k) &&& 31)) ||| ((1 : Int32) <<< (nI (c 10 k) &&& 31))
def gNx (c : CA) (s : SA) (x : Int32) : Int32 := gLp (fun k y => if gUj s k = true ∧ ¬ gEnds c k &&& x = 0 then y ||| gEnds c k else y) 0 (c 0 2) 0
def gIt (c : CA) (s : SA) : Nat → Int32 → Int32
  | 0, x => x
  | n + 1, x => gIt c s n (x ||| gNx c s x)
def gReach (c : CA) (s : SA) (x : Int32) : Int32 := match gIx x (c 0 0) with
  | none => -1
  | some p => gIt c s (c 0 0 - 1) ((1 : Int32) <<< (nI p &&& 31))
/-- which ponds one pond's pipes lead to -/
def nbP (c : CA) (s : SA) (n p q : Nat) : Prop := ∃ k, k < n ∧ gUj s k = true ∧ ((c 9 k = p ∧ q = c 10 k) ∨ (¬ c 9 k = p ∧ c 10 k = p ∧ q = c 9 k))
section Ri
variable {d b : Nat} {c : CA} {s : SA} {σ : MS} {x : Int32}
theorem gEnds_bt (V : CV c) {k q : Nat} (hk : k < c 0 2) (hq : q < 32) : bt (gEnds c k) q = true ↔ q = c 9 k ∨ q = c 10 k := by
  have pp := V.pipe hk
  have np := V.np
  unfold gEnds
  rw [bt_or, bt_1 (by omega) hq, bt_1 (by omega) hq]
  rw [Bool.or_eq_true, decide_eq_true_eq, decide_eq_true_eq]
  constructor <;> intro h <;> omega
theorem ends_0 (V : CV c) {k : Nat} (hk : k < c 0 2) : gEnds c k &&& x = 0 ↔ bt x (c 9 k) = false ∧ bt x (c 10 k) = false := by
  have pp := V.pipe hk
  have np := V.np
  constructor
  · intro h
    have h1 : ∀ q, q < 32 → (bt (gEnds c k) q && bt x q) = false := fun q _ => by rw [← bt_and, h, bt_0]
    have a1 := h1 (c 9 k) (by omega)
    have a2 := h1 (c 10 k) (by omega)
    rw [(gEnds_bt V hk (by omega)).mpr (Or.inl rfl)] at a1
    rw [(gEnds_bt V hk (by omega)).mpr (Or.inr rfl)] at a2
    exact ⟨by simpa using a1, by simpa using a2⟩
  · rintro ⟨h1, h2⟩
    refine bt_ext (fun q hq => ?_)
    rw [bt_and, bt_0]
    cases e : bt (gEnds c k) q with
    | false => rfl
    | true =>
      rcases (gEnds_bt V hk hq).mp e with z | z
      · rw [z, h1]; rfl
      · rw [z, h2]; rfl
theorem gNx_bt (V : CV c) {q : Nat} (hq : q < 32) : bt (gNx c s x) q = true ↔ ∃ k, k < c 0 2 ∧ gUj s k = true ∧ (q = c 9 k ∨ q = c 10 k) ∧ (bt x (c 9 k) = true ∨ bt x (c 10 k) = true) := by
  have := gLp_inv (N := c 0 2) (P := fun i (y : Int32) => bt y q = true ↔ ∃ k, k < i ∧ gUj s k = true ∧ (q = c 9 k ∨ q = c 10 k) ∧ (bt x (c 9 k) = true ∨ bt x (c 10 k) = true)) (f := fun k y => if gUj s k = true ∧ ¬ gEnds c k &&& x = 0 then y ||| gEnds c k else y) (fun i a hi ha => by
    have e0 : gEnds c i &&& x = 0 ↔ ¬ (bt x (c 9 i) = true ∨ bt x (c 10 i) = true) := by
      rw [ends_0 V hi]; simp
    by_cases g : gUj s i = true ∧ ¬ gEnds c i &&& x = 0
    · rw [if_pos g, bt_or, Bool.or_eq_true, ha, gEnds_bt V hi hq]
      have g2 := g.2
      rw [e0] at g2
      constructor
      · rintro (⟨k, h1, h2⟩ | h)
        · exact ⟨k, by omega, h2⟩
        · exact ⟨i, by omega, g.1, h, Decidable.not_not.mp g2⟩
      · rintro ⟨k, h1, h2⟩
        by_cases e : k = i
        · subst e; exact Or.inr h2.2.1
        · exact Or.inl ⟨k, by omega, h2⟩
    · rw [if_neg g, ha]
      constructor
      · rintro ⟨k, h1, h2⟩; exact ⟨k, by omega, h2⟩
      · rintro ⟨k, h1, h2⟩
        by_cases e : k = i
        · subst e
          exact absurd ⟨h2.1, fun z => (e0.mp z) h2.2.2⟩ g
        · exact ⟨k, by omega, h2⟩) (c 0 2) 0 0 (by omega) (by simp [bt_0])
  exact this
theorem S_nextTo {Q : Option MV → MS → Prop} (h : CB σ b c) (H : Q (some (iV (gNx c s x))) σ) : R mj_OC d mX0_nextTo Q 0 [some (rV 3 b), some (iV x), some (iV (s 3 0)), none, none, none] [] σ := by
  obtain ⟨hb, C, _, _, V⟩ := h
  have nk := V.nk
  have L : ∀ (r i : Nat) (y : Int32), i + r = c 0 2 → Q (some (iV (gLp (fun k y => if gUj s k = true ∧ ¬ gEnds c k &&& x = 0 then y ||| gEnds c k else y) i r y))) σ → R mj_OC d mX0_nextTo Q 5 [some (rV 3 b), some (iV x), some (iV (s 3 0)), some (iV y), some (iV (nI i)), none] [] σ := by
    intro r
    induction r with
    | zero =>
      intro i y hi H
      refine bX0_nextTo_5 hb ⟨fun _ => H, fun z => ?_⟩
      rw [C.nk, ← hi] at z; exact absurd (Int32.le_refl _) z
    | succ r ih =>
      intro i y hi H
      have hik : i < c 0 2 := by omega
      have e1 : gUj s i = true ↔ (s 3 0 >>> (nI i &&& 31)) &&& 1 = 0 := by
        unfold gUj
        rw [bit_one (by omega)]
        cases bt (s 3 0) i <;> decide
      rw [gLp] at H
      refine bX0_nextTo_5 hb ⟨fun z => ?_, fun _ => ⟨vin hik nk (by decide), fun z => ?_, fun z => ?_⟩⟩
      · rw [C.nk, nI_le2 (by omega) (by omega)] at z; omega
      · rw [nI_1]
        refine ih (i + 1) y (by omega) ?_
        rw [if_neg (fun q => z (e1.mp q.1))] at H; exact H
      · rw [cl hik (by omega), C.one hik, C.two hik]
        refine ⟨fun z2 => ?_, fun z2 => ?_⟩
        · rw [nI_1]
          refine ih (i + 1) y (by omega) ?_
          rw [if_neg (fun q => q.2 z2)] at H; exact H
        · rw [nI_1]
          refine ih (i + 1) _ (by omega) ?_
          rw [if_pos ⟨e1.mpr z, z2⟩] at H; exact H
  exact bX0_nextTo_0 hb (L (c 0 2) 0 0 (by omega) H)
theorem S_reach {Q : Option MV → MS → Prop} (h : WK σ b c s) (H : Q (some (iV (gReach c s x))) σ) : R mj_OC (d + 1) mX10_reach Q 0 [some (rV 0 0), some (iV x), none, none] [] σ := by
  have V := h.V
  have np := V.np
  refine bX10_reach_0 (S_isPond h (fun p hp ex e => bX10_reach_5 ⟨fun _ => ?_, fun z => absurd z (by decide)⟩) (fun e => bX10_reach_5 ⟨fun z => absurd rfl z, fun _ => by rw [gReach, e] at H; exact H⟩))
  subst ex
  rw [gReach, e] at H
  simp only at H
  have L : ∀ (r i : Nat) (y : Int32), i + r = c 0 0 → Q (some (iV (gIt c s r y))) σ → R mj_OC (d + 1) mX10_reach Q 16 [some (rV 0 0), some (iV (nI p)), some (iV y), some (iV (nI i))] [] σ := by
    intro r
    induction r with
    | zero =>
      intro i y hi H
      refine bX10_reach_16 ⟨by rw [h.1]; exact h.lt, fun _ => H, fun z => ?_⟩
      rw [h.1, h.C.np, ← hi] at z; exact absurd (Int32.le_refl _) z
    | succ r ih =>
      intro i y hi H
      refine bX10_reach_16 ⟨by rw [h.1]; exact h.lt, fun z => ?_, fun _ => ?_⟩
      · rw [h.1, h.C.np, nI_le2 (by omega) (by omega)] at z; omega
      · rw [h.1, h.2.jm]
        refine S_nextTo (s := s) h.B (bX10_reach_43 ?_)
        rw [nI_1]
        exact ih (i + 1) _ (by omega) H
  exact L (c 0 0 - 1) 1 _ (by omega) H
theorem M_nextTo {Q : Option MV → MS → Prop} (h : MB σ 0 c s) {p : Nat} (hp : p < c 0 0) (H : ∀ z : Int32, (∀ q, q < 32 → (bt z q = true ↔ nbP c s (c 0 2) p q)) → Q (some (iV z)) σ) : R mj_OM (d + 1) mX11_nextTo Q 0 [some (rV 45 0), some (iV (nI p)), none, none] [] σ := by
  have V := h.2.2.1
  have nk := V.nk
  have np := V.np
  have L : ∀ (r i : Nat) (y : Int32), i + r = c 0 2 → (∀ q, q < 32 → (bt y q = true ↔ nbP c s i p q)) → R mj_OM (d + 1) mX11_nextTo Q 4 [some (rV 45 0), some (iV (nI p)), some (iV y), some (iV (nI i))] [] σ := by
    intro r
    induction r with
    | zero =>
      intro i y hi hy
      obtain rfl : i = c 0 2 := by omega
      refine bX11_nextTo_4 ⟨vin (p := 2) (n := 3) (by omega) (by omega) (by decide), fun _ => H y hy, fun z => ?_⟩
      rw [h.2.1.nk] at z; exact absurd (Int32.le_refl _) z
    | succ r ih =>
      intro i y hi hy
      have hik : i < c 0 2 := by omega
      have pp := V.pipe hik
      have skip : (∀ q, ¬ (gUj s i = true ∧ ((c 9 i = p ∧ q = c 10 i) ∨ (¬ c 9 i = p ∧ c 10 i = p ∧ q = c 9 i)))) → R mj_OM (d + 1) mX11_nextTo Q 4 [some (rV 45 0), some (iV (nI p)), some (iV y), some (iV (nI i + 1))] [] σ := fun g => by
        rw [nI_1]
        refine ih (i + 1) y (by omega) (fun q hq => ?_)
        rw [hy q hq]
        constructor
        · rintro ⟨k, h1, h2⟩; exact ⟨k, by omega, h2⟩
        · rintro ⟨k, h1, h2⟩
          by_cases e : k = i
          · subst e; exact absurd h2 (g q)
          · exact ⟨k, by omega, h2⟩
      have add : ∀ t, t < 31 → gUj s i = true → (∀ q, q = t ↔ ((c 9 i = p ∧ q = c 10 i) ∨ (¬ c 9 i = p ∧ c 10 i = p ∧ q = c 9 i))) → R mj_OM (d + 1) mX11_nextTo Q 4 [some (rV 45 0), some (iV (nI p)), some (iV (y ||| ((1 : Int32) <<< (nI t &&& 31)))), some (iV (nI i + 1))] [] σ := fun t ht gu g => by
        rw [nI_1]
        refine ih (i + 1) _ (by omega) (fun q hq => ?_)
        rw [bt_or, Bool.or_eq_true, hy q hq, bt_1 ht hq, decide_eq_true_eq]
        constructor
        · rintro (⟨k, h1, h2⟩ | h)
          · exact ⟨k, by omega, h2⟩
          · exact ⟨i, by omega, gu, (g q).mp h.symm⟩
        · rintro ⟨k, h1, h2⟩
          by_cases e : k = i
          · subst e; exact Or.inr ((g q).mpr h2.2).symm
          · exact Or.inl ⟨k, by omega, h2⟩
      refine bX11_nextTo_4 ⟨vin (p := 2) (n := 3) (by omega) (by omega) (by decide), fun z => ?_, fun _ => ?_⟩
      · rw [h.2.1.nk, nI_le2 (by omega) (by omega)] at z; omega
      refine M_isJammed (k := 0) h (fun g => bX11_nextTo_20 ⟨fun z => absurd z (by decide), fun _ => skip (fun q z => ?_)⟩) (fun g => bX11_nextTo_20 ⟨fun _ => ⟨vin hik (by omega) (by decide), ?_⟩, fun z => absurd rfl z⟩)
      · exact absurd g ((gUj_eq eqW.rf i).mp z.1)
      have gu : gUj s i = true := (gUj_eq eqW.rf i).mpr g
      rw [cl hik (by omega), h.2.1.one hik, h.2.1.two hik]
      refine ⟨fun z => ⟨fun z2 => ?_, fun z2 => ?_⟩, fun z => ?_⟩
      · rw [nI_inj (by omega) (by omega)] at z z2
        rw [show y ||| (0 : Int32) = y from by simp]
        exact skip (fun q w => by rcases w.2 with w | w <;> omega)
      · rw [nI_inj (by omega) (by omega)] at z z2
        exact add (c 9 i) (by omega) gu (fun q => by omega)
      · rw [nI_inj (by omega) (by omega)] at z
        exact add (c 10 i) (by omega) gu (fun q => by omega)
  exact bX11_nextTo_0 (L (c 0 2) 0 0 (by omega) (fun q _ => by simp [bt_0, nbP]))
theorem gCnt_lt {p q : Nat → Bool} : ∀ n, (∀ i, i < n → p i = true → q i = true) → (∃ i, i < n ∧ p i = false ∧ q i = true) → gCnt p n + 1 ≤ gCnt q n := by
  have le : ∀ n, (∀ i, i < n → p i = true → q i = true) → gCnt p n ≤ gCnt q n := by
    intro n
    induction n with
    | zero => intro _; exact Nat.le_refl _
    | succ n ih =>
      intro h
      have := ih (fun i hi => h i (by omega))
      rw [gCnt, gCnt]
      have hn := h n (by omega)
      by_cases g : p n = true
      · rw [if_pos g, if_pos (hn g)]; omega
      · rw [if_neg g]; split <;> omega
  intro n
  induction n with
  | zero => rintro _ ⟨i, h, _⟩; omega
  | succ n ih =>
    rintro h ⟨i, h1, h2, h3⟩
    rw [gCnt, gCnt]
    by_cases e : i = n
    · subst e
      have := le i (fun j hj => h j (by omega))
      rw [if_neg (by rw [h2]; decide), if_pos h3]; omega
    · have := ih (fun j hj => h j (by omega)) ⟨i, by omega, h2, h3⟩
      have hn := h n (by omega)
      by_cases g : p n = true
      · rw [if_pos g, if_pos (hn g)]; omega
      · rw [if_neg g]; split <;> omega
theorem gIt_fix {y : Int32} (h : y ||| gNx c s y = y) : ∀ n, gIt c s n y = y := by
  intro n
  induction n with
  | zero => rfl
  | succ n ih => rw [gIt, h]; exact ih
theorem gNx_in (V : CV c) {q : Nat} (hq : q < 32) (h : bt (gNx c s x) q = true) : q < c 0 0 := by
  obtain ⟨k, h1, _, h3, _⟩ := (gNx_bt V hq).mp h
  have := V.pipe h1
  omega
theorem M_reach {Q : Option MV → MS → Prop} (h : MB σ 0 c s) (H : ∀ τ, XQ σ τ → Q (some (iV (gReach c s x))) τ) : R mj_OM (d + 1 + 1) mX11_reach Q 0 [some (rV 45 0), some (iV x), none, none, none] [] σ := by
  have V := h.2.2.1
  have np := V.np
  have h1 := XQ.t.mb h (by decide)
  have H0 := H _ XQ.t
  refine bX11_reach_0 (M_isPond h1.2.1 V (fun p hp ex e => bX11_reach_10 ⟨fun _ => ?_, fun z => absurd z (by decide)⟩) (fun e => bX11_reach_10 ⟨fun z => absurd rfl z, fun _ => by rw [gReach, e] at H0; exact H0⟩))
  subst ex
  rw [gReach, e] at H0
  simp only at H0
  -- one round
  have rnd : ∀ y : Int32, R mj_OM (d + 1 + 1) mX11_reach Q 21 [some (rV 45 0), some (iV (nI p)), some (iV (y ||| gNx c s y)), some (iV y), none] [] (uI σ 45 0 0 0) → R mj_OM (d + 1 + 1) mX11_reach Q 31 [some (rV 45 0), some (iV (nI p)), some (iV y), some (iV y), some (iV (nI 0))] [] (uI σ 45 0 0 0) := by
    intro y Hn
    have L : ∀ (r i : Nat) (z : Int32), i + r = c 0 0 → (∀ q, q < 32 → (bt z q = true ↔ bt y q = true ∨ ∃ j, j < i ∧ bt y j = true ∧ nbP c s (c 0 2) j q)) → R mj_OM (d + 1 + 1) mX11_reach Q 31 [some (rV 45 0), some (iV (nI p)), some (iV z), some (iV y), some (iV (nI i))] [] (uI σ 45 0 0 0) := by
      intro r
      induction r with
      | zero =>
        intro i z hi hz
        obtain rfl : i = c 0 0 := by omega
        have ez : z = y ||| gNx c s y := bt_ext (fun q hq => by
          rw [Bool.eq_iff_iff, hz q hq, bt_or, Bool.or_eq_true, gNx_bt V hq]
          constructor
          · rintro (g | ⟨j, g1, g2, k, g3, g4, g5⟩)
            · exact Or.inl g
            · refine Or.inr ⟨k, g3, g4, ?_⟩
              rcases g5 with ⟨a1, a2⟩ | ⟨a0, a1, a2⟩
              · exact ⟨Or.inr a2, Or.inl (by rw [a1]; exact g2)⟩
              · exact ⟨Or.inl a2, Or.inr (by rw [a1]; exact g2)⟩
          · rintro (g | ⟨k, g1, g2, g3, g4⟩)
            · exact Or.inl g
            · have pp := V.pipe g1
              rcases g4 with a | a
              · rcases g3 with g3 | g3
                · rw [g3]; exact Or.inl a
                · exact Or.inr ⟨c 9 k, pp.1, a, k, g1, g2, Or.inl ⟨rfl, g3⟩⟩
              · rcases g3 with g3 | g3
                · exact Or.inr ⟨c 10 k, pp.2.1, a, k, g1, g2, Or.inr ⟨pp.2.2.1, rfl, g3⟩⟩
                · rw [g3]; exact Or.inl a)
        rw [ez]
        refine bX11_reach_31 ⟨vin (p := 0) (n := 1) (by omega) (by omega) (by decide), fun _ => Hn, fun z => ?_⟩
        rw [h1.2.1.np] at z; exact absurd (Int32.le_refl _) z
      | succ r ih =>
        intro i z hi hz
        have hip : i < c 0 0 := by omega
        refine bX11_reach_31 ⟨vin (p := 0) (n := 1) (by omega) (by omega) (by decide), fun z => ?_, fun _ => ⟨fun g => ?_, fun g => ?_⟩⟩
        · rw [h1.2.1.np, nI_le2 (by omega) (by omega)] at z; omega
        · rw [bt_sh (by omega)] at g
          rw [show z ||| (0 : Int32) = z from by simp, nI_1]
          refine ih (i + 1) z (by omega) (fun q hq => ?_)
          rw [hz q hq]
          constructor
          · rintro (a | ⟨j, a1, a2⟩)
            · exact Or.inl a
            · exact Or.inr ⟨j, by omega, a2⟩
          · rintro (a | ⟨j, a1, a2⟩)
            · exact Or.inl a
            · by_cases e : j = i
              · subst e; exact absurd a2.1 g
              · exact Or.inr ⟨j, by omega, a2⟩
        · rw [bt_sh (by omega)] at g
          refine M_nextTo h1 hip (fun w hw => bX11_reach_59 ?_)
          rw [nI_1]
          refine ih (i + 1) _ (by omega) (fun q hq => ?_)
          rw [bt_or, Bool.or_eq_true, hz q hq, hw q hq]
          constructor
          · rintro ((a | ⟨j, a1, a2⟩) | a)
            · exact Or.inl a
            · exact Or.inr ⟨j, by omega, a2⟩
            · exact Or.inr ⟨i, by omega, g, a⟩
          · rintro (a | ⟨j, a1, a2⟩)
            · exact Or.inl (Or.inl a)
            · by_cases e : j = i
              · subst e; exact Or.inr a2.2
              · exact Or.inl (Or.inr ⟨j, by omega, a2⟩)
    exact L (c 0 0) 0 y (by omega) (fun q _ => ⟨Or.inl, fun z => z.elim id (fun ⟨j, hj, _⟩ => absurd hj (Nat.not_lt_zero _))⟩)
  have M : ∀ (r : Nat) (y z : Int32), ¬ y = z → (∀ q, q < 32 → bt y q = true → q < c 0 0) → c 0 0 ≤ gCnt (fun q => bt y q) (c 0 0) + r → Q (some (iV (gIt c s r y))) (uI σ 45 0 0 0) → R mj_OM (d + 1 + 1) mX11_reach Q 21 [some (rV 45 0), some (iV (nI p)), some (iV y), some (iV z), none] [] (uI σ 45 0 0 0) := by
    intro r
    induction r with
    | zero =>
      intro y z hne hb hc H
      refine bX11_reach_21 ⟨fun e => absurd e hne, fun _ => rnd y ?_⟩
      have ef : y ||| gNx c s y = y := by
        refine bt_ext (fun q hq => ?_)
        rw [Bool.eq_iff_iff, bt_or, Bool.or_eq_true]
        refine ⟨fun g => g.elim id (fun g => ?_), Or.inl⟩
        have hq2 := gNx_in V hq g
        cases e : bt y q with
        | true => rfl
        | false =>
          have := gCnt_lt (p := fun q => bt y q) (q := fun _ => true) (c 0 0) (fun _ _ _ => rfl) ⟨q, hq2, e, rfl⟩
          have := gCnt_le (fun _ => true) (c 0 0)
          omega
      rw [ef]
      exact bX11_reach_21 ⟨fun _ => H, fun e => absurd rfl e⟩
    | succ r ih =>
      intro y z hne hb hc H
      refine bX11_reach_21 ⟨fun e => absurd e hne, fun _ => rnd y ?_⟩
      by_cases ef : y ||| gNx c s y = y
      · rw [gIt_fix ef] at H
        rw [ef]
        exact bX11_reach_21 ⟨fun _ => H, fun e => absurd rfl e⟩
      · have bits : ∀ q, q < 32 → bt (y ||| gNx c s y) q = true → q < c 0 0 := fun q hq g => by
          rw [bt_or, Bool.or_eq_true] at g
          exact g.elim (hb q hq) (gNx_in V hq)
        refine ih _ y ef bits ?_ H
        have : ∃ q, q < c 0 0 ∧ bt y q = false ∧ bt (y ||| gNx c s y) q = true := by
          refine Classical.byContradiction (fun g => ef (bt_ext (fun q hq => ?_)))
          rw [Bool.eq_iff_iff]
          refine ⟨fun a => ?_, fun a => by rw [bt_or, a]; rfl⟩
          cases e : bt y q with
          | true => rfl
          | false => exact absurd ⟨q, bits q hq a, e, a⟩ g
        have := gCnt_lt (p := fun q => bt y q) (q := fun q => bt (y ||| gNx c s y) q) (c 0 0) (fun q _ a => by simp only [bt_or, a, Bool.true_or]) this
        omega
  refine M (c 0 0 - 1) _ 0 (fun z => ?_) (fun q hq g => ?_) ?_ H0
  · have : bt ((1 : Int32) <<< (nI p &&& 31)) p = true := by rw [bt_1 (by omega) (by omega)]; simp
    rw [z, bt_0] at this; exact absurd this (by decide)
  · rw [bt_1 (by omega) hq, decide_eq_true_eq] at g; omega
  · have := gCnt_lt (p := fun _ => false) (q := fun q => bt ((1 : Int32) <<< (nI p &&& 31)) q) (c 0 0) (fun _ _ z => absurd z (by decide)) ⟨p, hp, rfl, by rw [bt_1 (by omega) (by omega)]; simp⟩
    omega
end Ri
