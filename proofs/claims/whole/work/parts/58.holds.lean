/-! holds -/
def gHolds (c : CA) (n w : Int32) : Int64 := if n < 0 ∨ 6 < n ∨ gHalf w = false then -1 else lN (gPart ((100 - c 0 6) ^ n.toNatClampNeg) (100 ^ n.toNatClampNeg) w)
section Rp
variable {d b : Nat} {Q : Option MV → MS → Prop} {c : CA} {s : SA} {σ : MS} {n w : Int32}
theorem hp_b {j i : Nat} (hj : j ≤ 100) (hi : i ≤ 6) : j ^ i ≤ 1000000000000 ∧ 0 < 100 ^ i ∧ 100 ^ i ≤ 1000000000000 := by
  have h1 : j ^ i ≤ 100 ^ i := Nat.pow_le_pow_left hj i
  have h2 : 100 ^ i ≤ 100 ^ 6 := Nat.pow_le_pow_right (by omega) hi
  have h3 : 100 ^ 6 = 1000000000000 := by decide
  exact ⟨by omega, Nat.pow_pos (by omega), by omega⟩
theorem S_holds (h : WK σ b c s) (H : Q (some (lV (gHolds c n w))) σ) : R mj_OC (d + 1) mX10_holds Q 0 [some (rV 0 0), some (iV n), some (iV w), none, none, none, none, none] [] σ := by
  have V := h.V
  have jm := V.jam
  refine bX10_holds_0 ⟨fun z => by rw [gHolds, if_pos (Or.inl z)] at H; exact H, fun n0 => ⟨fun z => by rw [gHolds, if_pos (Or.inr (Or.inl z))] at H; exact H, fun n6 => S_isHalf (fun g _ => bX10_holds_14 ⟨fun _ => ?_, fun z => absurd z (by decide)⟩) (fun g => bX10_holds_14 ⟨fun z => absurd rfl z, fun _ => by rw [gHolds, if_pos (Or.inr (Or.inr g))] at H; exact H⟩)⟩⟩
  obtain ⟨m, hm, rfl⟩ := nI_of2 (M := 6) (n := 6) (by decide) n0 (Int32.not_lt.mp n6)
  rw [gHolds, if_neg (fun q => q.elim n0 (fun q => q.elim n6 (fun q => by rw [g] at q; exact absurd q (by decide)))), nI_clamp (by omega)] at H
  have L : ∀ (r i : Nat), i + r = m → R mj_OC (d + 1) mX10_holds Q 29 [some (rV 0 0), some (iV (nI m)), some (iV w), some (lV (lN ((100 - c 0 6) ^ i))), none, some (lV (lN (100 ^ i))), none, some (iV (nI i))] [] σ := by
    intro r
    induction r with
    | zero =>
      intro i hi
      obtain rfl : i = m := by omega
      have b := hp_b (show 100 - c 0 6 ≤ 100 by omega) hm
      refine bX10_holds_29 ⟨fun _ => S_inLeastTerms (by omega) (by omega) b.2.1 (bX10_holds_70 H), fun z => absurd (Int32.le_refl _) z⟩
    | succ r ih =>
      intro i hi
      refine bX10_holds_29 ⟨fun z => ?_, fun _ => ⟨by rw [h.1]; exact h.lt, ?_⟩⟩
      · rw [nI_le2 (by omega) (by omega)] at z; omega
      · rw [h.1, h.C.jam, show (100 : Int32) = nI 100 from rfl, pk_sub (by omega), nI_l (by omega), lN_mul, show (100 : Int64) = lN 100 from rfl, lN_mul, nI_1, ← Nat.pow_succ, ← Nat.pow_succ]
        exact ih (i + 1) (by omega)
  exact L m 0 (by omega)
theorem M_holds (h : MB σ 0 c s) (H : ∀ τ, XQ σ τ → Q (some (lV (gHolds c n w))) τ) : R mj_OM (d + 1) mX11_holds Q 0 [some (rV 45 0), some (iV n), some (iV w), none, none, none, none, none, none, none, none, none, none] [] σ := by
  have V := h.2.2.1
  have jm := V.jam
  have h1 := XQ.t.mb h (by decide)
  have H := H _ XQ.t
  refine bX11_holds_0 ⟨fun z => by rw [gHolds, if_pos (Or.inl z)] at H; exact H, fun n0 => ⟨fun z => by rw [gHolds, if_pos (Or.inr (Or.inl z))] at H; exact H, fun n6 => M_isPart (fun g _ => bX11_holds_19 ⟨fun _ => ?_, fun z => absurd z (by decide)⟩) (fun g => bX11_holds_19 ⟨fun z => absurd rfl z, fun _ => by rw [gHolds, if_pos (Or.inr (Or.inr g))] at H; exact H⟩)⟩⟩
  obtain ⟨m, hm, rfl⟩ := nI_of2 (M := 6) (n := 6) (by decide) n0 (Int32.not_lt.mp n6)
  rw [gHolds, if_neg (fun q => q.elim n0 (fun q => q.elim n6 (fun q => by rw [g] at q; exact absurd q (by decide)))), nI_clamp (by omega)] at H
  have hb := hp_b (show 100 - c 0 6 ≤ 100 by omega) hm
  have G : ∀ (N v u : Nat), v ≤ N → u < 2 ^ 62 → v < 2 ^ 62 → Nat.gcd u v = Nat.gcd ((100 - c 0 6) ^ m) (100 ^ m) → R mj_OM (d + 1) mX11_holds Q 76 [some (rV 45 0), some (iV (nI m)), some (iV w), some (lV (lN ((100 - c 0 6) ^ m))), none, some (lV (lN (100 ^ m))), none, some (lV (lN u)), none, some (lV (lN v)), none, none, none] [] (uI σ 45 0 0 0) := by
    intro N
    induction N with
    | zero =>
      intro v u hv hu _ hg
      obtain rfl : v = 0 := by omega
      rw [Nat.gcd_zero_right] at hg
      have g0 : 0 < u := by rw [hg]; exact Nat.gcd_pos_of_pos_right _ hb.2.1
      have ne : ¬ lN u = 0 := fun z => by rw [show (0 : Int64) = lN 0 from rfl, pk_lEQ (by omega) (by omega)] at z; omega
      have a1 : lN ((100 - c 0 6) ^ m) / lN u = lN ((100 - c 0 6) ^ m / u) := pk_lDiv (by omega) g0 (by omega)
      have a2 : lN (100 ^ m) / lN u = lN (100 ^ m / u) := pk_lDiv (by omega) g0 (by omega)
      refine bX11_holds_76 ⟨fun _ => ⟨fun w0 => ⟨ne, ?_⟩, fun w0 => ⟨ne, ?_⟩⟩, fun z => absurd ((lg_cmp_eq _ _).mpr rfl) z⟩
      · rw [a2]; rw [gPart, if_neg w0, ← hg] at H; exact H
      · rw [a1]; rw [gPart, if_pos w0, ← hg] at H; exact H
    | succ N ih =>
      intro v u hv hu hv2 hg
      by_cases v0 : v = 0
      · subst v0
        exact ih 0 u (by omega) hu (by omega) hg
      · have ne : ¬ lN v = 0 := fun z => by rw [show (0 : Int64) = lN 0 from rfl, pk_lEQ (by omega) (by omega)] at z; omega
        refine bX11_holds_76 ⟨fun z => absurd ((lg_cmp_eq _ _).mp z) ne, fun _ => ⟨ne, ?_⟩⟩
        rw [pk_lRem (by omega) (by omega) (by omega)]
        have ml := Nat.mod_lt u (show 0 < v by omega)
        refine ih (u % v) v (by omega) hv2 (by omega) ?_
        rw [← hg, Nat.gcd_comm u v, Nat.gcd_rec v u, Nat.gcd_comm]
  have v6 : vp_in (6 : Int32) 18 := vin (p := 6) (n := 7) (by omega) (by omega) (by decide)
  have L : ∀ (r i : Nat), i + r = m → R mj_OM (d + 1) mX11_holds Q 34 [some (rV 45 0), some (iV (nI m)), some (iV w), some (lV (lN ((100 - c 0 6) ^ i))), none, some (lV (lN (100 ^ i))), none, some (iV (nI i)), none, none, none, none, none] [] (uI σ 45 0 0 0) := by
    intro r
    induction r with
    | zero =>
      intro i hi
      obtain rfl : i = m := by omega
      exact bX11_holds_34 ⟨fun _ => G _ _ _ (Nat.le_refl _) (by omega) (by omega) rfl, fun z => absurd (Int32.le_refl _) z⟩
    | succ r ih =>
      intro i hi
      refine bX11_holds_34 ⟨fun z => ?_, fun _ => ⟨v6, ?_⟩⟩
      · rw [nI_le2 (by omega) (by omega)] at z; omega
      · rw [h1.2.1.jam, nI_l (by omega), show (100 : Int64) = lN 100 from rfl, lN_sub (by omega), lN_mul, lN_mul, nI_1, ← Nat.pow_succ, ← Nat.pow_succ]
        exact ih (i + 1) (by omega)
  exact L m 0 (by omega)
end Rp
/-! facts: f 0 0 how many, f 0 1 by how many known (0 all, k + 1), f 1 kind (0 less, 1 at least, 2 strikes), f 2 minutes, f 3 about, f 4 water -/
abbrev FA : Type := Nat → Nat → Nat
def gKn (f : FA) : Nat := if f 0 1 = 0 then f 0 0 else f 0 1 - 1
def kbI (f : FA) : Int32 := if f 0 1 = 0 then -1 else nI (f 0 1 - 1)
def FW (c : CA) (f : FA) : Prop := f 0 0 ≤ 24 ∧ f 0 1 ≤ f 0 0 + 1 ∧ ∀ i, i < f 0 0 → f 1 i ≤ 2 ∧ (f 1 i = 2 → f 3 i < i) ∧ (¬ f 1 i = 2 → 1 ≤ f 2 i ∧ f 2 i ≤ 60 ∧ f 3 i < c 0 0 ∧ f 4 i ≤ 9999)
def FCR (σ : MS) (f : FA) : Prop := σ.1 9 0 0 = nI (f 0 0) ∧ σ.1 9 0 1 = kbI f ∧ ∀ i, i < f 0 0 → σ.1 39 0 i = nI (f 1 i) ∧ σ.1 40 0 i = nI (f 2 i) ∧ σ.1 41 0 i = nI (f 3 i) ∧ σ.1 42 0 i = nI (f 4 i)
def FMR (σ : MS) (f : FA) : Prop := σ.1 45 0 61 = nI (f 0 0) ∧ σ.1 45 0 62 = kbI f ∧ ∀ i, i < f 0 0 → (f 1 i = 2 → σ.1 84 0 i = nI (f 3 i)) ∧ (¬ f 1 i = 2 → σ.1 84 0 i = -1 ∧ σ.1 80 0 i = nI (f 2 i) ∧ σ.1 81 0 i = nI (f 3 i) ∧ σ.1 82 0 i = nI (f 4 i) ∧ σ.1 83 0 i = nI (f 1 i))
def gSt (f : FA) : Nat → (Nat → Bool) → Nat → Bool
  | 0, T => T
  | k + 1, T => gSt f k (if f 1 k = 2 ∧ T k = false then (fun j => if j = f 3 k then true else T j) else T)
def gStk (f : FA) : Nat → Bool := gSt f (gKn f) (fun _ => false)
def gCo (f : FA) (i : Nat) : Bool := decide (¬ f 1 i = 2) && !gStk f i
def gEn (f : FA) : Nat → Nat
  | 0 => 0
  | n + 1 => if gCo f n = true ∧ gEn f n < f 2 n then f 2 n else gEn f n
def gEnd (f : FA) : Nat := gEn f (gKn f)
/-- whether a fact that counts is so in minute t, where the ponds have w -/
def gSo1 (f : FA) (w : Nat → Int32) (t i : Nat) : Bool := if gCo f i = true ∧ f 2 i = t then (decide (nI (f 4 i) ≤ w (f 3 i)) == decide (f 1 i = 1)) else true
def gSo (f : FA) (w : Nat → Int32) (t : Nat) : Nat → Nat → Bool
  | _, 0 => true
  | i, n + 1 => if gSo1 f w t i = true then gSo f w t (i + 1) n else false
section Rq
variable {d b : Nat} {Q : Option MV → MS → Prop} {c : CA} {s : SA} {σ : MS} {f : FA} {w : Nat → Int32}
theorem FW.kn (h : FW c f) : gKn f ≤ f 0 0 := by unfold gKn; have := h.2.1; split <;> omega
theorem kbI_n (h : FW c f) : (f 0 1 = 0 → kbI f = -1) ∧ (¬ f 0 1 = 0 → ¬ kbI f = -1 ∧ kbI f = nI (gKn f)) := by
  unfold kbI gKn
  refine ⟨fun z => if_pos z, fun z => ?_⟩
  rw [if_neg z, if_neg z]
  refine ⟨fun q => ?_, rfl⟩
  have := nI_pos (n := f 0 1 - 1) (by have := h.1; have := h.2.1; omega)
  rw [q] at this; exact this (by decide)
theorem FCR.keep {L : List (Nat × Nat)} {τ : MS} (h : FCR σ f) (hs : SX L σ τ) (hL : (9, 0) ∉ L ∧ (39, 0) ∉ L ∧ (40, 0) ∉ L ∧ (41, 0) ∉ L ∧ (42, 0) ∉ L) : FCR τ f := by
  unfold FCR
  rw [(hs 9 0 hL.1).1, (hs 39 0 hL.2.1).1, (hs 40 0 hL.2.2.1).1, (hs 41 0 hL.2.2.2.1).1, (hs 42 0 hL.2.2.2.2).1]; exact h
theorem S_knownCount (hf : FW c f) (h : FCR σ f) (H : Q (some (iV (nI (gKn f)))) σ) : R mj_OC d mX1_knownCount Q 0 [some (rV 9 0)] [] σ := by
  have k := kbI_n hf
  refine bX1_knownCount_0 ⟨fun z => ?_, fun z => ?_⟩
  · rw [h.2.1] at z ⊢
    have f1 : ¬ f 0 1 = 0 := fun e => z (k.1 e)
    rw [(k.2 f1).2]; exact H
  · rw [h.2.1] at z
    have f1 : f 0 1 = 0 := Decidable.byContradiction (fun e => (k.2 e).1 z)
    rw [gKn, if_pos f1] at H
    rw [h.1]; exact H
theorem S_settle (hf : FW c f) (h : FCR σ f) (H : ∀ τ : MS, SB [(43, 0)] σ τ → (∀ i, i < 24 → τ.1 43 0 i = i01 (gStk f i)) → Q none τ) : R mj_OC (d + 1) mX1_settle Q 0 [some (rV 9 0), none] [] σ := by
  have n24 := hf.1
  have kn := hf.kn
  have k9 : ∀ {τ : MS}, SB [(43, 0)] σ τ → FCR τ f := fun hb => h.keep hb.x (by decide)
  have M : ∀ (k : Nat) (T : Nat → Bool) (φ : MS), k ≤ gKn f → SB [(43, 0)] σ φ → (∀ i, i < 24 → φ.1 43 0 i = i01 (T i)) → (∀ τ : MS, SB [(43, 0)] σ τ → (∀ i, i < 24 → τ.1 43 0 i = i01 (gSt f k T i)) → Q none τ) → R mj_OC (d + 1) mX1_settle Q 28 [some (rV 9 0), some (iV (nI k - 1))] [] φ := by
    intro k
    induction k with
    | zero => intro T φ hk hb hT H; exact bX1_settle_28 ⟨fun _ => H φ hb hT, fun z => absurd (by decide) z⟩
    | succ k ih =>
      intro T φ hk hb hT H
      have hkn : k < f 0 0 := by omega
      have fr := (k9 hb).2.2 k hkn
      have wf := hf.2.2 k hkn
      rw [nI_pred]
      have nx : nI k + (-1) = nI k - 1 := by rw [Int32.sub_eq_add_neg]
      refine bX1_settle_28 ⟨fun z => absurd z (nI_pos (by omega)), fun _ => ⟨vin (show k < 24 by omega) (by omega) (by decide), fun z => ?_, fun z => ⟨fun z2 => ?_, fun z2 => ?_⟩⟩⟩
      · rw [cl (show k < 24 by omega) (by omega), fr.1, show (2 : Int32) = nI 2 from rfl, nI_inj (by omega) (by omega)] at z
        rw [nx]
        refine ih T φ (by omega) hb hT (fun τ t1 t2 => H τ t1 (fun i hi => ?_))
        rw [gSt, if_neg (fun q => z q.1)]; exact t2 i hi
      · rw [cl (show k < 24 by omega) (by omega), hT k (by omega)] at z2
        have tk : ¬ T k = false := fun e => z2 (by rw [e]; rfl)
        rw [nx]
        refine ih T φ (by omega) hb hT (fun τ t1 t2 => H τ t1 (fun i hi => ?_))
        rw [gSt, if_neg (fun q => tk q.2)]; exact t2 i hi
      · rw [cl (show k < 24 by omega) (by omega), fr.1, show (2 : Int32) = nI 2 from rfl, nI_inj (by omega) (by omega)] at z
        rw [cl (show k < 24 by omega) (by omega), hT k (by omega)] at z2
        have tk : T k = false := by
          cases e : T k with
          | false => rfl
          | true => rw [e] at z2; exact absurd z2 (by decide)
        have ab := wf.2.1 z
        rw [cl (show k < 24 by omega) (by omega), fr.2.2.1, cl (show f 3 k < 24 by omega) (by omega), nx]
        refine ⟨vin (show f 3 k < 24 by omega) (by omega) (by decide), ih (fun j => if j = f 3 k then true else T j) _ (by omega) (hb.tr (SB.uI (by simp))) (fun i hi => ?_) (fun τ t1 t2 => H τ t1 (fun i hi => ?_))⟩
        · by_cases e : i = f 3 k
          · subst e; simp [uI, i01]
          · simp [uI, e, hT i hi]
        · rw [gSt, if_pos ⟨z, tk⟩]; exact t2 i hi
  have L : ∀ (r i : Nat) (φ : MS), i + r = 24 → SB [(43, 0)] σ φ → (∀ j, j < i → φ.1 43 0 j = 0) → R mj_OC (d + 1) mX1_settle Q 2 [some (rV 9 0), some (iV (nI i))] [] φ := by
    intro r
    induction r with
    | zero =>
      intro i φ hi hb hz
      obtain rfl : i = 24 := by omega
      refine bX1_settle_2 ⟨fun _ => S_knownCount hf (k9 hb) (bX1_settle_25 ?_), fun z => absurd (by decide) z⟩
      exact M (gKn f) (fun _ => false) φ (Nat.le_refl _) hb (fun i hi => hz i hi) H
    | succ r ih =>
      intro i φ hi hb hz
      refine bX1_settle_2 ⟨fun z => ?_, fun _ => ⟨vin (show i < 24 by omega) (by omega) (by decide), ?_⟩⟩
      · rw [show (24 : Int32) = nI 24 from rfl, nI_le2 (by omega) (by omega)] at z; omega
      · rw [nI_clamp (by omega), nI_1]
        refine ih (i + 1) _ (by omega) (hb.tr (SB.uI (by simp))) (fun j hj => ?_)
        by_cases e : j = i
        · subst e; simp [uI]
        · simp [uI, e]; exact hz j (by omega)
  exact bX1_settle_0 (L 24 0 σ (by omega) SB.rf (fun j hj => by omega))
def STK (σ : MS) (f : FA) : Prop := ∀ i, i < 24 → σ.1 43 0 i = i01 (gStk f i)
theorem S_counts (hf : FW c f) (h : FCR σ f) (ht : STK σ f) {i : Nat} (hi : i < f 0 0) (H1 : gCo f i = true → Q (some (iV 1)) σ) (H0 : gCo f i = false → Q (some (iV 0)) σ) : R mj_OC d mX1_counts Q 0 [some (rV 9 0), some (iV (nI i))] [] σ := by
  have n24 := hf.1
  have wf := hf.2.2 i hi
  refine bX1_counts_0 ⟨vin hi n24 (by decide), fun z => H0 ?_, fun z => ⟨fun z2 => H0 ?_, fun z2 => H1 ?_⟩⟩
  · rw [cl hi (by omega), (h.2.2 i hi).1, show (2 : Int32) = nI 2 from rfl, nI_inj (by omega) (by omega)] at z
    simp [gCo, z]
  · rw [cl hi (by omega), ht i (by omega)] at z2
    have : gStk f i = true := by
      cases e : gStk f i with
      | true => rfl
      | false => rw [e] at z2; exact absurd rfl z2
    simp [gCo, this]
  · rw [cl hi (by omega), (h.2.2 i hi).1, show (2 : Int32) = nI 2 from rfl, nI_inj (by omega) (by omega)] at z
    rw [cl hi (by omega), ht i (by omega)] at z2
    have : gStk f i = false := by
      cases e : gStk f i with
      | false => rfl
      | true => rw [e] at z2; exact absurd z2 (by decide)
    simp [gCo, this, z]
theorem gCo_2 (hf : FW c f) {i : Nat} (hi : i < f 0 0) (h : gCo f i = true) : ¬ f 1 i = 2 ∧ 1 ≤ f 2 i ∧ f 2 i ≤ 60 ∧ f 3 i < c 0 0 ∧ f 4 i ≤ 9999 ∧ f 1 i ≤ 1 := by
  have wf := hf.2.2 i hi
  have : ¬ f 1 i = 2 := by simp [gCo] at h; exact h.1
  have := wf.2.2 this
  omega
theorem gEn_le (hf : FW c f) : ∀ n, n ≤ f 0 0 → gEn f n ≤ 60 := by
  intro n
  induction n with
  | zero => intro _; exact Nat.zero_le _
  | succ n ih =>
    intro hn
    have := ih (by omega)
    rw [gEn]
    split
    · rename_i g; exact (gCo_2 hf (by omega) g.1).2.2.1
    · exact this
theorem S_lastKnownMinute (hf : FW c f) (h : FCR σ f) (ht : STK σ f) (H : Q (some (iV (nI (gEnd f)))) σ) : R mj_OC (d + 1) mX1_lastKnownMinute Q 0 [some (rV 9 0), none, none] [] σ := by
  have n24 := hf.1
  have kn := hf.kn
  refine bX1_lastKnownMinute_0 ?_
  refine up_loop (n := gKn f) (fun i => R mj_OC (d + 1) mX1_lastKnownMinute Q 4 [some (rV 9 0), some (iV (nI (gEn f i))), some (iV (nI i))] [] σ) ?_ ?_ 0 (Nat.zero_le _)
  · exact bX1_lastKnownMinute_4 (S_knownCount hf h (bX1_lastKnownMinute_9 ⟨fun _ => H, fun z => absurd (Int32.le_refl _) z⟩))
  · intro i hi ih
    have le := gEn_le hf i (by omega)
    rw [gEn] at ih
    refine bX1_lastKnownMinute_4 (S_knownCount hf h (bX1_lastKnownMinute_9 ⟨fun z => ?_, fun _ => S_counts hf h ht (show i < f 0 0 by omega) (fun g => bX1_lastKnownMinute_17 ⟨fun z => absurd z (by decide), fun _ => ⟨vin (show i < 24 by omega) (by omega) (by decide), ?_⟩⟩) (fun g => bX1_lastKnownMinute_17 ⟨fun _ => ?_, fun z => absurd rfl z⟩)⟩))
    · rw [nI_le2 (by omega) (by omega)] at z; omega
    · have g2 := gCo_2 hf (show i < f 0 0 by omega) g
      rw [cl (show i < 24 by omega) (by omega), (h.2.2 i (by omega)).2.1, nI_1]
      by_cases q : gEn f i < f 2 i
      · rw [if_pos ((nI_ltI (by omega) (by omega)).mpr q)]
        rw [if_pos ⟨g, q⟩] at ih; exact ih
      · rw [if_neg (fun w => q ((nI_ltI (by omega) (by omega)).mp w))]
        rw [if_neg (fun w => q w.2)] at ih; exact ih
    · rw [nI_1]
      rw [if_neg (fun w => by rw [g] at w; exact absurd w.1 (by decide))] at ih; exact ih
theorem S_hold (hf : FW c f) (h : FCR σ f) (ht : STK σ f) (hs : SC σ 2 b c s) {t : Nat} (h60 : t ≤ 60) (H1 : gSo f (s 4) t 0 (gKn f) = true → Q (some (iV 1)) σ) (H0 : gSo f (s 4) t 0 (gKn f) = false → Q (some (iV 0)) σ) : R mj_OC (d + 1) mX1_hold Q 0 [some (rV 9 0), some (iV (nI t)), some (rV 35 2), none] [] σ := by
  have n24 := hf.1
  have kn := hf.kn
  have V := hs.2.2.1.2.2.2.2
  have np := V.np
  have k2 : mj_sch 35 = .inr (0, 7) := rfl
  have g2 : (35, 2) ∈ mj_OC := by decide
  have L : ∀ (r i : Nat), i + r = gKn f → (gSo f (s 4) t i r = true → Q (some (iV 1)) σ) → (gSo f (s 4) t i r = false → Q (some (iV 0)) σ) → R mj_OC (d + 1) mX1_hold Q 2 [some (rV 9 0), some (iV (nI t)), some (rV 35 2), some (iV (nI i))] [] σ := by
    intro r
    induction r with
    | zero =>
      intro i hi H1 H0
      obtain rfl : i = gKn f := by omega
      exact bX1_hold_2 k2 g2 (S_knownCount hf h (bX1_hold_7 k2 g2 ⟨fun _ => H1 rfl, fun z => absurd (Int32.le_refl _) z⟩))
    | succ r ih =>
      intro i hi H1 H0
      have hin : i < f 0 0 := by omega
      have fr := h.2.2 i hin
      have ei := cl (show i < 24 by omega) (by omega)
      have next : gSo1 f (s 4) t i = true → R mj_OC (d + 1) mX1_hold Q 2 [some (rV 9 0), some (iV (nI t)), some (rV 35 2), some (iV (nI i + 1))] [] σ := fun g => by
        rw [nI_1]
        exact ih (i + 1) (by omega) (fun z => H1 (by rw [gSo, if_pos g]; exact z)) (fun z => H0 (by rw [gSo, if_pos g]; exact z))
      have stop : gSo1 f (s 4) t i = false → Q (some (iV 0)) σ := fun g => H0 (by rw [gSo, if_neg (by rw [g]; decide)])
      refine bX1_hold_2 k2 g2 (S_knownCount hf h (bX1_hold_7 k2 g2 ⟨fun z => ?_, fun _ => S_counts hf h ht hin (fun g => bX1_hold_15 k2 g2 ⟨fun z => absurd z (by decide), fun _ => ⟨vin (show i < 24 by omega) (by omega) (by decide), fun z => next ?_, fun z => ?_⟩⟩) (fun g => bX1_hold_15 k2 g2 ⟨fun _ => next ?_, fun z => absurd rfl z⟩)⟩))
      · rw [nI_le2 (by omega) (by omega)] at z; omega
      · have q := gCo_2 hf hin g
        rw [ei, fr.2.1, nI_inj (by omega) (by omega)] at z
        rw [gSo1, if_neg (fun w => z w.2)]
      · have q := gCo_2 hf hin g
        rw [ei, fr.2.1, nI_inj (by omega) (by omega)] at z
        have e1 : gSo1 f (s 4) t i = (decide (nI (f 4 i) ≤ s 4 (f 3 i)) == decide (f 1 i = 1)) := by rw [gSo1, if_pos ⟨g, z⟩]
        rw [ei, fr.2.2.1, fr.2.2.2, fr.1, cl q.2.2.2.1 (by omega), hs.wr q.2.2.2.1, show (1 : Int32) = nI 1 from rfl, nI_inj (by omega) (by omega)]
        refine ⟨vin q.2.2.2.1 np (by decide), fun lt => ?_, fun lt => ?_⟩
        · have l2 : ¬ nI (f 4 i) ≤ s 4 (f 3 i) := Int32.not_le.mpr lt
          refine ⟨fun k1 => ⟨fun _ => next (by rw [e1, decide_eq_false l2, decide_eq_false k1]; rfl), fun z => absurd rfl z⟩, fun k1 => ⟨fun z => absurd z (by decide), fun _ => stop (by rw [e1, decide_eq_false l2, decide_eq_true k1]; rfl)⟩⟩
        · have l2 : nI (f 4 i) ≤ s 4 (f 3 i) := Int32.not_lt.mp lt
          refine ⟨fun k1 => ⟨fun z => absurd z (by decide), fun _ => stop (by rw [e1, decide_eq_true l2, decide_eq_false k1]; rfl)⟩, fun k1 => ⟨fun _ => next (by rw [e1, decide_eq_true l2, decide_eq_true k1]; rfl), fun z => absurd rfl z⟩⟩
      · rw [gSo1, if_neg (fun w => by rw [g] at w; exact absurd w.1 (by decide))]
  exact bX1_hold_0 k2 g2 (L (gKn f) 0 (by omega) H1 H0)
end Rq
