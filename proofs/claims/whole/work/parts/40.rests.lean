/-! rests; what a question may change in the class -/
def wqL : List (Nat × Nat) := [(6, 2), (35, 2), (36, 2), (37, 2), (7, 0), (8, 0), (38, 0), (34, 0), (34, 1), (43, 0), (11, 0)]
theorem WK.q {σ τ : MS} {b : Nat} {c : CA} {s : SA} (h : WK σ b c s) (hq : SX wqL σ τ) : WK τ b c s := ⟨by rw [(hq 0 0 (by decide)).2.2]; exact h.1, h.2.keepX hq (by simp [wqL, mj_ck]) (by decide)⟩
section Qw
variable {d : Nat} {Q : Option MV → MS → Prop} {σ : MS} {b k : Nat} {c : CA} {s : SA} {md : MD}
theorem n4 : (4 : Int32) = nI 4 := rfl
theorem S_rests (h : WK σ b c s) {x y : Int32} (H : Q (some (iV (gRests c s x y))) σ) : R mj_OC (d + 1 + 1) mX10_rests Q 0 [some (rV 0 0), some (iV x), some (iV y), none, none] [] σ := by
  refine bX10_rests_0 (S_isPond h (fun p hp ex e => bX10_rests_5 ⟨fun z => absurd z (by decide), fun _ => ?_⟩) (fun e => bX10_rests_5 ⟨fun _ => by rw [gRests, e] at H; exact H, fun z => absurd rfl z⟩))
  refine S_isPond h (fun q hq ey f => bX10_rests_13 ⟨fun z => absurd z (by decide), fun _ => ⟨fun ne => ?_, fun eq => ?_⟩⟩) (fun f => bX10_rests_13 ⟨fun _ => by rw [gRests, e, f] at H; exact H, fun z => absurd rfl z⟩)
  · rw [gRests, e, f] at H
    simp only at H
    rw [if_neg ne] at H
    subst ex ey
    have L : ∀ (m i : Nat), i + m = 4 → R mj_OC (d + 1 + 1) mX10_rests Q 28 [some (rV 0 0), some (iV (nI p)), some (iV (nI q)), some (iV (nI (gCnt (gIsRest s p q) i))), some (iV (nI i))] [] σ := by
      intro m
      induction m with
      | zero =>
        intro i hi
        have : i = 4 := by omega
        subst this
        exact bX10_rests_28 ⟨fun _ => H, fun z => absurd (by decide) z⟩
      | succ m ih =>
        intro i hi
        refine bX10_rests_28 ⟨fun z => ?_, fun _ => S_isRest h.2 hp hq (by omega) (fun g => bX10_rests_42 ⟨fun z => absurd z (by decide), fun _ => ?_⟩) (fun g => bX10_rests_42 ⟨fun _ => ?_, fun z => absurd rfl z⟩)⟩
        · rw [n4, nI_le2 (by omega) (by omega)] at z; omega
        · have := ih (i + 1) (by omega)
          rw [gCnt, if_pos g, ← nI_1, ← nI_1] at this; exact this
        · have := ih (i + 1) (by omega)
          rw [gCnt, if_neg g, ← nI_1] at this; exact this
    exact L 4 0 rfl
  · rw [gRests, e, f] at H
    simp only at H
    rw [if_pos eq] at H; exact H
theorem S_rest (h : WK σ b c s) {x y k : Int32} (H : Q (some (iV (gRest c s x y k))) σ) : R mj_OC (d + 1 + 1) mX10_rest Q 0 [some (rV 0 0), some (iV x), some (iV y), some (iV k), none, none] [] σ := by
  refine bX10_rest_0 (S_isPond h (fun p hp ex e => bX10_rest_5 ⟨fun z => absurd z (by decide), fun _ => ?_⟩) (fun e => bX10_rest_5 ⟨fun _ => by rw [gRest, e] at H; exact H, fun z => absurd rfl z⟩))
  refine S_isPond h (fun q hq ey f => bX10_rest_13 ⟨fun z => absurd z (by decide), fun _ => ⟨fun eq => ?_, fun ne => ⟨fun k0 => ?_, fun k0 => ?_⟩⟩⟩) (fun f => bX10_rest_13 ⟨fun _ => by rw [gRest, e, f] at H; exact H, fun z => absurd rfl z⟩)
  · rw [gRest, e, f] at H
    simp only at H
    rw [if_pos eq] at H; exact H
  · rw [gRest, e, f] at H
    simp only at H
    rw [if_neg ne, if_pos k0] at H
    subst ex ey
    have L : ∀ (m i f : Nat), i + m = 4 → f ≤ i → Q (some (iV (gRs (gIsRest s p q) k m i f))) σ → R mj_OC (d + 1 + 1) mX10_rest Q 33 [some (rV 0 0), some (iV (nI p)), some (iV (nI q)), some (iV k), some (iV (nI f)), some (iV (nI i))] [] σ := by
      intro m
      induction m with
      | zero =>
        intro i f hi hf H
        have : i = 4 := by omega
        subst this
        exact bX10_rest_33 ⟨fun _ => H, fun z => absurd (by decide) z⟩
      | succ m ih =>
        intro i f hi hf H
        rw [gRs] at H
        refine bX10_rest_33 ⟨fun z => ?_, fun _ => S_isRest h.2 hp hq (by omega) (fun g => bX10_rest_47 ⟨fun z => absurd z (by decide), fun _ => ⟨fun z => ?_, fun z => ?_⟩⟩) (fun g => bX10_rest_47 ⟨fun _ => ?_, fun z => absurd rfl z⟩)⟩
        · rw [n4, nI_le2 (by omega) (by omega)] at z; omega
        · rw [if_pos g, if_neg z] at H
          rw [nI_1, nI_1]; exact ih (i + 1) (f + 1) (by omega) (by omega) H
        · rw [if_pos g, if_pos z] at H
          obtain ⟨e1, e2, e3, e4⟩ := two_div (i := i) (by omega)
          rw [e2, e1, show (10 : Int32) = nI 10 from rfl, pk_mul, nI_add, Nat.mul_comm]; exact H
        · rw [if_neg g] at H
          rw [nI_1]; exact ih (i + 1) f (by omega) (by omega) H
    exact L 4 0 0 rfl (Nat.le_refl _) H
  · rw [gRest, e, f] at H
    simp only at H
    rw [if_neg ne, if_neg k0] at H; exact H
theorem M_areTwo (C : MC σ c) (V : CV c) {x y : Int32} (H1 : ∀ p q, p < c 0 0 → q < c 0 0 → x = nI p → y = nI q → gIx x (c 0 0) = some p → gIx y (c 0 0) = some q → ¬ x = y → Q (some (iV 1)) σ) (H0 : (gIx x (c 0 0) = none ∨ gIx y (c 0 0) = none ∨ x = y) → Q (some (iV 0)) σ) : R mj_OM (d + 1) mX11_areTwo Q 0 [some (rV 45 0), some (iV x), some (iV y)] [] σ := by
  refine bX11_areTwo_0 (M_isPond C V (fun p hp ex e => bX11_areTwo_5 ⟨fun z => absurd z (by decide), fun _ => ?_⟩) (fun e => bX11_areTwo_5 ⟨fun _ => H0 (Or.inl e), fun z => absurd rfl z⟩))
  exact M_isPond C V (fun q hq ey f => bX11_areTwo_13 ⟨fun z => absurd z (by decide), fun _ => ⟨fun eq => H0 (Or.inr (Or.inr eq)), fun ne => H1 p q hp hq ex ey e f ne⟩⟩) (fun f => bX11_areTwo_13 ⟨fun _ => H0 (Or.inr (Or.inl f)), fun z => absurd rfl z⟩)
theorem M_restAll (h : MB σ 0 c s) {p q : Nat} (hp : p < c 0 0) (hq : q < c 0 0) (H : Q (some (iV (nI (gCnt (gIsRest s p q) 4)))) σ) : R mj_OM (d + 1 + 1) mX11_restOf Q 0 [some (rV 45 0), some (iV (nI p)), some (iV (nI q)), some (iV (-1)), none, none] [] σ := by
  refine bX11_restOf_0 ?_
  have L : ∀ (m i : Nat), i + m = 4 → R mj_OM (d + 1 + 1) mX11_restOf Q 6 [some (rV 45 0), some (iV (nI p)), some (iV (nI q)), some (iV (-1)), some (iV (nI (gCnt (gIsRest s p q) i))), some (iV (nI i))] [] σ := by
    intro m
    induction m with
    | zero =>
      intro i hi
      have : i = 4 := by omega
      subst this
      exact bX11_restOf_6 ⟨fun _ => ⟨fun z => absurd rfl z, fun _ => H⟩, fun z => absurd (by decide) z⟩
    | succ m ih =>
      intro i hi
      have le := gCnt_le (gIsRest s p q) i
      refine bX11_restOf_6 ⟨fun z => ?_, fun _ => M_isRest h hp hq (by omega) (fun g => bX11_restOf_20 ⟨fun _ => ⟨fun _ => ?_, fun z => ?_⟩, fun z => absurd z (by decide)⟩) (fun g => bX11_restOf_20 ⟨fun z => absurd rfl z, fun _ => ?_⟩)⟩
      · rw [n4, nI_le2 (by omega) (by omega)] at z; omega
      · have := ih (i + 1) (by omega)
        rw [gCnt, if_pos g, ← nI_1, ← nI_1] at this; exact this
      · have := nI_pos' (n := gCnt (gIsRest s p q) i) (by omega)
        rw [z] at this; exact absurd this (by decide)
      · have := ih (i + 1) (by omega)
        rw [gCnt, if_neg g, ← nI_1] at this; exact this
  exact L 4 0 rfl
theorem M_restK (h : MB σ 0 c s) {p q : Nat} (hp : p < c 0 0) (hq : q < c 0 0) {k : Int32} (hk : ¬ k = -1) (H : Q (some (iV (gRs (gIsRest s p q) k 4 0 0))) σ) : R mj_OM (d + 1 + 1) mX11_restOf Q 0 [some (rV 45 0), some (iV (nI p)), some (iV (nI q)), some (iV k), none, none] [] σ := by
  refine bX11_restOf_0 ?_
  have L : ∀ (m i f : Nat), i + m = 4 → f ≤ i → Q (some (iV (gRs (gIsRest s p q) k m i f))) σ → R mj_OM (d + 1 + 1) mX11_restOf Q 6 [some (rV 45 0), some (iV (nI p)), some (iV (nI q)), some (iV k), some (iV (nI f)), some (iV (nI i))] [] σ := by
    intro m
    induction m with
    | zero =>
      intro i f hi hf H
      have : i = 4 := by omega
      subst this
      exact bX11_restOf_6 ⟨fun _ => ⟨fun _ => H, fun z => absurd z hk⟩, fun z => absurd (by decide) z⟩
    | succ m ih =>
      intro i f hi hf H
      rw [gRs] at H
      refine bX11_restOf_6 ⟨fun z => ?_, fun _ => M_isRest h hp hq (by omega) (fun g => bX11_restOf_20 ⟨fun _ => ⟨fun z => ?_, fun z => ?_⟩, fun z => absurd z (by decide)⟩) (fun g => bX11_restOf_20 ⟨fun z => absurd rfl z, fun _ => ?_⟩)⟩
      · rw [n4, nI_le2 (by omega) (by omega)] at z; omega
      · rw [if_pos g, if_neg z] at H
        rw [nI_1, nI_1]; exact ih (i + 1) (f + 1) (by omega) (by omega) H
      · rw [if_pos g, if_pos z] at H
        obtain ⟨e1, e2, e3, e4⟩ := two_div (i := i) (by omega)
        rw [e2, e1, show (10 : Int32) = nI 10 from rfl, pk_mul, nI_add]; exact H
      · rw [if_neg g] at H
        rw [nI_1]; exact ih (i + 1) f (by omega) (by omega) H
  exact L 4 0 0 rfl (Nat.le_refl _) H
theorem gRests_no {x y : Int32} (h : gIx x (c 0 0) = none ∨ gIx y (c 0 0) = none ∨ x = y) : gRests c s x y = -1 ∧ ∀ k, gRest c s x y k = -1 := by
  unfold gRests gRest
  rcases h with e | e | e
  · rw [e]; exact ⟨rfl, fun _ => rfl⟩
  · rw [e]
    cases gIx x (c 0 0) <;> exact ⟨rfl, fun _ => rfl⟩
  · subst e
    cases gIx x (c 0 0) with
    | none => exact ⟨rfl, fun _ => rfl⟩
    | some p => simp
theorem M_rests (h : MB σ 0 c s) {x y : Int32} (H : ∀ τ, XQ σ τ → Q (some (iV (gRests c s x y))) τ) : R mj_OM (d + 1 + 1 + 1) mX11_rests Q 0 [some (rV 45 0), some (iV x), some (iV y)] [] σ := by
  have V := h.2.2.1
  have h1 := XQ.t.mb h (by decide)
  replace H := H _ XQ.t
  refine bX11_rests_0 (M_areTwo h1.2.1 V (fun p q hp hq ex ey e f ne => bX11_rests_11 ⟨fun z => absurd z (by decide), fun _ => ?_⟩) (fun g => bX11_rests_11 ⟨fun _ => by rw [(gRests_no g).1] at H; exact H, fun z => absurd rfl z⟩))
  rw [gRests, e, f] at H
  simp only at H
  rw [if_neg ne] at H
  subst ex ey
  exact M_restAll h1 hp hq (bX11_rests_21 H)
theorem M_rest (h : MB σ 0 c s) {x y k : Int32} (H : ∀ τ, XQ σ τ → Q (some (iV (gRest c s x y k))) τ) : R mj_OM (d + 1 + 1 + 1) mX11_rest Q 0 [some (rV 45 0), some (iV x), some (iV y), some (iV k)] [] σ := by
  have V := h.2.2.1
  have h1 := XQ.t.mb h (by decide)
  replace H := H _ XQ.t
  refine bX11_rest_0 (M_areTwo h1.2.1 V (fun p q hp hq ex ey e f ne => bX11_rest_11 ⟨fun z => absurd z (by decide), fun _ => ⟨fun k0 => ?_, fun k0 => ?_⟩⟩) (fun g => bX11_rest_11 ⟨fun _ => by rw [(gRests_no g).2] at H; exact H, fun z => absurd rfl z⟩))
  · rw [gRest, e, f] at H
    simp only at H
    rw [if_neg ne, if_neg (Int32.not_le.mpr k0)] at H; exact H
  · rw [gRest, e, f] at H
    simp only at H
    rw [if_neg ne, if_pos (Int32.not_lt.mp k0)] at H
    subst ex ey
    exact M_restK h1 hp hq (fun z => k0 (by rw [z]; decide)) (bX11_rest_25 H)
/-! sums, bits -/
theorem M_bitsOf {w : Nat} (hw : w < 1024) (H : Q (some (iV (nI (gCnt (fun k => w.testBit k) 10)))) σ) : R mj_OM d mX11_bitsOf Q 0 [some (iV (nI w)), none, none] [] σ := by
  refine bX11_bitsOf_0 ?_
  have L : ∀ (m i : Nat), i + m = 10 → R mj_OM d mX11_bitsOf Q 4 [some (iV (nI w)), some (iV (nI (gCnt (fun k => w.testBit k) i))), some (iV (nI i))] [] σ := by
    intro m
    induction m with
    | zero =>
      intro i hi
      have : i = 10 := by omega
      subst this
      exact bX11_bitsOf_4 ⟨fun _ => H, fun z => absurd (by decide) z⟩
    | succ m ih =>
      intro i hi
      refine bX11_bitsOf_4 ⟨fun z => ?_, fun _ => ?_⟩
      · rw [show (10 : Int32) = nI 10 from rfl, nI_le2 (by omega) (by omega)] at z; omega
      · have := ih (i + 1) (by omega)
        rw [bit_one (by omega), bt_nI (by omega), nI_1]
        rw [gCnt] at this
        have e : nI (gCnt (fun k => w.testBit k) i) + gB32 (w.testBit i) = nI (gCnt (fun k => w.testBit k) i + if w.testBit i = true then 1 else 0) := by
          unfold gB32
          split
          · rw [nI_1]
          · rw [Nat.add_zero, Int32.add_zero]
        rw [e]; exact this
  exact L 10 0 rfl
/-- a row of wide places from slot k on -/
theorem M_sumOf {kk n wide : Nat} (hk : mj_sch kk = .inr (0, n)) (hg : (kk, 0) ∈ mj_OM) (hw : wide ≤ 8) {slot : Nat} (hs : wide * slot + wide ≤ n) (hn : n ≤ 2000) (H : Q (some (iV (gSum (fun j => σ.1 kk 0 (wide * slot + j)) wide))) σ) : R mj_OM d mX11_sumOf Q 0 [some (rV 45 0), some (rV kk 0), some (iV (nI wide)), some (iV (nI slot)), none, none] [] σ := by
  refine bX11_sumOf_0 hk hg ?_
  have L : ∀ (m i : Nat), i + m = wide → R mj_OM d mX11_sumOf Q 6 [some (rV 45 0), some (rV kk 0), some (iV (nI wide)), some (iV (nI slot)), some (iV (gSum (fun j => σ.1 kk 0 (wide * slot + j)) i)), some (iV (nI i))] [] σ := by
    intro m
    induction m with
    | zero =>
      intro i hi
      have : i = wide := by omega
      subst this
      exact bX11_sumOf_6 hk hg ⟨fun _ => H, fun z => absurd (Int32.le_refl _) z⟩
    | succ m ih =>
      intro i hi
      refine bX11_sumOf_6 hk hg ⟨fun z => ?_, fun _ => ?_⟩
      · rw [nI_le2 (by omega) (by omega)] at z; omega
      · rw [pk_mul, nI_add, nI_1]
        refine ⟨vin (show wide * slot + i < n by omega) (Nat.le_refl _) (by omega), ?_⟩
        rw [nI_clamp (by omega)]
        exact ih (i + 1) (by omega)
  exact L wide 0 (by omega)
theorem gSum_ext {f : Nat → Int32} {n : Nat} : ∀ m, n ≤ m → (∀ j, n ≤ j → j < m → f j = 0) → gSum f m = gSum f n := by
  intro m
  induction m with
  | zero => intro h _; rw [show n = 0 by omega]
  | succ m ih =>
    intro h hz
    rcases Nat.lt_or_ge m n with g | g
    · rw [show n = m + 1 by omega]
    · rw [gSum, hz m g (by omega), Int32.add_zero]; exact ih g (fun j h1 h2 => hz j h1 (by omega))
end Qw
