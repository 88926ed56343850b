/-! the reference's laws -/
/-- of the reference's own object only the places J have changed, and whole rows in L -/
def SY (L : List (Nat × Nat)) (J : List Nat) (σ τ : MS) : Prop := SB ((45, 0) :: L) σ τ ∧ ∀ j : Nat, j ∉ J → τ.1 45 0 j = σ.1 45 0 j
theorem SY.rf {L : List (Nat × Nat)} {J : List Nat} {σ : MS} : SY L J σ σ := ⟨SB.rf, fun _ _ => rfl⟩
theorem SY.tr {L : List (Nat × Nat)} {J : List Nat} {σ τ υ : MS} (h1 : SY L J σ τ) (h2 : SY L J τ υ) : SY L J σ υ := ⟨h1.1.tr h2.1, fun j hj => (h2.2 j hj).trans (h1.2 j hj)⟩
theorem SY.wk {L L' : List (Nat × Nat)} {J J' : List Nat} {σ τ : MS} (h : SY L J σ τ) (hL : ∀ x ∈ L, x ∈ L') (hJ : ∀ j ∈ J, j ∈ J') : SY L' J' σ τ := ⟨h.1.wk (fun x hx => by
  rcases List.mem_cons.mp hx with rfl | hx
  · exact List.mem_cons_self
  · exact List.mem_cons_of_mem _ (hL x hx)), fun j hj => h.2 j (fun hm => hj (hJ j hm))⟩
theorem SB.y {L : List (Nat × Nat)} {J : List Nat} {σ τ : MS} (h : SB L σ τ) (hL : (45, 0) ∉ L) : SY L J σ τ := ⟨h.wk (fun x hx => List.mem_cons_of_mem _ hx), fun j _ => h.i hL j⟩
theorem SY.u45 {L : List (Nat × Nat)} {J : List Nat} {σ : MS} {j : Nat} {v : Int32} (hj : j ∈ J) : SY L J σ (uI σ 45 0 j v) := ⟨SB.uI (by simp), fun i hi => by
  have : ¬ i = j := fun e => hi (e ▸ hj)
  simp [uI, this]⟩
theorem SY.uL {L : List (Nat × Nat)} {J : List Nat} {σ : MS} {k i j : Nat} {v : Int64} (h : (k, i) ∈ L) : SY L J σ (uL σ k i j v) := ⟨SB.uL (List.mem_cons_of_mem _ h), fun _ _ => rfl⟩
theorem SY.ui {L : List (Nat × Nat)} {J : List Nat} {σ : MS} {k i j : Nat} {v : Int32} (h : (k, i) ∈ L) (hk : ¬ k = 45) : SY L J σ (uI σ k i j v) := ⟨SB.uI (List.mem_cons_of_mem _ h), fun a _ => by simp [uI, Ne.symm hk]⟩
theorem MM.keepY {L : List (Nat × Nat)} {J : List Nat} {σ τ : MS} {md : MD} (h : MM σ md) (hs : SY L J σ τ) (hJ : 49 ∉ J ∧ 50 ∉ J ∧ 51 ∉ J ∧ 52 ∉ J) : MM τ md := by
  unfold MM; rw [hs.2 49 hJ.1, hs.2 50 hJ.2.1, hs.2 51 hJ.2.2.1, hs.2 52 hJ.2.2.2]; exact h
theorem MB.keepY {L : List (Nat × Nat)} {J : List Nat} {σ τ : MS} {k : Nat} {c : CA} {s : SA} (h : MB σ k c s) (hs : SY L J σ τ) (hL : L.all (fun x => !mj_mk x.1) = true) (hM : L.all (fun x => !(70 ≤ x.1 && x.1 ≤ 76)) = true) : MB τ k c s := h.keep hs.1 (by rw [List.all_cons]; rw [hL]; rfl) (by rw [List.all_cons]; rw [hM]; rfl)
section Ml
variable {d : Nat} {Q : Option MV → MS → Prop} {σ : MS} {k : Nat} {c : CA} {s : SA} {md : MD}
theorem M_is {x : Int32} {p : Prop} [Decidable p] (hx : x = (if p then 1 else 0)) (H : Q (some (lV (Int64.ofInt (if p then 1 else 0)))) σ) : R mj_OM d mX11_is Q 0 [some (iV x)] [] σ := by
  subst hx
  refine bX11_is_0 ⟨fun e => ?_, fun e => ?_⟩
  · by_cases hp : p
    · rw [if_pos hp] at e; exact absurd e (by decide)
    · simp only [hp, if_false] at H; exact H
  · by_cases hp : p
    · simp only [hp, if_true] at H; exact H
    · rw [if_neg hp] at e; exact absurd rfl e
/-- the answer goes back into the row: in bounds or not -/
theorem M_407 {z : Int} (hz : -4000000000000 ≤ z ∧ z ≤ 4000000000000) {m : Nat} (hm : m < 64) (ht : σ.1 45 0 39 = nI (m + 1)) {x1 : Int32} {x2 x4 : Int64}
    (H1 : gBnd z = some z → Q (some (iV 1)) (uL σ 69 0 m (Int64.ofInt z))) (H0 : gBnd z = none → Q (some (iV 0)) (uL σ 69 0 m (Int64.ofInt z))) :
    R mj_OM d mX11_works Q 407 [some (rV 45 0), some (iV x1), some (lV x2), none, some (lV x4), none, some (lV (Int64.ofInt z)), none] [] σ := by
  have e1 : (1000000000000 : Int64) = Int64.ofInt 1000000000000 := by decide
  have e2 : (-1000000000000 : Int64) = Int64.ofInt (-1000000000000) := by decide
  have em : σ.1 45 0 39 - 1 = nI m := by rw [ht]; exact nI_pred m
  refine bX11_works_407 ⟨by rw [em]; exact vin hm (Nat.le_refl _) (by decide), fun e => ?_, fun e => ⟨fun f => ?_, fun f => ?_⟩⟩
  · rw [em, nI_clamp (by omega)]
    rw [lg_cmp_gt, e1, i64_lt (by omega) (by omega)] at e
    exact bX11_works_442 (H0 (by rw [gBnd, if_neg (by omega)]))
  · rw [em, nI_clamp (by omega)]
    rw [lg_cmp_lt, e2, i64_lt (by omega) (by omega)] at f
    exact bX11_works_442 (H0 (by rw [gBnd, if_neg (by omega)]))
  · rw [em, nI_clamp (by omega)]
    rw [lg_cmp_gt, e1, i64_lt (by omega) (by omega)] at e
    rw [lg_cmp_lt, e2, i64_lt (by omega) (by omega)] at f
    exact H1 (by rw [gBnd, if_pos (by omega)])
theorem i64_abs {z : Int} (hz : -9000000000000000000 ≤ z ∧ z ≤ 9000000000000000000) : (if 0 < Int64.ofInt z then Int64.ofInt z else -Int64.ofInt z) = Int64.ofInt (z.natAbs : Int) := by
  have h : (0 : Int64) < Int64.ofInt z ↔ 0 < z := by rw [show (0 : Int64) = Int64.ofInt 0 by decide, i64_lt (by omega) (by omega)]
  by_cases g : 0 < z
  · rw [if_pos (h.mpr g)]; congr 1; omega
  · rw [if_neg (fun x => g (h.mp x)), ← Int64.ofInt_neg]; congr 1; omega
theorem g_prodN {x y : Int} (hx : x ≠ 0) (hx2 : gBig x) : ((y.natAbs : Int) ≤ Int.tdiv 1000000000000 (x.natAbs : Int)) ↔ gBig (x * y) := by
  unfold gBig at hx2
  rw [Int.tdiv_eq_ediv_of_nonneg (by omega), Int.le_ediv_iff_mul_le (by omega)]
  have : (y.natAbs : Int) * (x.natAbs : Int) = ((x * y).natAbs : Int) := by rw [Int.natAbs_mul, Int.natCast_mul, Int.mul_comm]
  rw [this]
  unfold gBig
  omega
theorem M_works {v : Nat} (hv : ksign v) (hn : v ≠ 260) {x y : Int} (hx : gBig x) (hy : gBig y) {m : Nat} (hm : m + 1 < 64) (ht : σ.1 45 0 39 = nI (m + 2)) (hx69 : σ.2.1 69 0 m = Int64.ofInt x) (hy69 : σ.2.1 69 0 (m + 1) = Int64.ofInt y)
    (H1 : ∀ z, gOp v x y = some z → Q (some (iV 1)) (uL (uI σ 45 0 39 (nI (m + 1))) 69 0 m (Int64.ofInt z))) (H0 : gOp v x y = none → ∀ τ : MS, SY [(69, 0)] [39] σ τ → Q (some (iV 0)) τ) : R mj_OM (d + 1) mX11_works Q 0 [some (rV 45 0), some (iV (nI v)), none, none, none, none, none, none] [] σ := by
  unfold gBig at hx hy
  have e0 : (0 : Int64) = Int64.ofInt 0 := by decide
  have hxe : Int64.ofInt x = 0 ↔ x = 0 := by rw [e0, i64_eq (by omega) (by omega)]
  have hye : Int64.ofInt y = 0 ↔ y = 0 := by rw [e0, i64_eq (by omega) (by omega)]
  have hxy : Int64.ofInt x = Int64.ofInt y ↔ x = y := i64_eq (by omega) (by omega)
  have hlt : Int64.ofInt x < Int64.ofInt y ↔ x < y := i64_lt (by omega) (by omega)
  have hgt : Int64.ofInt y < Int64.ofInt x ↔ y < x := i64_lt (by omega) (by omega)
  have hle : Int64.ofInt x ≤ Int64.ofInt y ↔ x ≤ y := i64_le (by omega) (by omega)
  have hge : Int64.ofInt y ≤ Int64.ofInt x ↔ y ≤ x := i64_le (by omega) (by omega)
  have t1 : σ.1 45 0 39 - 1 = nI (m + 1) := by rw [ht]; exact nI_pred _
  have t2 : σ.1 45 0 39 - 2 = nI m := by rw [ht, show (2 : Int32) = nI 2 from rfl, pk_sub (by omega)]; rfl
  have f1 : σ.2.1 69 0 (σ.1 45 0 39 - 1).toNatClampNeg = Int64.ofInt y := by rw [t1, nI_clamp (by omega), hy69]
  have f2 : σ.2.1 69 0 (σ.1 45 0 39 - 2).toNatClampNeg = Int64.ofInt x := by rw [t2, nI_clamp (by omega), hx69]
  have tt : (uI σ 45 0 39 (nI (m + 1))).1 45 0 39 = nI (m + 1) := by simp [uI]
  have v1 : vp_in (σ.1 45 0 39 - 1) 64 := by rw [t1]; exact vin hm (Nat.le_refl _) (by decide)
  have v2 : vp_in (σ.1 45 0 39 - 2) 64 := by rw [t2]; exact vin (show m < 64 by omega) (Nat.le_refl _) (by decide)
  have sy : ∀ z : Int, SY [(69, 0)] [39] σ (uL (uI σ 45 0 39 (nI (m + 1))) 69 0 m (Int64.ofInt z)) := fun z => (SY.u45 (by simp)).tr (SY.uL (by simp))
  have fin : ∀ (z : Int) (a : Int32) (b e : Int64), gOp v x y = gBnd z → (-4000000000000 ≤ z ∧ z ≤ 4000000000000) → R mj_OM (d + 1) mX11_works Q 407 [some (rV 45 0), some (iV a), some (lV b), none, some (lV e), none, some (lV (Int64.ofInt z)), none] [] (uI σ 45 0 39 (nI (m + 1))) := by
    intro z a b e hg hz
    exact M_407 hz (show m < 64 by omega) tt (fun g => H1 z (hg.trans g)) (fun g => H0 (hg.trans g) _ (sy z))
  have fin2 : ∀ (p : Prop) [Decidable p] (a : Int32) (b e : Int64), gOp v x y = gB2 p → R mj_OM (d + 1) mX11_works Q 407 [some (rV 45 0), some (iV a), some (lV b), none, some (lV e), none, some (lV (Int64.ofInt (if p then 1 else 0))), none] [] (uI σ 45 0 39 (nI (m + 1))) := by
    intro p _ a b e hg
    have hz : -4000000000000 ≤ (if p then (1 : Int) else 0) ∧ (if p then (1 : Int) else 0) ≤ 4000000000000 := by split <;> omega
    refine fin _ a b e ?_ hz
    rw [hg, gB2, gBnd]
    by_cases hp : p <;> simp [hp]
  unfold ksign at hv
  rcases hv with rfl | rfl | rfl | rfl | rfl | rfl | rfl | rfl | rfl | rfl | rfl | rfl | rfl
  · refine bX11_works_0 ⟨v1, fun _ => ⟨v2, ⟨fun e => absurd e (by decide), fun _ => ⟨fun _ => ?_, fun e => absurd rfl e⟩⟩⟩, fun e => absurd e (by decide)⟩
    rw [t1, nI_clamp (by omega), t2, nI_clamp (by omega), hx69, hy69, ← Int64.ofInt_add]
    exact fin _ _ _ _ rfl (by omega)
  · refine bX11_works_0 ⟨v1, fun _ => ⟨v2, ⟨fun e => absurd e (by decide), fun _ => ⟨fun e => absurd e (by decide), fun _ => ⟨fun _ => ?_, fun e => absurd rfl e⟩⟩⟩⟩, fun e => absurd e (by decide)⟩
    rw [t1, nI_clamp (by omega), t2, nI_clamp (by omega), hx69, hy69, ← Int64.ofInt_sub]
    exact fin _ _ _ _ rfl (by omega)
  · refine bX11_works_0 ⟨v1, fun _ => ⟨v2, ⟨fun _ => ⟨fun c => ?_, fun c => ⟨?_, fun c2 => ?_, fun c2 => ?_⟩⟩, fun e => absurd rfl e⟩⟩, fun e => absurd e (by decide)⟩
    · rw [f2, lg_cmp_eq, hxe] at c
      refine bX11_works_212 ?_
      rw [t1, nI_clamp (by omega), t2, nI_clamp (by omega), hx69, hy69, ← Int64.ofInt_mul]
      refine fin _ _ _ _ rfl ?_
      rw [c, Int.zero_mul]; omega
    · rw [f2, lg_cmp_eq, hxe] at c
      rw [f2, i64_abs (by omega), e0, i64_eq (by omega) (by omega)]; omega
    · rw [f2, lg_cmp_eq, hxe] at c
      have key : Int.tdiv 1000000000000 (x.natAbs : Int) ≤ 1000000000000 ∧ 0 ≤ Int.tdiv 1000000000000 (x.natAbs : Int) := by
        rw [Int.tdiv_eq_ediv_of_nonneg (by omega)]
        exact ⟨Int.ediv_le_self _ (by omega), Int.ediv_nonneg (by omega) (by omega)⟩
      rw [f1, f2, i64_abs (by omega), i64_abs (by omega), show (1000000000000 : Int64) = Int64.ofInt 1000000000000 by decide, i64_div (by omega) (by omega), lg_cmp_le, i64_le (by omega) (by omega), g_prodN c hx] at c2
      refine bX11_works_212 ?_
      rw [t1, nI_clamp (by omega), t2, nI_clamp (by omega), hx69, hy69, ← Int64.ofInt_mul]
      unfold gBig at c2
      exact fin _ _ _ _ rfl (by omega)
    · rw [f2, lg_cmp_eq, hxe] at c
      have key : Int.tdiv 1000000000000 (x.natAbs : Int) ≤ 1000000000000 ∧ 0 ≤ Int.tdiv 1000000000000 (x.natAbs : Int) := by
        rw [Int.tdiv_eq_ediv_of_nonneg (by omega)]
        exact ⟨Int.ediv_le_self _ (by omega), Int.ediv_nonneg (by omega) (by omega)⟩
      rw [f1, f2, i64_abs (by omega), i64_abs (by omega), show (1000000000000 : Int64) = Int64.ofInt 1000000000000 by decide, i64_div (by omega) (by omega), lg_cmp_le, i64_le (by omega) (by omega), g_prodN c hx] at c2
      rw [t1]
      unfold gBig at c2
      exact H0 (by show gBnd (x * y) = none; rw [gBnd, if_neg c2]) _ (SY.u45 (by simp))
  · refine bX11_works_0 ⟨v1, fun _ => ⟨v2, ⟨fun e => absurd e (by decide), fun _ => ⟨fun e => absurd e (by decide), fun _ => ⟨fun e => absurd e (by decide), fun _ => ⟨fun _ => ⟨fun c => ⟨?_, ?_⟩, fun c => ?_⟩, fun e => absurd rfl e⟩⟩⟩⟩⟩, fun e => absurd e (by decide)⟩
    · rw [f1, lg_cmp_eq] at c; rw [f1]; exact c
    · rw [f1, lg_cmp_eq, hye] at c
      rw [t1, nI_clamp (by omega), t2, nI_clamp (by omega), hx69, hy69, i64_div (by omega) (by omega)]
      have hg : gOp 47 x y = some (x.tdiv y) := by simp [gOp, c]
      have hb := gOp_big (by unfold gBig; exact hx) hg
      unfold gBig at hb
      exact fin _ _ _ _ (by rw [hg, gBnd, if_pos hb]) (by omega)
    · rw [f1, lg_cmp_eq, hye] at c
      rw [t1]
      exact H0 (by simp [gOp, c]) _ (SY.u45 (by simp))
  · refine bX11_works_0 ⟨v1, fun _ => ⟨v2, ⟨fun e => absurd e (by decide), fun _ => ⟨fun e => absurd e (by decide), fun _ => ⟨fun e => absurd e (by decide), fun _ => ⟨fun e => absurd e (by decide), fun _ => ⟨fun e => absurd e (by decide), fun _ => ⟨fun _ => ⟨fun c => ?_, fun c => ?_⟩, fun e => absurd rfl e⟩⟩⟩⟩⟩⟩⟩, fun e => absurd e (by decide)⟩
    · rw [f2, f1, lg_cmp_eq, hxy] at c
      refine M_is (p := x = y) (by first | rw [if_neg (by omega)] | rw [if_pos (by omega)]) (bX11_works_293 ?_)
      rw [t1, nI_clamp (by omega), t2, nI_clamp (by omega), hx69, hy69]
      exact fin2 _ _ _ _ rfl
    · rw [f2, f1, lg_cmp_eq, hxy] at c
      refine M_is (p := x = y) (by first | rw [if_neg (by omega)] | rw [if_pos (by omega)]) (bX11_works_293 ?_)
      rw [t1, nI_clamp (by omega), t2, nI_clamp (by omega), hx69, hy69]
      exact fin2 _ _ _ _ rfl
  · refine bX11_works_0 ⟨v1, fun _ => ⟨v2, ⟨fun e => absurd e (by decide), fun _ => ⟨fun e => absurd e (by decide), fun _ => ⟨fun e => absurd e (by decide), fun _ => ⟨fun e => absurd e (by decide), fun _ => ⟨fun _ => ⟨fun c => ?_, fun c => ?_⟩, fun e => absurd rfl e⟩⟩⟩⟩⟩⟩, fun e => absurd e (by decide)⟩
    · rw [f2, f1, lg_cmp_ge, hge] at c
      refine M_is (p := x < y) (by first | rw [if_neg (by omega)] | rw [if_pos (by omega)]) (bX11_works_253 ?_)
      rw [t1, nI_clamp (by omega), t2, nI_clamp (by omega), hx69, hy69]
      exact fin2 _ _ _ _ rfl
    · rw [f2, f1, lg_cmp_ge, hge] at c
      refine M_is (p := x < y) (by first | rw [if_neg (by omega)] | rw [if_pos (by omega)]) (bX11_works_253 ?_)
      rw [t1, nI_clamp (by omega), t2, nI_clamp (by omega), hx69, hy69]
      exact fin2 _ _ _ _ rfl
  · refine bX11_works_0 ⟨v1, fun _ => ⟨v2, ⟨fun e => absurd e (by decide), fun _ => ⟨fun e => absurd e (by decide), fun _ => ⟨fun e => absurd e (by decide), fun _ => ⟨fun e => absurd e (by decide), fun _ => ⟨fun e => absurd e (by decide), fun _ => ⟨fun e => absurd e (by decide), fun _ => ⟨fun _ => ⟨fun c => ?_, fun c => ?_⟩, fun e => absurd rfl e⟩⟩⟩⟩⟩⟩⟩⟩, fun e => absurd e (by decide)⟩
    · rw [f2, f1, lg_cmp_le, hle] at c
      refine M_is (p := y < x) (by first | rw [if_neg (by omega)] | rw [if_pos (by omega)]) (bX11_works_273 ?_)
      rw [t1, nI_clamp (by omega), t2, nI_clamp (by omega), hx69, hy69]
      exact fin2 _ _ _ _ rfl
    · rw [f2, f1, lg_cmp_le, hle] at c
      refine M_is (p := y < x) (by first | rw [if_neg (by omega)] | rw [if_pos (by omega)]) (bX11_works_273 ?_)
      rw [t1, nI_clamp (by omega), t2, nI_clamp (by omega), hx69, hy69]
      exact fin2 _ _ _ _ rfl
  · refine bX11_works_0 ⟨v1, fun _ => ⟨v2, ⟨fun e => absurd e (by decide), fun _ => ⟨fun e => absurd e (by decide), fun _ => ⟨fun e => absurd e (by decide), fun _ => ⟨fun e => absurd e (by decide), fun _ => ⟨fun e => absurd e (by decide), fun _ => ⟨fun e => absurd e (by decide), fun _ => ⟨fun e => absurd e (by decide), fun _ => ⟨fun _ => ⟨fun c => ?_, fun c => ?_⟩, fun e => absurd rfl e⟩⟩⟩⟩⟩⟩⟩⟩⟩, fun e => absurd e (by decide)⟩
    · rw [f2, f1, lg_cmp_gt, hgt] at c
      refine M_is (p := x ≤ y) (by first | rw [if_neg (by omega)] | rw [if_pos (by omega)]) (bX11_works_313 ?_)
      rw [t1, nI_clamp (by omega), t2, nI_clamp (by omega), hx69, hy69]
      exact fin2 _ _ _ _ rfl
    · rw [f2, f1, lg_cmp_gt, hgt] at c
      refine M_is (p := x ≤ y) (by first | rw [if_neg (by omega)] | rw [if_pos (by omega)]) (bX11_works_313 ?_)
      rw [t1, nI_clamp (by omega), t2, nI_clamp (by omega), hx69, hy69]
      exact fin2 _ _ _ _ rfl
  · refine bX11_works_0 ⟨v1, fun _ => ⟨v2, ⟨fun e => absurd e (by decide), fun _ => ⟨fun e => absurd e (by decide), fun _ => ⟨fun e => absurd e (by decide), fun _ => ⟨fun e => absurd e (by decide), fun _ => ⟨fun e => absurd e (by decide), fun _ => ⟨fun e => absurd e (by decide), fun _ => ⟨fun e => absurd e (by decide), fun _ => ⟨fun e => absurd e (by decide), fun _ => ⟨fun e => absurd e (by decide), fun _ => ⟨fun _ => ⟨fun c => ?_, fun c => ?_⟩, fun e => absurd rfl e⟩⟩⟩⟩⟩⟩⟩⟩⟩⟩⟩, fun e => absurd e (by decide)⟩
    · rw [f2, f1, lg_cmp_lt, hlt] at c
      refine M_is (p := y ≤ x) (by first | rw [if_neg (by omega)] | rw [if_pos (by omega)]) (bX11_works_333 ?_)
      rw [t1, nI_clamp (by omega), t2, nI_clamp (by omega), hx69, hy69]
      exact fin2 _ _ _ _ rfl
    · rw [f2, f1, lg_cmp_lt, hlt] at c
      refine M_is (p := y ≤ x) (by first | rw [if_neg (by omega)] | rw [if_pos (by omega)]) (bX11_works_333 ?_)
      rw [t1, nI_clamp (by omega), t2, nI_clamp (by omega), hx69, hy69]
      exact fin2 _ _ _ _ rfl
  · refine bX11_works_0 ⟨v1, fun _ => ⟨v2, ⟨fun e => absurd e (by decide), fun _ => ⟨fun e => absurd e (by decide), fun _ => ⟨fun e => absurd e (by decide), fun _ => ⟨fun e => absurd e (by decide), fun _ => ⟨fun e => absurd e (by decide), fun _ => ⟨fun e => absurd e (by decide), fun _ => ⟨fun e => absurd e (by decide), fun _ => ⟨fun e => absurd e (by decide), fun _ => ⟨fun _ => ⟨fun c => ?_, fun c => ?_⟩, fun e => absurd rfl e⟩⟩⟩⟩⟩⟩⟩⟩⟩⟩, fun e => absurd e (by decide)⟩
    · rw [f2, f1, lg_cmp_eq, hxy] at c
      refine M_is (p := x ≠ y) (by first | rw [if_neg (by omega)] | rw [if_pos (by omega)]) (bX11_works_353 ?_)
      rw [t1, nI_clamp (by omega), t2, nI_clamp (by omega), hx69, hy69]
      exact fin2 _ _ _ _ rfl
    · rw [f2, f1, lg_cmp_eq, hxy] at c
      refine M_is (p := x ≠ y) (by first | rw [if_neg (by omega)] | rw [if_pos (by omega)]) (bX11_works_353 ?_)
      rw [t1, nI_clamp (by omega), t2, nI_clamp (by omega), hx69, hy69]
      exact fin2 _ _ _ _ rfl
  · exact absurd rfl hn
  · refine bX11_works_0 ⟨v1, fun _ => ⟨v2, ⟨fun e => absurd e (by decide), fun _ => ⟨fun e => absurd e (by decide), fun _ => ⟨fun e => absurd e (by decide), fun _ => ⟨fun e => absurd e (by decide), fun _ => ⟨fun e => absurd e (by decide), fun _ => ⟨fun e => absurd e (by decide), fun _ => ⟨fun e => absurd e (by decide), fun _ => ⟨fun e => absurd e (by decide), fun _ => ⟨fun e => absurd e (by decide), fun _ => ⟨fun e => absurd e (by decide), fun _ => ⟨fun _ => ⟨fun c => ?_, fun c => ⟨fun c2 => ?_, fun c2 => ?_⟩⟩, fun e => absurd rfl e⟩⟩⟩⟩⟩⟩⟩⟩⟩⟩⟩⟩, fun e => absurd e (by decide)⟩
    · rw [f2, lg_cmp_eq, hxe] at c
      refine bX11_works_375 (M_is (p := x ≠ 0 ∧ y ≠ 0) (by rw [if_neg (by omega)]) (bX11_works_379 ?_))
      rw [t1, nI_clamp (by omega), t2, nI_clamp (by omega), hx69, hy69]
      exact fin2 _ _ _ _ rfl
    · rw [f1, lg_cmp_eq, hye] at c2
      refine bX11_works_375 (M_is (p := x ≠ 0 ∧ y ≠ 0) (by rw [if_neg (by omega)]) (bX11_works_379 ?_))
      rw [t1, nI_clamp (by omega), t2, nI_clamp (by omega), hx69, hy69]
      exact fin2 _ _ _ _ rfl
    · rw [f2, lg_cmp_eq, hxe] at c
      rw [f1, lg_cmp_eq, hye] at c2
      refine M_is (p := x ≠ 0 ∧ y ≠ 0) (by rw [if_pos ⟨c, c2⟩]) (bX11_works_379 ?_)
      rw [t1, nI_clamp (by omega), t2, nI_clamp (by omega), hx69, hy69]
      exact fin2 _ _ _ _ rfl
  · refine bX11_works_0 ⟨v1, fun _ => ⟨v2, ⟨fun e => absurd e (by decide), fun _ => ⟨fun e => absurd e (by decide), fun _ => ⟨fun e => absurd e (by decide), fun _ => ⟨fun e => absurd e (by decide), fun _ => ⟨fun e => absurd e (by decide), fun _ => ⟨fun e => absurd e (by decide), fun _ => ⟨fun e => absurd e (by decide), fun _ => ⟨fun e => absurd e (by decide), fun _ => ⟨fun e => absurd e (by decide), fun _ => ⟨fun e => absurd e (by decide), fun _ => ⟨fun e => absurd e (by decide), fun _ => ⟨fun c => ?_, fun c => ⟨fun c2 => ?_, fun c2 => ?_⟩⟩⟩⟩⟩⟩⟩⟩⟩⟩⟩⟩⟩⟩, fun e => absurd e (by decide)⟩
    · rw [f2, lg_cmp_eq, hxe] at c
      refine bX11_works_397 (M_is (p := x ≠ 0 ∨ y ≠ 0) (by rw [if_pos (Or.inl c)]) (bX11_works_405 ?_))
      rw [t1, nI_clamp (by omega), t2, nI_clamp (by omega), hx69, hy69]
      exact fin2 _ _ _ _ rfl
    · rw [f2, lg_cmp_eq, hxe] at c
      rw [f1, lg_cmp_eq, hye] at c2
      refine M_is (p := x ≠ 0 ∨ y ≠ 0) (by rw [if_neg (by omega)]) (bX11_works_405 ?_)
      rw [t1, nI_clamp (by omega), t2, nI_clamp (by omega), hx69, hy69]
      exact fin2 _ _ _ _ rfl
    · rw [f1, lg_cmp_eq, hye] at c2
      refine bX11_works_397 (M_is (p := x ≠ 0 ∨ y ≠ 0) (by rw [if_pos (Or.inr c2)]) (bX11_works_405 ?_))
      rw [t1, nI_clamp (by omega), t2, nI_clamp (by omega), hx69, hy69]
      exact fin2 _ _ _ _ rfl
theorem M_worksNot {y : Int} (hy : gBig y) {m : Nat} (hm : m < 64) (ht : σ.1 45 0 39 = nI (m + 1)) (hy69 : σ.2.1 69 0 m = Int64.ofInt y)
    (H1 : Q (some (iV 1)) (uL σ 69 0 m (Int64.ofInt (if y = 0 then 1 else 0)))) : R mj_OM (d + 1) mX11_works Q 0 [some (rV 45 0), some (iV (nI 260)), none, none, none, none, none, none] [] σ := by
  unfold gBig at hy
  have hye : Int64.ofInt y = 0 ↔ y = 0 := by rw [show (0 : Int64) = Int64.ofInt 0 by decide, i64_eq (by omega) (by omega)]
  have t1 : σ.1 45 0 39 - 1 = nI m := by rw [ht]; exact nI_pred _
  have f1 : σ.2.1 69 0 (σ.1 45 0 39 - 1).toNatClampNeg = Int64.ofInt y := by rw [t1, nI_clamp (by omega), hy69]
  have v1 : vp_in (σ.1 45 0 39 - 1) 64 := by rw [t1]; exact vin hm (Nat.le_refl _) (by decide)
  refine bX11_works_0 ⟨v1, fun e => absurd rfl e, fun _ => ⟨fun c => ?_, fun c => ?_⟩⟩
  · rw [f1, lg_cmp_eq, hye] at c
    refine M_is (p := y = 0) (by rw [if_neg c]) (bX11_works_43 ⟨v1, ?_⟩)
    rw [t1, nI_clamp (by omega)]; exact H1
  · rw [f1, lg_cmp_eq, hye] at c
    refine M_is (p := y = 0) (by rw [if_pos c]) (bX11_works_43 ⟨v1, ?_⟩)
    rw [t1, nI_clamp (by omega)]; exact H1
end Ml
