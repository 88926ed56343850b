/-! questions about levels, heights, locks -/
def gW (s : SA) (p : Nat) : Nat := (s 4 p).toNatClampNeg
def gU (c : CA) (s : SA) (p : Nat) : Nat := c 3 p * c 2 p + gW s p
/-- water is never less than nothing, and no level above what a full pond of the least area has -/
def SI (c : CA) (s : SA) : Prop := ∀ p, p < c 0 0 → s 4 p = nI (gW s p) ∧ gU c s p ≤ 10098 * c 2 p
def gLift (c : CA) (l : Nat) : Nat := c 2 (c 6 l) * (c 8 l - c 7 l)
def gLevel (c : CA) (s : SA) (x w : Int32) : Int32 := match gIx x (c 0 0) with
  | none => -1
  | some p => if gHalf w = true then nI (gPart (gU c s p) (c 2 p) w) else -1
def gNeeds (c : CA) (s : SA) (x y : Int32) : Int32 := match gIx x (c 0 0) with
  | none => -1
  | some p => if gTall y = true then nI (y.toNatClampNeg * c 2 p - gU c s p) else -1
def gSp (c : CA) (s : SA) (p y : Nat) : Nat := gW s p - (y - c 3 p) * c 2 p
def gSpare (c : CA) (s : SA) (x y : Int32) : Int32 := match gIx x (c 0 0) with
  | none => -1
  | some p => if gTall y = true then nI (gSp c s p y.toNatClampNeg) else -1
def gLiftQ (c : CA) (x : Int32) : Int32 := match gIx x (c 0 1) with
  | none => -1
  | some l => nI (gLift c l)
def gLockfuls (c : CA) (s : SA) (x y : Int32) : Int32 := match gIx x (c 0 0) with
  | none => -1
  | some p => match gIx y (c 0 1) with
    | none => -1
    | some l => if gLift c l = 0 then 999 else nI (gW s p / gLift c l)
def gGame (c : CA) (s : SA) (x y w : Int32) : Int32 := match gIx x (c 0 0) with
  | none => -1
  | some p => if gTall y = true then (if gHalf w = true then (if gU c s p < y.toNatClampNeg * c 2 p then (if w = 0 then 2 else -2) else if w = 0 then (if gSp c s p y.toNatClampNeg % 4 = 0 then 1 else 0) else if gSp c s p y.toNatClampNeg % 4 = 0 then -2 else nI (gSp c s p y.toNatClampNeg % 4)) else -1) else -1
def mqL : List (Nat × Nat) := [(68, 0), (69, 0), (70, 0), (71, 0), (72, 0), (73, 0), (74, 0), (75, 0), (76, 0), (77, 0), (78, 0), (79, 0), (85, 0), (86, 0)]
def mqJ : List Nat := [0, 39, 50, 52, 54, 55, 56, 57, 58]
/-- what a question may change in the reference -/
def XQ (σ τ : MS) : Prop := SY mqL mqJ σ τ ∧ ∀ j, j ≠ 1 → KS σ τ j
theorem XQ.rf {σ : MS} : XQ σ σ := ⟨SY.rf, fun _ _ => KS.rf⟩
theorem XQ.tr {σ τ υ : MS} (h1 : XQ σ τ) (h2 : XQ τ υ) : XQ σ υ := ⟨h1.1.tr h2.1, fun j hj => (h1.2 j hj).tr (h2.2 j hj)⟩
theorem XQ.u45 {σ : MS} {j : Nat} {v : Int32} (hj : j ∈ mqJ) : XQ σ (uI σ 45 0 j v) := ⟨SY.u45 hj, fun i _ => KS.of (L := [(45, 0)]) (SB.uI (by simp)) rfl i⟩
theorem XQ.t {σ : MS} : XQ σ (uI σ 45 0 0 0) := XQ.u45 (by decide)
theorem XQ.mb {σ τ : MS} {k : Nat} {c : CA} {s : SA} (h : MB σ k c s) (hq : XQ σ τ) (hk : k ≠ 1) : MB τ k c s := ⟨h.1, h.2.1.keep hq.1.1 (by decide), h.2.2.1, h.2.2.2.ks (hq.2 k hk)⟩
theorem mx_sub {x y : Nat} (hx : x < 2 ^ 30) (hy : y < 2 ^ 30) : (if 0 < nI x - nI y then nI x - nI y else 0) = nI (x - y) := by
  rcases Nat.lt_or_ge x y with g | g
  · have := pk_sneg hy g
    rw [if_neg (fun z => Int32.lt_irrefl (Int32.lt_trans z this)), Nat.sub_eq_zero_of_le (Nat.le_of_lt g)]; rfl
  · rw [pk_sub g]
    by_cases z : 0 < nI (x - y)
    · rw [if_pos z]
    · rw [if_neg z]
      rw [show (0 : Int32) = nI 0 from rfl, nI_ltI (by omega) (by omega)] at z
      rw [show x - y = 0 by omega]; rfl
section Qr
variable {d : Nat} {Q : Option MV → MS → Prop} {σ : MS} {b k : Nat} {c : CA} {s : SA} {md : MD}
theorem SI.bd (hs : SI c s) (V : CV c) {p : Nat} (hp : p < c 0 0) : gU c s p ≤ 201960 ∧ gW s p ≤ 201960 ∧ c 3 p * c 2 p ≤ 1980 := by
  have := (hs p hp).2
  have v := V.pond hp
  have e : c 3 p * c 2 p ≤ 99 * 20 := Nat.mul_le_mul v.2.2.1 v.2.1
  have : gW s p ≤ gU c s p := by unfold gU; omega
  omega
theorem SI.full (hs : SI c s) {p : Nat} (hp : p < c 0 0) : gFull c s p = nI (gU c s p) := by
  unfold gFull gU
  rw [(hs p hp).1, pk_mul, nI_add]
theorem hA_b (V : CV c) {p y : Nat} (hp : p < c 0 0) (hy : y ≤ 999) : y * c 2 p ≤ 19980 := by
  have := Nat.mul_le_mul hy (V.pond hp).2.1
  omega
theorem S_level (h : WK σ b c s) (hs : SI c s) {x w : Int32} (H : Q (some (iV (gLevel c s x w))) σ) : R mj_OC (d + 1 + 1) mX10_level Q 0 [some (rV 0 0), some (iV x), some (iV w)] [] σ := by
  have V := h.V
  refine bX10_level_0 (S_isPond h (fun p hp ex e => bX10_level_5 ⟨fun z => absurd z (by decide), fun _ => ?_⟩) (fun e => bX10_level_5 ⟨fun _ => ?_, fun z => absurd rfl z⟩))
  · rw [gLevel, e] at H
    simp only at H
    refine S_isHalf (fun g _ => bX10_level_12 ⟨fun _ => ?_, fun z => absurd z (by decide)⟩) (fun g => bX10_level_12 ⟨fun z => absurd rfl z, fun _ => by rw [if_neg (by rw [g]; decide)] at H; exact H⟩)
    rw [if_pos g] at H
    subst ex
    have n := V.np
    have v := V.pond hp
    have sb := hs.bd V hp
    refine S_raised h.2 hp (bX10_level_25 ⟨by rw [h.1]; exact h.lt, vin hp (by omega) (by decide), ?_⟩)
    rw [hs.full hp, h.1, cl hp (by omega), h.C.area hp, nI_l (by omega), nI_l (by omega)]
    refine S_inLeastTerms (by omega) (by omega) (by omega) (bX10_level_40 ?_)
    rw [lN_i]; exact H
  · rw [gLevel, e] at H; exact H
theorem M_level (h : MB σ 0 c s) (hs : SI c s) {x w : Int32} (H : ∀ τ, XQ σ τ → Q (some (iV (gLevel c s x w))) τ) : R mj_OM (d + 1 + 1) mX11_level Q 0 [some (rV 45 0), some (iV x), some (iV w)] [] σ := by
  have V := h.2.2.1
  have h1 := XQ.t.mb h (by decide)
  replace H := H _ XQ.t
  refine bX11_level_0 (M_isPond h1.2.1 V (fun p hp ex e => bX11_level_10 ⟨fun z => absurd z (by decide), fun _ => ?_⟩) (fun e => bX11_level_10 ⟨fun _ => ?_, fun z => absurd rfl z⟩))
  · rw [gLevel, e] at H
    simp only at H
    refine M_isPart (fun g _ => bX11_level_17 ⟨fun z => absurd z (by decide), fun _ => ?_⟩) (fun g => bX11_level_17 ⟨fun _ => by rw [if_neg (by rw [g]; decide)] at H; exact H, fun z => absurd rfl z⟩)
    rw [if_pos g] at H
    subst ex
    have n := V.np
    have v := V.pond hp
    have sb := hs.bd V hp
    refine M_fullOf (k := 0) h1 hp (bX11_level_26 ⟨vin hp (by omega) (by decide), ?_⟩)
    rw [hs.full hp, cl hp (by omega), h1.2.1.area hp]
    exact M_part (by omega) (by omega) (by omega) (bX11_level_36 H)
  · rw [gLevel, e] at H; exact H
/-- the water for a height -/
theorem S_waterFor (h : WK σ b c s) {p y : Nat} (hp : p < c 0 0) (hy : y ≤ 999) (H : Q (some (iV (nI ((y - c 3 p) * c 2 p)))) σ) : R mj_OC (d + 1) mX0_waterFor Q 0 [some (rV 3 b), some (iV (nI p)), some (iV (nI y))] [] σ := by
  have V := h.V
  have n := V.np
  have v := V.pond hp
  refine bX0_waterFor_0 h.lt ⟨vin hp (by omega) (by decide), ?_⟩
  rw [cl hp (by omega), h.C.area hp, h.C.floor hp]
  have hA := hA_b V hp hy
  have e1 : (nI y - nI (c 3 p)) * nI (c 2 p) = nI (y * c 2 p) - nI (c 3 p * c 2 p) := by
    rw [← pk_mul, ← pk_mul, Int32.sub_mul]
  have hf : c 3 p * c 2 p ≤ 99 * 20 := Nat.mul_le_mul v.2.2.1 v.2.1
  rw [e1, mx_sub (by omega) (by omega), ← Nat.sub_mul]
  exact H
theorem sp_eq (p y : Nat) : y * c 2 p - gU c s p = (y - c 3 p) * c 2 p - gW s p := by
  unfold gU; rw [Nat.sub_mul]; omega
theorem S_needs (h : WK σ b c s) (hs : SI c s) {x y : Int32} (H : Q (some (iV (gNeeds c s x y))) σ) : R mj_OC (d + 1 + 1) mX10_needs Q 0 [some (rV 0 0), some (iV x), some (iV y)] [] σ := by
  have V := h.V
  refine bX10_needs_0 (S_isPond h (fun p hp ex e => bX10_needs_5 ⟨fun z => absurd z (by decide), fun _ => ?_⟩) (fun e => bX10_needs_5 ⟨fun _ => ?_, fun z => absurd rfl z⟩))
  · rw [gNeeds, e] at H
    simp only at H
    refine S_isHeight (fun m hm ey g => bX10_needs_12 ⟨fun _ => ?_, fun z => absurd z (by decide)⟩) (fun g => bX10_needs_12 ⟨fun z => absurd rfl z, fun _ => by rw [if_neg (by rw [g]; decide)] at H; exact H⟩)
    rw [if_pos g] at H
    subst ex ey
    have n := V.np
    have sb := hs.bd V hp
    have hA := hA_b V hp hm
    have l1 : (m - c 3 p) * c 2 p ≤ m * c 2 p := Nat.mul_le_mul_right _ (Nat.sub_le _ _)
    rw [nI_clamp (by omega), sp_eq] at H
    refine ⟨by rw [h.1]; exact h.lt, ?_⟩
    rw [h.1]
    refine S_waterFor h hp hm (bX10_needs_27 ⟨vin hp (by omega) (by decide), ?_⟩)
    rw [cl hp (by omega), h.2.wr hp, (hs p hp).1, mx_sub (by omega) (by omega)]
    exact H
  · rw [gNeeds, e] at H; exact H
theorem M_overOf (h : MB σ 0 c s) {p : Nat} (hp : p < c 0 0) {y : Nat} (hs : SI c s) (H : Q (some (iV (nI (gU c s p) - nI (y * c 2 p)))) σ) : R mj_OM (d + 1) mX11_overOf Q 0 [some (rV 45 0), some (iV (nI p)), some (iV (nI y))] [] σ := by
  have n := h.2.2.1.np
  refine bX11_overOf_0 (M_fullOf (k := 0) h hp (bX11_overOf_6 ⟨vin hp (by omega) (by decide), ?_⟩))
  rw [cl hp (by omega), h.2.1.area hp, hs.full hp, pk_mul]
  exact H
theorem M_needs (h : MB σ 0 c s) (hs : SI c s) {x y : Int32} (H : ∀ τ, XQ σ τ → Q (some (iV (gNeeds c s x y))) τ) : R mj_OM (d + 1 + 1) mX11_needs Q 0 [some (rV 45 0), some (iV x), some (iV y)] [] σ := by
  have V := h.2.2.1
  have h1 := XQ.t.mb h (by decide)
  replace H := H _ XQ.t
  refine bX11_needs_0 (M_isPond h1.2.1 V (fun p hp ex e => bX11_needs_10 ⟨fun z => absurd z (by decide), fun _ => ?_⟩) (fun e => bX11_needs_10 ⟨fun _ => ?_, fun z => absurd rfl z⟩))
  · rw [gNeeds, e] at H
    simp only at H
    refine M_isHeight (fun m hm ey g => bX11_needs_17 ⟨fun z => absurd z (by decide), fun _ => ?_⟩) (fun g => bX11_needs_17 ⟨fun _ => by rw [if_neg (by rw [g]; decide)] at H; exact H, fun z => absurd rfl z⟩)
    rw [if_pos g] at H
    subst ex ey
    have sb := hs.bd V hp
    have hA := hA_b V hp hm
    rw [nI_clamp (by omega)] at H
    refine M_overOf h1 hp hs (bX11_needs_27 ?_)
    rw [Int32.neg_sub, mx_sub (by omega) (by omega)]
    exact H
  · rw [gNeeds, e] at H; exact H
theorem S_spare (h : WK σ b c s) (hs : SI c s) {x y : Int32} (H : Q (some (iV (gSpare c s x y))) σ) : R mj_OC (d + 1 + 1) mX10_spare Q 0 [some (rV 0 0), some (iV x), some (iV y)] [] σ := by
  have V := h.V
  refine bX10_spare_0 (S_isPond h (fun p hp ex e => bX10_spare_5 ⟨fun z => absurd z (by decide), fun _ => ?_⟩) (fun e => bX10_spare_5 ⟨fun _ => ?_, fun z => absurd rfl z⟩))
  · rw [gSpare, e] at H
    simp only at H
    refine S_isHeight (fun m hm ey g => bX10_spare_12 ⟨fun _ => ?_, fun z => absurd z (by decide)⟩) (fun g => bX10_spare_12 ⟨fun z => absurd rfl z, fun _ => by rw [if_neg (by rw [g]; decide)] at H; exact H⟩)
    rw [if_pos g] at H
    subst ex ey
    have n := V.np
    have sb := hs.bd V hp
    have hA := hA_b V hp hm
    have l1 : (m - c 3 p) * c 2 p ≤ m * c 2 p := Nat.mul_le_mul_right _ (Nat.sub_le _ _)
    rw [nI_clamp (by omega)] at H
    refine ⟨vin hp (by omega) (by decide), by rw [h.1]; exact h.lt, ?_⟩
    rw [h.1]
    refine S_waterFor h hp hm (bX10_spare_36 ?_)
    rw [cl hp (by omega), h.2.wr hp, (hs p hp).1, mx_sub (by omega) (by omega)]
    exact H
  · rw [gSpare, e] at H; exact H
theorem sp_eq2 {p y : Nat} (V : CV c) (hs : SI c s) (hp : p < c 0 0) (hy : y ≤ 999) : (if 0 < (if nI (gU c s p) - nI (y * c 2 p) < nI (gW s p) then nI (gU c s p) - nI (y * c 2 p) else nI (gW s p)) then (if nI (gU c s p) - nI (y * c 2 p) < nI (gW s p) then nI (gU c s p) - nI (y * c 2 p) else nI (gW s p)) else 0) = nI (gSp c s p y) := by
  have sb := hs.bd V hp
  have hA := hA_b V hp hy
  have e : gSp c s p y = gW s p - (y * c 2 p - c 3 p * c 2 p) := by unfold gSp; rw [Nat.sub_mul]
  have u : gU c s p = c 3 p * c 2 p + gW s p := rfl
  rcases Nat.lt_or_ge (gU c s p) (y * c 2 p) with g | g
  · have z := pk_sneg (a := gU c s p) (b := y * c 2 p) (by omega) g
    have z2 : nI (gU c s p) - nI (y * c 2 p) < nI (gW s p) := Int32.lt_of_lt_of_le z (nI_pos' (by omega))
    rw [if_pos z2, if_neg (fun q => Int32.lt_irrefl (Int32.lt_trans q z)), e, show gW s p - (y * c 2 p - c 3 p * c 2 p) = 0 by omega]; rfl
  · rw [pk_sub g]
    by_cases q : gU c s p - y * c 2 p < gW s p
    · rw [if_pos ((nI_ltI (by omega) (by omega)).mpr q)]
      rw [e, show gW s p - (y * c 2 p - c 3 p * c 2 p) = gU c s p - y * c 2 p by omega]
      by_cases z : gU c s p - y * c 2 p = 0
      · rw [z]; rfl
      · rw [if_pos]; rw [show (0 : Int32) = nI 0 from rfl, nI_ltI (by omega) (by omega)]; omega
    · rw [if_neg (fun z => q ((nI_ltI (by omega) (by omega)).mp z))]
      rw [e, show gW s p - (y * c 2 p - c 3 p * c 2 p) = gW s p by omega]
      by_cases z : gW s p = 0
      · rw [z]; rfl
      · rw [if_pos]; rw [show (0 : Int32) = nI 0 from rfl, nI_ltI (by omega) (by omega)]; omega
theorem M_spareOf (h : MB σ 0 c s) (hs : SI c s) {p y : Nat} (hp : p < c 0 0) (hy : y ≤ 999) (H : Q (some (iV (nI (gSp c s p y)))) σ) : R mj_OM (d + 1 + 1) mX11_spareOf Q 0 [some (rV 45 0), some (iV (nI p)), some (iV (nI y))] [] σ := by
  have n := h.2.2.1.np
  refine bX11_spareOf_0 ⟨vin hp (by omega) (by decide), M_overOf h hp hs (bX11_spareOf_13 ?_)⟩
  have e := h.w hp
  rw [Nat.mul_zero, Nat.zero_add] at e
  rw [cl hp (by omega), e, (hs p hp).1, sp_eq2 h.2.2.1 hs hp hy]
  exact H
theorem M_spare (h : MB σ 0 c s) (hs : SI c s) {x y : Int32} (H : ∀ τ, XQ σ τ → Q (some (iV (gSpare c s x y))) τ) : R mj_OM (d + 1 + 1 + 1) mX11_spare Q 0 [some (rV 45 0), some (iV x), some (iV y)] [] σ := by
  have V := h.2.2.1
  have h1 := XQ.t.mb h (by decide)
  replace H := H _ XQ.t
  refine bX11_spare_0 (M_isPond h1.2.1 V (fun p hp ex e => bX11_spare_10 ⟨fun z => absurd z (by decide), fun _ => ?_⟩) (fun e => bX11_spare_10 ⟨fun _ => ?_, fun z => absurd rfl z⟩))
  · rw [gSpare, e] at H
    simp only at H
    refine M_isHeight (fun m hm ey g => bX11_spare_17 ⟨fun z => absurd z (by decide), fun _ => ?_⟩) (fun g => bX11_spare_17 ⟨fun _ => by rw [if_neg (by rw [g]; decide)] at H; exact H, fun z => absurd rfl z⟩)
    rw [if_pos g] at H
    subst ex ey
    rw [nI_clamp (by omega)] at H
    exact M_spareOf h1 hs hp hm (bX11_spare_26 H)
  · rw [gSpare, e] at H; exact H
end Qr
