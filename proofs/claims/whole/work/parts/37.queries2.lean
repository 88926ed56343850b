/-! questions about locks, games, differences, the highest, rests -/
def gApart (c : CA) (s : SA) (x y w : Int32) : Int32 := match gIx x (c 0 0) with
  | none => -1
  | some p => match gIx y (c 0 0) with
    | none => -1
    | some q => if gHalf w = true then nI (gPart ((gU c s p * c 2 q - gU c s q * c 2 p) + (gU c s q * c 2 p - gU c s p * c 2 q)) (c 2 p * c 2 q) w) else -1
def gHg (c : CA) (s : SA) (w : Int32) : Nat → Nat → Nat → Nat
  | 0, _, f => f
  | n + 1, i, f => gHg c s w n (i + 1) (if w = 0 then (if 0 < gHi c s i f then i else f) else if gHi c s i f < 0 then i else f)
def gHighest (c : CA) (s : SA) (w : Int32) : Int32 := if gHalf w = true then (if c 0 0 = 0 then -2 else nI (gHg c s w (c 0 0 - 1) 1 0)) else -1
def gHas (own others : Int32) (x y : Nat) : Int32 := if x = 0 then (if y = 0 then others / 10 else 1) else if y = 0 then own / 10 + 2 else own / 20
def gIsRest (s : SA) (p q i : Nat) : Bool := decide (gHas (s 4 p) (s 4 q) (1 - i / 2) (i % 2) ≤ gHas (s 4 p) (s 4 q) (i / 2) (i % 2) ∧ gHas (s 4 q) (s 4 p) (1 - i % 2) (i / 2) ≤ gHas (s 4 q) (s 4 p) (i % 2) (i / 2))
def gRs (P : Nat → Bool) (k : Int32) : Nat → Nat → Nat → Int32
  | 0, _, _ => -2
  | n + 1, i, f => if P i = true then (if nI f = k then nI (10 * (i / 2) + i % 2) else gRs P k n (i + 1) (f + 1)) else gRs P k n (i + 1) f
def gRests (c : CA) (s : SA) (x y : Int32) : Int32 := match gIx x (c 0 0) with
  | none => -1
  | some p => match gIx y (c 0 0) with
    | none => -1
    | some q => if x = y then -1 else nI (gCnt (gIsRest s p q) 4)
def gRest (c : CA) (s : SA) (x y k : Int32) : Int32 := match gIx x (c 0 0) with
  | none => -1
  | some p => match gIx y (c 0 0) with
    | none => -1
    | some q => if x = y then -1 else if 0 ≤ k then gRs (gIsRest s p q) k 4 0 0 else -1
theorem ab_sub {x y : Nat} (hx : x < 2 ^ 30) (hy : y < 2 ^ 30) : (if 0 ≤ nI x - nI y then nI x - nI y else 0 - (nI x - nI y)) = nI ((x - y) + (y - x)) := by
  rcases Nat.lt_or_ge x y with g | g
  · have := pk_sneg hy g
    rw [if_neg (fun z => Int32.lt_irrefl (Int32.lt_of_lt_of_le this z)), Int32.zero_sub, Int32.neg_sub, pk_sub (Nat.le_of_lt g), Nat.sub_eq_zero_of_le (Nat.le_of_lt g), Nat.zero_add]
  · rw [pk_sub g, if_pos (nI_pos' (by omega)), Nat.sub_eq_zero_of_le g, Nat.add_zero]
section Qs
variable {d : Nat} {Q : Option MV → MS → Prop} {σ : MS} {b k : Nat} {c : CA} {s : SA} {md : MD}
theorem SI.hi (hs : SI c s) {p q : Nat} (hp : p < c 0 0) (hq : q < c 0 0) : gHi c s p q = nI (gU c s p * c 2 q) - nI (gU c s q * c 2 p) := by
  unfold gHi; rw [hs.full hp, hs.full hq, pk_mul, pk_mul]
theorem SI.hb (hs : SI c s) (V : CV c) {p q : Nat} (hp : p < c 0 0) (hq : q < c 0 0) : gU c s p * c 2 q ≤ 4039200 := by
  have := Nat.mul_le_mul (hs.bd V hp).1 (V.pond hq).2.1
  omega
theorem S_liftOf (h : CR σ b c) (V : CV c) (hb : b < 2) {l : Nat} (hl : l < c 0 1) (H : Q (some (iV (nI (gLift c l)))) σ) : R mj_OC (d + 1) mX0_liftOf Q 0 [some (rV 3 b), some (iV (nI l))] [] σ := by
  have n := V.np
  have nl := V.nl
  have v := V.lock hl
  refine bX0_liftOf_0 hb ⟨vin hl (by omega) (by decide), ?_, ?_⟩
  · rw [cl hl (by omega), h.lpond hl]; exact vin v.1 (by omega) (by decide)
  · rw [cl hl (by omega), h.lpond hl, h.high hl, h.low hl, cl v.1 (by omega), h.area v.1, mx_sub (by omega) (by omega), pk_mul]
    exact H
theorem M_liftOf (h : MC σ c) (V : CV c) {l : Nat} (hl : l < c 0 1) (H : Q (some (iV (nI (gLift c l)))) σ) : R mj_OM (d + 1) mX11_liftOf Q 0 [some (rV 45 0), some (iV (nI l))] [] σ := by
  have n := V.np
  have nl := V.nl
  have v := V.lock hl
  refine bX11_liftOf_0 ⟨vin hl (by omega) (by decide), ?_, ?_⟩
  · rw [cl hl (by omega), h.lpond hl]; exact vin v.1 (by omega) (by decide)
  · rw [cl hl (by omega), h.lpond hl, h.high hl, h.low hl, cl v.1 (by omega), h.area v.1, mx_sub (by omega) (by omega), pk_mul]
    exact H
theorem gLift_b (V : CV c) {l : Nat} (hl : l < c 0 1) : gLift c l ≤ 3980 := by
  have v := V.lock hl
  have := Nat.mul_le_mul (V.pond v.1).2.1 (show c 8 l - c 7 l ≤ 199 by omega)
  unfold gLift; omega
theorem S_lift (h : WK σ b c s) {x : Int32} (H : Q (some (iV (gLiftQ c x))) σ) : R mj_OC (d + 1 + 1) mX10_lift Q 0 [some (rV 0 0), some (iV x)] [] σ := by
  refine bX10_lift_0 (S_isLock h (fun l hl ex e => bX10_lift_5 ⟨fun z => absurd z (by decide), fun _ => ⟨by rw [h.1]; exact h.lt, ?_⟩⟩) (fun e => bX10_lift_5 ⟨fun _ => ?_, fun z => absurd rfl z⟩))
  · rw [gLiftQ, e] at H
    subst ex
    rw [h.1]
    exact S_liftOf h.C h.V h.lt hl (bX10_lift_16 H)
  · rw [gLiftQ, e] at H; exact H
theorem M_lift (h : MB σ 0 c s) {x : Int32} (H : ∀ τ, XQ σ τ → Q (some (iV (gLiftQ c x))) τ) : R mj_OM (d + 1 + 1) mX11_lift Q 0 [some (rV 45 0), some (iV x)] [] σ := by
  have V := h.2.2.1
  have h1 := XQ.t.mb h (by decide)
  replace H := H _ XQ.t
  refine bX11_lift_0 (M_isLock h1.2.1 V (fun l hl ex e => bX11_lift_10 ⟨fun z => absurd z (by decide), fun _ => ?_⟩) (fun e => bX11_lift_10 ⟨fun _ => ?_, fun z => absurd rfl z⟩))
  · rw [gLiftQ, e] at H
    subst ex
    exact M_liftOf h1.2.1 V hl (bX11_lift_18 H)
  · rw [gLiftQ, e] at H; exact H
theorem S_lockfuls (h : WK σ b c s) (hs : SI c s) {x y : Int32} (H : Q (some (iV (gLockfuls c s x y))) σ) : R mj_OC (d + 1 + 1) mX10_lockfuls Q 0 [some (rV 0 0), some (iV x), some (iV y), none] [] σ := by
  have V := h.V
  have n := V.np
  refine bX10_lockfuls_0 (S_isPond h (fun p hp ex e => bX10_lockfuls_5 ⟨fun z => absurd z (by decide), fun _ => ?_⟩) (fun e => bX10_lockfuls_5 ⟨fun _ => ?_, fun z => absurd rfl z⟩))
  · rw [gLockfuls, e] at H
    simp only at H
    refine S_isLock h (fun l hl ey f => bX10_lockfuls_13 ⟨fun _ => ⟨by rw [h.1]; exact h.lt, ?_⟩, fun z => absurd z (by decide)⟩) (fun f => bX10_lockfuls_13 ⟨fun z => absurd rfl z, fun _ => by rw [f] at H; exact H⟩)
    rw [f] at H
    simp only at H
    subst ex ey
    rw [h.1]
    have bl := gLift_b V hl
    refine S_liftOf h.C V h.lt hl (bX10_lockfuls_26 ⟨fun z => ?_, fun z => ⟨vin hp (by omega) (by decide), ?_, ?_⟩⟩)
    · rw [show (0 : Int32) = nI 0 from rfl, nI_leI (by omega) (by omega)] at z
      rw [if_pos (by omega)] at H; exact H
    · rw [show (0 : Int32) = nI 0 from rfl, nI_leI (by omega) (by omega)] at z
      exact nI_ne0 (by omega) (by omega)
    · rw [show (0 : Int32) = nI 0 from rfl, nI_leI (by omega) (by omega)] at z
      have sb := hs.bd V hp
      rw [if_neg (by omega)] at H
      rw [cl hp (by omega), h.2.wr hp, (hs p hp).1, pk_div (by omega) (by omega) (by omega)]
      exact H
  · rw [gLockfuls, e] at H; exact H
theorem M_lockfuls (h : MB σ 0 c s) (hs : SI c s) {x y : Int32} (H : ∀ τ, XQ σ τ → Q (some (iV (gLockfuls c s x y))) τ) : R mj_OM (d + 1 + 1) mX11_lockfuls Q 0 [some (rV 45 0), some (iV x), some (iV y), none] [] σ := by
  have V := h.2.2.1
  have n := V.np
  have h1 := XQ.t.mb h (by decide)
  replace H := H _ XQ.t
  refine bX11_lockfuls_0 (M_isPond h1.2.1 V (fun p hp ex e => bX11_lockfuls_10 ⟨fun z => absurd z (by decide), fun _ => ?_⟩) (fun e => bX11_lockfuls_10 ⟨fun _ => ?_, fun z => absurd rfl z⟩))
  · rw [gLockfuls, e] at H
    simp only at H
    refine M_isLock h1.2.1 V (fun l hl ey f => bX11_lockfuls_18 ⟨fun _ => ?_, fun z => absurd z (by decide)⟩) (fun f => bX11_lockfuls_18 ⟨fun z => absurd rfl z, fun _ => by rw [f] at H; exact H⟩)
    rw [f] at H
    simp only at H
    subst ex ey
    have bl := gLift_b V hl
    refine M_liftOf h1.2.1 V hl (bX11_lockfuls_28 ⟨fun z => ⟨vin hp (by omega) (by decide), z, ?_⟩, fun z => ?_⟩)
    · have nz : ¬ gLift c l = 0 := fun q => z (by rw [q]; rfl)
      have sb := hs.bd V hp
      have e4 := h1.w hp
      rw [Nat.mul_zero, Nat.zero_add] at e4
      rw [if_neg nz] at H
      rw [cl hp (by omega), e4, (hs p hp).1, pk_div (by omega) (by omega) (by omega)]
      exact H
    · have nz : gLift c l = 0 := by
        rw [show (0 : Int32) = nI 0 from rfl, nI_eq (by omega) (by omega)] at z; exact z
      rw [if_pos nz] at H; exact H
  · rw [gLockfuls, e] at H; exact H
theorem S_game (h : WK σ b c s) (hs : SI c s) {x y w : Int32} (H : Q (some (iV (gGame c s x y w))) σ) : R mj_OC (d + 1 + 1) mX10_game Q 0 [some (rV 0 0), some (iV x), some (iV y), some (iV w), none, none] [] σ := by
  have V := h.V
  have n := V.np
  refine bX10_game_0 (S_isPond h (fun p hp ex e => bX10_game_5 ⟨fun z => absurd z (by decide), fun _ => ?_⟩) (fun e => bX10_game_5 ⟨fun _ => ?_, fun z => absurd rfl z⟩))
  · rw [gGame, e] at H
    simp only at H
    refine S_isHeight (fun m hm ey g => bX10_game_12 ⟨fun z => absurd z (by decide), fun _ => ?_⟩) (fun g => bX10_game_12 ⟨fun _ => by rw [if_neg (by rw [g]; decide)] at H; exact H, fun z => absurd rfl z⟩)
    rw [if_pos g] at H
    refine S_isHalf (fun g2 _ => bX10_game_19 ⟨fun _ => ⟨?_, by rw [h.1]; exact h.lt, ?_⟩, fun z => absurd z (by decide)⟩) (fun g2 => bX10_game_19 ⟨fun z => absurd rfl z, fun _ => by rw [if_neg (by rw [g2]; decide)] at H; exact H⟩)
    · rw [ex]; exact vin hp (by omega) (by decide)
    rw [if_pos g2] at H
    subst ex ey
    have sb := hs.bd V hp
    have hA := hA_b V hp hm
    have l1 : (m - c 3 p) * c 2 p ≤ m * c 2 p := Nat.mul_le_mul_right _ (Nat.sub_le _ _)
    have u : gU c s p = c 3 p * c 2 p + gW s p := rfl
    have e1 : (m - c 3 p) * c 2 p = m * c 2 p - c 3 p * c 2 p := Nat.sub_mul _ _ _
    rw [nI_clamp (by omega)] at H
    rw [h.1, cl hp (by omega), h.2.wr hp, (hs p hp).1]
    refine S_waterFor h hp hm (bX10_game_42 ⟨fun z => ?_, fun z => ?_⟩)
    · have lt : (m - c 3 p) * c 2 p ≤ gW s p := by
        rcases Nat.lt_or_ge (gW s p) ((m - c 3 p) * c 2 p) with q | q
        · exact absurd (Int32.lt_of_lt_of_le (pk_sneg (by omega) q) z) Int32.lt_irrefl
        · exact q
      rw [if_neg (show ¬ gU c s p < m * c 2 p by omega)] at H
      have e2 : gW s p - (m - c 3 p) * c 2 p = gSp c s p m := rfl
      have e3 : nI (gW s p) - nI ((m - c 3 p) * c 2 p) - (nI (gW s p) - nI ((m - c 3 p) * c 2 p)) / (4 : Int32) * (4 : Int32) = nI (gSp c s p m % 4) := by
        rw [pk_sub lt, show (4 : Int32) = nI 4 from rfl, pk_rem (by omega) (by omega) (by omega)]; rfl
      have l4 : gSp c s p m % 4 < 4 := Nat.mod_lt _ (by omega)
      have e5 : nI (gSp c s p m % 4) ≤ 0 ↔ gSp c s p m % 4 = 0 := by
        rw [show (0 : Int32) = nI 0 from rfl, nI_leI (by omega) (by omega)]; omega
      rw [e3, e5]
      refine ⟨fun w0 => ⟨fun z => ?_, fun z => ?_⟩, fun w0 => ⟨fun z => ?_, fun z => ?_⟩⟩
      · rw [if_neg w0, if_pos z] at H; exact H
      · rw [if_neg w0, if_neg z] at H; exact H
      · rw [if_pos w0, if_pos z] at H; exact H
      · rw [if_pos w0, if_neg z] at H; exact H
    · have lt : gW s p < (m - c 3 p) * c 2 p := by
        rcases Nat.lt_or_ge (gW s p) ((m - c 3 p) * c 2 p) with q | q
        · exact q
        · exact absurd (by rw [pk_sub q]; exact nI_pos' (by omega)) z
      rw [if_pos (show gU c s p < m * c 2 p by omega)] at H
      exact ⟨fun w0 => by rw [if_neg w0] at H; exact H, fun w0 => by rw [if_pos w0] at H; exact H⟩
  · rw [gGame, e] at H; exact H
theorem M_game (h : MB σ 0 c s) (hs : SI c s) {x y w : Int32} (H : ∀ τ, XQ σ τ → Q (some (iV (gGame c s x y w))) τ) : R mj_OM (d + 1 + 1 + 1) mX11_game Q 0 [some (rV 45 0), some (iV x), some (iV y), some (iV w), none] [] σ := by
  have V := h.2.2.1
  have n := V.np
  have h1 := XQ.t.mb h (by decide)
  replace H := H _ XQ.t
  refine bX11_game_0 (M_isPond h1.2.1 V (fun p hp ex e => bX11_game_10 ⟨fun z => absurd z (by decide), fun _ => ?_⟩) (fun e => bX11_game_10 ⟨fun _ => ?_, fun z => absurd rfl z⟩))
  · rw [gGame, e] at H
    simp only at H
    refine M_isHeight (fun m hm ey g => bX11_game_17 ⟨fun z => absurd z (by decide), fun _ => ?_⟩) (fun g => bX11_game_17 ⟨fun _ => by rw [if_neg (by rw [g]; decide)] at H; exact H, fun z => absurd rfl z⟩)
    rw [if_pos g] at H
    refine M_isPart (fun g2 _ => bX11_game_24 ⟨fun _ => ?_, fun z => absurd z (by decide)⟩) (fun g2 => bX11_game_24 ⟨fun z => absurd rfl z, fun _ => by rw [if_neg (by rw [g2]; decide)] at H; exact H⟩)
    rw [if_pos g2] at H
    subst ex ey
    have sb := hs.bd V hp
    have hA := hA_b V hp hm
    rw [nI_clamp (by omega)] at H
    have eh : (nI m * nI (c 2 p) ≤ gFull c s p) ↔ ¬ gU c s p < m * c 2 p := by
      rw [pk_mul, hs.full hp, nI_leI (by omega) (by omega)]; omega
    refine M_isHigh (k := 0) h1 hp (fun z => bX11_game_36 ⟨fun _ => ?_, fun z2 => absurd z2 (by decide)⟩) (fun z => bX11_game_36 ⟨fun z2 => absurd rfl z2, fun _ => ?_⟩)
    · rw [eh] at z
      rw [if_neg z] at H
      refine M_spareOf h1 hs hp hm (bX11_game_56 ?_)
      have l3 : gSp c s p m ≤ gW s p := Nat.sub_le _ _
      have e3 : nI (gSp c s p m) - nI (gSp c s p m) / (4 : Int32) * (4 : Int32) = nI (gSp c s p m % 4) := by
        rw [show (4 : Int32) = nI 4 from rfl, pk_rem (by omega) (by omega) (by omega)]
      have l4 : gSp c s p m % 4 < 4 := Nat.mod_lt _ (by omega)
      have e5 : nI (gSp c s p m % 4) = 0 ↔ gSp c s p m % 4 = 0 := by
        rw [show (0 : Int32) = nI 0 from rfl, nI_eq (by omega) (by omega)]
      rw [e3, e5]
      refine ⟨fun w0 => ⟨fun z => ?_, fun z => ?_⟩, fun w0 => ⟨fun z => ?_, fun z => ?_⟩⟩
      · rw [if_neg w0, if_neg z] at H; exact H
      · rw [if_neg w0, if_pos z] at H; exact H
      · rw [if_pos w0, if_neg z] at H; exact H
      · rw [if_pos w0, if_pos z] at H; exact H
    · rw [eh, Classical.not_not] at z
      rw [if_pos z] at H
      exact ⟨fun w0 => by rw [if_neg w0] at H; exact H, fun w0 => by rw [if_pos w0] at H; exact H⟩
  · rw [gGame, e] at H; exact H
theorem S_apart (h : WK σ b c s) (hs : SI c s) {x y w : Int32} (H : Q (some (iV (gApart c s x y w))) σ) : R mj_OC (d + 1 + 1) mX10_apart Q 0 [some (rV 0 0), some (iV x), some (iV y), some (iV w)] [] σ := by
  have V := h.V
  have n := V.np
  refine bX10_apart_0 (S_isPond h (fun p hp ex e => bX10_apart_5 ⟨fun z => absurd z (by decide), fun _ => ?_⟩) (fun e => bX10_apart_5 ⟨fun _ => ?_, fun z => absurd rfl z⟩))
  · rw [gApart, e] at H
    simp only at H
    refine S_isPond h (fun q hq ey f => bX10_apart_13 ⟨fun z => absurd z (by decide), fun _ => ?_⟩) (fun f => bX10_apart_13 ⟨fun _ => by rw [f] at H; exact H, fun z => absurd rfl z⟩)
    rw [f] at H
    simp only at H
    refine S_isHalf (fun g _ => bX10_apart_20 ⟨fun _ => ?_, fun z => absurd z (by decide)⟩) (fun g => bX10_apart_20 ⟨fun z => absurd rfl z, fun _ => by rw [if_neg (by rw [g]; decide)] at H; exact H⟩)
    rw [if_pos g] at H
    subst ex ey
    have b1 := hs.hb V hp hq
    have b2 := hs.hb V hq hp
    have v1 := V.pond hp
    have v2 := V.pond hq
    have aa : c 2 p * c 2 q ≤ 20 * 20 := Nat.mul_le_mul v1.2.1 v2.2.1
    have a0 : 0 < c 2 p * c 2 q := Nat.mul_pos (by omega) (by omega)
    refine S_higherBy h.2 hp hq (bX10_apart_34 ⟨by rw [h.1]; exact h.lt, vin hp (by omega) (by decide), vin hq (by omega) (by decide), ?_⟩)
    rw [hs.hi hp hq, ab_sub (by omega) (by omega), h.1, cl hp (by omega), cl hq (by omega), h.C.area hp, h.C.area hq, pk_mul, nI_l (by omega), nI_l (by omega)]
    refine S_inLeastTerms (by omega) (by omega) a0 (bX10_apart_62 ?_)
    rw [lN_i]; exact H
  · rw [gApart, e] at H; exact H
theorem M_apart (h : MB σ 0 c s) (hs : SI c s) {x y w : Int32} (H : ∀ τ, XQ σ τ → Q (some (iV (gApart c s x y w))) τ) : R mj_OM (d + 1 + 1) mX11_apart Q 0 [some (rV 45 0), some (iV x), some (iV y), some (iV w)] [] σ := by
  have V := h.2.2.1
  have n := V.np
  have h1 := XQ.t.mb h (by decide)
  replace H := H _ XQ.t
  refine bX11_apart_0 (M_isPond h1.2.1 V (fun p hp ex e => bX11_apart_10 ⟨fun z => absurd z (by decide), fun _ => ?_⟩) (fun e => bX11_apart_10 ⟨fun _ => ?_, fun z => absurd rfl z⟩))
  · rw [gApart, e] at H
    simp only at H
    refine M_isPond h1.2.1 V (fun q hq ey f => bX11_apart_18 ⟨fun z => absurd z (by decide), fun _ => ?_⟩) (fun f => bX11_apart_18 ⟨fun _ => by rw [f] at H; exact H, fun z => absurd rfl z⟩)
    rw [f] at H
    simp only at H
    refine M_isPart (fun g _ => bX11_apart_25 ⟨fun _ => ?_, fun z => absurd z (by decide)⟩) (fun g => bX11_apart_25 ⟨fun z => absurd rfl z, fun _ => by rw [if_neg (by rw [g]; decide)] at H; exact H⟩)
    rw [if_pos g] at H
    subst ex ey
    have b1 := hs.hb V hp hq
    have b2 := hs.hb V hq hp
    have v1 := V.pond hp
    have v2 := V.pond hq
    have aa : c 2 p * c 2 q ≤ 20 * 20 := Nat.mul_le_mul v1.2.1 v2.2.1
    have a0 : 0 < c 2 p * c 2 q := Nat.mul_pos (by omega) (by omega)
    refine M_higherBy (k := 0) h1 hp hq (bX11_apart_37 ⟨vin hp (by omega) (by decide), vin hq (by omega) (by decide), ?_⟩)
    rw [hs.hi hp hq, ab_sub (by omega) (by omega), cl hp (by omega), cl hq (by omega), h1.2.1.area hp, h1.2.1.area hq, pk_mul]
    exact M_part (by omega) (by omega) a0 (bX11_apart_57 H)
  · rw [gApart, e] at H; exact H
end Qs
